set_option maxRecDepth 20000 in
theorem bX10_look_28 {E : zE} (hE : isR E) {d : Nat} {x1 x2 x3 s0 : Int} {h : zH} {K : Int → zH → Prop} (hyp :
  ∀ h_1 : zH, h_1 = hset h 0 0 s0 →
  (((h_1 0 0) = 0 →
    zCI E mX10_knownNotes d [zR 0] h_1 (fun r_3 h_3 =>
      zCV E mX10_stones d [zR 0, zI r_3] h_3 (fun h_4 =>
        ∀ x_5 : Int, x_5 = w32 ((w32 (10 * x1)) + x2) →
        ((x3 = 0) →
            ((0 : Int) ≤ x_5 ∧ x_5 < (80 : Int)) ∧
            K (h_4 27 x_5.toNat) h_4) ∧
        ((x3 = 1) →
            ((0 : Int) ≤ x_5 ∧ x_5 < (80 : Int)) ∧
            K (h_4 28 x_5.toNat) h_4) ∧
        ((x3 = 2) →
            ((0 : Int) ≤ x_5 ∧ x_5 < (160 : Int)) ∧
            K (h_4 8 x_5.toNat) h_4) ∧
        ((x3 = 3) →
            ((0 : Int) ≤ x_5 ∧ x_5 < (160 : Int)) ∧
            K (h_4 9 x_5.toNat) h_4) ∧
        ((x3 = 4) →
            ((0 : Int) ≤ x_5 ∧ x_5 < (160 : Int)) ∧
            (((h_4 10 x_5.toNat) = 0 →
              K 0 h_4) ∧
            (¬ ((h_4 10 x_5.toNat) = 0) →
              K 1 h_4))) ∧
        ((x3 ≠ 0 ∧ x3 ≠ 1 ∧ x3 ≠ 2 ∧ x3 ≠ 3 ∧ x3 ≠ 4) →
          ((0 : Int) ≤ x_5 ∧ x_5 < (80 : Int)) ∧
          (((h_4 29 x_5.toNat) = 0 →
            K 0 h_4) ∧
          (¬ ((h_4 29 x_5.toNat) = 0) →
            K 1 h_4)))))) ∧
  (¬ ((h_1 0 0) = 0) →
    K 0 h_1))) :
  zG E mX10_look (d + 1) 28 [zR 0, zI x1, zI x2, zI x3, zU] [zI s0, zR 0] h (qI K) := by
  refine pf_X10_153 dX10_look_28 rfl (sR_0 hE) (cR_0 hE) ?_
  generalize eh_1 : hset h 0 0 _ = h_1
  have hyp := hyp h_1 eh_1.symm
  refine z_aload_n dX10_look_31 rfl ?_
  refine gf_X10_153 dX10_look_32 rfl (sR_0 hE) (cR_0 hE) ?_
  refine z_if_eq (tgt := 40) dX10_look_35 (by decide) (fun c_2 => ?_) (fun c_2 => ?_)
  · have hyp := hyp.1 c_2
    refine z_aload_n dX10_look_40 rfl ?_
    refine z_aload_n dX10_look_41 rfl ?_
    refine cl_X10_379 dX10_look_42 rfl (sR_0 hE) (cR_0 hE) (Nat.le_of_ble_eq_true rfl) (zC_mono ?_ hyp)
    rintro _ h_3 ⟨r_3, rfl, hyp⟩
    refine ⟨r_3, rfl, ?_⟩
    refine cl_X10_382 dX10_look_45 rfl (sR_0 hE) (cR_0 hE) (Nat.le_of_ble_eq_true rfl) (zC_mono ?_ hyp)
    rintro _ h_4 ⟨rfl, hyp⟩
    refine ⟨rfl, ?_⟩
    refine z_bipush dX10_look_48 (r32d rfl) (by decide) ?_
    refine z_iload_n dX10_look_50 rfl ?_
    refine z_imul dX10_look_51 ?_
    refine z_iload_n dX10_look_52 rfl ?_
    refine z_iadd dX10_look_53 ?_
    generalize ex_5 : w32 ((w32 (10 * x1)) + x2) = x_5
    have hyp := hyp x_5 ex_5.symm
    refine z_istore dX10_look_54 (by decide) rfl ?_
    refine z_iload_n dX10_look_56 rfl ?_
    have hgo : (x3 ≠ 0 ∧ x3 ≠ 1 ∧ x3 ≠ 2 ∧ x3 ≠ 3 ∧ x3 ≠ 4) → zG E mX10_look (d + 1) 140 [zR 0, zI x1, zI x2, zI x3, zI x_5] [] h_4 (qI K) := by
      intro hcc
      have hyp := hyp.2.2.2.2.2 hcc
      refine z_aload_n dX10_look_140 rfl ?_
      refine gf_X10_113 (c2 := 29) dX10_look_141 rfl (sR_0 hE) (cR_0 hE) rfl ?_
      refine z_iload dX10_look_144 rfl ?_
      obtain ⟨⟨hi0, hi1⟩, hyp⟩ := hyp
      refine z_baload dX10_look_146 (sR_29 hE) (cR_29 hE) hi0 hi1 ?_
      refine z_if_eq (tgt := 154) dX10_look_147 (by decide) (fun c_6 => ?_) (fun c_6 => ?_)
      · have hyp := hyp.1 c_6
        refine z_iconst dX10_look_154 (r32d rfl) ?_
        exact z_iret dX10_look_155 rfl ⟨_, rfl, hyp⟩
      · have hyp := hyp.2 c_6
        refine z_iconst dX10_look_150 (r32d rfl) ?_
        refine z_goto (tgt := 155) dX10_look_151 (by decide) ?_
        exact z_iret dX10_look_155 rfl ⟨_, rfl, hyp⟩
    by_cases cr : x3 < 0 ∨ 4 < x3
    · exact z_tsOut (tgt := 140) dX10_look_57 cr (by decide) (hgo ⟨tsne cr (by decide) (by decide), tsne cr (by decide) (by decide), tsne cr (by decide) (by decide), tsne cr (by decide) (by decide), tsne cr (by decide) (by decide)⟩)
    by_cases c_7 : x3 = 0
    · have hyp := hyp.1 c_7
      have hgo : zG E mX10_look (d + 1) 92 [zR 0, zI x1, zI x2, zI x3, zI x_5] [] h_4 (qI K) := by
        refine z_aload_n dX10_look_92 rfl ?_
        refine gf_X10_107 (c2 := 27) dX10_look_93 rfl (sR_0 hE) (cR_0 hE) rfl ?_
        refine z_iload dX10_look_96 rfl ?_
        obtain ⟨⟨hi0, hi1⟩, hyp⟩ := hyp
        refine z_iaload dX10_look_98 (sR_27 hE) (cR_27 hE) hi0 hi1 ?_
        exact z_iret dX10_look_99 rfl ⟨_, rfl, hyp⟩
      exact z_tsIn (i := 0) (tgt := 92) dX10_look_57 (c_7.trans (by decide)) (by decide) rfl (by decide) hgo
    by_cases c_8 : x3 = 1
    · have hyp := hyp.2.1 c_8
      have hgo : zG E mX10_look (d + 1) 100 [zR 0, zI x1, zI x2, zI x3, zI x_5] [] h_4 (qI K) := by
        refine z_aload_n dX10_look_100 rfl ?_
        refine gf_X10_110 (c2 := 28) dX10_look_101 rfl (sR_0 hE) (cR_0 hE) rfl ?_
        refine z_iload dX10_look_104 rfl ?_
        obtain ⟨⟨hi0, hi1⟩, hyp⟩ := hyp
        refine z_iaload dX10_look_106 (sR_28 hE) (cR_28 hE) hi0 hi1 ?_
        exact z_iret dX10_look_107 rfl ⟨_, rfl, hyp⟩
      exact z_tsIn (i := 1) (tgt := 100) dX10_look_57 (c_8.trans (by decide)) (by decide) rfl (by decide) hgo
    by_cases c_9 : x3 = 2
    · have hyp := hyp.2.2.1 c_9
      have hgo : zG E mX10_look (d + 1) 108 [zR 0, zI x1, zI x2, zI x3, zI x_5] [] h_4 (qI K) := by
        refine z_aload_n dX10_look_108 rfl ?_
        refine gf_X10_33 (c2 := 8) dX10_look_109 rfl (sR_0 hE) (cR_0 hE) rfl ?_
        refine z_iload dX10_look_112 rfl ?_
        obtain ⟨⟨hi0, hi1⟩, hyp⟩ := hyp
        refine z_iaload dX10_look_114 (sR_8 hE) (cR_8 hE) hi0 hi1 ?_
        exact z_iret dX10_look_115 rfl ⟨_, rfl, hyp⟩
      exact z_tsIn (i := 2) (tgt := 108) dX10_look_57 (c_9.trans (by decide)) (by decide) rfl (by decide) hgo
    by_cases c_10 : x3 = 3
    · have hyp := hyp.2.2.2.1 c_10
      have hgo : zG E mX10_look (d + 1) 116 [zR 0, zI x1, zI x2, zI x3, zI x_5] [] h_4 (qI K) := by
        refine z_aload_n dX10_look_116 rfl ?_
        refine gf_X10_36 (c2 := 9) dX10_look_117 rfl (sR_0 hE) (cR_0 hE) rfl ?_
        refine z_iload dX10_look_120 rfl ?_
        obtain ⟨⟨hi0, hi1⟩, hyp⟩ := hyp
        refine z_iaload dX10_look_122 (sR_9 hE) (cR_9 hE) hi0 hi1 ?_
        exact z_iret dX10_look_123 rfl ⟨_, rfl, hyp⟩
      exact z_tsIn (i := 3) (tgt := 116) dX10_look_57 (c_10.trans (by decide)) (by decide) rfl (by decide) hgo
    by_cases c_11 : x3 = 4
    · have hyp := hyp.2.2.2.2.1 c_11
      have hgo : zG E mX10_look (d + 1) 124 [zR 0, zI x1, zI x2, zI x3, zI x_5] [] h_4 (qI K) := by
        refine z_aload_n dX10_look_124 rfl ?_
        refine gf_X10_39 (c2 := 10) dX10_look_125 rfl (sR_0 hE) (cR_0 hE) rfl ?_
        refine z_iload dX10_look_128 rfl ?_
        obtain ⟨⟨hi0, hi1⟩, hyp⟩ := hyp
        refine z_baload dX10_look_130 (sR_10 hE) (cR_10 hE) hi0 hi1 ?_
        refine z_if_eq (tgt := 138) dX10_look_131 (by decide) (fun c_12 => ?_) (fun c_12 => ?_)
        · have hyp := hyp.1 c_12
          refine z_iconst dX10_look_138 (r32d rfl) ?_
          exact z_iret dX10_look_139 rfl ⟨_, rfl, hyp⟩
        · have hyp := hyp.2 c_12
          refine z_iconst dX10_look_134 (r32d rfl) ?_
          refine z_goto (tgt := 139) dX10_look_135 (by decide) ?_
          exact z_iret dX10_look_139 rfl ⟨_, rfl, hyp⟩
      exact z_tsIn (i := 4) (tgt := 124) dX10_look_57 (c_11.trans (by decide)) (by decide) rfl (by decide) hgo
    exact absurd (tsbs (tsbs (tsbs (tsbs (tsbs (tsb1 cr) c_7) c_8) c_9) c_10) c_11) (tsb2 cr)
  · have hyp := hyp.2 c_2
    refine z_iconst dX10_look_38 (r32d rfl) ?_
    exact z_iret dX10_look_39 rfl ⟨_, rfl, hyp⟩
set_option maxRecDepth 20000 in
theorem eX10_look {E : zE} (hE : isR E) {d : Nat} {x1 x2 x3 : Int} {h : zH} {K : Int → zH → Prop} (hyp :
  zCI E mX10_isStone d [zR 0, zI x1, zI x2] h (fun r_1 h_1 =>
    ((r_1 ≠ 0 →
      ((x3 < 0 →
        zG E mX10_look (d + 1) 28 [zR 0, zI x1, zI x2, zI x3, zU] [zI 2, zR 0] h_1 (qI K)) ∧
      (¬ (x3 < 0) →
        ((x3 ≤ 5 →
          zG E mX10_look (d + 1) 28 [zR 0, zI x1, zI x2, zI x3, zU] [zI 0, zR 0] h_1 (qI K)) ∧
        (¬ (x3 ≤ 5) →
          zG E mX10_look (d + 1) 28 [zR 0, zI x1, zI x2, zI x3, zU] [zI 2, zR 0] h_1 (qI K)))))) ∧
    (¬ (r_1 ≠ 0) →
      zG E mX10_look (d + 1) 28 [zR 0, zI x1, zI x2, zI x3, zU] [zI 1, zR 0] h_1 (qI K))))) :
  zCI E mX10_look (d + 1) [zR 0, zI x1, zI x2, zI x3] h K := by
  refine zC_in (L0 := [zR 0, zI x1, zI x2, zI x3, zU]) pn_X10 rfl (Nat.le_of_ble_eq_true rfl) ?_
  refine z_aload_n dX10_look_0 rfl ?_
  refine z_aload_n dX10_look_1 rfl ?_
  refine z_iload_n dX10_look_2 rfl ?_
  refine z_iload_n dX10_look_3 rfl ?_
  refine cl_X10_362 dX10_look_4 rfl (sR_0 hE) (cR_0 hE) (Nat.le_of_ble_eq_true rfl) (zC_mono ?_ hyp)
  rintro _ h_1 ⟨r_1, rfl, hyp⟩
  refine ⟨r_1, rfl, ?_⟩
  refine z_if_ne (tgt := 14) dX10_look_7 (by decide) (fun c_2 => ?_) (fun c_2 => ?_)
  · have hyp := hyp.1 c_2
    refine z_iload_n dX10_look_14 rfl ?_
    refine z_if_lt (tgt := 23) dX10_look_15 (by decide) (fun c_3 => ?_) (fun c_3 => ?_)
    · have hyp := hyp.1 c_3
      refine z_iconst dX10_look_23 (r32d rfl) ?_
      refine z_goto (tgt := 28) dX10_look_24 (by decide) ?_
      exact hyp
    · have hyp := hyp.2 c_3
      refine z_iload_n dX10_look_18 rfl ?_
      refine z_iconst dX10_look_19 (r32d rfl) ?_
      refine z_icmp_le (tgt := 27) dX10_look_20 (by decide) (fun c_4 => ?_) (fun c_4 => ?_)
      · have hyp := hyp.1 c_4
        refine z_iconst dX10_look_27 (r32d rfl) ?_
        exact hyp
      · have hyp := hyp.2 c_4
        refine z_iconst dX10_look_23 (r32d rfl) ?_
        refine z_goto (tgt := 28) dX10_look_24 (by decide) ?_
        exact hyp
  · have hyp := hyp.2 c_2
    refine z_iconst dX10_look_10 (r32d rfl) ?_
    refine z_goto (tgt := 28) dX10_look_11 (by decide) ?_
    exact hyp
set_option maxRecDepth 20000 in
theorem eX10_lumps {E : zE} (hE : isR E) {d : Nat} {x1 : Int} {h : zH} {K : Int → zH → Prop} (hyp :
  ∀ h_1 : zH, h_1 = hset h 0 0 0 →
  zCI E mX10_isUnit d [zI x1] h_1 (fun r_2 h_2 =>
    ((r_2 ≠ 0 →
      zCV E mX10_laid d [zR 0] h_2 (fun h_4 =>
        zCV E mX10_reckon d [zR 0, zI (-1), zI (-1)] h_4 (fun h_5 =>
          zCI E mX10_lumpsOf d [zR 0, zI x1] h_5 (fun r_6 h_6 =>
            K r_6 h_6)))) ∧
    (¬ (r_2 ≠ 0) →
      K (-1) h_2)))) :
  zCI E mX10_lumps (d + 1) [zR 0, zI x1] h K := by
  refine zC_in (L0 := [zR 0, zI x1]) pn_X10 rfl (Nat.le_of_ble_eq_true rfl) ?_
  refine z_aload_n dX10_lumps_0 rfl ?_
  refine z_iconst dX10_lumps_1 (r32d rfl) ?_
  refine pf_X10_153 dX10_lumps_2 rfl (sR_0 hE) (cR_0 hE) ?_
  generalize eh_1 : hset h 0 0 _ = h_1
  have hyp := hyp h_1 eh_1.symm
  refine z_iload_n dX10_lumps_5 rfl ?_
  refine cl_X10_460 dX10_lumps_6 rfl (Nat.le_of_ble_eq_true rfl) (zC_mono ?_ hyp)
  rintro _ h_2 ⟨r_2, rfl, hyp⟩
  refine ⟨r_2, rfl, ?_⟩
  refine z_if_ne (tgt := 14) dX10_lumps_9 (by decide) (fun c_3 => ?_) (fun c_3 => ?_)
  · have hyp := hyp.1 c_3
    refine z_aload_n dX10_lumps_14 rfl ?_
    refine cl_X10_440 dX10_lumps_15 rfl (sR_0 hE) (cR_0 hE) (Nat.le_of_ble_eq_true rfl) (zC_mono ?_ hyp)
    rintro _ h_4 ⟨rfl, hyp⟩
    refine ⟨rfl, ?_⟩
    refine z_aload_n dX10_lumps_18 rfl ?_
    refine z_iconst dX10_lumps_19 (r32d rfl) ?_
    refine z_iconst dX10_lumps_20 (r32d rfl) ?_
    refine cl_X10_493 dX10_lumps_21 rfl (sR_0 hE) (cR_0 hE) (Nat.le_of_ble_eq_true rfl) (zC_mono ?_ hyp)
    rintro _ h_5 ⟨rfl, hyp⟩
    refine ⟨rfl, ?_⟩
    refine z_aload_n dX10_lumps_24 rfl ?_
    refine z_iload_n dX10_lumps_25 rfl ?_
    refine cl_X10_496 dX10_lumps_26 rfl (sR_0 hE) (cR_0 hE) (Nat.le_of_ble_eq_true rfl) (zC_mono ?_ hyp)
    rintro _ h_6 ⟨r_6, rfl, hyp⟩
    refine ⟨r_6, rfl, ?_⟩
    exact z_iret dX10_lumps_29 rfl ⟨_, rfl, hyp⟩
  · have hyp := hyp.2 c_3
    refine z_iconst dX10_lumps_12 (r32d rfl) ?_
    exact z_iret dX10_lumps_13 rfl ⟨_, rfl, hyp⟩
set_option maxRecDepth 20000 in
theorem bX10_lumpsOf_11 {E : zE} (hE : isR E) {d : Nat} {x2 x3 x4 : Int} {h : zH} {K : Int → zH → Prop} (hyp :
  (((h 0 24) ≤ x4 →
    K x3 h) ∧
  (¬ ((h 0 24) ≤ x4) →
    ((0 : Int) ≤ x4 ∧ x4 < (8 : Int)) ∧
    (((h 39 x4.toNat) = (-1) →
      ∀ x_3 : Int, x_3 = w32 (x4 + 1) →
      zG E mX10_lumpsOf (d + 1) 11 [zR 0, zU, zI x2, zI x3, zI x_3] [] h (qI K)) ∧
    (¬ ((h 39 x4.toNat) = (-1)) →
      ((0 : Int) ≤ x4 ∧ x4 < (8 : Int)) ∧
      zCI E mX10_offBy d [zI (h 39 x4.toNat), zI x2] h (fun r_4 h_4 =>
        ¬ x2 = 0 ∧
        ∀ x_5 : Int, x_5 = w32 (x3 + (w32 (Int.tdiv (w32 (4000 * r_4)) x2))) →
        ∀ x_6 : Int, x_6 = w32 (x4 + 1) →
        zG E mX10_lumpsOf (d + 1) 11 [zR 0, zU, zI x2, zI x_5, zI x_6] [] h_4 (qI K))))))) :
  zG E mX10_lumpsOf (d + 1) 11 [zR 0, zU, zI x2, zI x3, zI x4] [] h (qI K) := by
  refine z_iload dX10_lumpsOf_11 rfl ?_
  refine z_aload_n dX10_lumpsOf_13 rfl ?_
  refine gf_X10_340 dX10_lumpsOf_14 rfl (sR_0 hE) (cR_0 hE) ?_
  refine z_icmp_ge (tgt := 57) dX10_lumpsOf_17 (by decide) (fun c_1 => ?_) (fun c_1 => ?_)
  · have hyp := hyp.1 c_1
    refine z_iload_n dX10_lumpsOf_57 rfl ?_
    exact z_iret dX10_lumpsOf_58 rfl ⟨_, rfl, hyp⟩
  · have hyp := hyp.2 c_1
    refine z_aload_n dX10_lumpsOf_20 rfl ?_
    refine gf_X10_144 (c2 := 39) dX10_lumpsOf_21 rfl (sR_0 hE) (cR_0 hE) rfl ?_
    refine z_iload dX10_lumpsOf_24 rfl ?_
    obtain ⟨⟨hi0, hi1⟩, hyp⟩ := hyp
    refine z_iaload dX10_lumpsOf_26 (sR_39 hE) (cR_39 hE) hi0 hi1 ?_
    refine z_iconst dX10_lumpsOf_27 (r32d rfl) ?_
    refine z_icmp_eq (tgt := 51) dX10_lumpsOf_28 (by decide) (fun c_2 => ?_) (fun c_2 => ?_)
    · have hyp := hyp.1 c_2
      refine z_iinc dX10_lumpsOf_51 rfl (by decide) rfl ?_
      generalize ex_3 : w32 (x4 + 1) = x_3
      have hyp := hyp x_3 ex_3.symm
      refine z_goto (tgt := 11) dX10_lumpsOf_54 (by decide) ?_
      exact hyp
    · have hyp := hyp.2 c_2
      refine z_iload_n dX10_lumpsOf_31 rfl ?_
      refine z_sipush dX10_lumpsOf_32 (r32d rfl) (by decide) ?_
      refine z_aload_n dX10_lumpsOf_35 rfl ?_
      refine gf_X10_144 (c2 := 39) dX10_lumpsOf_36 rfl (sR_0 hE) (cR_0 hE) rfl ?_
      refine z_iload dX10_lumpsOf_39 rfl ?_
      obtain ⟨⟨hi0, hi1⟩, hyp⟩ := hyp
      refine z_iaload dX10_lumpsOf_41 (sR_39 hE) (cR_39 hE) hi0 hi1 ?_
      refine z_iload_n dX10_lumpsOf_42 rfl ?_
      refine cl_X10_466 dX10_lumpsOf_43 rfl (Nat.le_of_ble_eq_true rfl) (zC_mono ?_ hyp)
      rintro _ h_4 ⟨r_4, rfl, hyp⟩
      refine ⟨r_4, rfl, ?_⟩
      refine z_imul dX10_lumpsOf_46 ?_
      refine z_iload_n dX10_lumpsOf_47 rfl ?_
      obtain ⟨hz, hyp⟩ := hyp
      refine z_idiv hz dX10_lumpsOf_48 ?_
      refine z_iadd dX10_lumpsOf_49 ?_
      generalize ex_5 : w32 (x3 + (w32 (Int.tdiv (w32 (4000 * r_4)) x2))) = x_5
      have hyp := hyp x_5 ex_5.symm
      refine z_istore_n dX10_lumpsOf_50 rfl (by decide) rfl ?_
      refine z_iinc dX10_lumpsOf_51 rfl (by decide) rfl ?_
      generalize ex_6 : w32 (x4 + 1) = x_6
      have hyp := hyp x_6 ex_6.symm
      refine z_goto (tgt := 11) dX10_lumpsOf_54 (by decide) ?_
      exact hyp
set_option maxRecDepth 20000 in
theorem eX10_lumpsOf {E : zE} (hE : isR E) {d : Nat} {x1 : Int} {h : zH} {K : Int → zH → Prop} (hyp :
  zCI E mX10_part d [zR 0, zI x1] h (fun r_1 h_1 =>
    zG E mX10_lumpsOf (d + 1) 11 [zR 0, zU, zI r_1, zI 0, zI 0] [] h_1 (qI K))) :
  zCI E mX10_lumpsOf (d + 1) [zR 0, zI x1] h K := by
  refine zC_in (L0 := [zR 0, zI x1, zU, zU, zU]) pn_X10 rfl (Nat.le_of_ble_eq_true rfl) ?_
  refine z_aload_n dX10_lumpsOf_0 rfl ?_
  refine z_iload_n dX10_lumpsOf_1 rfl ?_
  refine cl_X10_463 dX10_lumpsOf_2 rfl (sR_0 hE) (cR_0 hE) (Nat.le_of_ble_eq_true rfl) (zC_mono ?_ hyp)
  rintro _ h_1 ⟨r_1, rfl, hyp⟩
  refine ⟨r_1, rfl, ?_⟩
  refine z_istore_n dX10_lumpsOf_5 rfl (by decide) rfl ?_
  refine z_iconst dX10_lumpsOf_6 (r32d rfl) ?_
  refine z_istore_n dX10_lumpsOf_7 rfl (by decide) rfl ?_
  refine z_iconst dX10_lumpsOf_8 (r32d rfl) ?_
  refine z_istore dX10_lumpsOf_9 (by decide) rfl ?_
  exact z_forget [true, false, true, true, true] rfl hyp
set_option maxRecDepth 20000 in
theorem eX10_mode {E : zE} (hE : isR E) {d : Nat} {x1 x2 : Int} {h : zH} {K : Int → zH → Prop} (hyp :
  ∀ h_1 : zH, h_1 = hset h 0 0 0 →
  ((x1 < 0 →
    K 0 h_1) ∧
  (¬ (x1 < 0) →
    ((x1 ≤ 3 →
      ∀ h_4 : zH, h_4 = hset h_1 0 56 x1 →
      (x2 = 0 ∨ x2 = 1) ∧
      ∀ h_5 : zH, h_5 = hset h_4 0 57 x2 →
      ∀ h_6 : zH, h_6 = hset h_5 0 74 0 →
      K 1 h_6) ∧
    (¬ (x1 ≤ 3) →
      K 0 h_1))))) :
  zCI E mX10_mode d [zR 0, zI x1, zI x2] h K := by
  refine zC_in (L0 := [zR 0, zI x1, zI x2]) pn_X10 rfl (Nat.le_of_ble_eq_true rfl) ?_
  refine z_aload_n dX10_mode_0 rfl ?_
  refine z_iconst dX10_mode_1 (r32d rfl) ?_
  refine pf_X10_153 dX10_mode_2 rfl (sR_0 hE) (cR_0 hE) ?_
  generalize eh_1 : hset h 0 0 _ = h_1
  have hyp := hyp h_1 eh_1.symm
  refine z_iload_n dX10_mode_5 rfl ?_
  refine z_if_lt (tgt := 14) dX10_mode_6 (by decide) (fun c_2 => ?_) (fun c_2 => ?_)
  · have hyp := hyp.1 c_2
    refine z_iconst dX10_mode_14 (r32d rfl) ?_
    exact z_zret dX10_mode_15 rfl (Or.inl rfl) ⟨_, rfl, hyp⟩
  · have hyp := hyp.2 c_2
    refine z_iload_n dX10_mode_9 rfl ?_
    refine z_iconst dX10_mode_10 (r32d rfl) ?_
    refine z_icmp_le (tgt := 16) dX10_mode_11 (by decide) (fun c_3 => ?_) (fun c_3 => ?_)
    · have hyp := hyp.1 c_3
      refine z_aload_n dX10_mode_16 rfl ?_
      refine z_iload_n dX10_mode_17 rfl ?_
      refine pf_X10_373 dX10_mode_18 rfl (sR_0 hE) (cR_0 hE) ?_
      generalize eh_4 : hset h_1 0 56 _ = h_4
      have hyp := hyp h_4 eh_4.symm
      refine z_aload_n dX10_mode_21 rfl ?_
      refine z_iload_n dX10_mode_22 rfl ?_
      obtain ⟨hx0, hyp⟩ := hyp
      refine pf_X10_376 dX10_mode_23 rfl (sR_0 hE) (cR_0 hE) hx0 ?_
      generalize eh_5 : hset h_4 0 57 _ = h_5
      have hyp := hyp h_5 eh_5.symm
      refine z_aload_n dX10_mode_26 rfl ?_
      refine z_iconst dX10_mode_27 (r32d rfl) ?_
      refine pf_X10_358 dX10_mode_28 rfl (sR_0 hE) (cR_0 hE) (Or.inl rfl) ?_
      generalize eh_6 : hset h_5 0 74 _ = h_6
      have hyp := hyp h_6 eh_6.symm
      refine z_iconst dX10_mode_31 (r32d rfl) ?_
      exact z_zret dX10_mode_32 rfl (Or.inr rfl) ⟨_, rfl, hyp⟩
    · have hyp := hyp.2 c_3
      refine z_iconst dX10_mode_14 (r32d rfl) ?_
      exact z_zret dX10_mode_15 rfl (Or.inl rfl) ⟨_, rfl, hyp⟩
set_option maxRecDepth 20000 in
theorem bX10_name_7 {E : zE} (hE : isR E) {d : Nat} {x1 : Int} {h : zH} {K : zH → Prop} (hyp :
  ((6 ≤ x1 →
    K h) ∧
  (¬ (6 ≤ x1) →
    (((h 0 45) ≤ (w32 ((h 0 46) + x1)) →
      ∀ h_3 : zH, h_3 = hset h 0 48 (zor (zshl (h 0 48) 5) 0) →
      ∀ x_4 : Int, x_4 = w32 (x1 + 1) →
      zG E mX10_name d 7 [zR 0, zI x_4] [] h_3 (qV K)) ∧
    (¬ ((h 0 45) ≤ (w32 ((h 0 46) + x1))) →
      ((0 : Int) ≤ w32 ((h 0 46) + x1) ∧ w32 ((h 0 46) + x1) < (900 : Int)) ∧
      ∀ h_5 : zH, h_5 = hset h 0 48 (zor (zshl (h 0 48) 5) (w32 ((w32 ((h 1 (w32 ((h 0 46) + x1)).toNat) - 97)) + 1))) →
      ∀ x_6 : Int, x_6 = w32 (x1 + 1) →
      zG E mX10_name d 7 [zR 0, zI x_6] [] h_5 (qV K)))))) :
  zG E mX10_name d 7 [zR 0, zI x1] [] h (qV K) := by
  refine z_iload_n dX10_name_7 rfl ?_
  refine z_bipush dX10_name_8 (r32d rfl) (by decide) ?_
  refine z_icmp_ge (tgt := 63) dX10_name_10 (by decide) (fun c_1 => ?_) (fun c_1 => ?_)
  · have hyp := hyp.1 c_1
    exact z_vret dX10_name_63 rfl ⟨rfl, hyp⟩
  · have hyp := hyp.2 c_1
    refine z_aload_n dX10_name_13 rfl ?_
    refine z_aload_n dX10_name_14 rfl ?_
    refine gf_X10_182 dX10_name_15 rfl (sR_0 hE) (cR_0 hE) ?_
    refine z_iconst dX10_name_18 (r32d rfl) ?_
    refine z_ishl dX10_name_19 ?_
    refine z_aload_n dX10_name_20 rfl ?_
    refine gf_X10_169 dX10_name_21 rfl (sR_0 hE) (cR_0 hE) ?_
    refine z_iload_n dX10_name_24 rfl ?_
    refine z_iadd dX10_name_25 ?_
    refine z_aload_n dX10_name_26 rfl ?_
    refine gf_X10_159 dX10_name_27 rfl (sR_0 hE) (cR_0 hE) ?_
    refine z_icmp_ge (tgt := 52) dX10_name_30 (by decide) (fun c_2 => ?_) (fun c_2 => ?_)
    · have hyp := hyp.1 c_2
      refine z_iconst dX10_name_52 (r32d rfl) ?_
      refine z_ior dX10_name_53 ?_
      refine pf_X10_182 dX10_name_54 rfl (sR_0 hE) (cR_0 hE) ?_
      generalize eh_3 : hset h 0 48 _ = h_3
      have hyp := hyp h_3 eh_3.symm
      refine z_iinc dX10_name_57 rfl (by decide) rfl ?_
      generalize ex_4 : w32 (x1 + 1) = x_4
      have hyp := hyp x_4 ex_4.symm
      refine z_goto (tgt := 7) dX10_name_60 (by decide) ?_
      exact hyp
    · have hyp := hyp.2 c_2
      refine z_aload_n dX10_name_33 rfl ?_
      refine gf_X10_9 (c2 := 1) dX10_name_34 rfl (sR_0 hE) (cR_0 hE) rfl ?_
      refine z_aload_n dX10_name_37 rfl ?_
      refine gf_X10_169 dX10_name_38 rfl (sR_0 hE) (cR_0 hE) ?_
      refine z_iload_n dX10_name_41 rfl ?_
      refine z_iadd dX10_name_42 ?_
      obtain ⟨⟨hi0, hi1⟩, hyp⟩ := hyp
      refine z_iaload dX10_name_43 (sR_1 hE) (cR_1 hE) hi0 hi1 ?_
      refine z_bipush dX10_name_44 (r32d rfl) (by decide) ?_
      refine z_isub dX10_name_46 ?_
      refine z_iconst dX10_name_47 (r32d rfl) ?_
      refine z_iadd dX10_name_48 ?_
      refine z_goto (tgt := 53) dX10_name_49 (by decide) ?_
      refine z_ior dX10_name_53 ?_
      refine pf_X10_182 dX10_name_54 rfl (sR_0 hE) (cR_0 hE) ?_
      generalize eh_5 : hset h 0 48 _ = h_5
      have hyp := hyp h_5 eh_5.symm
      refine z_iinc dX10_name_57 rfl (by decide) rfl ?_
      generalize ex_6 : w32 (x1 + 1) = x_6
      have hyp := hyp x_6 ex_6.symm
      refine z_goto (tgt := 7) dX10_name_60 (by decide) ?_
      exact hyp
set_option maxRecDepth 20000 in
theorem eX10_name {E : zE} (hE : isR E) {d : Nat} {h : zH} {K : zH → Prop} (hyp :
  ∀ h_1 : zH, h_1 = hset h 0 48 0 →
  zG E mX10_name d 7 [zR 0, zI 0] [] h_1 (qV K)) :
  zCV E mX10_name d [zR 0] h K := by
  refine zC_in (L0 := [zR 0, zU]) pn_X10 rfl (Nat.le_of_ble_eq_true rfl) ?_
  refine z_aload_n dX10_name_0 rfl ?_
  refine z_iconst dX10_name_1 (r32d rfl) ?_
  refine pf_X10_182 dX10_name_2 rfl (sR_0 hE) (cR_0 hE) ?_
  generalize eh_1 : hset h 0 48 _ = h_1
  have hyp := hyp h_1 eh_1.symm
  refine z_iconst dX10_name_5 (r32d rfl) ?_
  refine z_istore_n dX10_name_6 rfl (by decide) rfl ?_
  exact hyp
set_option maxRecDepth 20000 in
theorem eX10_named {E : zE} (hE : isR E) {d : Nat} {x1 x2 : Int} {h : zH} {K : Int → zH → Prop} (hyp :
  ∀ h_1 : zH, h_1 = hset h 0 0 0 →
  ((x1 = 0) →
      zCI E mX10_found d [zR 2, zI 0, zI (h_1 0 23), zI x2] h_1 (fun r_3 h_3 =>
        K r_3 h_3)) ∧
  ((x1 = 1) →
      zCI E mX10_found d [zR 3, zI 0, zI (h_1 0 24), zI x2] h_1 (fun r_5 h_5 =>
        K r_5 h_5)) ∧
  ((x1 = 2) →
      zCI E mX10_found d [zR 12, zI 0, zI (h_1 0 25), zI x2] h_1 (fun r_7 h_7 =>
        K r_7 h_7)) ∧
  ((x1 = 3) →
      zCI E mX10_found d [zR 15, zI 0, zI (h_1 0 27), zI x2] h_1 (fun r_9 h_9 =>
        K r_9 h_9)) ∧
  ((x1 ≠ 0 ∧ x1 ≠ 1 ∧ x1 ≠ 2 ∧ x1 ≠ 3) →
    K (-1) h_1)) :
  zCI E mX10_named (d + 1) [zR 0, zI x1, zI x2] h K := by
  refine zC_in (L0 := [zR 0, zI x1, zI x2]) pn_X10 rfl (Nat.le_of_ble_eq_true rfl) ?_
  refine z_aload_n dX10_named_0 rfl ?_
  refine z_iconst dX10_named_1 (r32d rfl) ?_
  refine pf_X10_153 dX10_named_2 rfl (sR_0 hE) (cR_0 hE) ?_
  generalize eh_1 : hset h 0 0 _ = h_1
  have hyp := hyp h_1 eh_1.symm
  refine z_iload_n dX10_named_5 rfl ?_
  have hgo : (x1 ≠ 0 ∧ x1 ≠ 1 ∧ x1 ≠ 2 ∧ x1 ≠ 3) → zG E mX10_named (d + 1) 92 [zR 0, zI x1, zI x2] [] h_1 (qI K) := by
    intro hcc
    have hyp := hyp.2.2.2.2 hcc
    refine z_iconst dX10_named_92 (r32d rfl) ?_
    exact z_iret dX10_named_93 rfl ⟨_, rfl, hyp⟩
  by_cases cr : x1 < 0 ∨ 3 < x1
  · exact z_tsOut (tgt := 92) dX10_named_6 cr (by decide) (hgo ⟨tsne cr (by decide) (by decide), tsne cr (by decide) (by decide), tsne cr (by decide) (by decide), tsne cr (by decide) (by decide)⟩)
  by_cases c_2 : x1 = 0
  · have hyp := hyp.1 c_2
    have hgo : zG E mX10_named (d + 1) 36 [zR 0, zI x1, zI x2] [] h_1 (qI K) := by
      refine z_aload_n dX10_named_36 rfl ?_
      refine gf_X10_15 (c2 := 2) dX10_named_37 rfl (sR_0 hE) (cR_0 hE) rfl ?_
      refine z_iconst dX10_named_40 (r32d rfl) ?_
      refine z_aload_n dX10_named_41 rfl ?_
      refine gf_X10_337 dX10_named_42 rfl (sR_0 hE) (cR_0 hE) ?_
      refine z_iload_n dX10_named_45 rfl ?_
      refine cl_X10_226 dX10_named_46 rfl (Nat.le_of_ble_eq_true rfl) (zC_mono ?_ hyp)
      rintro _ h_3 ⟨r_3, rfl, hyp⟩
      refine ⟨r_3, rfl, ?_⟩
      exact z_iret dX10_named_49 rfl ⟨_, rfl, hyp⟩
    exact z_tsIn (i := 0) (tgt := 36) dX10_named_6 (c_2.trans (by decide)) (by decide) rfl (by decide) hgo
  by_cases c_4 : x1 = 1
  · have hyp := hyp.2.1 c_4
    have hgo : zG E mX10_named (d + 1) 50 [zR 0, zI x1, zI x2] [] h_1 (qI K) := by
      refine z_aload_n dX10_named_50 rfl ?_
      refine gf_X10_18 (c2 := 3) dX10_named_51 rfl (sR_0 hE) (cR_0 hE) rfl ?_
      refine z_iconst dX10_named_54 (r32d rfl) ?_
      refine z_aload_n dX10_named_55 rfl ?_
      refine gf_X10_340 dX10_named_56 rfl (sR_0 hE) (cR_0 hE) ?_
      refine z_iload_n dX10_named_59 rfl ?_
      refine cl_X10_226 dX10_named_60 rfl (Nat.le_of_ble_eq_true rfl) (zC_mono ?_ hyp)
      rintro _ h_5 ⟨r_5, rfl, hyp⟩
      refine ⟨r_5, rfl, ?_⟩
      exact z_iret dX10_named_63 rfl ⟨_, rfl, hyp⟩
    exact z_tsIn (i := 1) (tgt := 50) dX10_named_6 (c_4.trans (by decide)) (by decide) rfl (by decide) hgo
  by_cases c_6 : x1 = 2
  · have hyp := hyp.2.2.1 c_6
    have hgo : zG E mX10_named (d + 1) 64 [zR 0, zI x1, zI x2] [] h_1 (qI K) := by
      refine z_aload_n dX10_named_64 rfl ?_
      refine gf_X10_46 (c2 := 12) dX10_named_65 rfl (sR_0 hE) (cR_0 hE) rfl ?_
      refine z_iconst dX10_named_68 (r32d rfl) ?_
      refine z_aload_n dX10_named_69 rfl ?_
      refine gf_X10_343 dX10_named_70 rfl (sR_0 hE) (cR_0 hE) ?_
      refine z_iload_n dX10_named_73 rfl ?_
      refine cl_X10_226 dX10_named_74 rfl (Nat.le_of_ble_eq_true rfl) (zC_mono ?_ hyp)
      rintro _ h_7 ⟨r_7, rfl, hyp⟩
      refine ⟨r_7, rfl, ?_⟩
      exact z_iret dX10_named_77 rfl ⟨_, rfl, hyp⟩
    exact z_tsIn (i := 2) (tgt := 64) dX10_named_6 (c_6.trans (by decide)) (by decide) rfl (by decide) hgo
  by_cases c_8 : x1 = 3
  · have hyp := hyp.2.2.2.1 c_8
    have hgo : zG E mX10_named (d + 1) 78 [zR 0, zI x1, zI x2] [] h_1 (qI K) := by
      refine z_aload_n dX10_named_78 rfl ?_
      refine gf_X10_55 (c2 := 15) dX10_named_79 rfl (sR_0 hE) (cR_0 hE) rfl ?_
      refine z_iconst dX10_named_82 (r32d rfl) ?_
      refine z_aload_n dX10_named_83 rfl ?_
      refine gf_X10_349 dX10_named_84 rfl (sR_0 hE) (cR_0 hE) ?_
      refine z_iload_n dX10_named_87 rfl ?_
      refine cl_X10_226 dX10_named_88 rfl (Nat.le_of_ble_eq_true rfl) (zC_mono ?_ hyp)
      rintro _ h_9 ⟨r_9, rfl, hyp⟩
      refine ⟨r_9, rfl, ?_⟩
      exact z_iret dX10_named_91 rfl ⟨_, rfl, hyp⟩
    exact z_tsIn (i := 3) (tgt := 78) dX10_named_6 (c_8.trans (by decide)) (by decide) rfl (by decide) hgo
  exact absurd (tsbs (tsbs (tsbs (tsbs (tsb1 cr) c_2) c_4) c_6) c_8) (tsb2 cr)
set_option maxRecDepth 20000 in
theorem bX10_near_22 {E : zE} (hE : isR E) {d : Nat} {x1 x2 x3 : Int} {h : zH} {K : Int → zH → Prop} (hyp :
  (((h 0 24) ≤ x3 →
    K x2 h) ∧
  (¬ ((h 0 24) ≤ x3) →
    zCI E mX10_hasFit d [zR 0, zI x3] h (fun r_2 h_2 =>
      ((r_2 = 0 →
        ∀ x_4 : Int, x_4 = w32 (x3 + 1) →
        zG E mX10_near (d + 1) 22 [zR 0, zI x1, zI x2, zI x_4] [] h_2 (qI K)) ∧
      (¬ (r_2 = 0) →
        zCI E mX10_sizeOf d [zR 0, zI x3] h_2 (fun r_5 h_5 =>
          zCI E mX10_isNear d [zR 0, zI x3, zI r_5, zI x1] h_5 (fun r_6 h_6 =>
            ((r_6 = 0 →
              ∀ x_8 : Int, x_8 = w32 (x3 + 1) →
              zG E mX10_near (d + 1) 22 [zR 0, zI x1, zI x2, zI x_8] [] h_6 (qI K)) ∧
            (¬ (r_6 = 0) →
              ∀ x_9 : Int, x_9 = zor x2 (zshl 1 x3) →
              ∀ x_10 : Int, x_10 = w32 (x3 + 1) →
              zG E mX10_near (d + 1) 22 [zR 0, zI x1, zI x_9, zI x_10] [] h_6 (qI K))))))))))) :
  zG E mX10_near (d + 1) 22 [zR 0, zI x1, zI x2, zI x3] [] h (qI K) := by
  refine z_iload_n dX10_near_22 rfl ?_
  refine z_aload_n dX10_near_23 rfl ?_
  refine gf_X10_340 dX10_near_24 rfl (sR_0 hE) (cR_0 hE) ?_
  refine z_icmp_ge (tgt := 64) dX10_near_27 (by decide) (fun c_1 => ?_) (fun c_1 => ?_)
  · have hyp := hyp.1 c_1
    refine z_iload_n dX10_near_64 rfl ?_
    exact z_iret dX10_near_65 rfl ⟨_, rfl, hyp⟩
  · have hyp := hyp.2 c_1
    refine z_aload_n dX10_near_30 rfl ?_
    refine z_iload_n dX10_near_31 rfl ?_
    refine cl_X10_443 dX10_near_32 rfl (sR_0 hE) (cR_0 hE) (Nat.le_of_ble_eq_true rfl) (zC_mono ?_ hyp)
    rintro _ h_2 ⟨r_2, rfl, hyp⟩
    refine ⟨r_2, rfl, ?_⟩
    refine z_if_eq (tgt := 58) dX10_near_35 (by decide) (fun c_3 => ?_) (fun c_3 => ?_)
    · have hyp := hyp.1 c_3
      refine z_iinc dX10_near_58 rfl (by decide) rfl ?_
      generalize ex_4 : w32 (x3 + 1) = x_4
      have hyp := hyp x_4 ex_4.symm
      refine z_goto (tgt := 22) dX10_near_61 (by decide) ?_
      exact hyp
    · have hyp := hyp.2 c_3
      refine z_aload_n dX10_near_38 rfl ?_
      refine z_iload_n dX10_near_39 rfl ?_
      refine z_aload_n dX10_near_40 rfl ?_
      refine z_iload_n dX10_near_41 rfl ?_
      refine cl_X10_446 dX10_near_42 rfl (sR_0 hE) (cR_0 hE) (Nat.le_of_ble_eq_true rfl) (zC_mono ?_ hyp)
      rintro _ h_5 ⟨r_5, rfl, hyp⟩
      refine ⟨r_5, rfl, ?_⟩
      refine z_iload_n dX10_near_45 rfl ?_
      refine cl_X10_489 dX10_near_46 rfl (sR_0 hE) (cR_0 hE) (Nat.le_of_ble_eq_true rfl) (zC_mono ?_ hyp)
      rintro _ h_6 ⟨r_6, rfl, hyp⟩
      refine ⟨r_6, rfl, ?_⟩
      refine z_if_eq (tgt := 58) dX10_near_49 (by decide) (fun c_7 => ?_) (fun c_7 => ?_)
      · have hyp := hyp.1 c_7
        refine z_iinc dX10_near_58 rfl (by decide) rfl ?_
        generalize ex_8 : w32 (x3 + 1) = x_8
        have hyp := hyp x_8 ex_8.symm
        refine z_goto (tgt := 22) dX10_near_61 (by decide) ?_
        exact hyp
      · have hyp := hyp.2 c_7
        refine z_iload_n dX10_near_52 rfl ?_
        refine z_iconst dX10_near_53 (r32d rfl) ?_
        refine z_iload_n dX10_near_54 rfl ?_
        refine z_ishl dX10_near_55 ?_
        refine z_ior dX10_near_56 ?_
        generalize ex_9 : zor x2 (zshl 1 x3) = x_9
        have hyp := hyp x_9 ex_9.symm
        refine z_istore_n dX10_near_57 rfl (by decide) rfl ?_
        refine z_iinc dX10_near_58 rfl (by decide) rfl ?_
        generalize ex_10 : w32 (x3 + 1) = x_10
        have hyp := hyp x_10 ex_10.symm
        refine z_goto (tgt := 22) dX10_near_61 (by decide) ?_
        exact hyp
set_option maxRecDepth 20000 in
theorem eX10_near {E : zE} (hE : isR E) {d : Nat} {x1 : Int} {h : zH} {K : Int → zH → Prop} (hyp :
  ∀ h_1 : zH, h_1 = hset h 0 0 0 →
  zCI E mX10_isUnit d [zI x1] h_1 (fun r_2 h_2 =>
    ((r_2 ≠ 0 →
      zCV E mX10_laid d [zR 0] h_2 (fun h_4 =>
        zG E mX10_near (d + 1) 22 [zR 0, zI x1, zI 0, zI 0] [] h_4 (qI K))) ∧
    (¬ (r_2 ≠ 0) →
      K (-1) h_2)))) :
  zCI E mX10_near (d + 1) [zR 0, zI x1] h K := by
  refine zC_in (L0 := [zR 0, zI x1, zU, zU]) pn_X10 rfl (Nat.le_of_ble_eq_true rfl) ?_
  refine z_aload_n dX10_near_0 rfl ?_
  refine z_iconst dX10_near_1 (r32d rfl) ?_
  refine pf_X10_153 dX10_near_2 rfl (sR_0 hE) (cR_0 hE) ?_
  generalize eh_1 : hset h 0 0 _ = h_1
  have hyp := hyp h_1 eh_1.symm
  refine z_iload_n dX10_near_5 rfl ?_
  refine cl_X10_460 dX10_near_6 rfl (Nat.le_of_ble_eq_true rfl) (zC_mono ?_ hyp)
  rintro _ h_2 ⟨r_2, rfl, hyp⟩
  refine ⟨r_2, rfl, ?_⟩
  refine z_if_ne (tgt := 14) dX10_near_9 (by decide) (fun c_3 => ?_) (fun c_3 => ?_)
  · have hyp := hyp.1 c_3
    refine z_aload_n dX10_near_14 rfl ?_
    refine cl_X10_440 dX10_near_15 rfl (sR_0 hE) (cR_0 hE) (Nat.le_of_ble_eq_true rfl) (zC_mono ?_ hyp)
    rintro _ h_4 ⟨rfl, hyp⟩
    refine ⟨rfl, ?_⟩
    refine z_iconst dX10_near_18 (r32d rfl) ?_
    refine z_istore_n dX10_near_19 rfl (by decide) rfl ?_
    refine z_iconst dX10_near_20 (r32d rfl) ?_
    refine z_istore_n dX10_near_21 rfl (by decide) rfl ?_
    exact hyp
  · have hyp := hyp.2 c_3
    refine z_iconst dX10_near_12 (r32d rfl) ?_
    exact z_iret dX10_near_13 rfl ⟨_, rfl, hyp⟩
set_option maxRecDepth 20000 in
theorem bX10_negation_87 {E : zE} (hE : isR E) {d : Nat} {h : zH} {K : zH → Prop} (hyp :
  ∀ x_1 : Int, x_1 = h 0 48 →
  zCV E mX10_knot d [zR 0] h (fun h_2 =>
    zCV E mX10_goOn d [zR 0] h_2 (fun h_3 =>
      zCV E mX10_sum d [zR 0] h_3 (fun h_4 =>
        zCV E mX10_puts d [zR 0, zI 2, zI x_1] h_4 (fun h_5 =>
          K h_5))))) :
  zG E mX10_negation (d + 1) 87 [zR 0, zU] [] h (qV K) := by
  refine z_aload_n dX10_negation_87 rfl ?_
  refine gf_X10_182 dX10_negation_88 rfl (sR_0 hE) (cR_0 hE) ?_
  generalize ex_1 : h 0 48 = x_1
  have hyp := hyp x_1 ex_1.symm
  refine z_istore_n dX10_negation_91 rfl (by decide) rfl ?_
  refine z_aload_n dX10_negation_92 rfl ?_
  refine cl_X10_306 dX10_negation_93 rfl (sR_0 hE) (cR_0 hE) (Nat.le_of_ble_eq_true rfl) (zC_mono ?_ hyp)
  rintro _ h_2 ⟨rfl, hyp⟩
  refine ⟨rfl, ?_⟩
  refine z_aload_n dX10_negation_96 rfl ?_
  refine cl_X10_282 dX10_negation_97 rfl (sR_0 hE) (cR_0 hE) (Nat.le_of_ble_eq_true rfl) (zC_mono ?_ hyp)
  rintro _ h_3 ⟨rfl, hyp⟩
  refine ⟨rfl, ?_⟩
  refine z_aload_n dX10_negation_100 rfl ?_
  refine cl_X10_316 dX10_negation_101 rfl (sR_0 hE) (cR_0 hE) (Nat.le_of_ble_eq_true rfl) (zC_mono ?_ hyp)
  rintro _ h_4 ⟨rfl, hyp⟩
  refine ⟨rfl, ?_⟩
  refine z_aload_n dX10_negation_104 rfl ?_
  refine z_iconst dX10_negation_105 (r32d rfl) ?_
  refine z_iload_n dX10_negation_106 rfl ?_
  refine cl_X10_309 dX10_negation_107 rfl (sR_0 hE) (cR_0 hE) (Nat.le_of_ble_eq_true rfl) (zC_mono ?_ hyp)
  rintro _ h_5 ⟨rfl, hyp⟩
  refine ⟨rfl, ?_⟩
  exact z_vret dX10_negation_110 rfl ⟨rfl, hyp⟩
set_option maxRecDepth 20000 in
theorem eX10_negation {E : zE} (hE : isR E) {d : Nat} {h : zH} {K : zH → Prop} (hyp :
  zCI E mX10_isWord d [zR 0, zI 14] h (fun r_1 h_1 =>
    ((r_1 = 0 →
      zCV E mX10_sum d [zR 0] h_1 (fun h_3 =>
        (((h_3 0 49) ≠ 0 →
          K h_3) ∧
        (¬ ((h_3 0 49) ≠ 0) →
          (((h_3 0 47) ≠ 3 →
            K h_3) ∧
          (¬ ((h_3 0 47) ≠ 3) →
            (((h_3 0 48) = 60 →
              zG E mX10_negation (d + 1) 87 [zR 0, zU] [] h_3 (qV K)) ∧
            (¬ ((h_3 0 48) = 60) →
              (((h_3 0 48) = 62 →
                zG E mX10_negation (d + 1) 87 [zR 0, zU] [] h_3 (qV K)) ∧
              (¬ ((h_3 0 48) = 62) →
                (((h_3 0 48) = 61 →
                  zG E mX10_negation (d + 1) 87 [zR 0, zU] [] h_3 (qV K)) ∧
                (¬ ((h_3 0 48) = 61) →
                  ((256 ≤ (h_3 0 48) →
                    zG E mX10_negation (d + 1) 87 [zR 0, zU] [] h_3 (qV K)) ∧
                  (¬ (256 ≤ (h_3 0 48)) →
                    K h_3)))))))))))))) ∧
    (¬ (r_1 = 0) →
      zCV E mX10_knot d [zR 0] h_1 (fun h_10 =>
        zCV E mX10_goOn d [zR 0] h_10 (fun h_11 =>
          zCV E mX10_negation d [zR 0] h_11 (fun h_12 =>
            zCV E mX10_puts d [zR 0, zI 2, zI 260] h_12 (fun h_13 =>
              K h_13)))))))) :
  zCV E mX10_negation (d + 1) [zR 0] h K := by
  refine zC_in (L0 := [zR 0, zU]) pn_X10 rfl (Nat.le_of_ble_eq_true rfl) ?_
  refine z_aload_n dX10_negation_0 rfl ?_
  refine z_bipush dX10_negation_1 (r32d rfl) (by decide) ?_
  refine cl_X10_279 dX10_negation_3 rfl (sR_0 hE) (cR_0 hE) (Nat.le_of_ble_eq_true rfl) (zC_mono ?_ hyp)
  rintro _ h_1 ⟨r_1, rfl, hyp⟩
  refine ⟨r_1, rfl, ?_⟩
  refine z_if_eq (tgt := 30) dX10_negation_6 (by decide) (fun c_2 => ?_) (fun c_2 => ?_)
  · have hyp := hyp.1 c_2
    refine z_aload_n dX10_negation_30 rfl ?_
    refine cl_X10_316 dX10_negation_31 rfl (sR_0 hE) (cR_0 hE) (Nat.le_of_ble_eq_true rfl) (zC_mono ?_ hyp)
    rintro _ h_3 ⟨rfl, hyp⟩
    refine ⟨rfl, ?_⟩
    refine z_aload_n dX10_negation_34 rfl ?_
    refine gf_X10_207 dX10_negation_35 rfl (sR_0 hE) (cR_0 hE) ?_
    refine z_if_ne (tgt := 86) dX10_negation_38 (by decide) (fun c_4 => ?_) (fun c_4 => ?_)
    · have hyp := hyp.1 c_4
      exact z_vret dX10_negation_86 rfl ⟨rfl, hyp⟩
    · have hyp := hyp.2 c_4
      refine z_aload_n dX10_negation_41 rfl ?_
      refine gf_X10_172 dX10_negation_42 rfl (sR_0 hE) (cR_0 hE) ?_
      refine z_iconst dX10_negation_45 (r32d rfl) ?_
      refine z_icmp_ne (tgt := 86) dX10_negation_46 (by decide) (fun c_5 => ?_) (fun c_5 => ?_)
      · have hyp := hyp.1 c_5
        exact z_vret dX10_negation_86 rfl ⟨rfl, hyp⟩
      · have hyp := hyp.2 c_5
        refine z_aload_n dX10_negation_49 rfl ?_
        refine gf_X10_182 dX10_negation_50 rfl (sR_0 hE) (cR_0 hE) ?_
        refine z_bipush dX10_negation_53 (r32d rfl) (by decide) ?_
        refine z_icmp_eq (tgt := 87) dX10_negation_55 (by decide) (fun c_6 => ?_) (fun c_6 => ?_)
        · have hyp := hyp.1 c_6
          exact hyp
        · have hyp := hyp.2 c_6
          refine z_aload_n dX10_negation_58 rfl ?_
          refine gf_X10_182 dX10_negation_59 rfl (sR_0 hE) (cR_0 hE) ?_
          refine z_bipush dX10_negation_62 (r32d rfl) (by decide) ?_
          refine z_icmp_eq (tgt := 87) dX10_negation_64 (by decide) (fun c_7 => ?_) (fun c_7 => ?_)
          · have hyp := hyp.1 c_7
            exact hyp
          · have hyp := hyp.2 c_7
            refine z_aload_n dX10_negation_67 rfl ?_
            refine gf_X10_182 dX10_negation_68 rfl (sR_0 hE) (cR_0 hE) ?_
            refine z_bipush dX10_negation_71 (r32d rfl) (by decide) ?_
            refine z_icmp_eq (tgt := 87) dX10_negation_73 (by decide) (fun c_8 => ?_) (fun c_8 => ?_)
            · have hyp := hyp.1 c_8
              exact hyp
            · have hyp := hyp.2 c_8
              refine z_aload_n dX10_negation_76 rfl ?_
              refine gf_X10_182 dX10_negation_77 rfl (sR_0 hE) (cR_0 hE) ?_
              refine z_sipush dX10_negation_80 (r32d rfl) (by decide) ?_
              refine z_icmp_ge (tgt := 87) dX10_negation_83 (by decide) (fun c_9 => ?_) (fun c_9 => ?_)
              · have hyp := hyp.1 c_9
                exact hyp
              · have hyp := hyp.2 c_9
                exact z_vret dX10_negation_86 rfl ⟨rfl, hyp⟩
  · have hyp := hyp.2 c_2
    refine z_aload_n dX10_negation_9 rfl ?_
    refine cl_X10_306 dX10_negation_10 rfl (sR_0 hE) (cR_0 hE) (Nat.le_of_ble_eq_true rfl) (zC_mono ?_ hyp)
    rintro _ h_10 ⟨rfl, hyp⟩
    refine ⟨rfl, ?_⟩
    refine z_aload_n dX10_negation_13 rfl ?_
    refine cl_X10_282 dX10_negation_14 rfl (sR_0 hE) (cR_0 hE) (Nat.le_of_ble_eq_true rfl) (zC_mono ?_ hyp)
    rintro _ h_11 ⟨rfl, hyp⟩
    refine ⟨rfl, ?_⟩
    refine z_aload_n dX10_negation_17 rfl ?_
    refine cl_X10_313 dX10_negation_18 rfl (sR_0 hE) (cR_0 hE) (Nat.le_of_ble_eq_true rfl) (zC_mono ?_ hyp)
    rintro _ h_12 ⟨rfl, hyp⟩
    refine ⟨rfl, ?_⟩
    refine z_aload_n dX10_negation_21 rfl ?_
    refine z_iconst dX10_negation_22 (r32d rfl) ?_
    refine z_sipush dX10_negation_23 (r32d rfl) (by decide) ?_
    refine cl_X10_309 dX10_negation_26 rfl (sR_0 hE) (cR_0 hE) (Nat.le_of_ble_eq_true rfl) (zC_mono ?_ hyp)
    rintro _ h_13 ⟨rfl, hyp⟩
    refine ⟨rfl, ?_⟩
    exact z_vret dX10_negation_29 rfl ⟨rfl, hyp⟩
set_option maxRecDepth 20000 in
theorem bX10_next_15 {E : zE} (hE : isR E) {d : Nat} {x1 x2 x3 : Int} {h : zH} {K : Int → zH → Prop} (hyp :
  (((h 0 24) ≤ x3 →
    K x1 h) ∧
  (¬ ((h 0 24) ≤ x3) →
    zCI E mX10_hasFit d [zR 0, zI x3] h (fun r_2 h_2 =>
      ((r_2 ≠ 0 →
        zCI E mX10_spanOf d [zR 0, zI x3, zI 1] h_2 (fun r_4 h_4 =>
          zCI E mX10_spanOf d [zR 0, zI x3, zI 0] h_4 (fun r_5 h_5 =>
            ∀ x_6 : Int, x_6 = w32 (r_4 - r_5) →
            ((x1 = (-1) →
              ∀ x_8 : Int, x_8 = w32 (x3 + 1) →
              zG E mX10_next (d + 1) 15 [zR 0, zI x3, zI x_6, zI x_8, zU] [] h_5 (qI K)) ∧
            (¬ (x1 = (-1)) →
              ((x2 < x_6 →
                ∀ x_10 : Int, x_10 = w32 (x3 + 1) →
                zG E mX10_next (d + 1) 15 [zR 0, zI x3, zI x_6, zI x_10, zU] [] h_5 (qI K)) ∧
              (¬ (x2 < x_6) →
                ∀ x_11 : Int, x_11 = w32 (x3 + 1) →
                zG E mX10_next (d + 1) 15 [zR 0, zI x1, zI x2, zI x_11, zU] [] h_5 (qI K)))))))) ∧
      (¬ (r_2 ≠ 0) →
        ∀ x_12 : Int, x_12 = w32 (x3 + 1) →
        zG E mX10_next (d + 1) 15 [zR 0, zI x1, zI x2, zI x_12, zU] [] h_2 (qI K))))))) :
  zG E mX10_next (d + 1) 15 [zR 0, zI x1, zI x2, zI x3, zU] [] h (qI K) := by
  refine z_iload_n dX10_next_15 rfl ?_
  refine z_aload_n dX10_next_16 rfl ?_
  refine gf_X10_340 dX10_next_17 rfl (sR_0 hE) (cR_0 hE) ?_
  refine z_icmp_ge (tgt := 74) dX10_next_20 (by decide) (fun c_1 => ?_) (fun c_1 => ?_)
  · have hyp := hyp.1 c_1
    refine z_iload_n dX10_next_74 rfl ?_
    exact z_iret dX10_next_75 rfl ⟨_, rfl, hyp⟩
  · have hyp := hyp.2 c_1
    refine z_aload_n dX10_next_23 rfl ?_
    refine z_iload_n dX10_next_24 rfl ?_
    refine cl_X10_443 dX10_next_25 rfl (sR_0 hE) (cR_0 hE) (Nat.le_of_ble_eq_true rfl) (zC_mono ?_ hyp)
    rintro _ h_2 ⟨r_2, rfl, hyp⟩
    refine ⟨r_2, rfl, ?_⟩
    refine z_if_ne (tgt := 34) dX10_next_28 (by decide) (fun c_3 => ?_) (fun c_3 => ?_)
    · have hyp := hyp.1 c_3
      refine z_aload_n dX10_next_34 rfl ?_
      refine z_iload_n dX10_next_35 rfl ?_
      refine z_iconst dX10_next_36 (r32d rfl) ?_
      refine cl_X10_455 dX10_next_37 rfl (sR_0 hE) (cR_0 hE) (Nat.le_of_ble_eq_true rfl) (zC_mono ?_ hyp)
      rintro _ h_4 ⟨r_4, rfl, hyp⟩
      refine ⟨r_4, rfl, ?_⟩
      refine z_aload_n dX10_next_40 rfl ?_
      refine z_iload_n dX10_next_41 rfl ?_
      refine z_iconst dX10_next_42 (r32d rfl) ?_
      refine cl_X10_455 dX10_next_43 rfl (sR_0 hE) (cR_0 hE) (Nat.le_of_ble_eq_true rfl) (zC_mono ?_ hyp)
      rintro _ h_5 ⟨r_5, rfl, hyp⟩
      refine ⟨r_5, rfl, ?_⟩
      refine z_isub dX10_next_46 ?_
      generalize ex_6 : w32 (r_4 - r_5) = x_6
      have hyp := hyp x_6 ex_6.symm
      refine z_istore dX10_next_47 (by decide) rfl ?_
      refine z_iload_n dX10_next_49 rfl ?_
      refine z_iconst dX10_next_50 (r32d rfl) ?_
      refine z_icmp_eq (tgt := 63) dX10_next_51 (by decide) (fun c_7 => ?_) (fun c_7 => ?_)
      · have hyp := hyp.1 c_7
        refine z_iload_n dX10_next_63 rfl ?_
        refine z_istore_n dX10_next_64 rfl (by decide) rfl ?_
        refine z_iload dX10_next_65 rfl ?_
        refine z_istore_n dX10_next_67 rfl (by decide) rfl ?_
        refine z_iinc dX10_next_68 rfl (by decide) rfl ?_
        generalize ex_8 : w32 (x3 + 1) = x_8
        have hyp := hyp x_8 ex_8.symm
        refine z_goto (tgt := 15) dX10_next_71 (by decide) ?_
        exact z_forget [true, true, true, true, false] rfl hyp
      · have hyp := hyp.2 c_7
        refine z_iload dX10_next_54 rfl ?_
        refine z_iload_n dX10_next_56 rfl ?_
        refine z_icmp_gt (tgt := 63) dX10_next_57 (by decide) (fun c_9 => ?_) (fun c_9 => ?_)
        · have hyp := hyp.1 c_9
          refine z_iload_n dX10_next_63 rfl ?_
          refine z_istore_n dX10_next_64 rfl (by decide) rfl ?_
          refine z_iload dX10_next_65 rfl ?_
          refine z_istore_n dX10_next_67 rfl (by decide) rfl ?_
          refine z_iinc dX10_next_68 rfl (by decide) rfl ?_
          generalize ex_10 : w32 (x3 + 1) = x_10
          have hyp := hyp x_10 ex_10.symm
          refine z_goto (tgt := 15) dX10_next_71 (by decide) ?_
          exact z_forget [true, true, true, true, false] rfl hyp
        · have hyp := hyp.2 c_9
          refine z_goto (tgt := 68) dX10_next_60 (by decide) ?_
          refine z_iinc dX10_next_68 rfl (by decide) rfl ?_
          generalize ex_11 : w32 (x3 + 1) = x_11
          have hyp := hyp x_11 ex_11.symm
          refine z_goto (tgt := 15) dX10_next_71 (by decide) ?_
          exact z_forget [true, true, true, true, false] rfl hyp
    · have hyp := hyp.2 c_3
      refine z_goto (tgt := 68) dX10_next_31 (by decide) ?_
      refine z_iinc dX10_next_68 rfl (by decide) rfl ?_
      generalize ex_12 : w32 (x3 + 1) = x_12
      have hyp := hyp x_12 ex_12.symm
      refine z_goto (tgt := 15) dX10_next_71 (by decide) ?_
      exact hyp
set_option maxRecDepth 20000 in
theorem eX10_next {E : zE} (hE : isR E) {d : Nat} {h : zH} {K : Int → zH → Prop} (hyp :
  ∀ h_1 : zH, h_1 = hset h 0 0 0 →
  zCV E mX10_laid d [zR 0] h_1 (fun h_2 =>
    zG E mX10_next (d + 1) 15 [zR 0, zI (-1), zI 0, zI 0, zU] [] h_2 (qI K))) :
  zCI E mX10_next (d + 1) [zR 0] h K := by
  refine zC_in (L0 := [zR 0, zU, zU, zU, zU]) pn_X10 rfl (Nat.le_of_ble_eq_true rfl) ?_
  refine z_aload_n dX10_next_0 rfl ?_
  refine z_iconst dX10_next_1 (r32d rfl) ?_
  refine pf_X10_153 dX10_next_2 rfl (sR_0 hE) (cR_0 hE) ?_
  generalize eh_1 : hset h 0 0 _ = h_1
  have hyp := hyp h_1 eh_1.symm
  refine z_aload_n dX10_next_5 rfl ?_
  refine cl_X10_440 dX10_next_6 rfl (sR_0 hE) (cR_0 hE) (Nat.le_of_ble_eq_true rfl) (zC_mono ?_ hyp)
  rintro _ h_2 ⟨rfl, hyp⟩
  refine ⟨rfl, ?_⟩
  refine z_iconst dX10_next_9 (r32d rfl) ?_
  refine z_istore_n dX10_next_10 rfl (by decide) rfl ?_
  refine z_iconst dX10_next_11 (r32d rfl) ?_
  refine z_istore_n dX10_next_12 rfl (by decide) rfl ?_
  refine z_iconst dX10_next_13 (r32d rfl) ?_
  refine z_istore_n dX10_next_14 rfl (by decide) rfl ?_
  exact hyp
set_option maxRecDepth 20000 in
theorem eX10_noted {E : zE} (hE : isR E) {d : Nat} {x1 x2 x3 x4 : Int} {h : zH} {K : Int → zH → Prop} (hyp :
  ((0 : Int) ≤ h 0 54 ∧ h 0 54 < (60 : Int)) ∧
  ∀ h_1 : zH, h_1 = hset h 22 ((h 0 54).toNat) x1 →
  ((0 : Int) ≤ h_1 0 54 ∧ h_1 0 54 < (60 : Int)) ∧
  ∀ h_2 : zH, h_2 = hset h_1 23 ((h_1 0 54).toNat) x2 →
  ((0 : Int) ≤ h_2 0 54 ∧ h_2 0 54 < (60 : Int)) ∧
  ∀ h_3 : zH, h_3 = hset h_2 24 ((h_2 0 54).toNat) x3 →
  ((0 : Int) ≤ h_3 0 54 ∧ h_3 0 54 < (60 : Int)) ∧
  ∀ h_4 : zH, h_4 = hset h_3 25 ((h_3 0 54).toNat) x4 →
  ∀ h_5 : zH, h_5 = hset h_4 0 54 (w32 ((h_4 0 54) + 1)) →
  ∀ h_6 : zH, h_6 = hset h_5 0 74 0 →
  K (w32 ((h_6 0 54) - 1)) h_6) :
  zCI E mX10_noted d [zR 0, zI x1, zI x2, zI x3, zI x4] h K := by
  refine zC_in (L0 := [zR 0, zI x1, zI x2, zI x3, zI x4]) pn_X10 rfl (Nat.le_of_ble_eq_true rfl) ?_
  refine z_aload_n dX10_noted_0 rfl ?_
  refine gf_X10_92 (c2 := 22) dX10_noted_1 rfl (sR_0 hE) (cR_0 hE) rfl ?_
  refine z_aload_n dX10_noted_4 rfl ?_
  refine gf_X10_355 dX10_noted_5 rfl (sR_0 hE) (cR_0 hE) ?_
  refine z_iload_n dX10_noted_8 rfl ?_
  obtain ⟨⟨hi0, hi1⟩, hyp⟩ := hyp
  refine z_iastore dX10_noted_9 (sR_22 hE) (cR_22 hE) hi0 hi1 ?_
  generalize eh_1 : hset h 22 _ x1 = h_1
  have hyp := hyp h_1 eh_1.symm
  refine z_aload_n dX10_noted_10 rfl ?_
  refine gf_X10_95 (c2 := 23) dX10_noted_11 rfl (sR_0 hE) (cR_0 hE) rfl ?_
  refine z_aload_n dX10_noted_14 rfl ?_
  refine gf_X10_355 dX10_noted_15 rfl (sR_0 hE) (cR_0 hE) ?_
  refine z_iload_n dX10_noted_18 rfl ?_
  obtain ⟨⟨hi0, hi1⟩, hyp⟩ := hyp
  refine z_iastore dX10_noted_19 (sR_23 hE) (cR_23 hE) hi0 hi1 ?_
  generalize eh_2 : hset h_1 23 _ x2 = h_2
  have hyp := hyp h_2 eh_2.symm
  refine z_aload_n dX10_noted_20 rfl ?_
  refine gf_X10_98 (c2 := 24) dX10_noted_21 rfl (sR_0 hE) (cR_0 hE) rfl ?_
  refine z_aload_n dX10_noted_24 rfl ?_
  refine gf_X10_355 dX10_noted_25 rfl (sR_0 hE) (cR_0 hE) ?_
  refine z_iload_n dX10_noted_28 rfl ?_
  obtain ⟨⟨hi0, hi1⟩, hyp⟩ := hyp
  refine z_iastore dX10_noted_29 (sR_24 hE) (cR_24 hE) hi0 hi1 ?_
  generalize eh_3 : hset h_2 24 _ x3 = h_3
  have hyp := hyp h_3 eh_3.symm
  refine z_aload_n dX10_noted_30 rfl ?_
  refine gf_X10_101 (c2 := 25) dX10_noted_31 rfl (sR_0 hE) (cR_0 hE) rfl ?_
  refine z_aload_n dX10_noted_34 rfl ?_
  refine gf_X10_355 dX10_noted_35 rfl (sR_0 hE) (cR_0 hE) ?_
  refine z_iload dX10_noted_38 rfl ?_
  obtain ⟨⟨hi0, hi1⟩, hyp⟩ := hyp
  refine z_iastore dX10_noted_40 (sR_25 hE) (cR_25 hE) hi0 hi1 ?_
  generalize eh_4 : hset h_3 25 _ x4 = h_4
  have hyp := hyp h_4 eh_4.symm
  refine z_aload_n dX10_noted_41 rfl ?_
  refine z_dup dX10_noted_42 rfl ?_
  refine gf_X10_355 dX10_noted_43 rfl (sR_0 hE) (cR_0 hE) ?_
  refine z_iconst dX10_noted_46 (r32d rfl) ?_
  refine z_iadd dX10_noted_47 ?_
  refine pf_X10_355 dX10_noted_48 rfl (sR_0 hE) (cR_0 hE) ?_
  generalize eh_5 : hset h_4 0 54 _ = h_5
  have hyp := hyp h_5 eh_5.symm
  refine z_aload_n dX10_noted_51 rfl ?_
  refine z_iconst dX10_noted_52 (r32d rfl) ?_
  refine pf_X10_358 dX10_noted_53 rfl (sR_0 hE) (cR_0 hE) (Or.inl rfl) ?_
  generalize eh_6 : hset h_5 0 74 _ = h_6
  have hyp := hyp h_6 eh_6.symm
  refine z_aload_n dX10_noted_56 rfl ?_
  refine gf_X10_355 dX10_noted_57 rfl (sR_0 hE) (cR_0 hE) ?_
  refine z_iconst dX10_noted_60 (r32d rfl) ?_
  refine z_isub dX10_noted_61 ?_
  exact z_iret dX10_noted_62 rfl ⟨_, rfl, hyp⟩
set_option maxRecDepth 20000 in
theorem bX10_numeral_46 {E : zE} (hE : isR E) {d : Nat} {x1 : Int} {h : zH} {K : Int → zH → Prop} (hyp :
  (((h 0 49) = 0 →
    ∀ x_2 : Int, x_2 = h 0 48 →
    zCV E mX10_token d [zR 0] h (fun h_3 =>
      K x_2 h_3)) ∧
  (¬ ((h 0 49) = 0) →
    K x1 h))) :
  zG E mX10_numeral (d + 1) 46 [zR 0, zI x1, zU, zU] [] h (qI K) := by
  refine z_aload_n dX10_numeral_46 rfl ?_
  refine gf_X10_207 dX10_numeral_47 rfl (sR_0 hE) (cR_0 hE) ?_
  refine z_if_eq (tgt := 55) dX10_numeral_50 (by decide) (fun c_1 => ?_) (fun c_1 => ?_)
  · have hyp := hyp.1 c_1
    refine z_aload_n dX10_numeral_55 rfl ?_
    refine gf_X10_182 dX10_numeral_56 rfl (sR_0 hE) (cR_0 hE) ?_
    generalize ex_2 : h 0 48 = x_2
    have hyp := hyp x_2 ex_2.symm
    refine z_istore_n dX10_numeral_59 rfl (by decide) rfl ?_
    refine z_aload_n dX10_numeral_60 rfl ?_
    refine cl_X10_213 dX10_numeral_61 rfl (sR_0 hE) (cR_0 hE) (Nat.le_of_ble_eq_true rfl) (zC_mono ?_ hyp)
    rintro _ h_3 ⟨rfl, hyp⟩
    refine ⟨rfl, ?_⟩
    refine z_iload_n dX10_numeral_64 rfl ?_
    exact z_iret dX10_numeral_65 rfl ⟨_, rfl, hyp⟩
  · have hyp := hyp.2 c_1
    refine z_iload_n dX10_numeral_53 rfl ?_
    exact z_iret dX10_numeral_54 rfl ⟨_, rfl, hyp⟩
set_option maxRecDepth 20000 in
theorem eX10_numeral {E : zE} (hE : isR E) {d : Nat} {x1 x2 : Int} {h : zH} {K : Int → zH → Prop} (hyp :
  (((h 0 49) = 0 →
    (((h 0 47) = 2 →
      (((h 0 48) < x1 →
        zCV E mX10_wrong d [zR 0, zI 2] h (fun h_4 =>
          zG E mX10_numeral (d + 1) 46 [zR 0, zI x1, zU, zU] [] h_4 (qI K))) ∧
      (¬ ((h 0 48) < x1) →
        (((h 0 48) ≤ x2 →
          zG E mX10_numeral (d + 1) 46 [zR 0, zI x1, zU, zU] [] h (qI K)) ∧
        (¬ ((h 0 48) ≤ x2) →
          zCV E mX10_wrong d [zR 0, zI 2] h (fun h_6 =>
            zG E mX10_numeral (d + 1) 46 [zR 0, zI x1, zU, zU] [] h_6 (qI K))))))) ∧
    (¬ ((h 0 47) = 2) →
      zCV E mX10_wrong d [zR 0, zI 1] h (fun h_7 =>
        zG E mX10_numeral (d + 1) 46 [zR 0, zI x1, zU, zU] [] h_7 (qI K))))) ∧
  (¬ ((h 0 49) = 0) →
    K x1 h))) :
  zCI E mX10_numeral (d + 1) [zR 0, zI x1, zI x2] h K := by
  refine zC_in (L0 := [zR 0, zI x1, zI x2, zU]) pn_X10 rfl (Nat.le_of_ble_eq_true rfl) ?_
  refine z_aload_n dX10_numeral_0 rfl ?_
  refine gf_X10_207 dX10_numeral_1 rfl (sR_0 hE) (cR_0 hE) ?_
  refine z_if_eq (tgt := 9) dX10_numeral_4 (by decide) (fun c_1 => ?_) (fun c_1 => ?_)
  · have hyp := hyp.1 c_1
    refine z_aload_n dX10_numeral_9 rfl ?_
    refine gf_X10_172 dX10_numeral_10 rfl (sR_0 hE) (cR_0 hE) ?_
    refine z_iconst dX10_numeral_13 (r32d rfl) ?_
    refine z_icmp_eq (tgt := 25) dX10_numeral_14 (by decide) (fun c_2 => ?_) (fun c_2 => ?_)
    · have hyp := hyp.1 c_2
      refine z_aload_n dX10_numeral_25 rfl ?_
      refine gf_X10_182 dX10_numeral_26 rfl (sR_0 hE) (cR_0 hE) ?_
      refine z_iload_n dX10_numeral_29 rfl ?_
      refine z_icmp_lt (tgt := 41) dX10_numeral_30 (by decide) (fun c_3 => ?_) (fun c_3 => ?_)
      · have hyp := hyp.1 c_3
        refine z_aload_n dX10_numeral_41 rfl ?_
        refine z_iconst dX10_numeral_42 (r32d rfl) ?_
        refine cl_X10_216 dX10_numeral_43 rfl (sR_0 hE) (cR_0 hE) (Nat.le_of_ble_eq_true rfl) (zC_mono ?_ hyp)
        rintro _ h_4 ⟨rfl, hyp⟩
        refine ⟨rfl, ?_⟩
        exact z_forget [true, true, false, false] rfl hyp
      · have hyp := hyp.2 c_3
        refine z_aload_n dX10_numeral_33 rfl ?_
        refine gf_X10_182 dX10_numeral_34 rfl (sR_0 hE) (cR_0 hE) ?_
        refine z_iload_n dX10_numeral_37 rfl ?_
        refine z_icmp_le (tgt := 46) dX10_numeral_38 (by decide) (fun c_5 => ?_) (fun c_5 => ?_)
        · have hyp := hyp.1 c_5
          exact z_forget [true, true, false, false] rfl hyp
        · have hyp := hyp.2 c_5
          refine z_aload_n dX10_numeral_41 rfl ?_
          refine z_iconst dX10_numeral_42 (r32d rfl) ?_
          refine cl_X10_216 dX10_numeral_43 rfl (sR_0 hE) (cR_0 hE) (Nat.le_of_ble_eq_true rfl) (zC_mono ?_ hyp)
          rintro _ h_6 ⟨rfl, hyp⟩
          refine ⟨rfl, ?_⟩
          exact z_forget [true, true, false, false] rfl hyp
    · have hyp := hyp.2 c_2
      refine z_aload_n dX10_numeral_17 rfl ?_
      refine z_iconst dX10_numeral_18 (r32d rfl) ?_
      refine cl_X10_216 dX10_numeral_19 rfl (sR_0 hE) (cR_0 hE) (Nat.le_of_ble_eq_true rfl) (zC_mono ?_ hyp)
      rintro _ h_7 ⟨rfl, hyp⟩
      refine ⟨rfl, ?_⟩
      refine z_goto (tgt := 46) dX10_numeral_22 (by decide) ?_
      exact z_forget [true, true, false, false] rfl hyp
  · have hyp := hyp.2 c_1
    refine z_iload_n dX10_numeral_7 rfl ?_
    exact z_iret dX10_numeral_8 rfl ⟨_, rfl, hyp⟩
set_option maxRecDepth 20000 in
theorem bX10_odds_47 {E : zE} (hE : isR E) {d : Nat} {x1 x2 x3 x4 : Int} {h : zH} {K : Int → zH → Prop} (hyp :
  ((8 < x4 →
    zG E mX10_odds (d + 1) 82 [zR 0, zI x1, zI x2, zI x3, zI 0, zU, zU, zU] [] h (qI K)) ∧
  (¬ (8 < x4) →
    ((x4 ≠ 0 →
      ((0 : Int) ≤ x4 ∧ x4 < (9 : Int)) ∧
      ∀ h_3 : zH, h_3 = hset h 40 (x4.toNat) 0 →
      ∀ x_4 : Int, x_4 = w32 (x4 + 1) →
      zG E mX10_odds (d + 1) 47 [zR 0, zI x1, zI x2, zI x3, zI x_4, zU, zU, zU] [] h_3 (qI K)) ∧
    (¬ (x4 ≠ 0) →
      ((0 : Int) ≤ x4 ∧ x4 < (9 : Int)) ∧
      ∀ h_5 : zH, h_5 = hset h 40 (x4.toNat) 1000000000 →
      ∀ x_6 : Int, x_6 = w32 (x4 + 1) →
      zG E mX10_odds (d + 1) 47 [zR 0, zI x1, zI x2, zI x3, zI x_6, zU, zU, zU] [] h_5 (qI K)))))) :
  zG E mX10_odds (d + 1) 47 [zR 0, zI x1, zI x2, zI x3, zI x4, zU, zU, zU] [] h (qI K) := by
  refine z_iload dX10_odds_47 rfl ?_
  refine z_bipush dX10_odds_49 (r32d rfl) (by decide) ?_
  refine z_icmp_gt (tgt := 79) dX10_odds_51 (by decide) (fun c_1 => ?_) (fun c_1 => ?_)
  · have hyp := hyp.1 c_1
    refine z_iconst dX10_odds_79 (r32d rfl) ?_
    refine z_istore dX10_odds_80 (by decide) rfl ?_
    exact hyp
  · have hyp := hyp.2 c_1
    refine z_aload_n dX10_odds_54 rfl ?_
    refine gf_X10_147 (c2 := 40) dX10_odds_55 rfl (sR_0 hE) (cR_0 hE) rfl ?_
    refine z_iload dX10_odds_58 rfl ?_
    refine z_iload dX10_odds_60 rfl ?_
    refine z_if_ne (tgt := 71) dX10_odds_62 (by decide) (fun c_2 => ?_) (fun c_2 => ?_)
    · have hyp := hyp.1 c_2
      refine z_iconst dX10_odds_71 (r32d rfl) ?_
      obtain ⟨⟨hi0, hi1⟩, hyp⟩ := hyp
      refine z_iastore dX10_odds_72 (sR_40 hE) (cR_40 hE) hi0 hi1 ?_
      generalize eh_3 : hset h 40 _ 0 = h_3
      have hyp := hyp h_3 eh_3.symm
      refine z_iinc dX10_odds_73 rfl (by decide) rfl ?_
      generalize ex_4 : w32 (x4 + 1) = x_4
      have hyp := hyp x_4 ex_4.symm
      refine z_goto (tgt := 47) dX10_odds_76 (by decide) ?_
      exact hyp
    · have hyp := hyp.2 c_2
      refine z_ldcw (x := 1000000000) dX10_odds_65 rfl wk_X10_510 (by decide) (r32d rfl) ?_
      refine z_goto (tgt := 72) dX10_odds_68 (by decide) ?_
      obtain ⟨⟨hi0, hi1⟩, hyp⟩ := hyp
      refine z_iastore dX10_odds_72 (sR_40 hE) (cR_40 hE) hi0 hi1 ?_
      generalize eh_5 : hset h 40 _ 1000000000 = h_5
      have hyp := hyp h_5 eh_5.symm
      refine z_iinc dX10_odds_73 rfl (by decide) rfl ?_
      generalize ex_6 : w32 (x4 + 1) = x_6
      have hyp := hyp x_6 ex_6.symm
      refine z_goto (tgt := 47) dX10_odds_76 (by decide) ?_
      exact hyp
set_option maxRecDepth 20000 in
theorem bX10_odds_82 {E : zE} (hE : isR E) {d : Nat} {x1 x2 x3 x4 : Int} {h : zH} {K : Int → zH → Prop} (hyp :
  (((h 0 24) ≤ x4 →
    zG E mX10_odds (d + 1) 243 [zR 0, zU, zU, zU, zI 0, zI x2, zU, zU] [] h (qI K)) ∧
  (¬ ((h 0 24) ≤ x4) →
    zCI E mX10_hasFit d [zR 0, zI x4] h (fun r_2 h_2 =>
      ((r_2 ≠ 0 →
        zCI E mX10_sizeOf d [zR 0, zI x4] h_2 (fun r_4 h_4 =>
          zCI E mX10_sizeOf d [zR 0, zI x4] h_4 (fun r_5 h_5 =>
            ¬ x3 = 0 ∧
            ∀ x_6 : Int, x_6 = w32 (r_4 - (w32 (Int.tmod r_5 x3))) →
            zG E mX10_odds (d + 1) 126 [zR 0, zI x1, zI x2, zI x3, zI x4, zI x_6, zI 0, zI 0] [] h_5 (qI K)))) ∧
      (¬ (r_2 ≠ 0) →
        ∀ x_7 : Int, x_7 = w32 (x4 + 1) →
        zG E mX10_odds (d + 1) 82 [zR 0, zI x1, zI x2, zI x3, zI x_7, zU, zU, zU] [] h_2 (qI K))))))) :
  zG E mX10_odds (d + 1) 82 [zR 0, zI x1, zI x2, zI x3, zI x4, zU, zU, zU] [] h (qI K) := by
  refine z_iload dX10_odds_82 rfl ?_
  refine z_aload_n dX10_odds_84 rfl ?_
  refine gf_X10_340 dX10_odds_85 rfl (sR_0 hE) (cR_0 hE) ?_
  refine z_icmp_ge (tgt := 237) dX10_odds_88 (by decide) (fun c_1 => ?_) (fun c_1 => ?_)
  · have hyp := hyp.1 c_1
    refine z_iconst dX10_odds_237 (r32d rfl) ?_
    refine z_istore dX10_odds_238 (by decide) rfl ?_
    refine z_iload_n dX10_odds_240 rfl ?_
    refine z_istore dX10_odds_241 (by decide) rfl ?_
    exact z_forget [true, false, false, false, true, true, false, false] rfl hyp
  · have hyp := hyp.2 c_1
    refine z_aload_n dX10_odds_91 rfl ?_
    refine z_iload dX10_odds_92 rfl ?_
    refine cl_X10_443 dX10_odds_94 rfl (sR_0 hE) (cR_0 hE) (Nat.le_of_ble_eq_true rfl) (zC_mono ?_ hyp)
    rintro _ h_2 ⟨r_2, rfl, hyp⟩
    refine ⟨r_2, rfl, ?_⟩
    refine z_if_ne (tgt := 103) dX10_odds_97 (by decide) (fun c_3 => ?_) (fun c_3 => ?_)
    · have hyp := hyp.1 c_3
      refine z_aload_n dX10_odds_103 rfl ?_
      refine z_iload dX10_odds_104 rfl ?_
      refine cl_X10_446 dX10_odds_106 rfl (sR_0 hE) (cR_0 hE) (Nat.le_of_ble_eq_true rfl) (zC_mono ?_ hyp)
      rintro _ h_4 ⟨r_4, rfl, hyp⟩
      refine ⟨r_4, rfl, ?_⟩
      refine z_aload_n dX10_odds_109 rfl ?_
      refine z_iload dX10_odds_110 rfl ?_
      refine cl_X10_446 dX10_odds_112 rfl (sR_0 hE) (cR_0 hE) (Nat.le_of_ble_eq_true rfl) (zC_mono ?_ hyp)
      rintro _ h_5 ⟨r_5, rfl, hyp⟩
      refine ⟨r_5, rfl, ?_⟩
      refine z_iload_n dX10_odds_115 rfl ?_
      obtain ⟨hz, hyp⟩ := hyp
      refine z_irem hz dX10_odds_116 ?_
      refine z_isub dX10_odds_117 ?_
      generalize ex_6 : w32 (r_4 - (w32 (Int.tmod r_5 x3))) = x_6
      have hyp := hyp x_6 ex_6.symm
      refine z_istore dX10_odds_118 (by decide) rfl ?_
      refine z_iconst dX10_odds_120 (r32d rfl) ?_
      refine z_istore dX10_odds_121 (by decide) rfl ?_
      refine z_iconst dX10_odds_123 (r32d rfl) ?_
      refine z_istore dX10_odds_124 (by decide) rfl ?_
      exact hyp
    · have hyp := hyp.2 c_3
      refine z_goto (tgt := 231) dX10_odds_100 (by decide) ?_
      refine z_iinc dX10_odds_231 rfl (by decide) rfl ?_
      generalize ex_7 : w32 (x4 + 1) = x_7
      have hyp := hyp x_7 ex_7.symm
      refine z_goto (tgt := 82) dX10_odds_234 (by decide) ?_
      exact hyp
set_option maxRecDepth 20000 in
theorem bX10_odds_126 {E : zE} (hE : isR E) {d : Nat} {x1 x2 x3 x4 x5 x6 x7 : Int} {h : zH} {K : Int → zH → Prop} (hyp :
  ((x3 ≤ x7 →
    zG E mX10_odds (d + 1) 167 [zR 0, zI x1, zI x2, zI x3, zI x4, zU, zI x6, zI 8] [] h (qI K)) ∧
  (¬ (x3 ≤ x7) →
    zCI E mX10_isNear d [zR 0, zI x4, zI (w32 (x5 + x7)), zI x1] h (fun r_2 h_2 =>
      ((r_2 = 0 →
        ∀ x_4 : Int, x_4 = w32 (x6 + 0) →
        ∀ x_5 : Int, x_5 = w32 (x7 + 1) →
        zG E mX10_odds (d + 1) 126 [zR 0, zI x1, zI x2, zI x3, zI x4, zI x5, zI x_4, zI x_5] [] h_2 (qI K)) ∧
      (¬ (r_2 = 0) →
        ∀ x_6 : Int, x_6 = w32 (x6 + 1) →
        ∀ x_7 : Int, x_7 = w32 (x7 + 1) →
        zG E mX10_odds (d + 1) 126 [zR 0, zI x1, zI x2, zI x3, zI x4, zI x5, zI x_6, zI x_7] [] h_2 (qI K))))))) :
  zG E mX10_odds (d + 1) 126 [zR 0, zI x1, zI x2, zI x3, zI x4, zI x5, zI x6, zI x7] [] h (qI K) := by
  refine z_iload dX10_odds_126 rfl ?_
  refine z_iload_n dX10_odds_128 rfl ?_
  refine z_icmp_ge (tgt := 163) dX10_odds_129 (by decide) (fun c_1 => ?_) (fun c_1 => ?_)
  · have hyp := hyp.1 c_1
    refine z_bipush dX10_odds_163 (r32d rfl) (by decide) ?_
    refine z_istore dX10_odds_165 (by decide) rfl ?_
    exact z_forget [true, true, true, true, true, false, true, true] rfl hyp
  · have hyp := hyp.2 c_1
    refine z_iload dX10_odds_132 rfl ?_
    refine z_aload_n dX10_odds_134 rfl ?_
    refine z_iload dX10_odds_135 rfl ?_
    refine z_iload dX10_odds_137 rfl ?_
    refine z_iload dX10_odds_139 rfl ?_
    refine z_iadd dX10_odds_141 ?_
    refine z_iload_n dX10_odds_142 rfl ?_
    refine cl_X10_489 dX10_odds_143 rfl (sR_0 hE) (cR_0 hE) (Nat.le_of_ble_eq_true rfl) (zC_mono ?_ hyp)
    rintro _ h_2 ⟨r_2, rfl, hyp⟩
    refine ⟨r_2, rfl, ?_⟩
    refine z_if_eq (tgt := 153) dX10_odds_146 (by decide) (fun c_3 => ?_) (fun c_3 => ?_)
    · have hyp := hyp.1 c_3
      refine z_iconst dX10_odds_153 (r32d rfl) ?_
      refine z_iadd dX10_odds_154 ?_
      generalize ex_4 : w32 (x6 + 0) = x_4
      have hyp := hyp x_4 ex_4.symm
      refine z_istore dX10_odds_155 (by decide) rfl ?_
      refine z_iinc dX10_odds_157 rfl (by decide) rfl ?_
      generalize ex_5 : w32 (x7 + 1) = x_5
      have hyp := hyp x_5 ex_5.symm
      refine z_goto (tgt := 126) dX10_odds_160 (by decide) ?_
      exact hyp
    · have hyp := hyp.2 c_3
      refine z_iconst dX10_odds_149 (r32d rfl) ?_
      refine z_goto (tgt := 154) dX10_odds_150 (by decide) ?_
      refine z_iadd dX10_odds_154 ?_
      generalize ex_6 : w32 (x6 + 1) = x_6
      have hyp := hyp x_6 ex_6.symm
      refine z_istore dX10_odds_155 (by decide) rfl ?_
      refine z_iinc dX10_odds_157 rfl (by decide) rfl ?_
      generalize ex_7 : w32 (x7 + 1) = x_7
      have hyp := hyp x_7 ex_7.symm
      refine z_goto (tgt := 126) dX10_odds_160 (by decide) ?_
      exact hyp
set_option maxRecDepth 20000 in
theorem bX10_odds_167 {E : zE} (hE : isR E) {d : Nat} {x1 x2 x3 x4 x6 x7 : Int} {h : zH} {K : Int → zH → Prop} (hyp :
  ((x7 < 0 →
    ∀ x_2 : Int, x_2 = w32 (x4 + 1) →
    zG E mX10_odds (d + 1) 82 [zR 0, zI x1, zI x2, zI x3, zI x_2, zU, zU, zU] [] h (qI K)) ∧
  (¬ (x7 < 0) →
    ((0 : Int) ≤ x7 ∧ x7 < (9 : Int)) ∧
    ¬ x3 = 0 ∧
    ((x7 ≤ 0 →
      ((0 : Int) ≤ x7 ∧ x7 < (9 : Int)) ∧
      ∀ h_4 : zH, h_4 = hset h 40 (x7.toNat) (w32 ((w32 (w64 (Int.tdiv (w64 ((h 40 x7.toNat) * (w32 (x3 - x6)))) x3))) + 0)) →
      ∀ x_5 : Int, x_5 = w32 (x7 + (-1)) →
      zG E mX10_odds (d + 1) 167 [zR 0, zI x1, zI x2, zI x3, zI x4, zU, zI x6, zI x_5] [] h_4 (qI K)) ∧
    (¬ (x7 ≤ 0) →
      ((0 : Int) ≤ w32 (x7 - 1) ∧ w32 (x7 - 1) < (9 : Int)) ∧
      ¬ x3 = 0 ∧
      ((0 : Int) ≤ x7 ∧ x7 < (9 : Int)) ∧
      ∀ h_6 : zH, h_6 = hset h 40 (x7.toNat) (w32 ((w32 (w64 (Int.tdiv (w64 ((h 40 x7.toNat) * (w32 (x3 - x6)))) x3))) + (w32 (w64 (Int.tdiv (w64 ((h 40 (w32 (x7 - 1)).toNat) * x6)) x3))))) →
      ∀ x_7 : Int, x_7 = w32 (x7 + (-1)) →
      zG E mX10_odds (d + 1) 167 [zR 0, zI x1, zI x2, zI x3, zI x4, zU, zI x6, zI x_7] [] h_6 (qI K)))))) :
  zG E mX10_odds (d + 1) 167 [zR 0, zI x1, zI x2, zI x3, zI x4, zU, zI x6, zI x7] [] h (qI K) := by
  refine z_iload dX10_odds_167 rfl ?_
  refine z_if_lt (tgt := 231) dX10_odds_169 (by decide) (fun c_1 => ?_) (fun c_1 => ?_)
  · have hyp := hyp.1 c_1
    refine z_iinc dX10_odds_231 rfl (by decide) rfl ?_
    generalize ex_2 : w32 (x4 + 1) = x_2
    have hyp := hyp x_2 ex_2.symm
    refine z_goto (tgt := 82) dX10_odds_234 (by decide) ?_
    exact z_forget [true, true, true, true, true, false, false, false] rfl hyp
  · have hyp := hyp.2 c_1
    refine z_aload_n dX10_odds_172 rfl ?_
    refine gf_X10_147 (c2 := 40) dX10_odds_173 rfl (sR_0 hE) (cR_0 hE) rfl ?_
    refine z_iload dX10_odds_176 rfl ?_
    refine z_aload_n dX10_odds_178 rfl ?_
    refine gf_X10_147 (c2 := 40) dX10_odds_179 rfl (sR_0 hE) (cR_0 hE) rfl ?_
    refine z_iload dX10_odds_182 rfl ?_
    obtain ⟨⟨hi0, hi1⟩, hyp⟩ := hyp
    refine z_iaload dX10_odds_184 (sR_40 hE) (cR_40 hE) hi0 hi1 ?_
    refine z_i2l dX10_odds_185 ?_
    refine z_iload_n dX10_odds_186 rfl ?_
    refine z_iload dX10_odds_187 rfl ?_
    refine z_isub dX10_odds_189 ?_
    refine z_i2l dX10_odds_190 ?_
    refine z_lmul dX10_odds_191 ?_
    refine z_iload_n dX10_odds_192 rfl ?_
    refine z_i2l dX10_odds_193 ?_
    obtain ⟨hz, hyp⟩ := hyp
    refine z_ldiv hz dX10_odds_194 ?_
    refine z_l2i dX10_odds_195 ?_
    refine z_iload dX10_odds_196 rfl ?_
    refine z_if_le (tgt := 222) dX10_odds_198 (by decide) (fun c_3 => ?_) (fun c_3 => ?_)
    · have hyp := hyp.1 c_3
      refine z_iconst dX10_odds_222 (r32d rfl) ?_
      refine z_iadd dX10_odds_223 ?_
      obtain ⟨⟨hi0, hi1⟩, hyp⟩ := hyp
      refine z_iastore dX10_odds_224 (sR_40 hE) (cR_40 hE) hi0 hi1 ?_
      generalize eh_4 : hset h 40 _ (w32 ((w32 (w64 (Int.tdiv (w64 ((h 40 x7.toNat) * (w32 (x3 - x6)))) x3))) + 0)) = h_4
      have hyp := hyp h_4 eh_4.symm
      refine z_iinc dX10_odds_225 rfl (by decide) rfl ?_
      generalize ex_5 : w32 (x7 + (-1)) = x_5
      have hyp := hyp x_5 ex_5.symm
      refine z_goto (tgt := 167) dX10_odds_228 (by decide) ?_
      exact hyp
    · have hyp := hyp.2 c_3
      refine z_aload_n dX10_odds_201 rfl ?_
      refine gf_X10_147 (c2 := 40) dX10_odds_202 rfl (sR_0 hE) (cR_0 hE) rfl ?_
      refine z_iload dX10_odds_205 rfl ?_
      refine z_iconst dX10_odds_207 (r32d rfl) ?_
      refine z_isub dX10_odds_208 ?_
      obtain ⟨⟨hi0, hi1⟩, hyp⟩ := hyp
      refine z_iaload dX10_odds_209 (sR_40 hE) (cR_40 hE) hi0 hi1 ?_
      refine z_i2l dX10_odds_210 ?_
      refine z_iload dX10_odds_211 rfl ?_
      refine z_i2l dX10_odds_213 ?_
      refine z_lmul dX10_odds_214 ?_
      refine z_iload_n dX10_odds_215 rfl ?_
      refine z_i2l dX10_odds_216 ?_
      obtain ⟨hz, hyp⟩ := hyp
      refine z_ldiv hz dX10_odds_217 ?_
      refine z_l2i dX10_odds_218 ?_
      refine z_goto (tgt := 223) dX10_odds_219 (by decide) ?_
      refine z_iadd dX10_odds_223 ?_
      obtain ⟨⟨hi0, hi1⟩, hyp⟩ := hyp
      refine z_iastore dX10_odds_224 (sR_40 hE) (cR_40 hE) hi0 hi1 ?_
      generalize eh_6 : hset h 40 _ (w32 ((w32 (w64 (Int.tdiv (w64 ((h 40 x7.toNat) * (w32 (x3 - x6)))) x3))) + (w32 (w64 (Int.tdiv (w64 ((h 40 (w32 (x7 - 1)).toNat) * x6)) x3))))) = h_6
      have hyp := hyp h_6 eh_6.symm
      refine z_iinc dX10_odds_225 rfl (by decide) rfl ?_
      generalize ex_7 : w32 (x7 + (-1)) = x_7
      have hyp := hyp x_7 ex_7.symm
      refine z_goto (tgt := 167) dX10_odds_228 (by decide) ?_
      exact hyp
set_option maxRecDepth 20000 in
theorem bX10_odds_243 {E : zE} (hE : isR E) {d : Nat} {x4 x5 : Int} {h : zH} {K : Int → zH → Prop} (hyp :
  ((8 < x5 →
    K x4 h) ∧
  (¬ (8 < x5) →
    ((0 : Int) ≤ x5 ∧ x5 < (9 : Int)) ∧
    ∀ x_2 : Int, x_2 = w32 (x4 + (h 40 x5.toNat)) →
    ∀ x_3 : Int, x_3 = w32 (x5 + 1) →
    zG E mX10_odds (d + 1) 243 [zR 0, zU, zU, zU, zI x_2, zI x_3, zU, zU] [] h (qI K)))) :
  zG E mX10_odds (d + 1) 243 [zR 0, zU, zU, zU, zI x4, zI x5, zU, zU] [] h (qI K) := by
  refine z_iload dX10_odds_243 rfl ?_
  refine z_bipush dX10_odds_245 (r32d rfl) (by decide) ?_
  refine z_icmp_gt (tgt := 268) dX10_odds_247 (by decide) (fun c_1 => ?_) (fun c_1 => ?_)
  · have hyp := hyp.1 c_1
    refine z_iload dX10_odds_268 rfl ?_
    exact z_iret dX10_odds_270 rfl ⟨_, rfl, hyp⟩
  · have hyp := hyp.2 c_1
    refine z_iload dX10_odds_250 rfl ?_
    refine z_aload_n dX10_odds_252 rfl ?_
    refine gf_X10_147 (c2 := 40) dX10_odds_253 rfl (sR_0 hE) (cR_0 hE) rfl ?_
    refine z_iload dX10_odds_256 rfl ?_
    obtain ⟨⟨hi0, hi1⟩, hyp⟩ := hyp
    refine z_iaload dX10_odds_258 (sR_40 hE) (cR_40 hE) hi0 hi1 ?_
    refine z_iadd dX10_odds_259 ?_
    generalize ex_2 : w32 (x4 + (h 40 x5.toNat)) = x_2
    have hyp := hyp x_2 ex_2.symm
    refine z_istore dX10_odds_260 (by decide) rfl ?_
    refine z_iinc dX10_odds_262 rfl (by decide) rfl ?_
    generalize ex_3 : w32 (x5 + 1) = x_3
    have hyp := hyp x_3 ex_3.symm
    refine z_goto (tgt := 243) dX10_odds_265 (by decide) ?_
    exact hyp
set_option maxRecDepth 20000 in
theorem eX10_odds {E : zE} (hE : isR E) {d : Nat} {x1 x2 : Int} {h : zH} {K : Int → zH → Prop} (hyp :
  ∀ h_1 : zH, h_1 = hset h 0 0 0 →
  zCI E mX10_isUnit d [zI x1] h_1 (fun r_2 h_2 =>
    ((r_2 = 0 →
      K (-1) h_2) ∧
    (¬ (r_2 = 0) →
      ((0 ≤ x2 →
        zCV E mX10_laid d [zR 0] h_2 (fun h_5 =>
          zCV E mX10_reckon d [zR 0, zI (-1), zI (-1)] h_5 (fun h_6 =>
            zCI E mX10_reckonedMany d [zR 0] h_6 (fun r_7 h_7 =>
              ((x2 ≤ r_7 →
                zCI E mX10_part d [zR 0, zI x1] h_7 (fun r_9 h_9 =>
                  zG E mX10_odds (d + 1) 47 [zR 0, zI x1, zI x2, zI r_9, zI 0, zU, zU, zU] [] h_9 (qI K))) ∧
              (¬ (x2 ≤ r_7) →
                K (-1) h_7)))))) ∧
      (¬ (0 ≤ x2) →
        K (-1) h_2)))))) :
  zCI E mX10_odds (d + 1) [zR 0, zI x1, zI x2] h K := by
  refine zC_in (L0 := [zR 0, zI x1, zI x2, zU, zU, zU, zU, zU]) pn_X10 rfl (Nat.le_of_ble_eq_true rfl) ?_
  refine z_aload_n dX10_odds_0 rfl ?_
  refine z_iconst dX10_odds_1 (r32d rfl) ?_
  refine pf_X10_153 dX10_odds_2 rfl (sR_0 hE) (cR_0 hE) ?_
  generalize eh_1 : hset h 0 0 _ = h_1
  have hyp := hyp h_1 eh_1.symm
  refine z_iload_n dX10_odds_5 rfl ?_
  refine cl_X10_460 dX10_odds_6 rfl (Nat.le_of_ble_eq_true rfl) (zC_mono ?_ hyp)
  rintro _ h_2 ⟨r_2, rfl, hyp⟩
  refine ⟨r_2, rfl, ?_⟩
  refine z_if_eq (tgt := 16) dX10_odds_9 (by decide) (fun c_3 => ?_) (fun c_3 => ?_)
  · have hyp := hyp.1 c_3
    refine z_iconst dX10_odds_16 (r32d rfl) ?_
    exact z_iret dX10_odds_17 rfl ⟨_, rfl, hyp⟩
  · have hyp := hyp.2 c_3
    refine z_iload_n dX10_odds_12 rfl ?_
    refine z_if_ge (tgt := 18) dX10_odds_13 (by decide) (fun c_4 => ?_) (fun c_4 => ?_)
    · have hyp := hyp.1 c_4
      refine z_aload_n dX10_odds_18 rfl ?_
      refine cl_X10_440 dX10_odds_19 rfl (sR_0 hE) (cR_0 hE) (Nat.le_of_ble_eq_true rfl) (zC_mono ?_ hyp)
      rintro _ h_5 ⟨rfl, hyp⟩
      refine ⟨rfl, ?_⟩
      refine z_aload_n dX10_odds_22 rfl ?_
      refine z_iconst dX10_odds_23 (r32d rfl) ?_
      refine z_iconst dX10_odds_24 (r32d rfl) ?_
      refine cl_X10_493 dX10_odds_25 rfl (sR_0 hE) (cR_0 hE) (Nat.le_of_ble_eq_true rfl) (zC_mono ?_ hyp)
      rintro _ h_6 ⟨rfl, hyp⟩
      refine ⟨rfl, ?_⟩
      refine z_iload_n dX10_odds_28 rfl ?_
      refine z_aload_n dX10_odds_29 rfl ?_
      refine cl_X10_507 dX10_odds_30 rfl (sR_0 hE) (cR_0 hE) (Nat.le_of_ble_eq_true rfl) (zC_mono ?_ hyp)
      rintro _ h_7 ⟨r_7, rfl, hyp⟩
      refine ⟨r_7, rfl, ?_⟩
      refine z_icmp_le (tgt := 38) dX10_odds_33 (by decide) (fun c_8 => ?_) (fun c_8 => ?_)
      · have hyp := hyp.1 c_8
        refine z_aload_n dX10_odds_38 rfl ?_
        refine z_iload_n dX10_odds_39 rfl ?_
        refine cl_X10_463 dX10_odds_40 rfl (sR_0 hE) (cR_0 hE) (Nat.le_of_ble_eq_true rfl) (zC_mono ?_ hyp)
        rintro _ h_9 ⟨r_9, rfl, hyp⟩
        refine ⟨r_9, rfl, ?_⟩
        refine z_istore_n dX10_odds_43 rfl (by decide) rfl ?_
        refine z_iconst dX10_odds_44 (r32d rfl) ?_
        refine z_istore dX10_odds_45 (by decide) rfl ?_
        exact hyp
      · have hyp := hyp.2 c_8
        refine z_iconst dX10_odds_36 (r32d rfl) ?_
        exact z_iret dX10_odds_37 rfl ⟨_, rfl, hyp⟩
    · have hyp := hyp.2 c_4
      refine z_iconst dX10_odds_16 (r32d rfl) ?_
      exact z_iret dX10_odds_17 rfl ⟨_, rfl, hyp⟩
set_option maxRecDepth 20000 in
theorem eX10_offBy {E : zE} (hE : isR E) {d : Nat} {x0 x1 : Int} {h : zH} {K : Int → zH → Prop} (hyp :
  ¬ x1 = 0 ∧
  ¬ x1 = 0 ∧
  K (min (w32 (Int.tmod x0 x1)) (w32 (x1 - (w32 (Int.tmod x0 x1))))) h) :
  zCI E mX10_offBy d [zI x0, zI x1] h K := by
  refine zC_in (L0 := [zI x0, zI x1]) pn_X10 rfl (Nat.le_of_ble_eq_true rfl) ?_
  refine z_iload_n dX10_offBy_0 rfl ?_
  refine z_iload_n dX10_offBy_1 rfl ?_
  obtain ⟨hz, hyp⟩ := hyp
  refine z_irem hz dX10_offBy_2 ?_
  refine z_iload_n dX10_offBy_3 rfl ?_
  refine z_iload_n dX10_offBy_4 rfl ?_
  refine z_iload_n dX10_offBy_5 rfl ?_
  obtain ⟨hz, hyp⟩ := hyp
  refine z_irem hz dX10_offBy_6 ?_
  refine z_isub dX10_offBy_7 ?_
  refine cl_X10_285 dX10_offBy_8 rfl (Nat.le_of_ble_eq_true rfl) ?_
  exact z_iret dX10_offBy_11 rfl ⟨_, rfl, hyp⟩
set_option maxRecDepth 20000 in
theorem eX10_part {E : zE} (hE : isR E) {d : Nat} {x1 : Int} {h : zH} {K : Int → zH → Prop} (hyp :
  (((h 0 57) = 0 →
    K x1 h) ∧
  (¬ ((h 0 57) = 0) →
    K (w32 (Int.tdiv x1 2)) h))) :
  zCI E mX10_part d [zR 0, zI x1] h K := by
  refine zC_in (L0 := [zR 0, zI x1]) pn_X10 rfl (Nat.le_of_ble_eq_true rfl) ?_
  refine z_aload_n dX10_part_0 rfl ?_
  refine gf_X10_376 dX10_part_1 rfl (sR_0 hE) (cR_0 hE) ?_
  refine z_if_eq (tgt := 13) dX10_part_4 (by decide) (fun c_1 => ?_) (fun c_1 => ?_)
  · have hyp := hyp.1 c_1
    refine z_iload_n dX10_part_13 rfl ?_
    exact z_iret dX10_part_14 rfl ⟨_, rfl, hyp⟩
  · have hyp := hyp.2 c_1
    refine z_iload_n dX10_part_7 rfl ?_
    refine z_iconst dX10_part_8 (r32d rfl) ?_
    refine z_idiv (by decide) dX10_part_9 ?_
    refine z_goto (tgt := 14) dX10_part_10 (by decide) ?_
    exact z_iret dX10_part_14 rfl ⟨_, rfl, hyp⟩
set_option maxRecDepth 20000 in
theorem bX10_primary_31 {E : zE} (hE : isR E) {d : Nat} {h : zH} {K : zH → Prop} (hyp :
  (((h 0 49) = 0 →
    ∀ h_2 : zH, h_2 = hset h 0 53 (w32 ((h 0 53) + 1)) →
    zCV E mX10_token d [zR 0] h_2 (fun h_3 =>
      zCV E mX10_expression d [zR 0] h_3 (fun h_4 =>
        (((h_4 0 49) ≠ 0 →
          zG E mX10_primary (d + 1) 78 [zR 0, zU] [] h_4 (qV K)) ∧
        (¬ ((h_4 0 49) ≠ 0) →
          zCI E mX10_isSign d [zR 0, zI 41] h_4 (fun r_6 h_6 =>
            ((r_6 ≠ 0 →
              zG E mX10_primary (d + 1) 78 [zR 0, zU] [] h_6 (qV K)) ∧
            (¬ (r_6 ≠ 0) →
              zCV E mX10_wrong d [zR 0, zI 1] h_6 (fun h_8 =>
                zG E mX10_primary (d + 1) 78 [zR 0, zU] [] h_8 (qV K)))))))))) ∧
  (¬ ((h 0 49) = 0) →
    K h))) :
  zG E mX10_primary (d + 1) 31 [zR 0, zU] [] h (qV K) := by
  refine z_aload_n dX10_primary_31 rfl ?_
  refine gf_X10_207 dX10_primary_32 rfl (sR_0 hE) (cR_0 hE) ?_
  refine z_if_eq (tgt := 39) dX10_primary_35 (by decide) (fun c_1 => ?_) (fun c_1 => ?_)
  · have hyp := hyp.1 c_1
    refine z_aload_n dX10_primary_39 rfl ?_
    refine z_dup dX10_primary_40 rfl ?_
    refine gf_X10_325 dX10_primary_41 rfl (sR_0 hE) (cR_0 hE) ?_
    refine z_iconst dX10_primary_44 (r32d rfl) ?_
    refine z_iadd dX10_primary_45 ?_
    refine pf_X10_325 dX10_primary_46 rfl (sR_0 hE) (cR_0 hE) ?_
    generalize eh_2 : hset h 0 53 _ = h_2
    have hyp := hyp h_2 eh_2.symm
    refine z_aload_n dX10_primary_49 rfl ?_
    refine cl_X10_213 dX10_primary_50 rfl (sR_0 hE) (cR_0 hE) (Nat.le_of_ble_eq_true rfl) (zC_mono ?_ hyp)
    rintro _ h_3 ⟨rfl, hyp⟩
    refine ⟨rfl, ?_⟩
    refine z_aload_n dX10_primary_53 rfl ?_
    refine cl_X10_258 dX10_primary_54 rfl (sR_0 hE) (cR_0 hE) (Nat.le_of_ble_eq_true rfl) (zC_mono ?_ hyp)
    rintro _ h_4 ⟨rfl, hyp⟩
    refine ⟨rfl, ?_⟩
    refine z_aload_n dX10_primary_57 rfl ?_
    refine gf_X10_207 dX10_primary_58 rfl (sR_0 hE) (cR_0 hE) ?_
    refine z_if_ne (tgt := 78) dX10_primary_61 (by decide) (fun c_5 => ?_) (fun c_5 => ?_)
    · have hyp := hyp.1 c_5
      exact hyp
    · have hyp := hyp.2 c_5
      refine z_aload_n dX10_primary_64 rfl ?_
      refine z_bipush dX10_primary_65 (r32d rfl) (by decide) ?_
      refine cl_X10_219 dX10_primary_67 rfl (sR_0 hE) (cR_0 hE) (Nat.le_of_ble_eq_true rfl) (zC_mono ?_ hyp)
      rintro _ h_6 ⟨r_6, rfl, hyp⟩
      refine ⟨r_6, rfl, ?_⟩
      refine z_if_ne (tgt := 78) dX10_primary_70 (by decide) (fun c_7 => ?_) (fun c_7 => ?_)
      · have hyp := hyp.1 c_7
        exact hyp
      · have hyp := hyp.2 c_7
        refine z_aload_n dX10_primary_73 rfl ?_
        refine z_iconst dX10_primary_74 (r32d rfl) ?_
        refine cl_X10_216 dX10_primary_75 rfl (sR_0 hE) (cR_0 hE) (Nat.le_of_ble_eq_true rfl) (zC_mono ?_ hyp)
        rintro _ h_8 ⟨rfl, hyp⟩
        refine ⟨rfl, ?_⟩
        exact hyp
  · have hyp := hyp.2 c_1
    exact z_vret dX10_primary_38 rfl ⟨rfl, hyp⟩
set_option maxRecDepth 20000 in
theorem bX10_primary_78 {E : zE} (hE : isR E) {d : Nat} {h : zH} {K : zH → Prop} (hyp :
  (((h 0 49) = 0 →
    ∀ h_2 : zH, h_2 = hset h 0 53 (w32 ((h 0 53) - 1)) →
    zCV E mX10_token d [zR 0] h_2 (fun h_3 =>
      K h_3)) ∧
  (¬ ((h 0 49) = 0) →
    K h))) :
  zG E mX10_primary (d + 1) 78 [zR 0, zU] [] h (qV K) := by
  refine z_aload_n dX10_primary_78 rfl ?_
  refine gf_X10_207 dX10_primary_79 rfl (sR_0 hE) (cR_0 hE) ?_
  refine z_if_eq (tgt := 86) dX10_primary_82 (by decide) (fun c_1 => ?_) (fun c_1 => ?_)
  · have hyp := hyp.1 c_1
    refine z_aload_n dX10_primary_86 rfl ?_
    refine z_dup dX10_primary_87 rfl ?_
    refine gf_X10_325 dX10_primary_88 rfl (sR_0 hE) (cR_0 hE) ?_
    refine z_iconst dX10_primary_91 (r32d rfl) ?_
    refine z_isub dX10_primary_92 ?_
    refine pf_X10_325 dX10_primary_93 rfl (sR_0 hE) (cR_0 hE) ?_
    generalize eh_2 : hset h 0 53 _ = h_2
    have hyp := hyp h_2 eh_2.symm
    refine z_aload_n dX10_primary_96 rfl ?_
    refine cl_X10_213 dX10_primary_97 rfl (sR_0 hE) (cR_0 hE) (Nat.le_of_ble_eq_true rfl) (zC_mono ?_ hyp)
    rintro _ h_3 ⟨rfl, hyp⟩
    refine ⟨rfl, ?_⟩
    exact z_vret dX10_primary_100 rfl ⟨rfl, hyp⟩
  · have hyp := hyp.2 c_1
    exact z_vret dX10_primary_85 rfl ⟨rfl, hyp⟩
set_option maxRecDepth 20000 in
theorem bX10_primary_114 {E : zE} (hE : isR E) {d : Nat} {s0 : Int} {h : zH} {K : zH → Prop} (hyp :
  ((s0 = 0 →
    zG E mX10_primary (d + 1) 137 [zR 0, zI s0] [] h (qV K)) ∧
  (¬ (s0 = 0) →
    (((h 0 48) ≤ 9999 →
      zG E mX10_primary (d + 1) 137 [zR 0, zI s0] [] h (qV K)) ∧
    (¬ ((h 0 48) ≤ 9999) →
      zCV E mX10_wrong d [zR 0, zI 2] h (fun h_3 =>
        zG E mX10_primary (d + 1) 162 [zR 0, zI s0] [] h_3 (qV K))))))) :
  zG E mX10_primary (d + 1) 114 [zR 0, zU] [zI s0] h (qV K) := by
  refine z_istore_n dX10_primary_114 rfl (by decide) rfl ?_
  refine z_iload_n dX10_primary_115 rfl ?_
  refine z_if_eq (tgt := 137) dX10_primary_116 (by decide) (fun c_1 => ?_) (fun c_1 => ?_)
  · have hyp := hyp.1 c_1
    exact hyp
  · have hyp := hyp.2 c_1
    refine z_aload_n dX10_primary_119 rfl ?_
    refine gf_X10_182 dX10_primary_120 rfl (sR_0 hE) (cR_0 hE) ?_
    refine z_sipush dX10_primary_123 (r32d rfl) (by decide) ?_
    refine z_icmp_le (tgt := 137) dX10_primary_126 (by decide) (fun c_2 => ?_) (fun c_2 => ?_)
    · have hyp := hyp.1 c_2
      exact hyp
    · have hyp := hyp.2 c_2
      refine z_aload_n dX10_primary_129 rfl ?_
      refine z_iconst dX10_primary_130 (r32d rfl) ?_
      refine cl_X10_216 dX10_primary_131 rfl (sR_0 hE) (cR_0 hE) (Nat.le_of_ble_eq_true rfl) (zC_mono ?_ hyp)
      rintro _ h_3 ⟨rfl, hyp⟩
      refine ⟨rfl, ?_⟩
      refine z_goto (tgt := 162) dX10_primary_134 (by decide) ?_
      exact hyp
set_option maxRecDepth 20000 in
theorem bX10_primary_137 {E : zE} (hE : isR E) {d : Nat} {x1 : Int} {h : zH} {K : zH → Prop} (hyp :
  ((x1 ≠ 0 →
    zG E mX10_primary (d + 1) 162 [zR 0, zI x1] [] h (qV K)) ∧
  (¬ (x1 ≠ 0) →
    (((h 0 47) ≠ 0 →
      zCV E mX10_wrong d [zR 0, zI 1] h (fun h_3 =>
        zG E mX10_primary (d + 1) 162 [zR 0, zI x1] [] h_3 (qV K))) ∧
    (¬ ((h 0 47) ≠ 0) →
      ((15 ≤ (h 0 48) →
        zG E mX10_primary (d + 1) 162 [zR 0, zI x1] [] h (qV K)) ∧
      (¬ (15 ≤ (h 0 48)) →
        zCV E mX10_wrong d [zR 0, zI 1] h (fun h_5 =>
          zG E mX10_primary (d + 1) 162 [zR 0, zI x1] [] h_5 (qV K))))))))) :
  zG E mX10_primary (d + 1) 137 [zR 0, zI x1] [] h (qV K) := by
  refine z_iload_n dX10_primary_137 rfl ?_
  refine z_if_ne (tgt := 162) dX10_primary_138 (by decide) (fun c_1 => ?_) (fun c_1 => ?_)
  · have hyp := hyp.1 c_1
    exact hyp
  · have hyp := hyp.2 c_1
    refine z_aload_n dX10_primary_141 rfl ?_
    refine gf_X10_172 dX10_primary_142 rfl (sR_0 hE) (cR_0 hE) ?_
    refine z_if_ne (tgt := 157) dX10_primary_145 (by decide) (fun c_2 => ?_) (fun c_2 => ?_)
    · have hyp := hyp.1 c_2
      refine z_aload_n dX10_primary_157 rfl ?_
      refine z_iconst dX10_primary_158 (r32d rfl) ?_
      refine cl_X10_216 dX10_primary_159 rfl (sR_0 hE) (cR_0 hE) (Nat.le_of_ble_eq_true rfl) (zC_mono ?_ hyp)
      rintro _ h_3 ⟨rfl, hyp⟩
      refine ⟨rfl, ?_⟩
      exact hyp
    · have hyp := hyp.2 c_2
      refine z_aload_n dX10_primary_148 rfl ?_
      refine gf_X10_182 dX10_primary_149 rfl (sR_0 hE) (cR_0 hE) ?_
      refine z_bipush dX10_primary_152 (r32d rfl) (by decide) ?_
      refine z_icmp_ge (tgt := 162) dX10_primary_154 (by decide) (fun c_4 => ?_) (fun c_4 => ?_)
      · have hyp := hyp.1 c_4
        exact hyp
      · have hyp := hyp.2 c_4
        refine z_aload_n dX10_primary_157 rfl ?_
        refine z_iconst dX10_primary_158 (r32d rfl) ?_
        refine cl_X10_216 dX10_primary_159 rfl (sR_0 hE) (cR_0 hE) (Nat.le_of_ble_eq_true rfl) (zC_mono ?_ hyp)
        rintro _ h_5 ⟨rfl, hyp⟩
        refine ⟨rfl, ?_⟩
        exact hyp
set_option maxRecDepth 20000 in
theorem bX10_primary_162 {E : zE} (hE : isR E) {d : Nat} {x1 : Int} {h : zH} {K : zH → Prop} (hyp :
  zCV E mX10_knot d [zR 0] h (fun h_1 =>
    ((x1 = 0 →
      zG E mX10_primary (d + 1) 176 [zR 0, zI x1] [zI 1, zR 0] h_1 (qV K)) ∧
    (¬ (x1 = 0) →
      zG E mX10_primary (d + 1) 176 [zR 0, zI x1] [zI 0, zR 0] h_1 (qV K))))) :
  zG E mX10_primary (d + 1) 162 [zR 0, zI x1] [] h (qV K) := by
  refine z_aload_n dX10_primary_162 rfl ?_
  refine cl_X10_306 dX10_primary_163 rfl (sR_0 hE) (cR_0 hE) (Nat.le_of_ble_eq_true rfl) (zC_mono ?_ hyp)
  rintro _ h_1 ⟨rfl, hyp⟩
  refine ⟨rfl, ?_⟩
  refine z_aload_n dX10_primary_166 rfl ?_
  refine z_iload_n dX10_primary_167 rfl ?_
  refine z_if_eq (tgt := 175) dX10_primary_168 (by decide) (fun c_2 => ?_) (fun c_2 => ?_)
  · have hyp := hyp.1 c_2
    refine z_iconst dX10_primary_175 (r32d rfl) ?_
    exact hyp
  · have hyp := hyp.2 c_2
    refine z_iconst dX10_primary_171 (r32d rfl) ?_
    refine z_goto (tgt := 176) dX10_primary_172 (by decide) ?_
    exact hyp
set_option maxRecDepth 20000 in
theorem bX10_primary_176 {E : zE} (hE : isR E) {d : Nat} {x1 s0 : Int} {h : zH} {K : zH → Prop} (hyp :
  ((x1 = 0 →
    zCV E mX10_puts d [zR 0, zI s0, zI (w32 ((h 0 48) - 15))] h (fun h_2 =>
      zCV E mX10_goOn d [zR 0] h_2 (fun h_3 =>
        K h_3))) ∧
  (¬ (x1 = 0) →
    zCV E mX10_puts d [zR 0, zI s0, zI (h 0 48)] h (fun h_4 =>
      zCV E mX10_goOn d [zR 0] h_4 (fun h_5 =>
        K h_5))))) :
  zG E mX10_primary (d + 1) 176 [zR 0, zI x1] [zI s0, zR 0] h (qV K) := by
  refine z_iload_n dX10_primary_176 rfl ?_
  refine z_if_eq (tgt := 187) dX10_primary_177 (by decide) (fun c_1 => ?_) (fun c_1 => ?_)
  · have hyp := hyp.1 c_1
    refine z_aload_n dX10_primary_187 rfl ?_
    refine gf_X10_182 dX10_primary_188 rfl (sR_0 hE) (cR_0 hE) ?_
    refine z_bipush dX10_primary_191 (r32d rfl) (by decide) ?_
    refine z_isub dX10_primary_193 ?_
    refine cl_X10_309 dX10_primary_194 rfl (sR_0 hE) (cR_0 hE) (Nat.le_of_ble_eq_true rfl) (zC_mono ?_ hyp)
    rintro _ h_2 ⟨rfl, hyp⟩
    refine ⟨rfl, ?_⟩
    refine z_aload_n dX10_primary_197 rfl ?_
    refine cl_X10_282 dX10_primary_198 rfl (sR_0 hE) (cR_0 hE) (Nat.le_of_ble_eq_true rfl) (zC_mono ?_ hyp)
    rintro _ h_3 ⟨rfl, hyp⟩
    refine ⟨rfl, ?_⟩
    exact z_vret dX10_primary_201 rfl ⟨rfl, hyp⟩
  · have hyp := hyp.2 c_1
    refine z_aload_n dX10_primary_180 rfl ?_
    refine gf_X10_182 dX10_primary_181 rfl (sR_0 hE) (cR_0 hE) ?_
    refine z_goto (tgt := 194) dX10_primary_184 (by decide) ?_
    refine cl_X10_309 dX10_primary_194 rfl (sR_0 hE) (cR_0 hE) (Nat.le_of_ble_eq_true rfl) (zC_mono ?_ hyp)
    rintro _ h_4 ⟨rfl, hyp⟩
    refine ⟨rfl, ?_⟩
    refine z_aload_n dX10_primary_197 rfl ?_
    refine cl_X10_282 dX10_primary_198 rfl (sR_0 hE) (cR_0 hE) (Nat.le_of_ble_eq_true rfl) (zC_mono ?_ hyp)
    rintro _ h_5 ⟨rfl, hyp⟩
    refine ⟨rfl, ?_⟩
    exact z_vret dX10_primary_201 rfl ⟨rfl, hyp⟩
set_option maxRecDepth 20000 in
theorem eX10_primary {E : zE} (hE : isR E) {d : Nat} {h : zH} {K : zH → Prop} (hyp :
  (((h 0 49) = 0 →
    zCI E mX10_isSign d [zR 0, zI 40] h (fun r_2 h_2 =>
      ((r_2 = 0 →
        (((h_2 0 47) ≠ 2 →
          zG E mX10_primary (d + 1) 114 [zR 0, zU] [zI 0] h_2 (qV K)) ∧
        (¬ ((h_2 0 47) ≠ 2) →
          zG E mX10_primary (d + 1) 114 [zR 0, zU] [zI 1] h_2 (qV K)))) ∧
      (¬ (r_2 = 0) →
        (((h_2 0 53) ≠ 8 →
          zG E mX10_primary (d + 1) 31 [zR 0, zU] [] h_2 (qV K)) ∧
        (¬ ((h_2 0 53) ≠ 8) →
          zCV E mX10_wrong d [zR 0, zI 2] h_2 (fun h_6 =>
            zG E mX10_primary (d + 1) 31 [zR 0, zU] [] h_6 (qV K)))))))) ∧
  (¬ ((h 0 49) = 0) →
    K h))) :
  zCV E mX10_primary (d + 1) [zR 0] h K := by
  refine zC_in (L0 := [zR 0, zU]) pn_X10 rfl (Nat.le_of_ble_eq_true rfl) ?_
  refine z_aload_n dX10_primary_0 rfl ?_
  refine gf_X10_207 dX10_primary_1 rfl (sR_0 hE) (cR_0 hE) ?_
  refine z_if_eq (tgt := 8) dX10_primary_4 (by decide) (fun c_1 => ?_) (fun c_1 => ?_)
  · have hyp := hyp.1 c_1
    refine z_aload_n dX10_primary_8 rfl ?_
    refine z_bipush dX10_primary_9 (r32d rfl) (by decide) ?_
    refine cl_X10_219 dX10_primary_11 rfl (sR_0 hE) (cR_0 hE) (Nat.le_of_ble_eq_true rfl) (zC_mono ?_ hyp)
    rintro _ h_2 ⟨r_2, rfl, hyp⟩
    refine ⟨r_2, rfl, ?_⟩
    refine z_if_eq (tgt := 101) dX10_primary_14 (by decide) (fun c_3 => ?_) (fun c_3 => ?_)
    · have hyp := hyp.1 c_3
      refine z_aload_n dX10_primary_101 rfl ?_
      refine gf_X10_172 dX10_primary_102 rfl (sR_0 hE) (cR_0 hE) ?_
      refine z_iconst dX10_primary_105 (r32d rfl) ?_
      refine z_icmp_ne (tgt := 113) dX10_primary_106 (by decide) (fun c_4 => ?_) (fun c_4 => ?_)
      · have hyp := hyp.1 c_4
        refine z_iconst dX10_primary_113 (r32d rfl) ?_
        exact hyp
      · have hyp := hyp.2 c_4
        refine z_iconst dX10_primary_109 (r32d rfl) ?_
        refine z_goto (tgt := 114) dX10_primary_110 (by decide) ?_
        exact hyp
    · have hyp := hyp.2 c_3
      refine z_aload_n dX10_primary_17 rfl ?_
      refine gf_X10_325 dX10_primary_18 rfl (sR_0 hE) (cR_0 hE) ?_
      refine z_bipush dX10_primary_21 (r32d rfl) (by decide) ?_
      refine z_icmp_ne (tgt := 31) dX10_primary_23 (by decide) (fun c_5 => ?_) (fun c_5 => ?_)
      · have hyp := hyp.1 c_5
        exact hyp
      · have hyp := hyp.2 c_5
        refine z_aload_n dX10_primary_26 rfl ?_
        refine z_iconst dX10_primary_27 (r32d rfl) ?_
        refine cl_X10_216 dX10_primary_28 rfl (sR_0 hE) (cR_0 hE) (Nat.le_of_ble_eq_true rfl) (zC_mono ?_ hyp)
        rintro _ h_6 ⟨rfl, hyp⟩
        refine ⟨rfl, ?_⟩
        exact hyp
  · have hyp := hyp.2 c_1
    exact z_vret dX10_primary_7 rfl ⟨rfl, hyp⟩
set_option maxRecDepth 20000 in
theorem bX10_product_4 {E : zE} (hE : isR E) {d : Nat} {h : zH} {K : zH → Prop} (hyp :
  zCI E mX10_isSign d [zR 0, zI 42] h (fun r_1 h_1 =>
    ((r_1 ≠ 0 →
      zG E mX10_product (d + 1) 22 [zR 0, zU] [] h_1 (qV K)) ∧
    (¬ (r_1 ≠ 0) →
      zCI E mX10_isSign d [zR 0, zI 47] h_1 (fun r_3 h_3 =>
        ((r_3 = 0 →
          K h_3) ∧
        (¬ (r_3 = 0) →
          zG E mX10_product (d + 1) 22 [zR 0, zU] [] h_3 (qV K)))))))) :
  zG E mX10_product (d + 1) 4 [zR 0, zU] [] h (qV K) := by
  refine z_aload_n dX10_product_4 rfl ?_
  refine z_bipush dX10_product_5 (r32d rfl) (by decide) ?_
  refine cl_X10_219 dX10_product_7 rfl (sR_0 hE) (cR_0 hE) (Nat.le_of_ble_eq_true rfl) (zC_mono ?_ hyp)
  rintro _ h_1 ⟨r_1, rfl, hyp⟩
  refine ⟨r_1, rfl, ?_⟩
  refine z_if_ne (tgt := 22) dX10_product_10 (by decide) (fun c_2 => ?_) (fun c_2 => ?_)
  · have hyp := hyp.1 c_2
    exact hyp
  · have hyp := hyp.2 c_2
    refine z_aload_n dX10_product_13 rfl ?_
    refine z_bipush dX10_product_14 (r32d rfl) (by decide) ?_
    refine cl_X10_219 dX10_product_16 rfl (sR_0 hE) (cR_0 hE) (Nat.le_of_ble_eq_true rfl) (zC_mono ?_ hyp)
    rintro _ h_3 ⟨r_3, rfl, hyp⟩
    refine ⟨r_3, rfl, ?_⟩
    refine z_if_eq (tgt := 48) dX10_product_19 (by decide) (fun c_4 => ?_) (fun c_4 => ?_)
    · have hyp := hyp.1 c_4
      exact z_vret dX10_product_48 rfl ⟨rfl, hyp⟩
    · have hyp := hyp.2 c_4
      exact hyp
set_option maxRecDepth 20000 in
theorem bX10_product_22 {E : zE} (hE : isR E) {d : Nat} {h : zH} {K : zH → Prop} (hyp :
  ∀ x_1 : Int, x_1 = h 0 48 →
  zCV E mX10_knot d [zR 0] h (fun h_2 =>
    zCV E mX10_goOn d [zR 0] h_2 (fun h_3 =>
      zCV E mX10_primary d [zR 0] h_3 (fun h_4 =>
        zCV E mX10_puts d [zR 0, zI 2, zI x_1] h_4 (fun h_5 =>
          zG E mX10_product (d + 1) 4 [zR 0, zU] [] h_5 (qV K)))))) :
  zG E mX10_product (d + 1) 22 [zR 0, zU] [] h (qV K) := by
  refine z_aload_n dX10_product_22 rfl ?_
  refine gf_X10_182 dX10_product_23 rfl (sR_0 hE) (cR_0 hE) ?_
  generalize ex_1 : h 0 48 = x_1
  have hyp := hyp x_1 ex_1.symm
  refine z_istore_n dX10_product_26 rfl (by decide) rfl ?_
  refine z_aload_n dX10_product_27 rfl ?_
  refine cl_X10_306 dX10_product_28 rfl (sR_0 hE) (cR_0 hE) (Nat.le_of_ble_eq_true rfl) (zC_mono ?_ hyp)
  rintro _ h_2 ⟨rfl, hyp⟩
  refine ⟨rfl, ?_⟩
  refine z_aload_n dX10_product_31 rfl ?_
  refine cl_X10_282 dX10_product_32 rfl (sR_0 hE) (cR_0 hE) (Nat.le_of_ble_eq_true rfl) (zC_mono ?_ hyp)
  rintro _ h_3 ⟨rfl, hyp⟩
  refine ⟨rfl, ?_⟩
  refine z_aload_n dX10_product_35 rfl ?_
  refine cl_X10_322 dX10_product_36 rfl (sR_0 hE) (cR_0 hE) (Nat.le_of_ble_eq_true rfl) (zC_mono ?_ hyp)
  rintro _ h_4 ⟨rfl, hyp⟩
  refine ⟨rfl, ?_⟩
  refine z_aload_n dX10_product_39 rfl ?_
  refine z_iconst dX10_product_40 (r32d rfl) ?_
  refine z_iload_n dX10_product_41 rfl ?_
  refine cl_X10_309 dX10_product_42 rfl (sR_0 hE) (cR_0 hE) (Nat.le_of_ble_eq_true rfl) (zC_mono ?_ hyp)
  rintro _ h_5 ⟨rfl, hyp⟩
  refine ⟨rfl, ?_⟩
  refine z_goto (tgt := 4) dX10_product_45 (by decide) ?_
  exact z_forget [true, false] rfl hyp
set_option maxRecDepth 20000 in
theorem eX10_product {E : zE} (hE : isR E) {d : Nat} {h : zH} {K : zH → Prop} (hyp :
  zCV E mX10_primary d [zR 0] h (fun h_1 =>
    zG E mX10_product (d + 1) 4 [zR 0, zU] [] h_1 (qV K))) :
  zCV E mX10_product (d + 1) [zR 0] h K := by
  refine zC_in (L0 := [zR 0, zU]) pn_X10 rfl (Nat.le_of_ble_eq_true rfl) ?_
  refine z_aload_n dX10_product_0 rfl ?_
  refine cl_X10_322 dX10_product_1 rfl (sR_0 hE) (cR_0 hE) (Nat.le_of_ble_eq_true rfl) (zC_mono ?_ hyp)
  rintro _ h_1 ⟨rfl, hyp⟩
  refine ⟨rfl, ?_⟩
  exact hyp
set_option maxRecDepth 20000 in
theorem eX10_puts {E : zE} (hE : isR E) {d : Nat} {x1 x2 : Int} {h : zH} {K : zH → Prop} (hyp :
  (((h 0 49) = 0 →
    ((0 : Int) ≤ w32 (64 + (h 0 37)) ∧ w32 (64 + (h 0 37)) < (128 : Int)) ∧
    ∀ h_2 : zH, h_2 = hset h 20 ((w32 (64 + (h 0 37))).toNat) x1 →
    ((0 : Int) ≤ w32 (64 + (h_2 0 37)) ∧ w32 (64 + (h_2 0 37)) < (128 : Int)) ∧
    ∀ h_3 : zH, h_3 = hset h_2 21 ((w32 (64 + (h_2 0 37))).toNat) x2 →
    ∀ h_4 : zH, h_4 = hset h_3 0 37 (w32 ((h_3 0 37) + 1)) →
    K h_4) ∧
  (¬ ((h 0 49) = 0) →
    K h))) :
  zCV E mX10_puts d [zR 0, zI x1, zI x2] h K := by
  refine zC_in (L0 := [zR 0, zI x1, zI x2]) pn_X10 rfl (Nat.le_of_ble_eq_true rfl) ?_
  refine z_aload_n dX10_puts_0 rfl ?_
  refine gf_X10_207 dX10_puts_1 rfl (sR_0 hE) (cR_0 hE) ?_
  refine z_if_eq (tgt := 8) dX10_puts_4 (by decide) (fun c_1 => ?_) (fun c_1 => ?_)
  · have hyp := hyp.1 c_1
    refine z_aload_n dX10_puts_8 rfl ?_
    refine gf_X10_70 (c2 := 20) dX10_puts_9 rfl (sR_0 hE) (cR_0 hE) rfl ?_
    refine z_bipush dX10_puts_12 (r32d rfl) (by decide) ?_
    refine z_aload_n dX10_puts_14 rfl ?_
    refine gf_X10_297 dX10_puts_15 rfl (sR_0 hE) (cR_0 hE) ?_
    refine z_iadd dX10_puts_18 ?_
    refine z_iload_n dX10_puts_19 rfl ?_
    obtain ⟨⟨hi0, hi1⟩, hyp⟩ := hyp
    refine z_iastore dX10_puts_20 (sR_20 hE) (cR_20 hE) hi0 hi1 ?_
    generalize eh_2 : hset h 20 _ x1 = h_2
    have hyp := hyp h_2 eh_2.symm
    refine z_aload_n dX10_puts_21 rfl ?_
    refine gf_X10_73 (c2 := 21) dX10_puts_22 rfl (sR_0 hE) (cR_0 hE) rfl ?_
    refine z_bipush dX10_puts_25 (r32d rfl) (by decide) ?_
    refine z_aload_n dX10_puts_27 rfl ?_
    refine gf_X10_297 dX10_puts_28 rfl (sR_0 hE) (cR_0 hE) ?_
    refine z_iadd dX10_puts_31 ?_
    refine z_iload_n dX10_puts_32 rfl ?_
    obtain ⟨⟨hi0, hi1⟩, hyp⟩ := hyp
    refine z_iastore dX10_puts_33 (sR_21 hE) (cR_21 hE) hi0 hi1 ?_
    generalize eh_3 : hset h_2 21 _ x2 = h_3
    have hyp := hyp h_3 eh_3.symm
    refine z_aload_n dX10_puts_34 rfl ?_
    refine z_dup dX10_puts_35 rfl ?_
    refine gf_X10_297 dX10_puts_36 rfl (sR_0 hE) (cR_0 hE) ?_
    refine z_iconst dX10_puts_39 (r32d rfl) ?_
    refine z_iadd dX10_puts_40 ?_
    refine pf_X10_297 dX10_puts_41 rfl (sR_0 hE) (cR_0 hE) ?_
    generalize eh_4 : hset h_3 0 37 _ = h_4
    have hyp := hyp h_4 eh_4.symm
    exact z_vret dX10_puts_44 rfl ⟨rfl, hyp⟩
  · have hyp := hyp.2 c_1
    exact z_vret dX10_puts_7 rfl ⟨rfl, hyp⟩
set_option maxRecDepth 20000 in
theorem bX10_reckon_2 {E : zE} (hE : isR E) {d : Nat} {x1 x2 x3 : Int} {h : zH} {K : zH → Prop} (hyp :
  (((h 0 24) ≤ x3 →
    K h) ∧
  (¬ ((h 0 24) ≤ x3) →
    zCI E mX10_hasFit d [zR 0, zI x3] h (fun r_2 h_2 =>
      ((r_2 = 0 →
        zG E mX10_reckon (d + 1) 55 [zR 0, zI x1, zI x2, zI x3, zU] [zI 0] h_2 (qV K)) ∧
      (¬ (r_2 = 0) →
        ((x1 = (-1) →
          zG E mX10_reckon (d + 1) 33 [zR 0, zI x1, zI x2, zI x3, zU] [] h_2 (qV K)) ∧
        (¬ (x1 = (-1)) →
          ((0 : Int) ≤ x3 ∧ x3 < (16 : Int)) ∧
          (((h_2 4 x3.toNat) ≠ x1 →
            zG E mX10_reckon (d + 1) 55 [zR 0, zI x1, zI x2, zI x3, zU] [zI 0] h_2 (qV K)) ∧
          (¬ ((h_2 4 x3.toNat) ≠ x1) →
            zG E mX10_reckon (d + 1) 33 [zR 0, zI x1, zI x2, zI x3, zU] [] h_2 (qV K))))))))))) :
  zG E mX10_reckon (d + 1) 2 [zR 0, zI x1, zI x2, zI x3, zU] [] h (qV K) := by
  refine z_iload_n dX10_reckon_2 rfl ?_
  refine z_aload_n dX10_reckon_3 rfl ?_
  refine gf_X10_340 dX10_reckon_4 rfl (sR_0 hE) (cR_0 hE) ?_
  refine z_icmp_ge (tgt := 83) dX10_reckon_7 (by decide) (fun c_1 => ?_) (fun c_1 => ?_)
  · have hyp := hyp.1 c_1
    exact z_vret dX10_reckon_83 rfl ⟨rfl, hyp⟩
  · have hyp := hyp.2 c_1
    refine z_aload_n dX10_reckon_10 rfl ?_
    refine z_iload_n dX10_reckon_11 rfl ?_
    refine cl_X10_443 dX10_reckon_12 rfl (sR_0 hE) (cR_0 hE) (Nat.le_of_ble_eq_true rfl) (zC_mono ?_ hyp)
    rintro _ h_2 ⟨r_2, rfl, hyp⟩
    refine ⟨r_2, rfl, ?_⟩
    refine z_if_eq (tgt := 54) dX10_reckon_15 (by decide) (fun c_3 => ?_) (fun c_3 => ?_)
    · have hyp := hyp.1 c_3
      refine z_iconst dX10_reckon_54 (r32d rfl) ?_
      exact hyp
    · have hyp := hyp.2 c_3
      refine z_iload_n dX10_reckon_18 rfl ?_
      refine z_iconst dX10_reckon_19 (r32d rfl) ?_
      refine z_icmp_eq (tgt := 33) dX10_reckon_20 (by decide) (fun c_4 => ?_) (fun c_4 => ?_)
      · have hyp := hyp.1 c_4
        exact hyp
      · have hyp := hyp.2 c_4
        refine z_aload_n dX10_reckon_23 rfl ?_
        refine gf_X10_21 (c2 := 4) dX10_reckon_24 rfl (sR_0 hE) (cR_0 hE) rfl ?_
        refine z_iload_n dX10_reckon_27 rfl ?_
        obtain ⟨⟨hi0, hi1⟩, hyp⟩ := hyp
        refine z_iaload dX10_reckon_28 (sR_4 hE) (cR_4 hE) hi0 hi1 ?_
        refine z_iload_n dX10_reckon_29 rfl ?_
        refine z_icmp_ne (tgt := 54) dX10_reckon_30 (by decide) (fun c_5 => ?_) (fun c_5 => ?_)
        · have hyp := hyp.1 c_5
          refine z_iconst dX10_reckon_54 (r32d rfl) ?_
          exact hyp
        · have hyp := hyp.2 c_5
          exact hyp
set_option maxRecDepth 20000 in
theorem bX10_reckon_33 {E : zE} (hE : isR E) {d : Nat} {x1 x2 x3 : Int} {h : zH} {K : zH → Prop} (hyp :
  ((x2 = (-1) →
    zG E mX10_reckon (d + 1) 55 [zR 0, zI x1, zI x2, zI x3, zU] [zI 1] h (qV K)) ∧
  (¬ (x2 = (-1)) →
    ((0 : Int) ≤ x3 ∧ x3 < (8 : Int)) ∧
    (((w32 (Int.tdiv (h 35 x3.toNat) 4)) ≠ x2 →
      zG E mX10_reckon (d + 1) 55 [zR 0, zI x1, zI x2, zI x3, zU] [zI 0] h (qV K)) ∧
    (¬ ((w32 (Int.tdiv (h 35 x3.toNat) 4)) ≠ x2) →
      zG E mX10_reckon (d + 1) 55 [zR 0, zI x1, zI x2, zI x3, zU] [zI 1] h (qV K)))))) :
  zG E mX10_reckon (d + 1) 33 [zR 0, zI x1, zI x2, zI x3, zU] [] h (qV K) := by
  refine z_iload_n dX10_reckon_33 rfl ?_
  refine z_iconst dX10_reckon_34 (r32d rfl) ?_
  refine z_icmp_eq (tgt := 50) dX10_reckon_35 (by decide) (fun c_1 => ?_) (fun c_1 => ?_)
  · have hyp := hyp.1 c_1
    refine z_iconst dX10_reckon_50 (r32d rfl) ?_
    refine z_goto (tgt := 55) dX10_reckon_51 (by decide) ?_
    exact hyp
  · have hyp := hyp.2 c_1
    refine z_aload_n dX10_reckon_38 rfl ?_
    refine gf_X10_131 (c2 := 35) dX10_reckon_39 rfl (sR_0 hE) (cR_0 hE) rfl ?_
    refine z_iload_n dX10_reckon_42 rfl ?_
    obtain ⟨⟨hi0, hi1⟩, hyp⟩ := hyp
    refine z_iaload dX10_reckon_43 (sR_35 hE) (cR_35 hE) hi0 hi1 ?_
    refine z_iconst dX10_reckon_44 (r32d rfl) ?_
    refine z_idiv (by decide) dX10_reckon_45 ?_
    refine z_iload_n dX10_reckon_46 rfl ?_
    refine z_icmp_ne (tgt := 54) dX10_reckon_47 (by decide) (fun c_2 => ?_) (fun c_2 => ?_)
    · have hyp := hyp.1 c_2
      refine z_iconst dX10_reckon_54 (r32d rfl) ?_
      exact hyp
    · have hyp := hyp.2 c_2
      refine z_iconst dX10_reckon_50 (r32d rfl) ?_
      refine z_goto (tgt := 55) dX10_reckon_51 (by decide) ?_
      exact hyp
set_option maxRecDepth 20000 in
theorem bX10_reckon_55 {E : zE} (hE : isR E) {d : Nat} {x1 x2 x3 s0 : Int} {h : zH} {K : zH → Prop} (hyp :
  ((s0 = 0 →
    ((0 : Int) ≤ x3 ∧ x3 < (8 : Int)) ∧
    ∀ h_2 : zH, h_2 = hset h 39 (x3.toNat) (-1) →
    ∀ x_3 : Int, x_3 = w32 (x3 + 1) →
    zG E mX10_reckon (d + 1) 2 [zR 0, zI x1, zI x2, zI x_3, zU] [] h_2 (qV K)) ∧
  (¬ (s0 = 0) →
    zCI E mX10_sizeOf d [zR 0, zI x3] h (fun r_4 h_4 =>
      ((0 : Int) ≤ x3 ∧ x3 < (8 : Int)) ∧
      ∀ h_5 : zH, h_5 = hset h_4 39 (x3.toNat) r_4 →
      ∀ x_6 : Int, x_6 = w32 (x3 + 1) →
      zG E mX10_reckon (d + 1) 2 [zR 0, zI x1, zI x2, zI x_6, zU] [] h_5 (qV K))))) :
  zG E mX10_reckon (d + 1) 55 [zR 0, zI x1, zI x2, zI x3, zU] [zI s0] h (qV K) := by
  refine z_istore dX10_reckon_55 (by decide) rfl ?_
  refine z_aload_n dX10_reckon_57 rfl ?_
  refine gf_X10_144 (c2 := 39) dX10_reckon_58 rfl (sR_0 hE) (cR_0 hE) rfl ?_
  refine z_iload_n dX10_reckon_61 rfl ?_
  refine z_iload dX10_reckon_62 rfl ?_
  refine z_if_eq (tgt := 75) dX10_reckon_64 (by decide) (fun c_1 => ?_) (fun c_1 => ?_)
  · have hyp := hyp.1 c_1
    refine z_iconst dX10_reckon_75 (r32d rfl) ?_
    obtain ⟨⟨hi0, hi1⟩, hyp⟩ := hyp
    refine z_iastore dX10_reckon_76 (sR_39 hE) (cR_39 hE) hi0 hi1 ?_
    generalize eh_2 : hset h 39 _ (-1) = h_2
    have hyp := hyp h_2 eh_2.symm
    refine z_iinc dX10_reckon_77 rfl (by decide) rfl ?_
    generalize ex_3 : w32 (x3 + 1) = x_3
    have hyp := hyp x_3 ex_3.symm
    refine z_goto (tgt := 2) dX10_reckon_80 (by decide) ?_
    exact z_forget [true, true, true, true, false] rfl hyp
  · have hyp := hyp.2 c_1
    refine z_aload_n dX10_reckon_67 rfl ?_
    refine z_iload_n dX10_reckon_68 rfl ?_
    refine cl_X10_446 dX10_reckon_69 rfl (sR_0 hE) (cR_0 hE) (Nat.le_of_ble_eq_true rfl) (zC_mono ?_ hyp)
    rintro _ h_4 ⟨r_4, rfl, hyp⟩
    refine ⟨r_4, rfl, ?_⟩
    refine z_goto (tgt := 76) dX10_reckon_72 (by decide) ?_
    obtain ⟨⟨hi0, hi1⟩, hyp⟩ := hyp
    refine z_iastore dX10_reckon_76 (sR_39 hE) (cR_39 hE) hi0 hi1 ?_
    generalize eh_5 : hset h_4 39 _ r_4 = h_5
    have hyp := hyp h_5 eh_5.symm
    refine z_iinc dX10_reckon_77 rfl (by decide) rfl ?_
    generalize ex_6 : w32 (x3 + 1) = x_6
    have hyp := hyp x_6 ex_6.symm
    refine z_goto (tgt := 2) dX10_reckon_80 (by decide) ?_
    exact z_forget [true, true, true, true, false] rfl hyp
set_option maxRecDepth 20000 in
theorem eX10_reckon {E : zE} (hE : isR E) {d : Nat} {x1 x2 : Int} {h : zH} {K : zH → Prop} (hyp :
  zG E mX10_reckon (d + 1) 2 [zR 0, zI x1, zI x2, zI 0, zU] [] h (qV K)) :
  zCV E mX10_reckon (d + 1) [zR 0, zI x1, zI x2] h K := by
  refine zC_in (L0 := [zR 0, zI x1, zI x2, zU, zU]) pn_X10 rfl (Nat.le_of_ble_eq_true rfl) ?_
  refine z_iconst dX10_reckon_0 (r32d rfl) ?_
  refine z_istore_n dX10_reckon_1 rfl (by decide) rfl ?_
  exact hyp
set_option maxRecDepth 20000 in
theorem bX10_reckonedMany_4 {E : zE} (hE : isR E) {d : Nat} {x1 x2 : Int} {h : zH} {K : Int → zH → Prop} (hyp :
  (((h 0 24) ≤ x2 →
    K x1 h) ∧
  (¬ ((h 0 24) ≤ x2) →
    ((0 : Int) ≤ x2 ∧ x2 < (8 : Int)) ∧
    (((h 39 x2.toNat) = (-1) →
      ∀ x_3 : Int, x_3 = w32 (x1 + 0) →
      ∀ x_4 : Int, x_4 = w32 (x2 + 1) →
      zG E mX10_reckonedMany d 4 [zR 0, zI x_3, zI x_4] [] h (qI K)) ∧
    (¬ ((h 39 x2.toNat) = (-1)) →
      ∀ x_5 : Int, x_5 = w32 (x1 + 1) →
      ∀ x_6 : Int, x_6 = w32 (x2 + 1) →
      zG E mX10_reckonedMany d 4 [zR 0, zI x_5, zI x_6] [] h (qI K)))))) :
  zG E mX10_reckonedMany d 4 [zR 0, zI x1, zI x2] [] h (qI K) := by
  refine z_iload_n dX10_reckonedMany_4 rfl ?_
  refine z_aload_n dX10_reckonedMany_5 rfl ?_
  refine gf_X10_340 dX10_reckonedMany_6 rfl (sR_0 hE) (cR_0 hE) ?_
  refine z_icmp_ge (tgt := 36) dX10_reckonedMany_9 (by decide) (fun c_1 => ?_) (fun c_1 => ?_)
  · have hyp := hyp.1 c_1
    refine z_iload_n dX10_reckonedMany_36 rfl ?_
    exact z_iret dX10_reckonedMany_37 rfl ⟨_, rfl, hyp⟩
  · have hyp := hyp.2 c_1
    refine z_iload_n dX10_reckonedMany_12 rfl ?_
    refine z_aload_n dX10_reckonedMany_13 rfl ?_
    refine gf_X10_144 (c2 := 39) dX10_reckonedMany_14 rfl (sR_0 hE) (cR_0 hE) rfl ?_
    refine z_iload_n dX10_reckonedMany_17 rfl ?_
    obtain ⟨⟨hi0, hi1⟩, hyp⟩ := hyp
    refine z_iaload dX10_reckonedMany_18 (sR_39 hE) (cR_39 hE) hi0 hi1 ?_
    refine z_iconst dX10_reckonedMany_19 (r32d rfl) ?_
    refine z_icmp_eq (tgt := 27) dX10_reckonedMany_20 (by decide) (fun c_2 => ?_) (fun c_2 => ?_)
    · have hyp := hyp.1 c_2
      refine z_iconst dX10_reckonedMany_27 (r32d rfl) ?_
      refine z_iadd dX10_reckonedMany_28 ?_
      generalize ex_3 : w32 (x1 + 0) = x_3
      have hyp := hyp x_3 ex_3.symm
      refine z_istore_n dX10_reckonedMany_29 rfl (by decide) rfl ?_
      refine z_iinc dX10_reckonedMany_30 rfl (by decide) rfl ?_
      generalize ex_4 : w32 (x2 + 1) = x_4
      have hyp := hyp x_4 ex_4.symm
      refine z_goto (tgt := 4) dX10_reckonedMany_33 (by decide) ?_
      exact hyp
    · have hyp := hyp.2 c_2
      refine z_iconst dX10_reckonedMany_23 (r32d rfl) ?_
      refine z_goto (tgt := 28) dX10_reckonedMany_24 (by decide) ?_
      refine z_iadd dX10_reckonedMany_28 ?_
      generalize ex_5 : w32 (x1 + 1) = x_5
      have hyp := hyp x_5 ex_5.symm
      refine z_istore_n dX10_reckonedMany_29 rfl (by decide) rfl ?_
      refine z_iinc dX10_reckonedMany_30 rfl (by decide) rfl ?_
      generalize ex_6 : w32 (x2 + 1) = x_6
      have hyp := hyp x_6 ex_6.symm
      refine z_goto (tgt := 4) dX10_reckonedMany_33 (by decide) ?_
      exact hyp
set_option maxRecDepth 20000 in
theorem eX10_reckonedMany {E : zE} (hE : isR E) {d : Nat} {h : zH} {K : Int → zH → Prop} (hyp :
  zG E mX10_reckonedMany d 4 [zR 0, zI 0, zI 0] [] h (qI K)) :
  zCI E mX10_reckonedMany d [zR 0] h K := by
  refine zC_in (L0 := [zR 0, zU, zU]) pn_X10 rfl (Nat.le_of_ble_eq_true rfl) ?_
  refine z_iconst dX10_reckonedMany_0 (r32d rfl) ?_
  refine z_istore_n dX10_reckonedMany_1 rfl (by decide) rfl ?_
  refine z_iconst dX10_reckonedMany_2 (r32d rfl) ?_
  refine z_istore_n dX10_reckonedMany_3 rfl (by decide) rfl ?_
  exact hyp
set_option maxRecDepth 20000 in
theorem bX10_ringLine_46 {E : zE} (hE : isR E) {d : Nat} {x1 : Int} {h : zH} {K : zH → Prop} (hyp :
  zCI E mX10_isWord d [zR 0, zI 7] h (fun r_1 h_1 =>
    ((r_1 = 0 →
      ∀ h_3 : zH, h_3 = hset h_1 0 33 (w32 ((h_1 0 33) + 1)) →
      K h_3) ∧
    (¬ (r_1 = 0) →
      ((0 : Int) ≤ x1 ∧ x1 < (16 : Int)) ∧
      (((h_1 5 x1.toNat) ≠ 10 →
        zG E mX10_ringLine (d + 1) 71 [zR 0, zI x1, zU, zU] [] h_1 (qV K)) ∧
      (¬ ((h_1 5 x1.toNat) ≠ 10) →
        zCV E mX10_wrong d [zR 0, zI 2] h_1 (fun h_5 =>
          zG E mX10_ringLine (d + 1) 71 [zR 0, zI x1, zU, zU] [] h_5 (qV K)))))))) :
  zG E mX10_ringLine (d + 1) 46 [zR 0, zI x1, zU, zU] [] h (qV K) := by
  refine z_aload_n dX10_ringLine_46 rfl ?_
  refine z_bipush dX10_ringLine_47 (r32d rfl) (by decide) ?_
  refine cl_X10_279 dX10_ringLine_49 rfl (sR_0 hE) (cR_0 hE) (Nat.le_of_ble_eq_true rfl) (zC_mono ?_ hyp)
  rintro _ h_1 ⟨r_1, rfl, hyp⟩
  refine ⟨r_1, rfl, ?_⟩
  refine z_if_eq (tgt := 236) dX10_ringLine_52 (by decide) (fun c_2 => ?_) (fun c_2 => ?_)
  · have hyp := hyp.1 c_2
    refine z_aload_n dX10_ringLine_236 rfl ?_
    refine z_dup dX10_ringLine_237 rfl ?_
    refine gf_X10_233 dX10_ringLine_238 rfl (sR_0 hE) (cR_0 hE) ?_
    refine z_iconst dX10_ringLine_241 (r32d rfl) ?_
    refine z_iadd dX10_ringLine_242 ?_
    refine pf_X10_233 dX10_ringLine_243 rfl (sR_0 hE) (cR_0 hE) ?_
    generalize eh_3 : hset h_1 0 33 _ = h_3
    have hyp := hyp h_3 eh_3.symm
    exact z_vret dX10_ringLine_246 rfl ⟨rfl, hyp⟩
  · have hyp := hyp.2 c_2
    refine z_aload_n dX10_ringLine_55 rfl ?_
    refine gf_X10_24 (c2 := 5) dX10_ringLine_56 rfl (sR_0 hE) (cR_0 hE) rfl ?_
    refine z_iload_n dX10_ringLine_59 rfl ?_
    obtain ⟨⟨hi0, hi1⟩, hyp⟩ := hyp
    refine z_iaload dX10_ringLine_60 (sR_5 hE) (cR_5 hE) hi0 hi1 ?_
    refine z_bipush dX10_ringLine_61 (r32d rfl) (by decide) ?_
    refine z_icmp_ne (tgt := 71) dX10_ringLine_63 (by decide) (fun c_4 => ?_) (fun c_4 => ?_)
    · have hyp := hyp.1 c_4
      exact hyp
    · have hyp := hyp.2 c_4
      refine z_aload_n dX10_ringLine_66 rfl ?_
      refine z_iconst dX10_ringLine_67 (r32d rfl) ?_
      refine cl_X10_216 dX10_ringLine_68 rfl (sR_0 hE) (cR_0 hE) (Nat.le_of_ble_eq_true rfl) (zC_mono ?_ hyp)
      rintro _ h_5 ⟨rfl, hyp⟩
      refine ⟨rfl, ?_⟩
      exact hyp
set_option maxRecDepth 20000 in
theorem bX10_ringLine_71 {E : zE} (hE : isR E) {d : Nat} {x1 : Int} {h : zH} {K : zH → Prop} (hyp :
  zCV E mX10_goOn d [zR 0] h (fun h_1 =>
    ((0 : Int) ≤ x1 ∧ x1 < (16 : Int)) ∧
    ∀ x_2 : Int, x_2 = w32 ((w32 (10 * x1)) + (min 9 (h_1 5 x1.toNat))) →
    zCI E mX10_signed d [zR 0, zI 999] h_1 (fun r_3 h_3 =>
      ((0 : Int) ≤ x_2 ∧ x_2 < (160 : Int)) ∧
      ∀ h_4 : zH, h_4 = hset h_3 6 (x_2.toNat) r_3 →
      zCI E mX10_signed d [zR 0, zI 999] h_4 (fun r_5 h_5 =>
        ((0 : Int) ≤ x_2 ∧ x_2 < (160 : Int)) ∧
        ∀ h_6 : zH, h_6 = hset h_5 7 (x_2.toNat) r_5 →
        zCI E mX10_isWord d [zR 0, zI 8] h_6 (fun r_7 h_7 =>
          ((r_7 = 0 →
            ((r_7 = 0 →
              zG E mX10_ringLine (d + 1) 152 [zR 0, zI x1, zI x_2, zI r_7] [zI 0, zI x_2, zR 8] h_7 (qV K)) ∧
            (¬ (r_7 = 0) →
              zCI E mX10_signed d [zR 0, zI 99] h_7 (fun r_10 h_10 =>
                zG E mX10_ringLine (d + 1) 152 [zR 0, zI x1, zI x_2, zI r_7] [zI r_10, zI x_2, zR 8] h_10 (qV K))))) ∧
          (¬ (r_7 = 0) →
            zCV E mX10_token d [zR 0] h_7 (fun h_11 =>
              ((r_7 = 0 →
                zG E mX10_ringLine (d + 1) 152 [zR 0, zI x1, zI x_2, zI r_7] [zI 0, zI x_2, zR 8] h_11 (qV K)) ∧
              (¬ (r_7 = 0) →
                zCI E mX10_signed d [zR 0, zI 99] h_11 (fun r_13 h_13 =>
                  zG E mX10_ringLine (d + 1) 152 [zR 0, zI x1, zI x_2, zI r_7] [zI r_13, zI x_2, zR 8] h_13 (qV K)))))))))))) :
  zG E mX10_ringLine (d + 1) 71 [zR 0, zI x1, zU, zU] [] h (qV K) := by
  refine z_aload_n dX10_ringLine_71 rfl ?_
  refine cl_X10_282 dX10_ringLine_72 rfl (sR_0 hE) (cR_0 hE) (Nat.le_of_ble_eq_true rfl) (zC_mono ?_ hyp)
  rintro _ h_1 ⟨rfl, hyp⟩
  refine ⟨rfl, ?_⟩
  refine z_bipush dX10_ringLine_75 (r32d rfl) (by decide) ?_
  refine z_iload_n dX10_ringLine_77 rfl ?_
  refine z_imul dX10_ringLine_78 ?_
  refine z_bipush dX10_ringLine_79 (r32d rfl) (by decide) ?_
  refine z_aload_n dX10_ringLine_81 rfl ?_
  refine gf_X10_24 (c2 := 5) dX10_ringLine_82 rfl (sR_0 hE) (cR_0 hE) rfl ?_
  refine z_iload_n dX10_ringLine_85 rfl ?_
  obtain ⟨⟨hi0, hi1⟩, hyp⟩ := hyp
  refine z_iaload dX10_ringLine_86 (sR_5 hE) (cR_5 hE) hi0 hi1 ?_
  refine cl_X10_285 dX10_ringLine_87 rfl (Nat.le_of_ble_eq_true rfl) ?_
  refine z_iadd dX10_ringLine_90 ?_
  generalize ex_2 : w32 ((w32 (10 * x1)) + (min 9 (h_1 5 x1.toNat))) = x_2
  have hyp := hyp x_2 ex_2.symm
  refine z_istore_n dX10_ringLine_91 rfl (by decide) rfl ?_
  refine z_aload_n dX10_ringLine_92 rfl ?_
  refine gf_X10_27 (c2 := 6) dX10_ringLine_93 rfl (sR_0 hE) (cR_0 hE) rfl ?_
  refine z_iload_n dX10_ringLine_96 rfl ?_
  refine z_aload_n dX10_ringLine_97 rfl ?_
  refine z_sipush dX10_ringLine_98 (r32d rfl) (by decide) ?_
  refine cl_X10_290 dX10_ringLine_101 rfl (sR_0 hE) (cR_0 hE) (Nat.le_of_ble_eq_true rfl) (zC_mono ?_ hyp)
  rintro _ h_3 ⟨r_3, rfl, hyp⟩
  refine ⟨r_3, rfl, ?_⟩
  obtain ⟨⟨hi0, hi1⟩, hyp⟩ := hyp
  refine z_iastore dX10_ringLine_104 (sR_6 hE) (cR_6 hE) hi0 hi1 ?_
  generalize eh_4 : hset h_3 6 _ r_3 = h_4
  have hyp := hyp h_4 eh_4.symm
  refine z_aload_n dX10_ringLine_105 rfl ?_
  refine gf_X10_30 (c2 := 7) dX10_ringLine_106 rfl (sR_0 hE) (cR_0 hE) rfl ?_
  refine z_iload_n dX10_ringLine_109 rfl ?_
  refine z_aload_n dX10_ringLine_110 rfl ?_
  refine z_sipush dX10_ringLine_111 (r32d rfl) (by decide) ?_
  refine cl_X10_290 dX10_ringLine_114 rfl (sR_0 hE) (cR_0 hE) (Nat.le_of_ble_eq_true rfl) (zC_mono ?_ hyp)
  rintro _ h_5 ⟨r_5, rfl, hyp⟩
  refine ⟨r_5, rfl, ?_⟩
  obtain ⟨⟨hi0, hi1⟩, hyp⟩ := hyp
  refine z_iastore dX10_ringLine_117 (sR_7 hE) (cR_7 hE) hi0 hi1 ?_
  generalize eh_6 : hset h_5 7 _ r_5 = h_6
  have hyp := hyp h_6 eh_6.symm
  refine z_aload_n dX10_ringLine_118 rfl ?_
  refine z_bipush dX10_ringLine_119 (r32d rfl) (by decide) ?_
  refine cl_X10_279 dX10_ringLine_121 rfl (sR_0 hE) (cR_0 hE) (Nat.le_of_ble_eq_true rfl) (zC_mono ?_ hyp)
  rintro _ h_7 ⟨r_7, rfl, hyp⟩
  refine ⟨r_7, rfl, ?_⟩
  refine z_istore_n dX10_ringLine_124 rfl (by decide) rfl ?_
  refine z_iload_n dX10_ringLine_125 rfl ?_
  refine z_if_eq (tgt := 133) dX10_ringLine_126 (by decide) (fun c_8 => ?_) (fun c_8 => ?_)
  · have hyp := hyp.1 c_8
    refine z_aload_n dX10_ringLine_133 rfl ?_
    refine gf_X10_33 (c2 := 8) dX10_ringLine_134 rfl (sR_0 hE) (cR_0 hE) rfl ?_
    refine z_iload_n dX10_ringLine_137 rfl ?_
    refine z_iload_n dX10_ringLine_138 rfl ?_
    refine z_if_eq (tgt := 151) dX10_ringLine_139 (by decide) (fun c_9 => ?_) (fun c_9 => ?_)
    · have hyp := hyp.1 c_9
      refine z_iconst dX10_ringLine_151 (r32d rfl) ?_
      exact hyp
    · have hyp := hyp.2 c_9
      refine z_aload_n dX10_ringLine_142 rfl ?_
      refine z_bipush dX10_ringLine_143 (r32d rfl) (by decide) ?_
      refine cl_X10_290 dX10_ringLine_145 rfl (sR_0 hE) (cR_0 hE) (Nat.le_of_ble_eq_true rfl) (zC_mono ?_ hyp)
      rintro _ h_10 ⟨r_10, rfl, hyp⟩
      refine ⟨r_10, rfl, ?_⟩
      refine z_goto (tgt := 152) dX10_ringLine_148 (by decide) ?_
      exact hyp
  · have hyp := hyp.2 c_8
    refine z_aload_n dX10_ringLine_129 rfl ?_
    refine cl_X10_213 dX10_ringLine_130 rfl (sR_0 hE) (cR_0 hE) (Nat.le_of_ble_eq_true rfl) (zC_mono ?_ hyp)
    rintro _ h_11 ⟨rfl, hyp⟩
    refine ⟨rfl, ?_⟩
    refine z_aload_n dX10_ringLine_133 rfl ?_
    refine gf_X10_33 (c2 := 8) dX10_ringLine_134 rfl (sR_0 hE) (cR_0 hE) rfl ?_
    refine z_iload_n dX10_ringLine_137 rfl ?_
    refine z_iload_n dX10_ringLine_138 rfl ?_
    refine z_if_eq (tgt := 151) dX10_ringLine_139 (by decide) (fun c_12 => ?_) (fun c_12 => ?_)
    · have hyp := hyp.1 c_12
      refine z_iconst dX10_ringLine_151 (r32d rfl) ?_
      exact hyp
    · have hyp := hyp.2 c_12
      refine z_aload_n dX10_ringLine_142 rfl ?_
      refine z_bipush dX10_ringLine_143 (r32d rfl) (by decide) ?_
      refine cl_X10_290 dX10_ringLine_145 rfl (sR_0 hE) (cR_0 hE) (Nat.le_of_ble_eq_true rfl) (zC_mono ?_ hyp)
      rintro _ h_13 ⟨r_13, rfl, hyp⟩
      refine ⟨r_13, rfl, ?_⟩
      refine z_goto (tgt := 152) dX10_ringLine_148 (by decide) ?_
      exact hyp
set_option maxRecDepth 20000 in
theorem bX10_ringLine_152 {E : zE} (hE : isR E) {d : Nat} {x1 x2 x3 s0 s1 : Int} {h : zH} {K : zH → Prop} (hyp :
  ((0 : Int) ≤ s1 ∧ s1 < (160 : Int)) ∧
  ∀ h_1 : zH, h_1 = hset h 8 (s1.toNat) s0 →
  ((x3 = 0 →
    zG E mX10_ringLine (d + 1) 172 [zR 0, zI x1, zI x2, zU] [zI 0, zI x2, zR 9] h_1 (qV K)) ∧
  (¬ (x3 = 0) →
    zCI E mX10_signed d [zR 0, zI 99] h_1 (fun r_3 h_3 =>
      zG E mX10_ringLine (d + 1) 172 [zR 0, zI x1, zI x2, zU] [zI r_3, zI x2, zR 9] h_3 (qV K))))) :
  zG E mX10_ringLine (d + 1) 152 [zR 0, zI x1, zI x2, zI x3] [zI s0, zI s1, zR 8] h (qV K) := by
  obtain ⟨⟨hi0, hi1⟩, hyp⟩ := hyp
  refine z_iastore dX10_ringLine_152 (sR_8 hE) (cR_8 hE) hi0 hi1 ?_
  generalize eh_1 : hset h 8 _ s0 = h_1
  have hyp := hyp h_1 eh_1.symm
  refine z_aload_n dX10_ringLine_153 rfl ?_
  refine gf_X10_36 (c2 := 9) dX10_ringLine_154 rfl (sR_0 hE) (cR_0 hE) rfl ?_
  refine z_iload_n dX10_ringLine_157 rfl ?_
  refine z_iload_n dX10_ringLine_158 rfl ?_
  refine z_if_eq (tgt := 171) dX10_ringLine_159 (by decide) (fun c_2 => ?_) (fun c_2 => ?_)
  · have hyp := hyp.1 c_2
    refine z_iconst dX10_ringLine_171 (r32d rfl) ?_
    exact z_forget [true, true, true, false] rfl hyp
  · have hyp := hyp.2 c_2
    refine z_aload_n dX10_ringLine_162 rfl ?_
    refine z_bipush dX10_ringLine_163 (r32d rfl) (by decide) ?_
    refine cl_X10_290 dX10_ringLine_165 rfl (sR_0 hE) (cR_0 hE) (Nat.le_of_ble_eq_true rfl) (zC_mono ?_ hyp)
    rintro _ h_3 ⟨r_3, rfl, hyp⟩
    refine ⟨r_3, rfl, ?_⟩
    refine z_goto (tgt := 172) dX10_ringLine_168 (by decide) ?_
    exact z_forget [true, true, true, false] rfl hyp
set_option maxRecDepth 20000 in
theorem bX10_ringLine_172 {E : zE} (hE : isR E) {d : Nat} {x1 x2 s0 s1 : Int} {h : zH} {K : zH → Prop} (hyp :
  ((0 : Int) ≤ s1 ∧ s1 < (160 : Int)) ∧
  ∀ h_1 : zH, h_1 = hset h 9 (s1.toNat) s0 →
  zCI E mX10_isWord d [zR 0, zI 9] h_1 (fun r_2 h_2 =>
    ((0 : Int) ≤ x2 ∧ x2 < (160 : Int)) ∧
    (r_2 = 0 ∨ r_2 = 1) ∧
    ∀ h_3 : zH, h_3 = hset h_2 10 (x2.toNat) r_2 →
    ((0 : Int) ≤ x2 ∧ x2 < (160 : Int)) ∧
    (((h_3 10 x2.toNat) = 0 →
      zG E mX10_ringLine (d + 1) 198 [zR 0, zI x1, zI x2, zU] [] h_3 (qV K)) ∧
    (¬ ((h_3 10 x2.toNat) = 0) →
      zCV E mX10_token d [zR 0] h_3 (fun h_5 =>
        zG E mX10_ringLine (d + 1) 198 [zR 0, zI x1, zI x2, zU] [] h_5 (qV K)))))) :
  zG E mX10_ringLine (d + 1) 172 [zR 0, zI x1, zI x2, zU] [zI s0, zI s1, zR 9] h (qV K) := by
  obtain ⟨⟨hi0, hi1⟩, hyp⟩ := hyp
  refine z_iastore dX10_ringLine_172 (sR_9 hE) (cR_9 hE) hi0 hi1 ?_
  generalize eh_1 : hset h 9 _ s0 = h_1
  have hyp := hyp h_1 eh_1.symm
  refine z_aload_n dX10_ringLine_173 rfl ?_
  refine gf_X10_39 (c2 := 10) dX10_ringLine_174 rfl (sR_0 hE) (cR_0 hE) rfl ?_
  refine z_iload_n dX10_ringLine_177 rfl ?_
  refine z_aload_n dX10_ringLine_178 rfl ?_
  refine z_bipush dX10_ringLine_179 (r32d rfl) (by decide) ?_
  refine cl_X10_279 dX10_ringLine_181 rfl (sR_0 hE) (cR_0 hE) (Nat.le_of_ble_eq_true rfl) (zC_mono ?_ hyp)
  rintro _ h_2 ⟨r_2, rfl, hyp⟩
  refine ⟨r_2, rfl, ?_⟩
  obtain ⟨⟨hi0, hi1⟩, hyp⟩ := hyp
  obtain ⟨hx0, hyp⟩ := hyp
  refine z_bastore dX10_ringLine_184 (sR_10 hE) (cR_10 hE) hi0 hi1 hx0 ?_
  generalize eh_3 : hset h_2 10 _ r_2 = h_3
  have hyp := hyp h_3 eh_3.symm
  refine z_aload_n dX10_ringLine_185 rfl ?_
  refine gf_X10_39 (c2 := 10) dX10_ringLine_186 rfl (sR_0 hE) (cR_0 hE) rfl ?_
  refine z_iload_n dX10_ringLine_189 rfl ?_
  obtain ⟨⟨hi0, hi1⟩, hyp⟩ := hyp
  refine z_baload dX10_ringLine_190 (sR_10 hE) (cR_10 hE) hi0 hi1 ?_
  refine z_if_eq (tgt := 198) dX10_ringLine_191 (by decide) (fun c_4 => ?_) (fun c_4 => ?_)
  · have hyp := hyp.1 c_4
    exact hyp
  · have hyp := hyp.2 c_4
    refine z_aload_n dX10_ringLine_194 rfl ?_
    refine cl_X10_213 dX10_ringLine_195 rfl (sR_0 hE) (cR_0 hE) (Nat.le_of_ble_eq_true rfl) (zC_mono ?_ hyp)
    rintro _ h_5 ⟨rfl, hyp⟩
    refine ⟨rfl, ?_⟩
    exact hyp
set_option maxRecDepth 20000 in
theorem bX10_ringLine_198 {E : zE} (hE : isR E) {d : Nat} {x1 x2 : Int} {h : zH} {K : zH → Prop} (hyp :
  zCI E mX10_isWord d [zR 0, zI 10] h (fun r_1 h_1 =>
    ((0 : Int) ≤ x2 ∧ x2 < (160 : Int)) ∧
    (r_1 = 0 ∨ r_1 = 1) ∧
    ∀ h_2 : zH, h_2 = hset h_1 11 (x2.toNat) r_1 →
    ((0 : Int) ≤ x2 ∧ x2 < (160 : Int)) ∧
    (((h_2 11 x2.toNat) = 0 →
      ((0 : Int) ≤ x1 ∧ x1 < (16 : Int)) ∧
      ((0 : Int) ≤ x1 ∧ x1 < (16 : Int)) ∧
      ∀ h_4 : zH, h_4 = hset h_2 5 (x1.toNat) (w32 ((h_2 5 x1.toNat) + 1)) →
      zG E mX10_ringLine (d + 1) 46 [zR 0, zI x1, zU, zU] [] h_4 (qV K)) ∧
    (¬ ((h_2 11 x2.toNat) = 0) →
      zCV E mX10_token d [zR 0] h_2 (fun h_5 =>
        ((0 : Int) ≤ x1 ∧ x1 < (16 : Int)) ∧
        ((0 : Int) ≤ x1 ∧ x1 < (16 : Int)) ∧
        ∀ h_6 : zH, h_6 = hset h_5 5 (x1.toNat) (w32 ((h_5 5 x1.toNat) + 1)) →
        zG E mX10_ringLine (d + 1) 46 [zR 0, zI x1, zU, zU] [] h_6 (qV K)))))) :
  zG E mX10_ringLine (d + 1) 198 [zR 0, zI x1, zI x2, zU] [] h (qV K) := by
  refine z_aload_n dX10_ringLine_198 rfl ?_
  refine gf_X10_43 (c2 := 11) dX10_ringLine_199 rfl (sR_0 hE) (cR_0 hE) rfl ?_
  refine z_iload_n dX10_ringLine_202 rfl ?_
  refine z_aload_n dX10_ringLine_203 rfl ?_
  refine z_bipush dX10_ringLine_204 (r32d rfl) (by decide) ?_
  refine cl_X10_279 dX10_ringLine_206 rfl (sR_0 hE) (cR_0 hE) (Nat.le_of_ble_eq_true rfl) (zC_mono ?_ hyp)
  rintro _ h_1 ⟨r_1, rfl, hyp⟩
  refine ⟨r_1, rfl, ?_⟩
  obtain ⟨⟨hi0, hi1⟩, hyp⟩ := hyp
  obtain ⟨hx0, hyp⟩ := hyp
  refine z_bastore dX10_ringLine_209 (sR_11 hE) (cR_11 hE) hi0 hi1 hx0 ?_
  generalize eh_2 : hset h_1 11 _ r_1 = h_2
  have hyp := hyp h_2 eh_2.symm
  refine z_aload_n dX10_ringLine_210 rfl ?_
  refine gf_X10_43 (c2 := 11) dX10_ringLine_211 rfl (sR_0 hE) (cR_0 hE) rfl ?_
  refine z_iload_n dX10_ringLine_214 rfl ?_
  obtain ⟨⟨hi0, hi1⟩, hyp⟩ := hyp
  refine z_baload dX10_ringLine_215 (sR_11 hE) (cR_11 hE) hi0 hi1 ?_
  refine z_if_eq (tgt := 223) dX10_ringLine_216 (by decide) (fun c_3 => ?_) (fun c_3 => ?_)
  · have hyp := hyp.1 c_3
    refine z_aload_n dX10_ringLine_223 rfl ?_
    refine gf_X10_24 (c2 := 5) dX10_ringLine_224 rfl (sR_0 hE) (cR_0 hE) rfl ?_
    refine z_iload_n dX10_ringLine_227 rfl ?_
    refine z_dup2 dX10_ringLine_228 rfl rfl ?_
    obtain ⟨⟨hi0, hi1⟩, hyp⟩ := hyp
    refine z_iaload dX10_ringLine_229 (sR_5 hE) (cR_5 hE) hi0 hi1 ?_
    refine z_iconst dX10_ringLine_230 (r32d rfl) ?_
    refine z_iadd dX10_ringLine_231 ?_
    obtain ⟨⟨hi0, hi1⟩, hyp⟩ := hyp
    refine z_iastore dX10_ringLine_232 (sR_5 hE) (cR_5 hE) hi0 hi1 ?_
    generalize eh_4 : hset h_2 5 _ (w32 ((h_2 5 x1.toNat) + 1)) = h_4
    have hyp := hyp h_4 eh_4.symm
    refine z_goto (tgt := 46) dX10_ringLine_233 (by decide) ?_
    exact z_forget [true, true, false, false] rfl hyp
  · have hyp := hyp.2 c_3
    refine z_aload_n dX10_ringLine_219 rfl ?_
    refine cl_X10_213 dX10_ringLine_220 rfl (sR_0 hE) (cR_0 hE) (Nat.le_of_ble_eq_true rfl) (zC_mono ?_ hyp)
    rintro _ h_5 ⟨rfl, hyp⟩
    refine ⟨rfl, ?_⟩
    refine z_aload_n dX10_ringLine_223 rfl ?_
    refine gf_X10_24 (c2 := 5) dX10_ringLine_224 rfl (sR_0 hE) (cR_0 hE) rfl ?_
    refine z_iload_n dX10_ringLine_227 rfl ?_
    refine z_dup2 dX10_ringLine_228 rfl rfl ?_
    obtain ⟨⟨hi0, hi1⟩, hyp⟩ := hyp
    refine z_iaload dX10_ringLine_229 (sR_5 hE) (cR_5 hE) hi0 hi1 ?_
    refine z_iconst dX10_ringLine_230 (r32d rfl) ?_
    refine z_iadd dX10_ringLine_231 ?_
    obtain ⟨⟨hi0, hi1⟩, hyp⟩ := hyp
    refine z_iastore dX10_ringLine_232 (sR_5 hE) (cR_5 hE) hi0 hi1 ?_
    generalize eh_6 : hset h_5 5 _ (w32 ((h_5 5 x1.toNat) + 1)) = h_6
    have hyp := hyp h_6 eh_6.symm
    refine z_goto (tgt := 46) dX10_ringLine_233 (by decide) ?_
    exact z_forget [true, true, false, false] rfl hyp
set_option maxRecDepth 20000 in
theorem eX10_ringLine {E : zE} (hE : isR E) {d : Nat} {x1 : Int} {h : zH} {K : zH → Prop} (hyp :
  zCI E mX10_fresh d [zR 0, zR 3, zI 8, zI (h 0 33)] h (fun r_1 h_1 =>
    ((0 : Int) ≤ x1 ∧ x1 < (16 : Int)) ∧
    ∀ h_2 : zH, h_2 = hset h_1 3 (x1.toNat) r_1 →
    zCI E mX10_toldAhead d [zR 0, zR 2, zI 4, zI (h_2 0 32)] h_2 (fun r_3 h_3 =>
      ((0 : Int) ≤ x1 ∧ x1 < (16 : Int)) ∧
      ∀ h_4 : zH, h_4 = hset h_3 4 (x1.toNat) r_3 →
      ((0 : Int) ≤ x1 ∧ x1 < (16 : Int)) ∧
      ∀ h_5 : zH, h_5 = hset h_4 5 (x1.toNat) 0 →
      zG E mX10_ringLine (d + 1) 46 [zR 0, zI x1, zU, zU] [] h_5 (qV K)))) :
  zCV E mX10_ringLine (d + 1) [zR 0, zI x1] h K := by
  refine zC_in (L0 := [zR 0, zI x1, zU, zU]) pn_X10 rfl (Nat.le_of_ble_eq_true rfl) ?_
  refine z_aload_n dX10_ringLine_0 rfl ?_
  refine gf_X10_18 (c2 := 3) dX10_ringLine_1 rfl (sR_0 hE) (cR_0 hE) rfl ?_
  refine z_iload_n dX10_ringLine_4 rfl ?_
  refine z_aload_n dX10_ringLine_5 rfl ?_
  refine z_aload_n dX10_ringLine_6 rfl ?_
  refine gf_X10_18 (c2 := 3) dX10_ringLine_7 rfl (sR_0 hE) (cR_0 hE) rfl ?_
  refine z_bipush dX10_ringLine_10 (r32d rfl) (by decide) ?_
  refine z_aload_n dX10_ringLine_12 rfl ?_
  refine gf_X10_233 dX10_ringLine_13 rfl (sR_0 hE) (cR_0 hE) ?_
  refine cl_X10_248 dX10_ringLine_16 rfl (sR_0 hE) (cR_0 hE) (Nat.le_of_ble_eq_true rfl) (zC_mono ?_ hyp)
  rintro _ h_1 ⟨r_1, rfl, hyp⟩
  refine ⟨r_1, rfl, ?_⟩
  obtain ⟨⟨hi0, hi1⟩, hyp⟩ := hyp
  refine z_iastore dX10_ringLine_19 (sR_3 hE) (cR_3 hE) hi0 hi1 ?_
  generalize eh_2 : hset h_1 3 _ r_1 = h_2
  have hyp := hyp h_2 eh_2.symm
  refine z_aload_n dX10_ringLine_20 rfl ?_
  refine gf_X10_21 (c2 := 4) dX10_ringLine_21 rfl (sR_0 hE) (cR_0 hE) rfl ?_
  refine z_iload_n dX10_ringLine_24 rfl ?_
  refine z_aload_n dX10_ringLine_25 rfl ?_
  refine z_aload_n dX10_ringLine_26 rfl ?_
  refine gf_X10_15 (c2 := 2) dX10_ringLine_27 rfl (sR_0 hE) (cR_0 hE) rfl ?_
  refine z_iconst dX10_ringLine_30 (r32d rfl) ?_
  refine z_aload_n dX10_ringLine_31 rfl ?_
  refine gf_X10_230 dX10_ringLine_32 rfl (sR_0 hE) (cR_0 hE) ?_
  refine cl_X10_276 dX10_ringLine_35 rfl (sR_0 hE) (cR_0 hE) (Nat.le_of_ble_eq_true rfl) (zC_mono ?_ hyp)
  rintro _ h_3 ⟨r_3, rfl, hyp⟩
  refine ⟨r_3, rfl, ?_⟩
  obtain ⟨⟨hi0, hi1⟩, hyp⟩ := hyp
  refine z_iastore dX10_ringLine_38 (sR_4 hE) (cR_4 hE) hi0 hi1 ?_
  generalize eh_4 : hset h_3 4 _ r_3 = h_4
  have hyp := hyp h_4 eh_4.symm
  refine z_aload_n dX10_ringLine_39 rfl ?_
  refine gf_X10_24 (c2 := 5) dX10_ringLine_40 rfl (sR_0 hE) (cR_0 hE) rfl ?_
  refine z_iload_n dX10_ringLine_43 rfl ?_
  refine z_iconst dX10_ringLine_44 (r32d rfl) ?_
  obtain ⟨⟨hi0, hi1⟩, hyp⟩ := hyp
  refine z_iastore dX10_ringLine_45 (sR_5 hE) (cR_5 hE) hi0 hi1 ?_
  generalize eh_5 : hset h_4 5 _ 0 = h_5
  have hyp := hyp h_5 eh_5.symm
  exact hyp
set_option maxRecDepth 20000 in
theorem bX10_root_7 {E : zE} (hE : isR E) {d : Nat} {y0 y2 y4 : Int} {h : zH} {K : Int → zH → Prop} (hyp :
  ((y4 ≤ y2 →
    K (w32 y2) h) ∧
  (¬ (y4 ≤ y2) →
    ∀ y_2 : Int, y_2 = w64 (Int.tdiv (w64 ((w64 (y2 + y4)) + 1)) 2) →
    ((y0 < (w64 (y_2 * y_2)) →
      ∀ y_4 : Int, y_4 = w64 (y_2 - 1) →
      zG E mX10_root d 7 [zJ y0, zU, zJ y2, zU, zJ y_4, zU, zU, zU] [] h (qI K)) ∧
    (¬ (y0 < (w64 (y_2 * y_2))) →
      zG E mX10_root d 7 [zJ y0, zU, zJ y_2, zU, zJ y4, zU, zU, zU] [] h (qI K)))))) :
  zG E mX10_root d 7 [zJ y0, zU, zJ y2, zU, zJ y4, zU, zU, zU] [] h (qI K) := by
  refine z_lload_n dX10_root_7 rfl ?_
  refine z_lload dX10_root_8 rfl ?_
  refine z_lc_ge (tgt := 51) dX10_root_10 dX10_root_11 (by decide) (fun c_1 => ?_) (fun c_1 => ?_)
  · have hyp := hyp.1 c_1
    refine z_lload_n dX10_root_51 rfl ?_
    refine z_l2i dX10_root_52 ?_
    exact z_iret dX10_root_53 rfl ⟨_, rfl, hyp⟩
  · have hyp := hyp.2 c_1
    refine z_lload_n dX10_root_14 rfl ?_
    refine z_lload dX10_root_15 rfl ?_
    refine z_ladd dX10_root_17 ?_
    refine z_lconst (x := 1) dX10_root_18 (by decide) (r64d rfl) ?_
    refine z_ladd dX10_root_19 ?_
    refine z_ldc2 (x := 2) dX10_root_20 rfl wk_X10_393 (by decide) (r64d rfl) ?_
    refine z_ldiv (by decide) dX10_root_23 ?_
    generalize ey_2 : w64 (Int.tdiv (w64 ((w64 (y2 + y4)) + 1)) 2) = y_2
    have hyp := hyp y_2 ey_2.symm
    refine z_lstore dX10_root_24 (by decide) rfl ?_
    refine z_lload dX10_root_26 rfl ?_
    refine z_lload dX10_root_28 rfl ?_
    refine z_lmul dX10_root_30 ?_
    refine z_lload_n dX10_root_31 rfl ?_
    refine z_lc_gt (tgt := 42) dX10_root_32 dX10_root_33 (by decide) (fun c_3 => ?_) (fun c_3 => ?_)
    · have hyp := hyp.1 c_3
      refine z_lload dX10_root_42 rfl ?_
      refine z_lconst (x := 1) dX10_root_44 (by decide) (r64d rfl) ?_
      refine z_lsub dX10_root_45 ?_
      generalize ey_4 : w64 (y_2 - 1) = y_4
      have hyp := hyp y_4 ey_4.symm
      refine z_lstore dX10_root_46 (by decide) rfl ?_
      refine z_goto (tgt := 7) dX10_root_48 (by decide) ?_
      exact z_forget [true, false, true, false, true, false, false, false] rfl hyp
    · have hyp := hyp.2 c_3
      refine z_lload dX10_root_36 rfl ?_
      refine z_lstore_n dX10_root_38 rfl (by decide) rfl ?_
      refine z_goto (tgt := 48) dX10_root_39 (by decide) ?_
      refine z_goto (tgt := 7) dX10_root_48 (by decide) ?_
      exact z_forget [true, false, true, false, true, false, false, false] rfl hyp
set_option maxRecDepth 20000 in
theorem eX10_root {E : zE} (hE : isR E) {d : Nat} {y0 : Int} {h : zH} {K : Int → zH → Prop} (hyp :
  zG E mX10_root d 7 [zJ y0, zU, zJ 0, zU, zJ 1000000, zU, zU, zU] [] h (qI K)) :
  zCI E mX10_root d [zJ y0] h K := by
  refine zC_in (L0 := [zJ y0, zU, zU, zU, zU, zU, zU, zU]) pn_X10 rfl (Nat.le_of_ble_eq_true rfl) ?_
  refine z_lconst (x := 0) dX10_root_0 (by decide) (r64d rfl) ?_
  refine z_lstore_n dX10_root_1 rfl (by decide) rfl ?_
  refine z_ldc2 (x := 1000000) dX10_root_2 rfl wk_X10_391 (by decide) (r64d rfl) ?_
  refine z_lstore dX10_root_5 (by decide) rfl ?_
  exact hyp
set_option maxRecDepth 20000 in
theorem bX10_saidLine_13 {E : zE} (hE : isR E) {d : Nat} {x1 : Int} {h : zH} {K : zH → Prop} (hyp :
  (((h 0 49) = 0 →
    zCI E mX10_found d [zR 15, zI 6, zI (h 0 36), zI (h 0 48)] h (fun r_2 h_2 =>
      zG E mX10_saidLine (d + 1) 41 [zR 0, zI x1, zU] [zI r_2] h_2 (qV K))) ∧
  (¬ ((h 0 49) = 0) →
    zG E mX10_saidLine (d + 1) 41 [zR 0, zI x1, zU] [zI 0] h (qV K)))) :
  zG E mX10_saidLine (d + 1) 13 [zR 0, zI x1, zU] [] h (qV K) := by
  refine z_aload_n dX10_saidLine_13 rfl ?_
  refine gf_X10_207 dX10_saidLine_14 rfl (sR_0 hE) (cR_0 hE) ?_
  refine z_if_eq (tgt := 24) dX10_saidLine_17 (by decide) (fun c_1 => ?_) (fun c_1 => ?_)
  · have hyp := hyp.1 c_1
    refine z_aload_n dX10_saidLine_24 rfl ?_
    refine gf_X10_55 (c2 := 15) dX10_saidLine_25 rfl (sR_0 hE) (cR_0 hE) rfl ?_
    refine z_bipush dX10_saidLine_28 (r32d rfl) (by decide) ?_
    refine z_aload_n dX10_saidLine_30 rfl ?_
    refine gf_X10_294 dX10_saidLine_31 rfl (sR_0 hE) (cR_0 hE) ?_
    refine z_aload_n dX10_saidLine_34 rfl ?_
    refine gf_X10_182 dX10_saidLine_35 rfl (sR_0 hE) (cR_0 hE) ?_
    refine cl_X10_226 dX10_saidLine_38 rfl (Nat.le_of_ble_eq_true rfl) (zC_mono ?_ hyp)
    rintro _ h_2 ⟨r_2, rfl, hyp⟩
    refine ⟨r_2, rfl, ?_⟩
    exact hyp
  · have hyp := hyp.2 c_1
    refine z_iconst dX10_saidLine_20 (r32d rfl) ?_
    refine z_goto (tgt := 41) dX10_saidLine_21 (by decide) ?_
    exact hyp
set_option maxRecDepth 20000 in
theorem bX10_saidLine_41 {E : zE} (hE : isR E) {d : Nat} {x1 s0 : Int} {h : zH} {K : zH → Prop} (hyp :
  ((s0 ≠ (-1) →
    zG E mX10_saidLine (d + 1) 61 [zR 0, zI x1, zI s0] [] h (qV K)) ∧
  (¬ (s0 ≠ (-1)) →
    (((h 0 36) ≠ 6 →
      zG E mX10_saidLine (d + 1) 61 [zR 0, zI x1, zI s0] [] h (qV K)) ∧
    (¬ ((h 0 36) ≠ 6) →
      zCV E mX10_wrong d [zR 0, zI 2] h (fun h_3 =>
        zG E mX10_saidLine (d + 1) 61 [zR 0, zI x1, zI s0] [] h_3 (qV K))))))) :
  zG E mX10_saidLine (d + 1) 41 [zR 0, zI x1, zU] [zI s0] h (qV K) := by
  refine z_istore_n dX10_saidLine_41 rfl (by decide) rfl ?_
  refine z_iload_n dX10_saidLine_42 rfl ?_
  refine z_iconst dX10_saidLine_43 (r32d rfl) ?_
  refine z_icmp_ne (tgt := 61) dX10_saidLine_44 (by decide) (fun c_1 => ?_) (fun c_1 => ?_)
  · have hyp := hyp.1 c_1
    exact hyp
  · have hyp := hyp.2 c_1
    refine z_aload_n dX10_saidLine_47 rfl ?_
    refine gf_X10_294 dX10_saidLine_48 rfl (sR_0 hE) (cR_0 hE) ?_
    refine z_bipush dX10_saidLine_51 (r32d rfl) (by decide) ?_
    refine z_icmp_ne (tgt := 61) dX10_saidLine_53 (by decide) (fun c_2 => ?_) (fun c_2 => ?_)
    · have hyp := hyp.1 c_2
      exact hyp
    · have hyp := hyp.2 c_2
      refine z_aload_n dX10_saidLine_56 rfl ?_
      refine z_iconst dX10_saidLine_57 (r32d rfl) ?_
      refine cl_X10_216 dX10_saidLine_58 rfl (sR_0 hE) (cR_0 hE) (Nat.le_of_ble_eq_true rfl) (zC_mono ?_ hyp)
      rintro _ h_3 ⟨rfl, hyp⟩
      refine ⟨rfl, ?_⟩
      exact hyp
set_option maxRecDepth 20000 in
theorem bX10_saidLine_61 {E : zE} (hE : isR E) {d : Nat} {x1 x2 : Int} {h : zH} {K : zH → Prop} (hyp :
  (((h 0 49) = 0 →
    ((x2 ≠ (-1) →
      zG E mX10_saidLine (d + 1) 102 [zR 0, zI x1, zI x2] [] h (qV K)) ∧
    (¬ (x2 ≠ (-1)) →
      ∀ x_3 : Int, x_3 = h 0 36 →
      ((0 : Int) ≤ w32 (6 + x_3) ∧ w32 (6 + x_3) < (12 : Int)) ∧
      ∀ h_4 : zH, h_4 = hset h 15 ((w32 (6 + x_3)).toNat) (h 0 48) →
      ∀ h_5 : zH, h_5 = hset h_4 0 36 (w32 ((h_4 0 36) + 1)) →
      zG E mX10_saidLine (d + 1) 102 [zR 0, zI x1, zI x_3] [] h_5 (qV K)))) ∧
  (¬ ((h 0 49) = 0) →
    K h))) :
  zG E mX10_saidLine (d + 1) 61 [zR 0, zI x1, zI x2] [] h (qV K) := by
  refine z_aload_n dX10_saidLine_61 rfl ?_
  refine gf_X10_207 dX10_saidLine_62 rfl (sR_0 hE) (cR_0 hE) ?_
  refine z_if_eq (tgt := 69) dX10_saidLine_65 (by decide) (fun c_1 => ?_) (fun c_1 => ?_)
  · have hyp := hyp.1 c_1
    refine z_iload_n dX10_saidLine_69 rfl ?_
    refine z_iconst dX10_saidLine_70 (r32d rfl) ?_
    refine z_icmp_ne (tgt := 102) dX10_saidLine_71 (by decide) (fun c_2 => ?_) (fun c_2 => ?_)
    · have hyp := hyp.1 c_2
      exact hyp
    · have hyp := hyp.2 c_2
      refine z_aload_n dX10_saidLine_74 rfl ?_
      refine gf_X10_294 dX10_saidLine_75 rfl (sR_0 hE) (cR_0 hE) ?_
      generalize ex_3 : h 0 36 = x_3
      have hyp := hyp x_3 ex_3.symm
      refine z_istore_n dX10_saidLine_78 rfl (by decide) rfl ?_
      refine z_aload_n dX10_saidLine_79 rfl ?_
      refine gf_X10_55 (c2 := 15) dX10_saidLine_80 rfl (sR_0 hE) (cR_0 hE) rfl ?_
      refine z_bipush dX10_saidLine_83 (r32d rfl) (by decide) ?_
      refine z_iload_n dX10_saidLine_85 rfl ?_
      refine z_iadd dX10_saidLine_86 ?_
      refine z_aload_n dX10_saidLine_87 rfl ?_
      refine gf_X10_182 dX10_saidLine_88 rfl (sR_0 hE) (cR_0 hE) ?_
      obtain ⟨⟨hi0, hi1⟩, hyp⟩ := hyp
      refine z_iastore dX10_saidLine_91 (sR_15 hE) (cR_15 hE) hi0 hi1 ?_
      generalize eh_4 : hset h 15 _ (h 0 48) = h_4
      have hyp := hyp h_4 eh_4.symm
      refine z_aload_n dX10_saidLine_92 rfl ?_
      refine z_dup dX10_saidLine_93 rfl ?_
      refine gf_X10_294 dX10_saidLine_94 rfl (sR_0 hE) (cR_0 hE) ?_
      refine z_iconst dX10_saidLine_97 (r32d rfl) ?_
      refine z_iadd dX10_saidLine_98 ?_
      refine pf_X10_294 dX10_saidLine_99 rfl (sR_0 hE) (cR_0 hE) ?_
      generalize eh_5 : hset h_4 0 36 _ = h_5
      have hyp := hyp h_5 eh_5.symm
      exact hyp
  · have hyp := hyp.2 c_1
    exact z_vret dX10_saidLine_68 rfl ⟨rfl, hyp⟩
set_option maxRecDepth 20000 in
theorem bX10_saidLine_102 {E : zE} (hE : isR E) {d : Nat} {x1 x2 : Int} {h : zH} {K : zH → Prop} (hyp :
  zCV E mX10_token d [zR 0] h (fun h_1 =>
    ((0 : Int) ≤ x1 ∧ x1 < (40 : Int)) ∧
    ∀ h_2 : zH, h_2 = hset h_1 16 (x1.toNat) x2 →
    zCI E mX10_toldAhead d [zR 0, zR 3, zI 8, zI (h_2 0 33)] h_2 (fun r_3 h_3 =>
      ((0 : Int) ≤ x1 ∧ x1 < (40 : Int)) ∧
      ∀ h_4 : zH, h_4 = hset h_3 17 (x1.toNat) r_3 →
      zCI E mX10_numeral d [zR 0, zI 1, zI 99999] h_4 (fun r_5 h_5 =>
        ((0 : Int) ≤ x1 ∧ x1 < (40 : Int)) ∧
        ∀ h_6 : zH, h_6 = hset h_5 18 (x1.toNat) r_5 →
        zCI E mX10_isWord d [zR 0, zI 11] h_6 (fun r_7 h_7 =>
          ((0 : Int) ≤ x1 ∧ x1 < (40 : Int)) ∧
          (r_7 = 0 ∨ r_7 = 1) ∧
          ∀ h_8 : zH, h_8 = hset h_7 19 (x1.toNat) r_7 →
          ((0 : Int) ≤ x1 ∧ x1 < (40 : Int)) ∧
          (((h_8 19 x1.toNat) = 0 →
            ∀ h_10 : zH, h_10 = hset h_8 0 35 (w32 ((h_8 0 35) + 1)) →
            K h_10) ∧
          (¬ ((h_8 19 x1.toNat) = 0) →
            zCV E mX10_token d [zR 0] h_8 (fun h_11 =>
              ∀ h_12 : zH, h_12 = hset h_11 0 35 (w32 ((h_11 0 35) + 1)) →
              K h_12)))))))) :
  zG E mX10_saidLine (d + 1) 102 [zR 0, zI x1, zI x2] [] h (qV K) := by
  refine z_aload_n dX10_saidLine_102 rfl ?_
  refine cl_X10_213 dX10_saidLine_103 rfl (sR_0 hE) (cR_0 hE) (Nat.le_of_ble_eq_true rfl) (zC_mono ?_ hyp)
  rintro _ h_1 ⟨rfl, hyp⟩
  refine ⟨rfl, ?_⟩
  refine z_aload_n dX10_saidLine_106 rfl ?_
  refine gf_X10_58 (c2 := 16) dX10_saidLine_107 rfl (sR_0 hE) (cR_0 hE) rfl ?_
  refine z_iload_n dX10_saidLine_110 rfl ?_
  refine z_iload_n dX10_saidLine_111 rfl ?_
  obtain ⟨⟨hi0, hi1⟩, hyp⟩ := hyp
  refine z_iastore dX10_saidLine_112 (sR_16 hE) (cR_16 hE) hi0 hi1 ?_
  generalize eh_2 : hset h_1 16 _ x2 = h_2
  have hyp := hyp h_2 eh_2.symm
  refine z_aload_n dX10_saidLine_113 rfl ?_
  refine gf_X10_61 (c2 := 17) dX10_saidLine_114 rfl (sR_0 hE) (cR_0 hE) rfl ?_
  refine z_iload_n dX10_saidLine_117 rfl ?_
  refine z_aload_n dX10_saidLine_118 rfl ?_
  refine z_aload_n dX10_saidLine_119 rfl ?_
  refine gf_X10_18 (c2 := 3) dX10_saidLine_120 rfl (sR_0 hE) (cR_0 hE) rfl ?_
  refine z_bipush dX10_saidLine_123 (r32d rfl) (by decide) ?_
  refine z_aload_n dX10_saidLine_125 rfl ?_
  refine gf_X10_233 dX10_saidLine_126 rfl (sR_0 hE) (cR_0 hE) ?_
  refine cl_X10_276 dX10_saidLine_129 rfl (sR_0 hE) (cR_0 hE) (Nat.le_of_ble_eq_true rfl) (zC_mono ?_ hyp)
  rintro _ h_3 ⟨r_3, rfl, hyp⟩
  refine ⟨r_3, rfl, ?_⟩
  obtain ⟨⟨hi0, hi1⟩, hyp⟩ := hyp
  refine z_iastore dX10_saidLine_132 (sR_17 hE) (cR_17 hE) hi0 hi1 ?_
  generalize eh_4 : hset h_3 17 _ r_3 = h_4
  have hyp := hyp h_4 eh_4.symm
  refine z_aload_n dX10_saidLine_133 rfl ?_
  refine gf_X10_64 (c2 := 18) dX10_saidLine_134 rfl (sR_0 hE) (cR_0 hE) rfl ?_
  refine z_iload_n dX10_saidLine_137 rfl ?_
  refine z_aload_n dX10_saidLine_138 rfl ?_
  refine z_iconst dX10_saidLine_139 (r32d rfl) ?_
  refine z_ldc (x := 99999) dX10_saidLine_140 rfl wk_X10_191 (by decide) (r32d rfl) ?_
  refine cl_X10_222 dX10_saidLine_142 rfl (sR_0 hE) (cR_0 hE) (Nat.le_of_ble_eq_true rfl) (zC_mono ?_ hyp)
  rintro _ h_5 ⟨r_5, rfl, hyp⟩
  refine ⟨r_5, rfl, ?_⟩
  obtain ⟨⟨hi0, hi1⟩, hyp⟩ := hyp
  refine z_iastore dX10_saidLine_145 (sR_18 hE) (cR_18 hE) hi0 hi1 ?_
  generalize eh_6 : hset h_5 18 _ r_5 = h_6
  have hyp := hyp h_6 eh_6.symm
  refine z_aload_n dX10_saidLine_146 rfl ?_
  refine gf_X10_67 (c2 := 19) dX10_saidLine_147 rfl (sR_0 hE) (cR_0 hE) rfl ?_
  refine z_iload_n dX10_saidLine_150 rfl ?_
  refine z_aload_n dX10_saidLine_151 rfl ?_
  refine z_bipush dX10_saidLine_152 (r32d rfl) (by decide) ?_
  refine cl_X10_279 dX10_saidLine_154 rfl (sR_0 hE) (cR_0 hE) (Nat.le_of_ble_eq_true rfl) (zC_mono ?_ hyp)
  rintro _ h_7 ⟨r_7, rfl, hyp⟩
  refine ⟨r_7, rfl, ?_⟩
  obtain ⟨⟨hi0, hi1⟩, hyp⟩ := hyp
  obtain ⟨hx0, hyp⟩ := hyp
  refine z_bastore dX10_saidLine_157 (sR_19 hE) (cR_19 hE) hi0 hi1 hx0 ?_
  generalize eh_8 : hset h_7 19 _ r_7 = h_8
  have hyp := hyp h_8 eh_8.symm
  refine z_aload_n dX10_saidLine_158 rfl ?_
  refine gf_X10_67 (c2 := 19) dX10_saidLine_159 rfl (sR_0 hE) (cR_0 hE) rfl ?_
  refine z_iload_n dX10_saidLine_162 rfl ?_
  obtain ⟨⟨hi0, hi1⟩, hyp⟩ := hyp
  refine z_baload dX10_saidLine_163 (sR_19 hE) (cR_19 hE) hi0 hi1 ?_
  refine z_if_eq (tgt := 171) dX10_saidLine_164 (by decide) (fun c_9 => ?_) (fun c_9 => ?_)
  · have hyp := hyp.1 c_9
    refine z_aload_n dX10_saidLine_171 rfl ?_
    refine z_dup dX10_saidLine_172 rfl ?_
    refine gf_X10_239 dX10_saidLine_173 rfl (sR_0 hE) (cR_0 hE) ?_
    refine z_iconst dX10_saidLine_176 (r32d rfl) ?_
    refine z_iadd dX10_saidLine_177 ?_
    refine pf_X10_239 dX10_saidLine_178 rfl (sR_0 hE) (cR_0 hE) ?_
    generalize eh_10 : hset h_8 0 35 _ = h_10
    have hyp := hyp h_10 eh_10.symm
    exact z_vret dX10_saidLine_181 rfl ⟨rfl, hyp⟩
  · have hyp := hyp.2 c_9
    refine z_aload_n dX10_saidLine_167 rfl ?_
    refine cl_X10_213 dX10_saidLine_168 rfl (sR_0 hE) (cR_0 hE) (Nat.le_of_ble_eq_true rfl) (zC_mono ?_ hyp)
    rintro _ h_11 ⟨rfl, hyp⟩
    refine ⟨rfl, ?_⟩
    refine z_aload_n dX10_saidLine_171 rfl ?_
    refine z_dup dX10_saidLine_172 rfl ?_
    refine gf_X10_239 dX10_saidLine_173 rfl (sR_0 hE) (cR_0 hE) ?_
    refine z_iconst dX10_saidLine_176 (r32d rfl) ?_
    refine z_iadd dX10_saidLine_177 ?_
    refine pf_X10_239 dX10_saidLine_178 rfl (sR_0 hE) (cR_0 hE) ?_
    generalize eh_12 : hset h_11 0 35 _ = h_12
    have hyp := hyp h_12 eh_12.symm
    exact z_vret dX10_saidLine_181 rfl ⟨rfl, hyp⟩
set_option maxRecDepth 20000 in
theorem eX10_saidLine {E : zE} (hE : isR E) {d : Nat} {x1 : Int} {h : zH} {K : zH → Prop} (hyp :
  (((h 0 47) = 1 →
    zG E mX10_saidLine (d + 1) 13 [zR 0, zI x1, zU] [] h (qV K)) ∧
  (¬ ((h 0 47) = 1) →
    zCV E mX10_wrong d [zR 0, zI 1] h (fun h_2 =>
      zG E mX10_saidLine (d + 1) 13 [zR 0, zI x1, zU] [] h_2 (qV K))))) :
  zCV E mX10_saidLine (d + 1) [zR 0, zI x1] h K := by
  refine zC_in (L0 := [zR 0, zI x1, zU]) pn_X10 rfl (Nat.le_of_ble_eq_true rfl) ?_
  refine z_aload_n dX10_saidLine_0 rfl ?_
  refine gf_X10_172 dX10_saidLine_1 rfl (sR_0 hE) (cR_0 hE) ?_
  refine z_iconst dX10_saidLine_4 (r32d rfl) ?_
  refine z_icmp_eq (tgt := 13) dX10_saidLine_5 (by decide) (fun c_1 => ?_) (fun c_1 => ?_)
  · have hyp := hyp.1 c_1
    exact hyp
  · have hyp := hyp.2 c_1
    refine z_aload_n dX10_saidLine_8 rfl ?_
    refine z_iconst dX10_saidLine_9 (r32d rfl) ?_
    refine cl_X10_216 dX10_saidLine_10 rfl (sR_0 hE) (cR_0 hE) (Nat.le_of_ble_eq_true rfl) (zC_mono ?_ hyp)
    rintro _ h_2 ⟨rfl, hyp⟩
    refine ⟨rfl, ?_⟩
    exact hyp
set_option maxRecDepth 20000 in
theorem bX10_shapes_7 {E : zE} (hE : isR E) {d : Nat} {x2 : Int} {h : zH} {K : zH → Prop} (hyp :
  (((h 0 24) ≤ x2 →
    K h) ∧
  (¬ ((h 0 24) ≤ x2) →
    zCV E mX10_stands d [zR 0, zI x2] h (fun h_2 =>
      ((0 : Int) ≤ x2 ∧ x2 < (8 : Int)) ∧
      ∀ h_3 : zH, h_3 = hset h_2 36 (x2.toNat) (h_2 0 68) →
      ((0 : Int) ≤ x2 ∧ x2 < (8 : Int)) ∧
      ∀ h_4 : zH, h_4 = hset h_3 35 (x2.toNat) (-1) →
      zG E mX10_shapes (d + 1) 39 [zR 0, zU, zI x2, zI 0] [] h_4 (qV K))))) :
  zG E mX10_shapes (d + 1) 7 [zR 0, zU, zI x2, zU] [] h (qV K) := by
  refine z_iload_n dX10_shapes_7 rfl ?_
  refine z_aload_n dX10_shapes_8 rfl ?_
  refine gf_X10_340 dX10_shapes_9 rfl (sR_0 hE) (cR_0 hE) ?_
  refine z_icmp_ge (tgt := 159) dX10_shapes_12 (by decide) (fun c_1 => ?_) (fun c_1 => ?_)
  · have hyp := hyp.1 c_1
    exact z_vret dX10_shapes_159 rfl ⟨rfl, hyp⟩
  · have hyp := hyp.2 c_1
    refine z_aload_n dX10_shapes_15 rfl ?_
    refine z_iload_n dX10_shapes_16 rfl ?_
    refine cl_X10_388 dX10_shapes_17 rfl (sR_0 hE) (cR_0 hE) (Nat.le_of_ble_eq_true rfl) (zC_mono ?_ hyp)
    rintro _ h_2 ⟨rfl, hyp⟩
    refine ⟨rfl, ?_⟩
    refine z_aload_n dX10_shapes_20 rfl ?_
    refine gf_X10_134 (c2 := 36) dX10_shapes_21 rfl (sR_0 hE) (cR_0 hE) rfl ?_
    refine z_iload_n dX10_shapes_24 rfl ?_
    refine z_aload_n dX10_shapes_25 rfl ?_
    refine gf_X10_385 dX10_shapes_26 rfl (sR_0 hE) (cR_0 hE) ?_
    obtain ⟨⟨hi0, hi1⟩, hyp⟩ := hyp
    refine z_iastore dX10_shapes_29 (sR_36 hE) (cR_36 hE) hi0 hi1 ?_
    generalize eh_3 : hset h_2 36 _ (h_2 0 68) = h_3
    have hyp := hyp h_3 eh_3.symm
    refine z_aload_n dX10_shapes_30 rfl ?_
    refine gf_X10_131 (c2 := 35) dX10_shapes_31 rfl (sR_0 hE) (cR_0 hE) rfl ?_
    refine z_iload_n dX10_shapes_34 rfl ?_
    refine z_iconst dX10_shapes_35 (r32d rfl) ?_
    obtain ⟨⟨hi0, hi1⟩, hyp⟩ := hyp
    refine z_iastore dX10_shapes_36 (sR_35 hE) (cR_35 hE) hi0 hi1 ?_
    generalize eh_4 : hset h_3 35 _ (-1) = h_4
    have hyp := hyp h_4 eh_4.symm
    refine z_iconst dX10_shapes_37 (r32d rfl) ?_
    refine z_istore_n dX10_shapes_38 rfl (by decide) rfl ?_
    exact hyp
set_option maxRecDepth 20000 in
theorem bX10_shapes_39 {E : zE} (hE : isR E) {d : Nat} {x2 x3 : Int} {h : zH} {K : zH → Prop} (hyp :
  ((12 ≤ x3 →
    ∀ x_2 : Int, x_2 = w32 (x2 + 1) →
    zG E mX10_shapes (d + 1) 7 [zR 0, zU, zI x_2, zU] [] h (qV K)) ∧
  (¬ (12 ≤ x3) →
    (((h 0 68) ≤ 2 →
      ∀ x_4 : Int, x_4 = w32 (x2 + 1) →
      zG E mX10_shapes (d + 1) 7 [zR 0, zU, zI x_4, zU] [] h (qV K)) ∧
    (¬ ((h 0 68) ≤ 2) →
      ((x3 ≤ 0 →
        zG E mX10_shapes (d + 1) 65 [zR 0, zU, zI x2, zI x3] [] h (qV K)) ∧
      (¬ (x3 ≤ 0) →
        ((4 ≤ x3 →
          zG E mX10_shapes (d + 1) 65 [zR 0, zU, zI x2, zI x3] [] h (qV K)) ∧
        (¬ (4 ≤ x3) →
          ∀ x_7 : Int, x_7 = w32 (x3 + 1) →
          zG E mX10_shapes (d + 1) 39 [zR 0, zU, zI x2, zI x_7] [] h (qV K)))))))))) :
  zG E mX10_shapes (d + 1) 39 [zR 0, zU, zI x2, zI x3] [] h (qV K) := by
  refine z_iload_n dX10_shapes_39 rfl ?_
  refine z_bipush dX10_shapes_40 (r32d rfl) (by decide) ?_
  refine z_icmp_ge (tgt := 153) dX10_shapes_42 (by decide) (fun c_1 => ?_) (fun c_1 => ?_)
  · have hyp := hyp.1 c_1
    refine z_iinc dX10_shapes_153 rfl (by decide) rfl ?_
    generalize ex_2 : w32 (x2 + 1) = x_2
    have hyp := hyp x_2 ex_2.symm
    refine z_goto (tgt := 7) dX10_shapes_156 (by decide) ?_
    exact z_forget [true, false, true, false] rfl hyp
  · have hyp := hyp.2 c_1
    refine z_aload_n dX10_shapes_45 rfl ?_
    refine gf_X10_385 dX10_shapes_46 rfl (sR_0 hE) (cR_0 hE) ?_
    refine z_iconst dX10_shapes_49 (r32d rfl) ?_
    refine z_icmp_le (tgt := 153) dX10_shapes_50 (by decide) (fun c_3 => ?_) (fun c_3 => ?_)
    · have hyp := hyp.1 c_3
      refine z_iinc dX10_shapes_153 rfl (by decide) rfl ?_
      generalize ex_4 : w32 (x2 + 1) = x_4
      have hyp := hyp x_4 ex_4.symm
      refine z_goto (tgt := 7) dX10_shapes_156 (by decide) ?_
      exact z_forget [true, false, true, false] rfl hyp
    · have hyp := hyp.2 c_3
      refine z_iload_n dX10_shapes_53 rfl ?_
      refine z_if_le (tgt := 65) dX10_shapes_54 (by decide) (fun c_5 => ?_) (fun c_5 => ?_)
      · have hyp := hyp.1 c_5
        exact hyp
      · have hyp := hyp.2 c_5
        refine z_iload_n dX10_shapes_57 rfl ?_
        refine z_iconst dX10_shapes_58 (r32d rfl) ?_
        refine z_icmp_ge (tgt := 65) dX10_shapes_59 (by decide) (fun c_6 => ?_) (fun c_6 => ?_)
        · have hyp := hyp.1 c_6
          exact hyp
        · have hyp := hyp.2 c_6
          refine z_goto (tgt := 147) dX10_shapes_62 (by decide) ?_
          refine z_iinc dX10_shapes_147 rfl (by decide) rfl ?_
          generalize ex_7 : w32 (x3 + 1) = x_7
          have hyp := hyp x_7 ex_7.symm
          refine z_goto (tgt := 39) dX10_shapes_150 (by decide) ?_
          exact hyp
set_option maxRecDepth 20000 in
theorem bX10_shapes_65 {E : zE} (hE : isR E) {d : Nat} {x2 x3 : Int} {h : zH} {K : zH → Prop} (hyp :
  zCV E mX10_fits d [zR 0, zI (w32 (Int.tdiv x3 4)), zI (w32 (Int.tmod x3 4))] h (fun h_1 =>
    ((0 : Int) ≤ w32 ((w32 (12 * x2)) + x3) ∧ w32 ((w32 (12 * x2)) + x3) < (96 : Int)) ∧
    ∀ h_2 : zH, h_2 = hset h_1 33 ((w32 ((w32 (12 * x2)) + x3)).toNat) (w32 (2 * (h_1 0 70))) →
    ((0 : Int) ≤ w32 ((w32 (12 * x2)) + x3) ∧ w32 ((w32 (12 * x2)) + x3) < (96 : Int)) ∧
    ∀ h_3 : zH, h_3 = hset h_2 34 ((w32 ((w32 (12 * x2)) + x3)).toNat) (h_2 0 71) →
    ((0 : Int) ≤ x2 ∧ x2 < (8 : Int)) ∧
    (((h_3 35 x2.toNat) = (-1) →
      ((0 : Int) ≤ x2 ∧ x2 < (8 : Int)) ∧
      ∀ h_5 : zH, h_5 = hset h_3 35 (x2.toNat) x3 →
      ∀ x_6 : Int, x_6 = w32 (x3 + 1) →
      zG E mX10_shapes (d + 1) 39 [zR 0, zU, zI x2, zI x_6] [] h_5 (qV K)) ∧
    (¬ ((h_3 35 x2.toNat) = (-1)) →
      ((0 : Int) ≤ x2 ∧ x2 < (8 : Int)) ∧
      ((0 : Int) ≤ w32 ((w32 (12 * x2)) + (h_3 35 x2.toNat)) ∧ w32 ((w32 (12 * x2)) + (h_3 35 x2.toNat)) < (96 : Int)) ∧
      (((h_3 34 (w32 ((w32 (12 * x2)) + (h_3 35 x2.toNat))).toNat) ≤ (h_3 0 71) →
        ∀ x_8 : Int, x_8 = w32 (x3 + 1) →
        zG E mX10_shapes (d + 1) 39 [zR 0, zU, zI x2, zI x_8] [] h_3 (qV K)) ∧
      (¬ ((h_3 34 (w32 ((w32 (12 * x2)) + (h_3 35 x2.toNat))).toNat) ≤ (h_3 0 71)) →
        ((0 : Int) ≤ x2 ∧ x2 < (8 : Int)) ∧
        ∀ h_9 : zH, h_9 = hset h_3 35 (x2.toNat) x3 →
        ∀ x_10 : Int, x_10 = w32 (x3 + 1) →
        zG E mX10_shapes (d + 1) 39 [zR 0, zU, zI x2, zI x_10] [] h_9 (qV K))))))) :
  zG E mX10_shapes (d + 1) 65 [zR 0, zU, zI x2, zI x3] [] h (qV K) := by
  refine z_aload_n dX10_shapes_65 rfl ?_
  refine z_iload_n dX10_shapes_66 rfl ?_
  refine z_iconst dX10_shapes_67 (r32d rfl) ?_
  refine z_idiv (by decide) dX10_shapes_68 ?_
  refine z_iload_n dX10_shapes_69 rfl ?_
  refine z_iconst dX10_shapes_70 (r32d rfl) ?_
  refine z_irem (by decide) dX10_shapes_71 ?_
  refine cl_X10_431 dX10_shapes_72 rfl (sR_0 hE) (cR_0 hE) (Nat.le_of_ble_eq_true rfl) (zC_mono ?_ hyp)
  rintro _ h_1 ⟨rfl, hyp⟩
  refine ⟨rfl, ?_⟩
  refine z_aload_n dX10_shapes_75 rfl ?_
  refine gf_X10_125 (c2 := 33) dX10_shapes_76 rfl (sR_0 hE) (cR_0 hE) rfl ?_
  refine z_bipush dX10_shapes_79 (r32d rfl) (by decide) ?_
  refine z_iload_n dX10_shapes_81 rfl ?_
  refine z_imul dX10_shapes_82 ?_
  refine z_iload_n dX10_shapes_83 rfl ?_
  refine z_iadd dX10_shapes_84 ?_
  refine z_iconst dX10_shapes_85 (r32d rfl) ?_
  refine z_aload_n dX10_shapes_86 rfl ?_
  refine gf_X10_421 dX10_shapes_87 rfl (sR_0 hE) (cR_0 hE) ?_
  refine z_imul dX10_shapes_90 ?_
  obtain ⟨⟨hi0, hi1⟩, hyp⟩ := hyp
  refine z_iastore dX10_shapes_91 (sR_33 hE) (cR_33 hE) hi0 hi1 ?_
  generalize eh_2 : hset h_1 33 _ (w32 (2 * (h_1 0 70))) = h_2
  have hyp := hyp h_2 eh_2.symm
  refine z_aload_n dX10_shapes_92 rfl ?_
  refine gf_X10_128 (c2 := 34) dX10_shapes_93 rfl (sR_0 hE) (cR_0 hE) rfl ?_
  refine z_bipush dX10_shapes_96 (r32d rfl) (by decide) ?_
  refine z_iload_n dX10_shapes_98 rfl ?_
  refine z_imul dX10_shapes_99 ?_
  refine z_iload_n dX10_shapes_100 rfl ?_
  refine z_iadd dX10_shapes_101 ?_
  refine z_aload_n dX10_shapes_102 rfl ?_
  refine gf_X10_407 dX10_shapes_103 rfl (sR_0 hE) (cR_0 hE) ?_
  obtain ⟨⟨hi0, hi1⟩, hyp⟩ := hyp
  refine z_iastore dX10_shapes_106 (sR_34 hE) (cR_34 hE) hi0 hi1 ?_
  generalize eh_3 : hset h_2 34 _ (h_2 0 71) = h_3
  have hyp := hyp h_3 eh_3.symm
  refine z_aload_n dX10_shapes_107 rfl ?_
  refine gf_X10_131 (c2 := 35) dX10_shapes_108 rfl (sR_0 hE) (cR_0 hE) rfl ?_
  refine z_iload_n dX10_shapes_111 rfl ?_
  obtain ⟨⟨hi0, hi1⟩, hyp⟩ := hyp
  refine z_iaload dX10_shapes_112 (sR_35 hE) (cR_35 hE) hi0 hi1 ?_
  refine z_iconst dX10_shapes_113 (r32d rfl) ?_
  refine z_icmp_eq (tgt := 140) dX10_shapes_114 (by decide) (fun c_4 => ?_) (fun c_4 => ?_)
  · have hyp := hyp.1 c_4
    refine z_aload_n dX10_shapes_140 rfl ?_
    refine gf_X10_131 (c2 := 35) dX10_shapes_141 rfl (sR_0 hE) (cR_0 hE) rfl ?_
    refine z_iload_n dX10_shapes_144 rfl ?_
    refine z_iload_n dX10_shapes_145 rfl ?_
    obtain ⟨⟨hi0, hi1⟩, hyp⟩ := hyp
    refine z_iastore dX10_shapes_146 (sR_35 hE) (cR_35 hE) hi0 hi1 ?_
    generalize eh_5 : hset h_3 35 _ x3 = h_5
    have hyp := hyp h_5 eh_5.symm
    refine z_iinc dX10_shapes_147 rfl (by decide) rfl ?_
    generalize ex_6 : w32 (x3 + 1) = x_6
    have hyp := hyp x_6 ex_6.symm
    refine z_goto (tgt := 39) dX10_shapes_150 (by decide) ?_
    exact hyp
  · have hyp := hyp.2 c_4
    refine z_aload_n dX10_shapes_117 rfl ?_
    refine gf_X10_407 dX10_shapes_118 rfl (sR_0 hE) (cR_0 hE) ?_
    refine z_aload_n dX10_shapes_121 rfl ?_
    refine gf_X10_128 (c2 := 34) dX10_shapes_122 rfl (sR_0 hE) (cR_0 hE) rfl ?_
    refine z_bipush dX10_shapes_125 (r32d rfl) (by decide) ?_
    refine z_iload_n dX10_shapes_127 rfl ?_
    refine z_imul dX10_shapes_128 ?_
    refine z_aload_n dX10_shapes_129 rfl ?_
    refine gf_X10_131 (c2 := 35) dX10_shapes_130 rfl (sR_0 hE) (cR_0 hE) rfl ?_
    refine z_iload_n dX10_shapes_133 rfl ?_
    obtain ⟨⟨hi0, hi1⟩, hyp⟩ := hyp
    refine z_iaload dX10_shapes_134 (sR_35 hE) (cR_35 hE) hi0 hi1 ?_
    refine z_iadd dX10_shapes_135 ?_
    obtain ⟨⟨hi0, hi1⟩, hyp⟩ := hyp
    refine z_iaload dX10_shapes_136 (sR_34 hE) (cR_34 hE) hi0 hi1 ?_
    refine z_icmp_ge (tgt := 147) dX10_shapes_137 (by decide) (fun c_7 => ?_) (fun c_7 => ?_)
    · have hyp := hyp.1 c_7
      refine z_iinc dX10_shapes_147 rfl (by decide) rfl ?_
      generalize ex_8 : w32 (x3 + 1) = x_8
      have hyp := hyp x_8 ex_8.symm
      refine z_goto (tgt := 39) dX10_shapes_150 (by decide) ?_
      exact hyp
    · have hyp := hyp.2 c_7
      refine z_aload_n dX10_shapes_140 rfl ?_
      refine gf_X10_131 (c2 := 35) dX10_shapes_141 rfl (sR_0 hE) (cR_0 hE) rfl ?_
      refine z_iload_n dX10_shapes_144 rfl ?_
      refine z_iload_n dX10_shapes_145 rfl ?_
      obtain ⟨⟨hi0, hi1⟩, hyp⟩ := hyp
      refine z_iastore dX10_shapes_146 (sR_35 hE) (cR_35 hE) hi0 hi1 ?_
      generalize eh_9 : hset h_3 35 _ x3 = h_9
      have hyp := hyp h_9 eh_9.symm
      refine z_iinc dX10_shapes_147 rfl (by decide) rfl ?_
      generalize ex_10 : w32 (x3 + 1) = x_10
      have hyp := hyp x_10 ex_10.symm
      refine z_goto (tgt := 39) dX10_shapes_150 (by decide) ?_
      exact hyp
set_option maxRecDepth 20000 in
theorem eX10_shapes {E : zE} (hE : isR E) {d : Nat} {x1 : Int} {h : zH} {K : zH → Prop} (hyp :
  zCV E mX10_stones d [zR 0, zI x1] h (fun h_1 =>
    zG E mX10_shapes (d + 1) 7 [zR 0, zU, zI 0, zU] [] h_1 (qV K))) :
  zCV E mX10_shapes (d + 1) [zR 0, zI x1] h K := by
  refine zC_in (L0 := [zR 0, zI x1, zU, zU]) pn_X10 rfl (Nat.le_of_ble_eq_true rfl) ?_
  refine z_aload_n dX10_shapes_0 rfl ?_
  refine z_iload_n dX10_shapes_1 rfl ?_
  refine cl_X10_382 dX10_shapes_2 rfl (sR_0 hE) (cR_0 hE) (Nat.le_of_ble_eq_true rfl) (zC_mono ?_ hyp)
  rintro _ h_1 ⟨rfl, hyp⟩
  refine ⟨rfl, ?_⟩
  refine z_iconst dX10_shapes_5 (r32d rfl) ?_
  refine z_istore_n dX10_shapes_6 rfl (by decide) rfl ?_
  exact z_forget [true, false, true, false] rfl hyp
set_option maxRecDepth 20000 in
theorem bX10_sign_71 {E : zE} (hE : isR E) {d : Nat} {x1 : Int} {h : zH} {K : zH → Prop} (hyp :
  zG E mX10_sign (d + 1) 76 [zR 0, zI x1] [zI 3, zR 0] h (qV K)) :
  zG E mX10_sign (d + 1) 71 [zR 0, zI x1] [zR 0] h (qV K) := by
  refine z_iconst dX10_sign_71 (r32d rfl) ?_
  refine z_goto (tgt := 76) dX10_sign_72 (by decide) ?_
  exact hyp
set_option maxRecDepth 20000 in
theorem bX10_sign_76 {E : zE} (hE : isR E) {d : Nat} {x1 s0 : Int} {h : zH} {K : zH → Prop} (hyp :
  ∀ h_1 : zH, h_1 = hset h 0 47 s0 →
  ∀ h_2 : zH, h_2 = hset h_1 0 48 x1 →
  ((x1 ≠ 60 →
    zG E mX10_sign (d + 1) 106 [zR 0, zI x1] [] h_2 (qV K)) ∧
  (¬ (x1 ≠ 60) →
    zCI E mX10_here d [zR 0] h_2 (fun r_4 h_4 =>
      ((r_4 ≠ 61 →
        zG E mX10_sign (d + 1) 106 [zR 0, zI x1] [] h_4 (qV K)) ∧
      (¬ (r_4 ≠ 61) →
        ∀ h_6 : zH, h_6 = hset h_4 0 48 256 →
        zG E mX10_sign (d + 1) 106 [zR 0, zI x1] [] h_6 (qV K))))))) :
  zG E mX10_sign (d + 1) 76 [zR 0, zI x1] [zI s0, zR 0] h (qV K) := by
  refine pf_X10_172 dX10_sign_76 rfl (sR_0 hE) (cR_0 hE) ?_
  generalize eh_1 : hset h 0 47 _ = h_1
  have hyp := hyp h_1 eh_1.symm
  refine z_aload_n dX10_sign_79 rfl ?_
  refine z_iload_n dX10_sign_80 rfl ?_
  refine pf_X10_182 dX10_sign_81 rfl (sR_0 hE) (cR_0 hE) ?_
  generalize eh_2 : hset h_1 0 48 _ = h_2
  have hyp := hyp h_2 eh_2.symm
  refine z_iload_n dX10_sign_84 rfl ?_
  refine z_bipush dX10_sign_85 (r32d rfl) (by decide) ?_
  refine z_icmp_ne (tgt := 106) dX10_sign_87 (by decide) (fun c_3 => ?_) (fun c_3 => ?_)
  · have hyp := hyp.1 c_3
    exact hyp
  · have hyp := hyp.2 c_3
    refine z_aload_n dX10_sign_90 rfl ?_
    refine cl_X10_165 dX10_sign_91 rfl (sR_0 hE) (cR_0 hE) (Nat.le_of_ble_eq_true rfl) (zC_mono ?_ hyp)
    rintro _ h_4 ⟨r_4, rfl, hyp⟩
    refine ⟨r_4, rfl, ?_⟩
    refine z_bipush dX10_sign_94 (r32d rfl) (by decide) ?_
    refine z_icmp_ne (tgt := 106) dX10_sign_96 (by decide) (fun c_5 => ?_) (fun c_5 => ?_)
    · have hyp := hyp.1 c_5
      exact hyp
    · have hyp := hyp.2 c_5
      refine z_aload_n dX10_sign_99 rfl ?_
      refine z_sipush dX10_sign_100 (r32d rfl) (by decide) ?_
      refine pf_X10_182 dX10_sign_103 rfl (sR_0 hE) (cR_0 hE) ?_
      generalize eh_6 : hset h_4 0 48 _ = h_6
      have hyp := hyp h_6 eh_6.symm
      exact hyp
set_option maxRecDepth 20000 in
theorem bX10_sign_106 {E : zE} (hE : isR E) {d : Nat} {x1 : Int} {h : zH} {K : zH → Prop} (hyp :
  ((x1 ≠ 60 →
    zG E mX10_sign (d + 1) 128 [zR 0, zI x1] [] h (qV K)) ∧
  (¬ (x1 ≠ 60) →
    zCI E mX10_here d [zR 0] h (fun r_2 h_2 =>
      ((r_2 ≠ 62 →
        zG E mX10_sign (d + 1) 128 [zR 0, zI x1] [] h_2 (qV K)) ∧
      (¬ (r_2 ≠ 62) →
        ∀ h_4 : zH, h_4 = hset h_2 0 48 257 →
        zG E mX10_sign (d + 1) 128 [zR 0, zI x1] [] h_4 (qV K))))))) :
  zG E mX10_sign (d + 1) 106 [zR 0, zI x1] [] h (qV K) := by
  refine z_iload_n dX10_sign_106 rfl ?_
  refine z_bipush dX10_sign_107 (r32d rfl) (by decide) ?_
  refine z_icmp_ne (tgt := 128) dX10_sign_109 (by decide) (fun c_1 => ?_) (fun c_1 => ?_)
  · have hyp := hyp.1 c_1
    exact hyp
  · have hyp := hyp.2 c_1
    refine z_aload_n dX10_sign_112 rfl ?_
    refine cl_X10_165 dX10_sign_113 rfl (sR_0 hE) (cR_0 hE) (Nat.le_of_ble_eq_true rfl) (zC_mono ?_ hyp)
    rintro _ h_2 ⟨r_2, rfl, hyp⟩
    refine ⟨r_2, rfl, ?_⟩
    refine z_bipush dX10_sign_116 (r32d rfl) (by decide) ?_
    refine z_icmp_ne (tgt := 128) dX10_sign_118 (by decide) (fun c_3 => ?_) (fun c_3 => ?_)
    · have hyp := hyp.1 c_3
      exact hyp
    · have hyp := hyp.2 c_3
      refine z_aload_n dX10_sign_121 rfl ?_
      refine z_sipush dX10_sign_122 (r32d rfl) (by decide) ?_
      refine pf_X10_182 dX10_sign_125 rfl (sR_0 hE) (cR_0 hE) ?_
      generalize eh_4 : hset h_2 0 48 _ = h_4
      have hyp := hyp h_4 eh_4.symm
      exact hyp
set_option maxRecDepth 20000 in
theorem bX10_sign_128 {E : zE} (hE : isR E) {d : Nat} {x1 : Int} {h : zH} {K : zH → Prop} (hyp :
  ((x1 ≠ 62 →
    zG E mX10_sign (d + 1) 150 [zR 0, zU] [] h (qV K)) ∧
  (¬ (x1 ≠ 62) →
    zCI E mX10_here d [zR 0] h (fun r_2 h_2 =>
      ((r_2 ≠ 61 →
        zG E mX10_sign (d + 1) 150 [zR 0, zU] [] h_2 (qV K)) ∧
      (¬ (r_2 ≠ 61) →
        ∀ h_4 : zH, h_4 = hset h_2 0 48 258 →
        zG E mX10_sign (d + 1) 150 [zR 0, zU] [] h_4 (qV K))))))) :
  zG E mX10_sign (d + 1) 128 [zR 0, zI x1] [] h (qV K) := by
  refine z_iload_n dX10_sign_128 rfl ?_
  refine z_bipush dX10_sign_129 (r32d rfl) (by decide) ?_
  refine z_icmp_ne (tgt := 150) dX10_sign_131 (by decide) (fun c_1 => ?_) (fun c_1 => ?_)
  · have hyp := hyp.1 c_1
    exact z_forget [true, false] rfl hyp
  · have hyp := hyp.2 c_1
    refine z_aload_n dX10_sign_134 rfl ?_
    refine cl_X10_165 dX10_sign_135 rfl (sR_0 hE) (cR_0 hE) (Nat.le_of_ble_eq_true rfl) (zC_mono ?_ hyp)
    rintro _ h_2 ⟨r_2, rfl, hyp⟩
    refine ⟨r_2, rfl, ?_⟩
    refine z_bipush dX10_sign_138 (r32d rfl) (by decide) ?_
    refine z_icmp_ne (tgt := 150) dX10_sign_140 (by decide) (fun c_3 => ?_) (fun c_3 => ?_)
    · have hyp := hyp.1 c_3
      exact z_forget [true, false] rfl hyp
    · have hyp := hyp.2 c_3
      refine z_aload_n dX10_sign_143 rfl ?_
      refine z_sipush dX10_sign_144 (r32d rfl) (by decide) ?_
      refine pf_X10_182 dX10_sign_147 rfl (sR_0 hE) (cR_0 hE) ?_
      generalize eh_4 : hset h_2 0 48 _ = h_4
      have hyp := hyp h_4 eh_4.symm
      exact z_forget [true, false] rfl hyp
set_option maxRecDepth 20000 in
theorem bX10_sign_150 {E : zE} (hE : isR E) {d : Nat} {h : zH} {K : zH → Prop} (hyp :
  (((h 0 48) < 256 →
    K h) ∧
  (¬ ((h 0 48) < 256) →
    ∀ h_2 : zH, h_2 = hset h 0 45 (w32 ((h 0 45) + 1)) →
    K h_2))) :
  zG E mX10_sign (d + 1) 150 [zR 0, zU] [] h (qV K) := by
  refine z_aload_n dX10_sign_150 rfl ?_
  refine gf_X10_182 dX10_sign_151 rfl (sR_0 hE) (cR_0 hE) ?_
  refine z_sipush dX10_sign_154 (r32d rfl) (by decide) ?_
  refine z_icmp_lt (tgt := 170) dX10_sign_157 (by decide) (fun c_1 => ?_) (fun c_1 => ?_)
  · have hyp := hyp.1 c_1
    exact z_vret dX10_sign_170 rfl ⟨rfl, hyp⟩
  · have hyp := hyp.2 c_1
    refine z_aload_n dX10_sign_160 rfl ?_
    refine z_dup dX10_sign_161 rfl ?_
    refine gf_X10_159 dX10_sign_162 rfl (sR_0 hE) (cR_0 hE) ?_
    refine z_iconst dX10_sign_165 (r32d rfl) ?_
    refine z_iadd dX10_sign_166 ?_
    refine pf_X10_159 dX10_sign_167 rfl (sR_0 hE) (cR_0 hE) ?_
    generalize eh_2 : hset h 0 45 _ = h_2
    have hyp := hyp h_2 eh_2.symm
    exact z_vret dX10_sign_170 rfl ⟨rfl, hyp⟩
set_option maxRecDepth 20000 in
theorem eX10_sign {E : zE} (hE : isR E) {d : Nat} {x1 : Int} {h : zH} {K : zH → Prop} (hyp :
  ∀ h_1 : zH, h_1 = hset h 0 45 (w32 ((h 0 45) + 1)) →
  ((x1 = 59 →
    zG E mX10_sign (d + 1) 71 [zR 0, zI x1] [zR 0] h_1 (qV K)) ∧
  (¬ (x1 = 59) →
    ((x1 = 40 →
      zG E mX10_sign (d + 1) 71 [zR 0, zI x1] [zR 0] h_1 (qV K)) ∧
    (¬ (x1 = 40) →
      ((x1 = 41 →
        zG E mX10_sign (d + 1) 71 [zR 0, zI x1] [zR 0] h_1 (qV K)) ∧
      (¬ (x1 = 41) →
        ((x1 = 43 →
          zG E mX10_sign (d + 1) 71 [zR 0, zI x1] [zR 0] h_1 (qV K)) ∧
        (¬ (x1 = 43) →
          ((x1 = 45 →
            zG E mX10_sign (d + 1) 71 [zR 0, zI x1] [zR 0] h_1 (qV K)) ∧
          (¬ (x1 = 45) →
            ((x1 = 42 →
              zG E mX10_sign (d + 1) 71 [zR 0, zI x1] [zR 0] h_1 (qV K)) ∧
            (¬ (x1 = 42) →
              ((x1 = 47 →
                zG E mX10_sign (d + 1) 71 [zR 0, zI x1] [zR 0] h_1 (qV K)) ∧
              (¬ (x1 = 47) →
                ((x1 = 60 →
                  zG E mX10_sign (d + 1) 71 [zR 0, zI x1] [zR 0] h_1 (qV K)) ∧
                (¬ (x1 = 60) →
                  ((x1 = 61 →
                    zG E mX10_sign (d + 1) 71 [zR 0, zI x1] [zR 0] h_1 (qV K)) ∧
                  (¬ (x1 = 61) →
                    ((x1 ≠ 62 →
                      zG E mX10_sign (d + 1) 76 [zR 0, zI x1] [zI 5, zR 0] h_1 (qV K)) ∧
                    (¬ (x1 ≠ 62) →
                      zG E mX10_sign (d + 1) 71 [zR 0, zI x1] [zR 0] h_1 (qV K)))))))))))))))))))))) :
  zCV E mX10_sign (d + 1) [zR 0, zI x1] h K := by
  refine zC_in (L0 := [zR 0, zI x1]) pn_X10 rfl (Nat.le_of_ble_eq_true rfl) ?_
  refine z_aload_n dX10_sign_0 rfl ?_
  refine z_dup dX10_sign_1 rfl ?_
  refine gf_X10_159 dX10_sign_2 rfl (sR_0 hE) (cR_0 hE) ?_
  refine z_iconst dX10_sign_5 (r32d rfl) ?_
  refine z_iadd dX10_sign_6 ?_
  refine pf_X10_159 dX10_sign_7 rfl (sR_0 hE) (cR_0 hE) ?_
  generalize eh_1 : hset h 0 45 _ = h_1
  have hyp := hyp h_1 eh_1.symm
  refine z_aload_n dX10_sign_10 rfl ?_
  refine z_iload_n dX10_sign_11 rfl ?_
  refine z_bipush dX10_sign_12 (r32d rfl) (by decide) ?_
  refine z_icmp_eq (tgt := 71) dX10_sign_14 (by decide) (fun c_2 => ?_) (fun c_2 => ?_)
  · have hyp := hyp.1 c_2
    exact hyp
  · have hyp := hyp.2 c_2
    refine z_iload_n dX10_sign_17 rfl ?_
    refine z_bipush dX10_sign_18 (r32d rfl) (by decide) ?_
    refine z_icmp_eq (tgt := 71) dX10_sign_20 (by decide) (fun c_3 => ?_) (fun c_3 => ?_)
    · have hyp := hyp.1 c_3
      exact hyp
    · have hyp := hyp.2 c_3
      refine z_iload_n dX10_sign_23 rfl ?_
      refine z_bipush dX10_sign_24 (r32d rfl) (by decide) ?_
      refine z_icmp_eq (tgt := 71) dX10_sign_26 (by decide) (fun c_4 => ?_) (fun c_4 => ?_)
      · have hyp := hyp.1 c_4
        exact hyp
      · have hyp := hyp.2 c_4
        refine z_iload_n dX10_sign_29 rfl ?_
        refine z_bipush dX10_sign_30 (r32d rfl) (by decide) ?_
        refine z_icmp_eq (tgt := 71) dX10_sign_32 (by decide) (fun c_5 => ?_) (fun c_5 => ?_)
        · have hyp := hyp.1 c_5
          exact hyp
        · have hyp := hyp.2 c_5
          refine z_iload_n dX10_sign_35 rfl ?_
          refine z_bipush dX10_sign_36 (r32d rfl) (by decide) ?_
          refine z_icmp_eq (tgt := 71) dX10_sign_38 (by decide) (fun c_6 => ?_) (fun c_6 => ?_)
          · have hyp := hyp.1 c_6
            exact hyp
          · have hyp := hyp.2 c_6
            refine z_iload_n dX10_sign_41 rfl ?_
            refine z_bipush dX10_sign_42 (r32d rfl) (by decide) ?_
            refine z_icmp_eq (tgt := 71) dX10_sign_44 (by decide) (fun c_7 => ?_) (fun c_7 => ?_)
            · have hyp := hyp.1 c_7
              exact hyp
            · have hyp := hyp.2 c_7
              refine z_iload_n dX10_sign_47 rfl ?_
              refine z_bipush dX10_sign_48 (r32d rfl) (by decide) ?_
              refine z_icmp_eq (tgt := 71) dX10_sign_50 (by decide) (fun c_8 => ?_) (fun c_8 => ?_)
              · have hyp := hyp.1 c_8
                exact hyp
              · have hyp := hyp.2 c_8
                refine z_iload_n dX10_sign_53 rfl ?_
                refine z_bipush dX10_sign_54 (r32d rfl) (by decide) ?_
                refine z_icmp_eq (tgt := 71) dX10_sign_56 (by decide) (fun c_9 => ?_) (fun c_9 => ?_)
                · have hyp := hyp.1 c_9
                  exact hyp
                · have hyp := hyp.2 c_9
                  refine z_iload_n dX10_sign_59 rfl ?_
                  refine z_bipush dX10_sign_60 (r32d rfl) (by decide) ?_
                  refine z_icmp_eq (tgt := 71) dX10_sign_62 (by decide) (fun c_10 => ?_) (fun c_10 => ?_)
                  · have hyp := hyp.1 c_10
                    exact hyp
                  · have hyp := hyp.2 c_10
                    refine z_iload_n dX10_sign_65 rfl ?_
                    refine z_bipush dX10_sign_66 (r32d rfl) (by decide) ?_
                    refine z_icmp_ne (tgt := 75) dX10_sign_68 (by decide) (fun c_11 => ?_) (fun c_11 => ?_)
                    · have hyp := hyp.1 c_11
                      refine z_iconst dX10_sign_75 (r32d rfl) ?_
                      exact hyp
                    · have hyp := hyp.2 c_11
                      exact hyp
set_option maxRecDepth 20000 in
theorem bX10_signed_15 {E : zE} (hE : isR E) {d : Nat} {x1 x2 : Int} {h : zH} {K : Int → zH → Prop} (hyp :
  zCI E mX10_numeral d [zR 0, zI 0, zI x1] h (fun r_1 h_1 =>
    ((x2 = 0 →
      K r_1 h_1) ∧
    (¬ (x2 = 0) →
      K (w32 (-r_1)) h_1)))) :
  zG E mX10_signed (d + 1) 15 [zR 0, zI x1, zI x2, zU] [] h (qI K) := by
  refine z_aload_n dX10_signed_15 rfl ?_
  refine z_iconst dX10_signed_16 (r32d rfl) ?_
  refine z_iload_n dX10_signed_17 rfl ?_
  refine cl_X10_222 dX10_signed_18 rfl (sR_0 hE) (cR_0 hE) (Nat.le_of_ble_eq_true rfl) (zC_mono ?_ hyp)
  rintro _ h_1 ⟨r_1, rfl, hyp⟩
  refine ⟨r_1, rfl, ?_⟩
  refine z_istore_n dX10_signed_21 rfl (by decide) rfl ?_
  refine z_iload_n dX10_signed_22 rfl ?_
  refine z_if_eq (tgt := 31) dX10_signed_23 (by decide) (fun c_2 => ?_) (fun c_2 => ?_)
  · have hyp := hyp.1 c_2
    refine z_iload_n dX10_signed_31 rfl ?_
    exact z_iret dX10_signed_32 rfl ⟨_, rfl, hyp⟩
  · have hyp := hyp.2 c_2
    refine z_iload_n dX10_signed_26 rfl ?_
    refine z_ineg dX10_signed_27 ?_
    refine z_goto (tgt := 32) dX10_signed_28 (by decide) ?_
    exact z_iret dX10_signed_32 rfl ⟨_, rfl, hyp⟩
set_option maxRecDepth 20000 in
theorem eX10_signed {E : zE} (hE : isR E) {d : Nat} {x1 : Int} {h : zH} {K : Int → zH → Prop} (hyp :
  zCI E mX10_isSign d [zR 0, zI 45] h (fun r_1 h_1 =>
    ((r_1 = 0 →
      zG E mX10_signed (d + 1) 15 [zR 0, zI x1, zI r_1, zU] [] h_1 (qI K)) ∧
    (¬ (r_1 = 0) →
      zCV E mX10_token d [zR 0] h_1 (fun h_3 =>
        zG E mX10_signed (d + 1) 15 [zR 0, zI x1, zI r_1, zU] [] h_3 (qI K)))))) :
  zCI E mX10_signed (d + 1) [zR 0, zI x1] h K := by
  refine zC_in (L0 := [zR 0, zI x1, zU, zU]) pn_X10 rfl (Nat.le_of_ble_eq_true rfl) ?_
  refine z_aload_n dX10_signed_0 rfl ?_
  refine z_bipush dX10_signed_1 (r32d rfl) (by decide) ?_
  refine cl_X10_219 dX10_signed_3 rfl (sR_0 hE) (cR_0 hE) (Nat.le_of_ble_eq_true rfl) (zC_mono ?_ hyp)
  rintro _ h_1 ⟨r_1, rfl, hyp⟩
  refine ⟨r_1, rfl, ?_⟩
  refine z_istore_n dX10_signed_6 rfl (by decide) rfl ?_
  refine z_iload_n dX10_signed_7 rfl ?_
  refine z_if_eq (tgt := 15) dX10_signed_8 (by decide) (fun c_2 => ?_) (fun c_2 => ?_)
  · have hyp := hyp.1 c_2
    exact hyp
  · have hyp := hyp.2 c_2
    refine z_aload_n dX10_signed_11 rfl ?_
    refine cl_X10_213 dX10_signed_12 rfl (sR_0 hE) (cR_0 hE) (Nat.le_of_ble_eq_true rfl) (zC_mono ?_ hyp)
    rintro _ h_3 ⟨rfl, hyp⟩
    refine ⟨rfl, ?_⟩
    exact hyp
set_option maxRecDepth 20000 in
theorem eX10_sizeOf {E : zE} (hE : isR E) {d : Nat} {x1 : Int} {h : zH} {K : Int → zH → Prop} (hyp :
  ((0 : Int) ≤ x1 ∧ x1 < (8 : Int)) ∧
  ((0 : Int) ≤ w32 ((w32 (12 * x1)) + (h 35 x1.toNat)) ∧ w32 ((w32 (12 * x1)) + (h 35 x1.toNat)) < (96 : Int)) ∧
  K (h 33 (w32 ((w32 (12 * x1)) + (h 35 x1.toNat))).toNat) h) :
  zCI E mX10_sizeOf d [zR 0, zI x1] h K := by
  refine zC_in (L0 := [zR 0, zI x1]) pn_X10 rfl (Nat.le_of_ble_eq_true rfl) ?_
  refine z_aload_n dX10_sizeOf_0 rfl ?_
  refine gf_X10_125 (c2 := 33) dX10_sizeOf_1 rfl (sR_0 hE) (cR_0 hE) rfl ?_
  refine z_bipush dX10_sizeOf_4 (r32d rfl) (by decide) ?_
  refine z_iload_n dX10_sizeOf_6 rfl ?_
  refine z_imul dX10_sizeOf_7 ?_
  refine z_aload_n dX10_sizeOf_8 rfl ?_
  refine gf_X10_131 (c2 := 35) dX10_sizeOf_9 rfl (sR_0 hE) (cR_0 hE) rfl ?_
  refine z_iload_n dX10_sizeOf_12 rfl ?_
  obtain ⟨⟨hi0, hi1⟩, hyp⟩ := hyp
  refine z_iaload dX10_sizeOf_13 (sR_35 hE) (cR_35 hE) hi0 hi1 ?_
  refine z_iadd dX10_sizeOf_14 ?_
  obtain ⟨⟨hi0, hi1⟩, hyp⟩ := hyp
  refine z_iaload dX10_sizeOf_15 (sR_33 hE) (cR_33 hE) hi0 hi1 ?_
  exact z_iret dX10_sizeOf_16 rfl ⟨_, rfl, hyp⟩
set_option maxRecDepth 20000 in
theorem eX10_sort {E : zE} (hE : isR E) {d : Nat} {x1 x2 x3 : Int} {h : zH} {K : Int → zH → Prop} (hyp :
  ∀ h_1 : zH, h_1 = hset h 0 0 0 →
  ((x1 < 0 →
    K (-1) h_1) ∧
  (¬ (x1 < 0) →
    ((2 < x1 →
      K (-1) h_1) ∧
    (¬ (2 < x1) →
      zCI E mX10_isUnit d [zI x2] h_1 (fun r_4 h_4 =>
        ((r_4 = 0 →
          K (-1) h_4) ∧
        (¬ (r_4 = 0) →
          ((x3 < 0 →
            K (-1) h_4) ∧
          (¬ (x3 < 0) →
            ((x3 ≤ 1 →
              zCV E mX10_laid d [zR 0] h_4 (fun h_8 =>
                zCV E mX10_reckon d [zR 0, zI (-1), zI x1] h_8 (fun h_9 =>
                  ((x3 ≠ 0 →
                    zCI E mX10_reckonedMany d [zR 0] h_9 (fun r_11 h_11 =>
                      K r_11 h_11)) ∧
                  (¬ (x3 ≠ 0) →
                    zCI E mX10_lumpsOf d [zR 0, zI x2] h_9 (fun r_12 h_12 =>
                      K r_12 h_12)))))) ∧
            (¬ (x3 ≤ 1) →
              K (-1) h_4)))))))))))) :
  zCI E mX10_sort (d + 1) [zR 0, zI x1, zI x2, zI x3] h K := by
  refine zC_in (L0 := [zR 0, zI x1, zI x2, zI x3]) pn_X10 rfl (Nat.le_of_ble_eq_true rfl) ?_
  refine z_aload_n dX10_sort_0 rfl ?_
  refine z_iconst dX10_sort_1 (r32d rfl) ?_
  refine pf_X10_153 dX10_sort_2 rfl (sR_0 hE) (cR_0 hE) ?_
  generalize eh_1 : hset h 0 0 _ = h_1
  have hyp := hyp h_1 eh_1.symm
  refine z_iload_n dX10_sort_5 rfl ?_
  refine z_if_lt (tgt := 30) dX10_sort_6 (by decide) (fun c_2 => ?_) (fun c_2 => ?_)
  · have hyp := hyp.1 c_2
    refine z_iconst dX10_sort_30 (r32d rfl) ?_
    exact z_iret dX10_sort_31 rfl ⟨_, rfl, hyp⟩
  · have hyp := hyp.2 c_2
    refine z_iload_n dX10_sort_9 rfl ?_
    refine z_iconst dX10_sort_10 (r32d rfl) ?_
    refine z_icmp_gt (tgt := 30) dX10_sort_11 (by decide) (fun c_3 => ?_) (fun c_3 => ?_)
    · have hyp := hyp.1 c_3
      refine z_iconst dX10_sort_30 (r32d rfl) ?_
      exact z_iret dX10_sort_31 rfl ⟨_, rfl, hyp⟩
    · have hyp := hyp.2 c_3
      refine z_iload_n dX10_sort_14 rfl ?_
      refine cl_X10_460 dX10_sort_15 rfl (Nat.le_of_ble_eq_true rfl) (zC_mono ?_ hyp)
      rintro _ h_4 ⟨r_4, rfl, hyp⟩
      refine ⟨r_4, rfl, ?_⟩
      refine z_if_eq (tgt := 30) dX10_sort_18 (by decide) (fun c_5 => ?_) (fun c_5 => ?_)
      · have hyp := hyp.1 c_5
        refine z_iconst dX10_sort_30 (r32d rfl) ?_
        exact z_iret dX10_sort_31 rfl ⟨_, rfl, hyp⟩
      · have hyp := hyp.2 c_5
        refine z_iload_n dX10_sort_21 rfl ?_
        refine z_if_lt (tgt := 30) dX10_sort_22 (by decide) (fun c_6 => ?_) (fun c_6 => ?_)
        · have hyp := hyp.1 c_6
          refine z_iconst dX10_sort_30 (r32d rfl) ?_
          exact z_iret dX10_sort_31 rfl ⟨_, rfl, hyp⟩
        · have hyp := hyp.2 c_6
          refine z_iload_n dX10_sort_25 rfl ?_
          refine z_iconst dX10_sort_26 (r32d rfl) ?_
          refine z_icmp_le (tgt := 32) dX10_sort_27 (by decide) (fun c_7 => ?_) (fun c_7 => ?_)
          · have hyp := hyp.1 c_7
            refine z_aload_n dX10_sort_32 rfl ?_
            refine cl_X10_440 dX10_sort_33 rfl (sR_0 hE) (cR_0 hE) (Nat.le_of_ble_eq_true rfl) (zC_mono ?_ hyp)
            rintro _ h_8 ⟨rfl, hyp⟩
            refine ⟨rfl, ?_⟩
            refine z_aload_n dX10_sort_36 rfl ?_
            refine z_iconst dX10_sort_37 (r32d rfl) ?_
            refine z_iload_n dX10_sort_38 rfl ?_
            refine cl_X10_493 dX10_sort_39 rfl (sR_0 hE) (cR_0 hE) (Nat.le_of_ble_eq_true rfl) (zC_mono ?_ hyp)
            rintro _ h_9 ⟨rfl, hyp⟩
            refine ⟨rfl, ?_⟩
            refine z_iload_n dX10_sort_42 rfl ?_
            refine z_if_ne (tgt := 54) dX10_sort_43 (by decide) (fun c_10 => ?_) (fun c_10 => ?_)
            · have hyp := hyp.1 c_10
              refine z_aload_n dX10_sort_54 rfl ?_
              refine cl_X10_507 dX10_sort_55 rfl (sR_0 hE) (cR_0 hE) (Nat.le_of_ble_eq_true rfl) (zC_mono ?_ hyp)
              rintro _ h_11 ⟨r_11, rfl, hyp⟩
              refine ⟨r_11, rfl, ?_⟩
              exact z_iret dX10_sort_58 rfl ⟨_, rfl, hyp⟩
            · have hyp := hyp.2 c_10
              refine z_aload_n dX10_sort_46 rfl ?_
              refine z_iload_n dX10_sort_47 rfl ?_
              refine cl_X10_496 dX10_sort_48 rfl (sR_0 hE) (cR_0 hE) (Nat.le_of_ble_eq_true rfl) (zC_mono ?_ hyp)
              rintro _ h_12 ⟨r_12, rfl, hyp⟩
              refine ⟨r_12, rfl, ?_⟩
              refine z_goto (tgt := 58) dX10_sort_51 (by decide) ?_
              exact z_iret dX10_sort_58 rfl ⟨_, rfl, hyp⟩
          · have hyp := hyp.2 c_7
            refine z_iconst dX10_sort_30 (r32d rfl) ?_
            exact z_iret dX10_sort_31 rfl ⟨_, rfl, hyp⟩
set_option maxRecDepth 20000 in
theorem eX10_span {E : zE} (hE : isR E) {d : Nat} {x1 x2 : Int} {h : zH} {K : Int → zH → Prop} (hyp :
  ∀ h_1 : zH, h_1 = hset h 0 0 0 →
  zCI E mX10_isRing d [zR 0, zI x1] h_1 (fun r_2 h_2 =>
    ((r_2 = 0 →
      K (-1) h_2) ∧
    (¬ (r_2 = 0) →
      ((x2 < 0 →
        K (-1) h_2) ∧
      (¬ (x2 < 0) →
        ((x2 ≤ 1 →
          zCV E mX10_laid d [zR 0] h_2 (fun h_6 =>
            zCI E mX10_hasFit d [zR 0, zI x1] h_6 (fun r_7 h_7 =>
              ((r_7 = 0 →
                K (-1) h_7) ∧
              (¬ (r_7 = 0) →
                ((x2 ≠ 1 →
                  zCI E mX10_spanOf d [zR 0, zI x1, zI 0] h_7 (fun r_10 h_10 =>
                    K r_10 h_10)) ∧
                (¬ (x2 ≠ 1) →
                  zCI E mX10_spanOf d [zR 0, zI x1, zI 1] h_7 (fun r_11 h_11 =>
                    K r_11 h_11)))))))) ∧
        (¬ (x2 ≤ 1) →
          K (-1) h_2)))))))) :
  zCI E mX10_span (d + 1) [zR 0, zI x1, zI x2] h K := by
  refine zC_in (L0 := [zR 0, zI x1, zI x2]) pn_X10 rfl (Nat.le_of_ble_eq_true rfl) ?_
  refine z_aload_n dX10_span_0 rfl ?_
  refine z_iconst dX10_span_1 (r32d rfl) ?_
  refine pf_X10_153 dX10_span_2 rfl (sR_0 hE) (cR_0 hE) ?_
  generalize eh_1 : hset h 0 0 _ = h_1
  have hyp := hyp h_1 eh_1.symm
  refine z_aload_n dX10_span_5 rfl ?_
  refine z_iload_n dX10_span_6 rfl ?_
  refine cl_X10_437 dX10_span_7 rfl (sR_0 hE) (cR_0 hE) (Nat.le_of_ble_eq_true rfl) (zC_mono ?_ hyp)
  rintro _ h_2 ⟨r_2, rfl, hyp⟩
  refine ⟨r_2, rfl, ?_⟩
  refine z_if_eq (tgt := 22) dX10_span_10 (by decide) (fun c_3 => ?_) (fun c_3 => ?_)
  · have hyp := hyp.1 c_3
    refine z_iconst dX10_span_22 (r32d rfl) ?_
    exact z_iret dX10_span_23 rfl ⟨_, rfl, hyp⟩
  · have hyp := hyp.2 c_3
    refine z_iload_n dX10_span_13 rfl ?_
    refine z_if_lt (tgt := 22) dX10_span_14 (by decide) (fun c_4 => ?_) (fun c_4 => ?_)
    · have hyp := hyp.1 c_4
      refine z_iconst dX10_span_22 (r32d rfl) ?_
      exact z_iret dX10_span_23 rfl ⟨_, rfl, hyp⟩
    · have hyp := hyp.2 c_4
      refine z_iload_n dX10_span_17 rfl ?_
      refine z_iconst dX10_span_18 (r32d rfl) ?_
      refine z_icmp_le (tgt := 24) dX10_span_19 (by decide) (fun c_5 => ?_) (fun c_5 => ?_)
      · have hyp := hyp.1 c_5
        refine z_aload_n dX10_span_24 rfl ?_
        refine cl_X10_440 dX10_span_25 rfl (sR_0 hE) (cR_0 hE) (Nat.le_of_ble_eq_true rfl) (zC_mono ?_ hyp)
        rintro _ h_6 ⟨rfl, hyp⟩
        refine ⟨rfl, ?_⟩
        refine z_aload_n dX10_span_28 rfl ?_
        refine z_iload_n dX10_span_29 rfl ?_
        refine cl_X10_443 dX10_span_30 rfl (sR_0 hE) (cR_0 hE) (Nat.le_of_ble_eq_true rfl) (zC_mono ?_ hyp)
        rintro _ h_7 ⟨r_7, rfl, hyp⟩
        refine ⟨r_7, rfl, ?_⟩
        refine z_if_eq (tgt := 54) dX10_span_33 (by decide) (fun c_8 => ?_) (fun c_8 => ?_)
        · have hyp := hyp.1 c_8
          refine z_iconst dX10_span_54 (r32d rfl) ?_
          exact z_iret dX10_span_55 rfl ⟨_, rfl, hyp⟩
        · have hyp := hyp.2 c_8
          refine z_aload_n dX10_span_36 rfl ?_
          refine z_iload_n dX10_span_37 rfl ?_
          refine z_iload_n dX10_span_38 rfl ?_
          refine z_iconst dX10_span_39 (r32d rfl) ?_
          refine z_icmp_ne (tgt := 47) dX10_span_40 (by decide) (fun c_9 => ?_) (fun c_9 => ?_)
          · have hyp := hyp.1 c_9
            refine z_iconst dX10_span_47 (r32d rfl) ?_
            refine cl_X10_455 dX10_span_48 rfl (sR_0 hE) (cR_0 hE) (Nat.le_of_ble_eq_true rfl) (zC_mono ?_ hyp)
            rintro _ h_10 ⟨r_10, rfl, hyp⟩
            refine ⟨r_10, rfl, ?_⟩
            refine z_goto (tgt := 55) dX10_span_51 (by decide) ?_
            exact z_iret dX10_span_55 rfl ⟨_, rfl, hyp⟩
          · have hyp := hyp.2 c_9
            refine z_iconst dX10_span_43 (r32d rfl) ?_
            refine z_goto (tgt := 48) dX10_span_44 (by decide) ?_
            refine cl_X10_455 dX10_span_48 rfl (sR_0 hE) (cR_0 hE) (Nat.le_of_ble_eq_true rfl) (zC_mono ?_ hyp)
            rintro _ h_11 ⟨r_11, rfl, hyp⟩
            refine ⟨r_11, rfl, ?_⟩
            refine z_goto (tgt := 55) dX10_span_51 (by decide) ?_
            exact z_iret dX10_span_55 rfl ⟨_, rfl, hyp⟩
      · have hyp := hyp.2 c_5
        refine z_iconst dX10_span_22 (r32d rfl) ?_
        exact z_iret dX10_span_23 rfl ⟨_, rfl, hyp⟩
set_option maxRecDepth 20000 in
theorem bX10_spanOf_9 {E : zE} (hE : isR E) {d : Nat} {x1 x2 x3 x4 : Int} {h : zH} {K : Int → zH → Prop} (hyp :
  ((12 ≤ x4 →
    K x3 h) ∧
  (¬ (12 ≤ x4) →
    zCI E mX10_isWell d [zR 0, zI x1, zI x4] h (fun r_2 h_2 =>
      ((r_2 = 0 →
        ∀ x_4 : Int, x_4 = w32 (x4 + 1) →
        zG E mX10_spanOf (d + 1) 9 [zR 0, zI x1, zI x2, zI x3, zI x_4] [] h_2 (qI K)) ∧
      (¬ (r_2 = 0) →
        ((x2 = 0 →
          ((0 : Int) ≤ w32 ((w32 (12 * x1)) + x4) ∧ w32 ((w32 (12 * x1)) + x4) < (96 : Int)) ∧
          ∀ x_6 : Int, x_6 = min x3 (h_2 33 (w32 ((w32 (12 * x1)) + x4)).toNat) →
          ∀ x_7 : Int, x_7 = w32 (x4 + 1) →
          zG E mX10_spanOf (d + 1) 9 [zR 0, zI x1, zI x2, zI x_6, zI x_7] [] h_2 (qI K)) ∧
        (¬ (x2 = 0) →
          ((0 : Int) ≤ w32 ((w32 (12 * x1)) + x4) ∧ w32 ((w32 (12 * x1)) + x4) < (96 : Int)) ∧
          ∀ x_8 : Int, x_8 = max x3 (h_2 33 (w32 ((w32 (12 * x1)) + x4)).toNat) →
          ∀ x_9 : Int, x_9 = w32 (x4 + 1) →
          zG E mX10_spanOf (d + 1) 9 [zR 0, zI x1, zI x2, zI x_8, zI x_9] [] h_2 (qI K))))))))) :
  zG E mX10_spanOf (d + 1) 9 [zR 0, zI x1, zI x2, zI x3, zI x4] [] h (qI K) := by
  refine z_iload dX10_spanOf_9 rfl ?_
  refine z_bipush dX10_spanOf_11 (r32d rfl) (by decide) ?_
  refine z_icmp_ge (tgt := 72) dX10_spanOf_13 (by decide) (fun c_1 => ?_) (fun c_1 => ?_)
  · have hyp := hyp.1 c_1
    refine z_iload_n dX10_spanOf_72 rfl ?_
    exact z_iret dX10_spanOf_73 rfl ⟨_, rfl, hyp⟩
  · have hyp := hyp.2 c_1
    refine z_aload_n dX10_spanOf_16 rfl ?_
    refine z_iload_n dX10_spanOf_17 rfl ?_
    refine z_iload dX10_spanOf_18 rfl ?_
    refine cl_X10_449 dX10_spanOf_20 rfl (sR_0 hE) (cR_0 hE) (Nat.le_of_ble_eq_true rfl) (zC_mono ?_ hyp)
    rintro _ h_2 ⟨r_2, rfl, hyp⟩
    refine ⟨r_2, rfl, ?_⟩
    refine z_if_eq (tgt := 66) dX10_spanOf_23 (by decide) (fun c_3 => ?_) (fun c_3 => ?_)
    · have hyp := hyp.1 c_3
      refine z_iinc dX10_spanOf_66 rfl (by decide) rfl ?_
      generalize ex_4 : w32 (x4 + 1) = x_4
      have hyp := hyp x_4 ex_4.symm
      refine z_goto (tgt := 9) dX10_spanOf_69 (by decide) ?_
      exact hyp
    · have hyp := hyp.2 c_3
      refine z_iload_n dX10_spanOf_26 rfl ?_
      refine z_if_eq (tgt := 49) dX10_spanOf_27 (by decide) (fun c_5 => ?_) (fun c_5 => ?_)
      · have hyp := hyp.1 c_5
        refine z_iload_n dX10_spanOf_49 rfl ?_
        refine z_aload_n dX10_spanOf_50 rfl ?_
        refine gf_X10_125 (c2 := 33) dX10_spanOf_51 rfl (sR_0 hE) (cR_0 hE) rfl ?_
        refine z_bipush dX10_spanOf_54 (r32d rfl) (by decide) ?_
        refine z_iload_n dX10_spanOf_56 rfl ?_
        refine z_imul dX10_spanOf_57 ?_
        refine z_iload dX10_spanOf_58 rfl ?_
        refine z_iadd dX10_spanOf_60 ?_
        obtain ⟨⟨hi0, hi1⟩, hyp⟩ := hyp
        refine z_iaload dX10_spanOf_61 (sR_33 hE) (cR_33 hE) hi0 hi1 ?_
        refine cl_X10_285 dX10_spanOf_62 rfl (Nat.le_of_ble_eq_true rfl) ?_
        generalize ex_6 : min x3 (h_2 33 (w32 ((w32 (12 * x1)) + x4)).toNat) = x_6
        have hyp := hyp x_6 ex_6.symm
        refine z_istore_n dX10_spanOf_65 rfl (by decide) rfl ?_
        refine z_iinc dX10_spanOf_66 rfl (by decide) rfl ?_
        generalize ex_7 : w32 (x4 + 1) = x_7
        have hyp := hyp x_7 ex_7.symm
        refine z_goto (tgt := 9) dX10_spanOf_69 (by decide) ?_
        exact hyp
      · have hyp := hyp.2 c_5
        refine z_iload_n dX10_spanOf_30 rfl ?_
        refine z_aload_n dX10_spanOf_31 rfl ?_
        refine gf_X10_125 (c2 := 33) dX10_spanOf_32 rfl (sR_0 hE) (cR_0 hE) rfl ?_
        refine z_bipush dX10_spanOf_35 (r32d rfl) (by decide) ?_
        refine z_iload_n dX10_spanOf_37 rfl ?_
        refine z_imul dX10_spanOf_38 ?_
        refine z_iload dX10_spanOf_39 rfl ?_
        refine z_iadd dX10_spanOf_41 ?_
        obtain ⟨⟨hi0, hi1⟩, hyp⟩ := hyp
        refine z_iaload dX10_spanOf_42 (sR_33 hE) (cR_33 hE) hi0 hi1 ?_
        refine cl_X10_452 dX10_spanOf_43 rfl (Nat.le_of_ble_eq_true rfl) ?_
        refine z_goto (tgt := 65) dX10_spanOf_46 (by decide) ?_
        generalize ex_8 : max x3 (h_2 33 (w32 ((w32 (12 * x1)) + x4)).toNat) = x_8
        have hyp := hyp x_8 ex_8.symm
        refine z_istore_n dX10_spanOf_65 rfl (by decide) rfl ?_
        refine z_iinc dX10_spanOf_66 rfl (by decide) rfl ?_
        generalize ex_9 : w32 (x4 + 1) = x_9
        have hyp := hyp x_9 ex_9.symm
        refine z_goto (tgt := 9) dX10_spanOf_69 (by decide) ?_
        exact hyp
set_option maxRecDepth 20000 in
theorem eX10_spanOf {E : zE} (hE : isR E) {d : Nat} {x1 x2 : Int} {h : zH} {K : Int → zH → Prop} (hyp :
  zCI E mX10_sizeOf d [zR 0, zI x1] h (fun r_1 h_1 =>
    zG E mX10_spanOf (d + 1) 9 [zR 0, zI x1, zI x2, zI r_1, zI 0] [] h_1 (qI K))) :
  zCI E mX10_spanOf (d + 1) [zR 0, zI x1, zI x2] h K := by
  refine zC_in (L0 := [zR 0, zI x1, zI x2, zU, zU]) pn_X10 rfl (Nat.le_of_ble_eq_true rfl) ?_
  refine z_aload_n dX10_spanOf_0 rfl ?_
  refine z_iload_n dX10_spanOf_1 rfl ?_
  refine cl_X10_446 dX10_spanOf_2 rfl (sR_0 hE) (cR_0 hE) (Nat.le_of_ble_eq_true rfl) (zC_mono ?_ hyp)
  rintro _ h_1 ⟨r_1, rfl, hyp⟩
  refine ⟨r_1, rfl, ?_⟩
  refine z_istore_n dX10_spanOf_5 rfl (by decide) rfl ?_
  refine z_iconst dX10_spanOf_6 (r32d rfl) ?_
  refine z_istore dX10_spanOf_7 (by decide) rfl ?_
  exact hyp
set_option maxRecDepth 20000 in
theorem bX10_stands_7 {E : zE} (hE : isR E) {d : Nat} {x1 x2 : Int} {h : zH} {K : zH → Prop} (hyp :
  ((0 : Int) ≤ x1 ∧ x1 < (16 : Int)) ∧
  (((h 5 x1.toNat) ≤ x2 →
    K h) ∧
  (¬ ((h 5 x1.toNat) ≤ x2) →
    ∀ x_2 : Int, x_2 = w32 ((w32 (10 * x1)) + x2) →
    ((0 : Int) ≤ x_2 ∧ x_2 < (80 : Int)) ∧
    (((h 29 x_2.toNat) ≠ 0 →
      ∀ x_4 : Int, x_4 = w32 (x2 + 1) →
      zG E mX10_stands d 7 [zR 0, zI x1, zI x_4, zU] [] h (qV K)) ∧
    (¬ ((h 29 x_2.toNat) ≠ 0) →
      (((zand (h 0 56) 1) ≠ 1 →
        zG E mX10_stands d 55 [zR 0, zI x1, zI x2, zI x_2] [] h (qV K)) ∧
      (¬ ((zand (h 0 56) 1) ≠ 1) →
        ((0 : Int) ≤ x_2 ∧ x_2 < (160 : Int)) ∧
        (((h 10 x_2.toNat) = 0 →
          zG E mX10_stands d 55 [zR 0, zI x1, zI x2, zI x_2] [] h (qV K)) ∧
        (¬ ((h 10 x_2.toNat) = 0) →
          ∀ x_7 : Int, x_7 = w32 (x2 + 1) →
          zG E mX10_stands d 7 [zR 0, zI x1, zI x_7, zU] [] h (qV K)))))))))) :
  zG E mX10_stands d 7 [zR 0, zI x1, zI x2, zU] [] h (qV K) := by
  refine z_iload_n dX10_stands_7 rfl ?_
  refine z_aload_n dX10_stands_8 rfl ?_
  refine gf_X10_24 (c2 := 5) dX10_stands_9 rfl (sR_0 hE) (cR_0 hE) rfl ?_
  refine z_iload_n dX10_stands_12 rfl ?_
  obtain ⟨⟨hi0, hi1⟩, hyp⟩ := hyp
  refine z_iaload dX10_stands_13 (sR_5 hE) (cR_5 hE) hi0 hi1 ?_
  refine z_icmp_ge (tgt := 143) dX10_stands_14 (by decide) (fun c_1 => ?_) (fun c_1 => ?_)
  · have hyp := hyp.1 c_1
    exact z_vret dX10_stands_143 rfl ⟨rfl, hyp⟩
  · have hyp := hyp.2 c_1
    refine z_bipush dX10_stands_17 (r32d rfl) (by decide) ?_
    refine z_iload_n dX10_stands_19 rfl ?_
    refine z_imul dX10_stands_20 ?_
    refine z_iload_n dX10_stands_21 rfl ?_
    refine z_iadd dX10_stands_22 ?_
    generalize ex_2 : w32 ((w32 (10 * x1)) + x2) = x_2
    have hyp := hyp x_2 ex_2.symm
    refine z_istore_n dX10_stands_23 rfl (by decide) rfl ?_
    refine z_aload_n dX10_stands_24 rfl ?_
    refine gf_X10_113 (c2 := 29) dX10_stands_25 rfl (sR_0 hE) (cR_0 hE) rfl ?_
    refine z_iload_n dX10_stands_28 rfl ?_
    obtain ⟨⟨hi0, hi1⟩, hyp⟩ := hyp
    refine z_baload dX10_stands_29 (sR_29 hE) (cR_29 hE) hi0 hi1 ?_
    refine z_if_ne (tgt := 137) dX10_stands_30 (by decide) (fun c_3 => ?_) (fun c_3 => ?_)
    · have hyp := hyp.1 c_3
      refine z_iinc dX10_stands_137 rfl (by decide) rfl ?_
      generalize ex_4 : w32 (x2 + 1) = x_4
      have hyp := hyp x_4 ex_4.symm
      refine z_goto (tgt := 7) dX10_stands_140 (by decide) ?_
      exact z_forget [true, true, true, false] rfl hyp
    · have hyp := hyp.2 c_3
      refine z_aload_n dX10_stands_33 rfl ?_
      refine gf_X10_373 dX10_stands_34 rfl (sR_0 hE) (cR_0 hE) ?_
      refine z_iconst dX10_stands_37 (r32d rfl) ?_
      refine z_iand dX10_stands_38 ?_
      refine z_iconst dX10_stands_39 (r32d rfl) ?_
      refine z_icmp_ne (tgt := 55) dX10_stands_40 (by decide) (fun c_5 => ?_) (fun c_5 => ?_)
      · have hyp := hyp.1 c_5
        exact hyp
      · have hyp := hyp.2 c_5
        refine z_aload_n dX10_stands_43 rfl ?_
        refine gf_X10_39 (c2 := 10) dX10_stands_44 rfl (sR_0 hE) (cR_0 hE) rfl ?_
        refine z_iload_n dX10_stands_47 rfl ?_
        obtain ⟨⟨hi0, hi1⟩, hyp⟩ := hyp
        refine z_baload dX10_stands_48 (sR_10 hE) (cR_10 hE) hi0 hi1 ?_
        refine z_if_eq (tgt := 55) dX10_stands_49 (by decide) (fun c_6 => ?_) (fun c_6 => ?_)
        · have hyp := hyp.1 c_6
          exact hyp
        · have hyp := hyp.2 c_6
          refine z_goto (tgt := 137) dX10_stands_52 (by decide) ?_
          refine z_iinc dX10_stands_137 rfl (by decide) rfl ?_
          generalize ex_7 : w32 (x2 + 1) = x_7
          have hyp := hyp x_7 ex_7.symm
          refine z_goto (tgt := 7) dX10_stands_140 (by decide) ?_
          exact z_forget [true, true, true, false] rfl hyp
set_option maxRecDepth 20000 in
theorem bX10_stands_55 {E : zE} (hE : isR E) {d : Nat} {x1 x2 x3 : Int} {h : zH} {K : zH → Prop} (hyp :
  ((0 : Int) ≤ x3 ∧ x3 < (80 : Int)) ∧
  (((zand (h 0 56) 2) ≠ 2 →
    zG E mX10_stands d 89 [zR 0, zI x1, zI x2, zI x3] [zI 0, zI (h 27 x3.toNat), zI (h 0 68), zR 30] h (qV K)) ∧
  (¬ ((zand (h 0 56) 2) ≠ 2) →
    ((0 : Int) ≤ x3 ∧ x3 < (160 : Int)) ∧
    zG E mX10_stands d 89 [zR 0, zI x1, zI x2, zI x3] [zI (h 8 x3.toNat), zI (h 27 x3.toNat), zI (h 0 68), zR 30] h (qV K)))) :
  zG E mX10_stands d 55 [zR 0, zI x1, zI x2, zI x3] [] h (qV K) := by
  refine z_aload_n dX10_stands_55 rfl ?_
  refine gf_X10_116 (c2 := 30) dX10_stands_56 rfl (sR_0 hE) (cR_0 hE) rfl ?_
  refine z_aload_n dX10_stands_59 rfl ?_
  refine gf_X10_385 dX10_stands_60 rfl (sR_0 hE) (cR_0 hE) ?_
  refine z_aload_n dX10_stands_63 rfl ?_
  refine gf_X10_107 (c2 := 27) dX10_stands_64 rfl (sR_0 hE) (cR_0 hE) rfl ?_
  refine z_iload_n dX10_stands_67 rfl ?_
  obtain ⟨⟨hi0, hi1⟩, hyp⟩ := hyp
  refine z_iaload dX10_stands_68 (sR_27 hE) (cR_27 hE) hi0 hi1 ?_
  refine z_aload_n dX10_stands_69 rfl ?_
  refine gf_X10_373 dX10_stands_70 rfl (sR_0 hE) (cR_0 hE) ?_
  refine z_iconst dX10_stands_73 (r32d rfl) ?_
  refine z_iand dX10_stands_74 ?_
  refine z_iconst dX10_stands_75 (r32d rfl) ?_
  refine z_icmp_ne (tgt := 88) dX10_stands_76 (by decide) (fun c_1 => ?_) (fun c_1 => ?_)
  · have hyp := hyp.1 c_1
    refine z_iconst dX10_stands_88 (r32d rfl) ?_
    exact hyp
  · have hyp := hyp.2 c_1
    refine z_aload_n dX10_stands_79 rfl ?_
    refine gf_X10_33 (c2 := 8) dX10_stands_80 rfl (sR_0 hE) (cR_0 hE) rfl ?_
    refine z_iload_n dX10_stands_83 rfl ?_
    obtain ⟨⟨hi0, hi1⟩, hyp⟩ := hyp
    refine z_iaload dX10_stands_84 (sR_8 hE) (cR_8 hE) hi0 hi1 ?_
    refine z_goto (tgt := 89) dX10_stands_85 (by decide) ?_
    exact hyp
set_option maxRecDepth 20000 in
theorem bX10_stands_89 {E : zE} (hE : isR E) {d : Nat} {x1 x2 x3 s0 s1 s2 : Int} {h : zH} {K : zH → Prop} (hyp :
  ((0 : Int) ≤ s2 ∧ s2 < (10 : Int)) ∧
  ∀ h_1 : zH, h_1 = hset h 30 (s2.toNat) (w32 (s1 + s0)) →
  ((0 : Int) ≤ x3 ∧ x3 < (80 : Int)) ∧
  (((zand (h_1 0 56) 2) ≠ 2 →
    ((0 : Int) ≤ h_1 0 68 ∧ h_1 0 68 < (10 : Int)) ∧
    ∀ h_3 : zH, h_3 = hset h_1 31 ((h_1 0 68).toNat) (w32 ((h_1 28 x3.toNat) + 0)) →
    ∀ h_4 : zH, h_4 = hset h_3 0 68 (w32 ((h_3 0 68) + 1)) →
    ∀ x_5 : Int, x_5 = w32 (x2 + 1) →
    zG E mX10_stands d 7 [zR 0, zI x1, zI x_5, zU] [] h_4 (qV K)) ∧
  (¬ ((zand (h_1 0 56) 2) ≠ 2) →
    ((0 : Int) ≤ x3 ∧ x3 < (160 : Int)) ∧
    ((0 : Int) ≤ h_1 0 68 ∧ h_1 0 68 < (10 : Int)) ∧
    ∀ h_6 : zH, h_6 = hset h_1 31 ((h_1 0 68).toNat) (w32 ((h_1 28 x3.toNat) + (h_1 9 x3.toNat))) →
    ∀ h_7 : zH, h_7 = hset h_6 0 68 (w32 ((h_6 0 68) + 1)) →
    ∀ x_8 : Int, x_8 = w32 (x2 + 1) →
    zG E mX10_stands d 7 [zR 0, zI x1, zI x_8, zU] [] h_7 (qV K)))) :
  zG E mX10_stands d 89 [zR 0, zI x1, zI x2, zI x3] [zI s0, zI s1, zI s2, zR 30] h (qV K) := by
  refine z_iadd dX10_stands_89 ?_
  obtain ⟨⟨hi0, hi1⟩, hyp⟩ := hyp
  refine z_iastore dX10_stands_90 (sR_30 hE) (cR_30 hE) hi0 hi1 ?_
  generalize eh_1 : hset h 30 _ (w32 (s1 + s0)) = h_1
  have hyp := hyp h_1 eh_1.symm
  refine z_aload_n dX10_stands_91 rfl ?_
  refine gf_X10_119 (c2 := 31) dX10_stands_92 rfl (sR_0 hE) (cR_0 hE) rfl ?_
  refine z_aload_n dX10_stands_95 rfl ?_
  refine gf_X10_385 dX10_stands_96 rfl (sR_0 hE) (cR_0 hE) ?_
  refine z_aload_n dX10_stands_99 rfl ?_
  refine gf_X10_110 (c2 := 28) dX10_stands_100 rfl (sR_0 hE) (cR_0 hE) rfl ?_
  refine z_iload_n dX10_stands_103 rfl ?_
  obtain ⟨⟨hi0, hi1⟩, hyp⟩ := hyp
  refine z_iaload dX10_stands_104 (sR_28 hE) (cR_28 hE) hi0 hi1 ?_
  refine z_aload_n dX10_stands_105 rfl ?_
  refine gf_X10_373 dX10_stands_106 rfl (sR_0 hE) (cR_0 hE) ?_
  refine z_iconst dX10_stands_109 (r32d rfl) ?_
  refine z_iand dX10_stands_110 ?_
  refine z_iconst dX10_stands_111 (r32d rfl) ?_
  refine z_icmp_ne (tgt := 124) dX10_stands_112 (by decide) (fun c_2 => ?_) (fun c_2 => ?_)
  · have hyp := hyp.1 c_2
    refine z_iconst dX10_stands_124 (r32d rfl) ?_
    refine z_iadd dX10_stands_125 ?_
    obtain ⟨⟨hi0, hi1⟩, hyp⟩ := hyp
    refine z_iastore dX10_stands_126 (sR_31 hE) (cR_31 hE) hi0 hi1 ?_
    generalize eh_3 : hset h_1 31 _ (w32 ((h_1 28 x3.toNat) + 0)) = h_3
    have hyp := hyp h_3 eh_3.symm
    refine z_aload_n dX10_stands_127 rfl ?_
    refine z_dup dX10_stands_128 rfl ?_
    refine gf_X10_385 dX10_stands_129 rfl (sR_0 hE) (cR_0 hE) ?_
    refine z_iconst dX10_stands_132 (r32d rfl) ?_
    refine z_iadd dX10_stands_133 ?_
    refine pf_X10_385 dX10_stands_134 rfl (sR_0 hE) (cR_0 hE) ?_
    generalize eh_4 : hset h_3 0 68 _ = h_4
    have hyp := hyp h_4 eh_4.symm
    refine z_iinc dX10_stands_137 rfl (by decide) rfl ?_
    generalize ex_5 : w32 (x2 + 1) = x_5
    have hyp := hyp x_5 ex_5.symm
    refine z_goto (tgt := 7) dX10_stands_140 (by decide) ?_
    exact z_forget [true, true, true, false] rfl hyp
  · have hyp := hyp.2 c_2
    refine z_aload_n dX10_stands_115 rfl ?_
    refine gf_X10_36 (c2 := 9) dX10_stands_116 rfl (sR_0 hE) (cR_0 hE) rfl ?_
    refine z_iload_n dX10_stands_119 rfl ?_
    obtain ⟨⟨hi0, hi1⟩, hyp⟩ := hyp
    refine z_iaload dX10_stands_120 (sR_9 hE) (cR_9 hE) hi0 hi1 ?_
    refine z_goto (tgt := 125) dX10_stands_121 (by decide) ?_
    refine z_iadd dX10_stands_125 ?_
    obtain ⟨⟨hi0, hi1⟩, hyp⟩ := hyp
    refine z_iastore dX10_stands_126 (sR_31 hE) (cR_31 hE) hi0 hi1 ?_
    generalize eh_6 : hset h_1 31 _ (w32 ((h_1 28 x3.toNat) + (h_1 9 x3.toNat))) = h_6
    have hyp := hyp h_6 eh_6.symm
    refine z_aload_n dX10_stands_127 rfl ?_
    refine z_dup dX10_stands_128 rfl ?_
    refine gf_X10_385 dX10_stands_129 rfl (sR_0 hE) (cR_0 hE) ?_
    refine z_iconst dX10_stands_132 (r32d rfl) ?_
    refine z_iadd dX10_stands_133 ?_
    refine pf_X10_385 dX10_stands_134 rfl (sR_0 hE) (cR_0 hE) ?_
    generalize eh_7 : hset h_6 0 68 _ = h_7
    have hyp := hyp h_7 eh_7.symm
    refine z_iinc dX10_stands_137 rfl (by decide) rfl ?_
    generalize ex_8 : w32 (x2 + 1) = x_8
    have hyp := hyp x_8 ex_8.symm
    refine z_goto (tgt := 7) dX10_stands_140 (by decide) ?_
    exact z_forget [true, true, true, false] rfl hyp
set_option maxRecDepth 20000 in
theorem eX10_stands {E : zE} (hE : isR E) {d : Nat} {x1 : Int} {h : zH} {K : zH → Prop} (hyp :
  ∀ h_1 : zH, h_1 = hset h 0 68 0 →
  zG E mX10_stands d 7 [zR 0, zI x1, zI 0, zU] [] h_1 (qV K)) :
  zCV E mX10_stands d [zR 0, zI x1] h K := by
  refine zC_in (L0 := [zR 0, zI x1, zU, zU]) pn_X10 rfl (Nat.le_of_ble_eq_true rfl) ?_
  refine z_aload_n dX10_stands_0 rfl ?_
  refine z_iconst dX10_stands_1 (r32d rfl) ?_
  refine pf_X10_385 dX10_stands_2 rfl (sR_0 hE) (cR_0 hE) ?_
  generalize eh_1 : hset h 0 68 _ = h_1
  have hyp := hyp h_1 eh_1.symm
  refine z_iconst dX10_stands_5 (r32d rfl) ?_
  refine z_istore_n dX10_stands_6 rfl (by decide) rfl ?_
  exact hyp
set_option maxRecDepth 20000 in
theorem bX10_stones_2 {E : zE} (hE : isR E) {d : Nat} {x1 x2 : Int} {h : zH} {K : zH → Prop} (hyp :
  ((80 ≤ x2 →
    zG E mX10_stones d 52 [zR 0, zI x1, zI 0, zU] [] h (qV K)) ∧
  (¬ (80 ≤ x2) →
    ((0 : Int) ≤ x2 ∧ x2 < (160 : Int)) ∧
    ((0 : Int) ≤ x2 ∧ x2 < (80 : Int)) ∧
    ∀ h_2 : zH, h_2 = hset h 27 (x2.toNat) (h 6 x2.toNat) →
    ((0 : Int) ≤ x2 ∧ x2 < (160 : Int)) ∧
    ((0 : Int) ≤ x2 ∧ x2 < (80 : Int)) ∧
    ∀ h_3 : zH, h_3 = hset h_2 28 (x2.toNat) (h_2 7 x2.toNat) →
    ((0 : Int) ≤ x2 ∧ x2 < (160 : Int)) ∧
    ((0 : Int) ≤ x2 ∧ x2 < (80 : Int)) ∧
    (h_3 11 x2.toNat = 0 ∨ h_3 11 x2.toNat = 1) ∧
    ∀ h_4 : zH, h_4 = hset h_3 29 (x2.toNat) (h_3 11 x2.toNat) →
    ∀ x_5 : Int, x_5 = w32 (x2 + 1) →
    zG E mX10_stones d 2 [zR 0, zI x1, zI x_5, zU] [] h_4 (qV K)))) :
  zG E mX10_stones d 2 [zR 0, zI x1, zI x2, zU] [] h (qV K) := by
  refine z_iload_n dX10_stones_2 rfl ?_
  refine z_bipush dX10_stones_3 (r32d rfl) (by decide) ?_
  refine z_icmp_ge (tgt := 50) dX10_stones_5 (by decide) (fun c_1 => ?_) (fun c_1 => ?_)
  · have hyp := hyp.1 c_1
    refine z_iconst dX10_stones_50 (r32d rfl) ?_
    refine z_istore_n dX10_stones_51 rfl (by decide) rfl ?_
    exact hyp
  · have hyp := hyp.2 c_1
    refine z_aload_n dX10_stones_8 rfl ?_
    refine gf_X10_107 (c2 := 27) dX10_stones_9 rfl (sR_0 hE) (cR_0 hE) rfl ?_
    refine z_iload_n dX10_stones_12 rfl ?_
    refine z_aload_n dX10_stones_13 rfl ?_
    refine gf_X10_27 (c2 := 6) dX10_stones_14 rfl (sR_0 hE) (cR_0 hE) rfl ?_
    refine z_iload_n dX10_stones_17 rfl ?_
    obtain ⟨⟨hi0, hi1⟩, hyp⟩ := hyp
    refine z_iaload dX10_stones_18 (sR_6 hE) (cR_6 hE) hi0 hi1 ?_
    obtain ⟨⟨hi0, hi1⟩, hyp⟩ := hyp
    refine z_iastore dX10_stones_19 (sR_27 hE) (cR_27 hE) hi0 hi1 ?_
    generalize eh_2 : hset h 27 _ (h 6 x2.toNat) = h_2
    have hyp := hyp h_2 eh_2.symm
    refine z_aload_n dX10_stones_20 rfl ?_
    refine gf_X10_110 (c2 := 28) dX10_stones_21 rfl (sR_0 hE) (cR_0 hE) rfl ?_
    refine z_iload_n dX10_stones_24 rfl ?_
    refine z_aload_n dX10_stones_25 rfl ?_
    refine gf_X10_30 (c2 := 7) dX10_stones_26 rfl (sR_0 hE) (cR_0 hE) rfl ?_
    refine z_iload_n dX10_stones_29 rfl ?_
    obtain ⟨⟨hi0, hi1⟩, hyp⟩ := hyp
    refine z_iaload dX10_stones_30 (sR_7 hE) (cR_7 hE) hi0 hi1 ?_
    obtain ⟨⟨hi0, hi1⟩, hyp⟩ := hyp
    refine z_iastore dX10_stones_31 (sR_28 hE) (cR_28 hE) hi0 hi1 ?_
    generalize eh_3 : hset h_2 28 _ (h_2 7 x2.toNat) = h_3
    have hyp := hyp h_3 eh_3.symm
    refine z_aload_n dX10_stones_32 rfl ?_
    refine gf_X10_113 (c2 := 29) dX10_stones_33 rfl (sR_0 hE) (cR_0 hE) rfl ?_
    refine z_iload_n dX10_stones_36 rfl ?_
    refine z_aload_n dX10_stones_37 rfl ?_
    refine gf_X10_43 (c2 := 11) dX10_stones_38 rfl (sR_0 hE) (cR_0 hE) rfl ?_
    refine z_iload_n dX10_stones_41 rfl ?_
    obtain ⟨⟨hi0, hi1⟩, hyp⟩ := hyp
    refine z_baload dX10_stones_42 (sR_11 hE) (cR_11 hE) hi0 hi1 ?_
    obtain ⟨⟨hi0, hi1⟩, hyp⟩ := hyp
    obtain ⟨hx0, hyp⟩ := hyp
    refine z_bastore dX10_stones_43 (sR_29 hE) (cR_29 hE) hi0 hi1 hx0 ?_
    generalize eh_4 : hset h_3 29 _ (h_3 11 x2.toNat) = h_4
    have hyp := hyp h_4 eh_4.symm
    refine z_iinc dX10_stones_44 rfl (by decide) rfl ?_
    generalize ex_5 : w32 (x2 + 1) = x_5
    have hyp := hyp x_5 ex_5.symm
    refine z_goto (tgt := 2) dX10_stones_47 (by decide) ?_
    exact hyp
set_option maxRecDepth 20000 in
theorem bX10_stones_52 {E : zE} (hE : isR E) {d : Nat} {x1 x2 : Int} {h : zH} {K : zH → Prop} (hyp :
  ((x1 ≤ x2 →
    ∀ x_2 : Int, x_2 = w32 (x1 - 1) →
    zG E mX10_stones d 74 [zR 0, zI x1, zI x_2, zU] [] h (qV K)) ∧
  (¬ (x1 ≤ x2) →
    ((0 : Int) ≤ x2 ∧ x2 < (60 : Int)) ∧
    ∀ h_3 : zH, h_3 = hset h 26 (x2.toNat) 0 →
    ∀ x_4 : Int, x_4 = w32 (x2 + 1) →
    zG E mX10_stones d 52 [zR 0, zI x1, zI x_4, zU] [] h_3 (qV K)))) :
  zG E mX10_stones d 52 [zR 0, zI x1, zI x2, zU] [] h (qV K) := by
  refine z_iload_n dX10_stones_52 rfl ?_
  refine z_iload_n dX10_stones_53 rfl ?_
  refine z_icmp_ge (tgt := 70) dX10_stones_54 (by decide) (fun c_1 => ?_) (fun c_1 => ?_)
  · have hyp := hyp.1 c_1
    refine z_iload_n dX10_stones_70 rfl ?_
    refine z_iconst dX10_stones_71 (r32d rfl) ?_
    refine z_isub dX10_stones_72 ?_
    generalize ex_2 : w32 (x1 - 1) = x_2
    have hyp := hyp x_2 ex_2.symm
    refine z_istore_n dX10_stones_73 rfl (by decide) rfl ?_
    exact hyp
  · have hyp := hyp.2 c_1
    refine z_aload_n dX10_stones_57 rfl ?_
    refine gf_X10_104 (c2 := 26) dX10_stones_58 rfl (sR_0 hE) (cR_0 hE) rfl ?_
    refine z_iload_n dX10_stones_61 rfl ?_
    refine z_iconst dX10_stones_62 (r32d rfl) ?_
    obtain ⟨⟨hi0, hi1⟩, hyp⟩ := hyp
    refine z_bastore dX10_stones_63 (sR_26 hE) (cR_26 hE) hi0 hi1 (Or.inl rfl) ?_
    generalize eh_3 : hset h 26 _ 0 = h_3
    have hyp := hyp h_3 eh_3.symm
    refine z_iinc dX10_stones_64 rfl (by decide) rfl ?_
    generalize ex_4 : w32 (x2 + 1) = x_4
    have hyp := hyp x_4 ex_4.symm
    refine z_goto (tgt := 52) dX10_stones_67 (by decide) ?_
    exact hyp
set_option maxRecDepth 20000 in
theorem bX10_stones_74 {E : zE} (hE : isR E) {d : Nat} {x1 x2 : Int} {h : zH} {K : zH → Prop} (hyp :
  ((x2 < 0 →
    zG E mX10_stones d 117 [zR 0, zI x1, zI 0, zU] [] h (qV K)) ∧
  (¬ (x2 < 0) →
    ((0 : Int) ≤ x2 ∧ x2 < (60 : Int)) ∧
    (((h 26 x2.toNat) ≠ 0 →
      ∀ x_3 : Int, x_3 = w32 (x2 + (-1)) →
      zG E mX10_stones d 74 [zR 0, zI x1, zI x_3, zU] [] h (qV K)) ∧
    (¬ ((h 26 x2.toNat) ≠ 0) →
      ((0 : Int) ≤ x2 ∧ x2 < (60 : Int)) ∧
      (((h 22 x2.toNat) ≠ 2 →
        ∀ x_5 : Int, x_5 = w32 (x2 + (-1)) →
        zG E mX10_stones d 74 [zR 0, zI x1, zI x_5, zU] [] h (qV K)) ∧
      (¬ ((h 22 x2.toNat) ≠ 2) →
        ((0 : Int) ≤ x2 ∧ x2 < (60 : Int)) ∧
        ((0 : Int) ≤ h 23 x2.toNat ∧ h 23 x2.toNat < (60 : Int)) ∧
        ∀ h_6 : zH, h_6 = hset h 26 ((h 23 x2.toNat).toNat) 1 →
        ∀ x_7 : Int, x_7 = w32 (x2 + (-1)) →
        zG E mX10_stones d 74 [zR 0, zI x1, zI x_7, zU] [] h_6 (qV K)))))))) :
  zG E mX10_stones d 74 [zR 0, zI x1, zI x2, zU] [] h (qV K) := by
  refine z_iload_n dX10_stones_74 rfl ?_
  refine z_if_lt (tgt := 115) dX10_stones_75 (by decide) (fun c_1 => ?_) (fun c_1 => ?_)
  · have hyp := hyp.1 c_1
    refine z_iconst dX10_stones_115 (r32d rfl) ?_
    refine z_istore_n dX10_stones_116 rfl (by decide) rfl ?_
    exact hyp
  · have hyp := hyp.2 c_1
    refine z_aload_n dX10_stones_78 rfl ?_
    refine gf_X10_104 (c2 := 26) dX10_stones_79 rfl (sR_0 hE) (cR_0 hE) rfl ?_
    refine z_iload_n dX10_stones_82 rfl ?_
    obtain ⟨⟨hi0, hi1⟩, hyp⟩ := hyp
    refine z_baload dX10_stones_83 (sR_26 hE) (cR_26 hE) hi0 hi1 ?_
    refine z_if_ne (tgt := 109) dX10_stones_84 (by decide) (fun c_2 => ?_) (fun c_2 => ?_)
    · have hyp := hyp.1 c_2
      refine z_iinc dX10_stones_109 rfl (by decide) rfl ?_
      generalize ex_3 : w32 (x2 + (-1)) = x_3
      have hyp := hyp x_3 ex_3.symm
      refine z_goto (tgt := 74) dX10_stones_112 (by decide) ?_
      exact hyp
    · have hyp := hyp.2 c_2
      refine z_aload_n dX10_stones_87 rfl ?_
      refine gf_X10_92 (c2 := 22) dX10_stones_88 rfl (sR_0 hE) (cR_0 hE) rfl ?_
      refine z_iload_n dX10_stones_91 rfl ?_
      obtain ⟨⟨hi0, hi1⟩, hyp⟩ := hyp
      refine z_iaload dX10_stones_92 (sR_22 hE) (cR_22 hE) hi0 hi1 ?_
      refine z_iconst dX10_stones_93 (r32d rfl) ?_
      refine z_icmp_ne (tgt := 109) dX10_stones_94 (by decide) (fun c_4 => ?_) (fun c_4 => ?_)
      · have hyp := hyp.1 c_4
        refine z_iinc dX10_stones_109 rfl (by decide) rfl ?_
        generalize ex_5 : w32 (x2 + (-1)) = x_5
        have hyp := hyp x_5 ex_5.symm
        refine z_goto (tgt := 74) dX10_stones_112 (by decide) ?_
        exact hyp
      · have hyp := hyp.2 c_4
        refine z_aload_n dX10_stones_97 rfl ?_
        refine gf_X10_104 (c2 := 26) dX10_stones_98 rfl (sR_0 hE) (cR_0 hE) rfl ?_
        refine z_aload_n dX10_stones_101 rfl ?_
        refine gf_X10_95 (c2 := 23) dX10_stones_102 rfl (sR_0 hE) (cR_0 hE) rfl ?_
        refine z_iload_n dX10_stones_105 rfl ?_
        obtain ⟨⟨hi0, hi1⟩, hyp⟩ := hyp
        refine z_iaload dX10_stones_106 (sR_23 hE) (cR_23 hE) hi0 hi1 ?_
        refine z_iconst dX10_stones_107 (r32d rfl) ?_
        obtain ⟨⟨hi0, hi1⟩, hyp⟩ := hyp
        refine z_bastore dX10_stones_108 (sR_26 hE) (cR_26 hE) hi0 hi1 (Or.inr rfl) ?_
        generalize eh_6 : hset h 26 _ 1 = h_6
        have hyp := hyp h_6 eh_6.symm
        refine z_iinc dX10_stones_109 rfl (by decide) rfl ?_
        generalize ex_7 : w32 (x2 + (-1)) = x_7
        have hyp := hyp x_7 ex_7.symm
        refine z_goto (tgt := 74) dX10_stones_112 (by decide) ?_
        exact hyp
set_option maxRecDepth 20000 in
theorem bX10_stones_117 {E : zE} (hE : isR E) {d : Nat} {x1 x2 : Int} {h : zH} {K : zH → Prop} (hyp :
  ((x1 ≤ x2 →
    K h) ∧
  (¬ (x1 ≤ x2) →
    ((0 : Int) ≤ x2 ∧ x2 < (60 : Int)) ∧
    (((h 26 x2.toNat) ≠ 0 →
      ∀ x_3 : Int, x_3 = w32 (x2 + 1) →
      zG E mX10_stones d 117 [zR 0, zI x1, zI x_3, zU] [] h (qV K)) ∧
    (¬ ((h 26 x2.toNat) ≠ 0) →
      ((0 : Int) ≤ x2 ∧ x2 < (60 : Int)) ∧
      (((h 22 x2.toNat) ≠ 2 →
        ((0 : Int) ≤ x2 ∧ x2 < (60 : Int)) ∧
        ∀ x_5 : Int, x_5 = h 23 x2.toNat →
        ((0 : Int) ≤ x2 ∧ x2 < (60 : Int)) ∧
        (((h 22 x2.toNat) ≠ 1 →
          ((0 : Int) ≤ x2 ∧ x2 < (60 : Int)) ∧
          ((0 : Int) ≤ x_5 ∧ x_5 < (80 : Int)) ∧
          ∀ h_7 : zH, h_7 = hset h 27 (x_5.toNat) (h 24 x2.toNat) →
          ((0 : Int) ≤ x2 ∧ x2 < (60 : Int)) ∧
          ((0 : Int) ≤ x_5 ∧ x_5 < (80 : Int)) ∧
          ∀ h_8 : zH, h_8 = hset h_7 28 (x_5.toNat) (h_7 25 x2.toNat) →
          ∀ x_9 : Int, x_9 = w32 (x2 + 1) →
          zG E mX10_stones d 117 [zR 0, zI x1, zI x_9, zU] [] h_8 (qV K)) ∧
        (¬ ((h 22 x2.toNat) ≠ 1) →
          ((0 : Int) ≤ x2 ∧ x2 < (60 : Int)) ∧
          (((h 24 x2.toNat) ≠ 1 →
            ((0 : Int) ≤ x_5 ∧ x_5 < (80 : Int)) ∧
            ∀ h_11 : zH, h_11 = hset h 29 (x_5.toNat) 0 →
            ∀ x_12 : Int, x_12 = w32 (x2 + 1) →
            zG E mX10_stones d 117 [zR 0, zI x1, zI x_12, zU] [] h_11 (qV K)) ∧
          (¬ ((h 24 x2.toNat) ≠ 1) →
            ((0 : Int) ≤ x_5 ∧ x_5 < (80 : Int)) ∧
            ∀ h_13 : zH, h_13 = hset h 29 (x_5.toNat) 1 →
            ∀ x_14 : Int, x_14 = w32 (x2 + 1) →
            zG E mX10_stones d 117 [zR 0, zI x1, zI x_14, zU] [] h_13 (qV K)))))) ∧
      (¬ ((h 22 x2.toNat) ≠ 2) →
        ∀ x_15 : Int, x_15 = w32 (x2 + 1) →
        zG E mX10_stones d 117 [zR 0, zI x1, zI x_15, zU] [] h (qV K)))))))) :
  zG E mX10_stones d 117 [zR 0, zI x1, zI x2, zU] [] h (qV K) := by
  refine z_iload_n dX10_stones_117 rfl ?_
  refine z_iload_n dX10_stones_118 rfl ?_
  refine z_icmp_ge (tgt := 215) dX10_stones_119 (by decide) (fun c_1 => ?_) (fun c_1 => ?_)
  · have hyp := hyp.1 c_1
    exact z_vret dX10_stones_215 rfl ⟨rfl, hyp⟩
  · have hyp := hyp.2 c_1
    refine z_aload_n dX10_stones_122 rfl ?_
    refine gf_X10_104 (c2 := 26) dX10_stones_123 rfl (sR_0 hE) (cR_0 hE) rfl ?_
    refine z_iload_n dX10_stones_126 rfl ?_
    obtain ⟨⟨hi0, hi1⟩, hyp⟩ := hyp
    refine z_baload dX10_stones_127 (sR_26 hE) (cR_26 hE) hi0 hi1 ?_
    refine z_if_ne (tgt := 209) dX10_stones_128 (by decide) (fun c_2 => ?_) (fun c_2 => ?_)
    · have hyp := hyp.1 c_2
      refine z_iinc dX10_stones_209 rfl (by decide) rfl ?_
      generalize ex_3 : w32 (x2 + 1) = x_3
      have hyp := hyp x_3 ex_3.symm
      refine z_goto (tgt := 117) dX10_stones_212 (by decide) ?_
      exact hyp
    · have hyp := hyp.2 c_2
      refine z_aload_n dX10_stones_131 rfl ?_
      refine gf_X10_92 (c2 := 22) dX10_stones_132 rfl (sR_0 hE) (cR_0 hE) rfl ?_
      refine z_iload_n dX10_stones_135 rfl ?_
      obtain ⟨⟨hi0, hi1⟩, hyp⟩ := hyp
      refine z_iaload dX10_stones_136 (sR_22 hE) (cR_22 hE) hi0 hi1 ?_
      refine z_iconst dX10_stones_137 (r32d rfl) ?_
      refine z_icmp_ne (tgt := 144) dX10_stones_138 (by decide) (fun c_4 => ?_) (fun c_4 => ?_)
      · have hyp := hyp.1 c_4
        refine z_aload_n dX10_stones_144 rfl ?_
        refine gf_X10_95 (c2 := 23) dX10_stones_145 rfl (sR_0 hE) (cR_0 hE) rfl ?_
        refine z_iload_n dX10_stones_148 rfl ?_
        obtain ⟨⟨hi0, hi1⟩, hyp⟩ := hyp
        refine z_iaload dX10_stones_149 (sR_23 hE) (cR_23 hE) hi0 hi1 ?_
        generalize ex_5 : h 23 x2.toNat = x_5
        have hyp := hyp x_5 ex_5.symm
        refine z_istore_n dX10_stones_150 rfl (by decide) rfl ?_
        refine z_aload_n dX10_stones_151 rfl ?_
        refine gf_X10_92 (c2 := 22) dX10_stones_152 rfl (sR_0 hE) (cR_0 hE) rfl ?_
        refine z_iload_n dX10_stones_155 rfl ?_
        obtain ⟨⟨hi0, hi1⟩, hyp⟩ := hyp
        refine z_iaload dX10_stones_156 (sR_22 hE) (cR_22 hE) hi0 hi1 ?_
        refine z_iconst dX10_stones_157 (r32d rfl) ?_
        refine z_icmp_ne (tgt := 185) dX10_stones_158 (by decide) (fun c_6 => ?_) (fun c_6 => ?_)
        · have hyp := hyp.1 c_6
          refine z_aload_n dX10_stones_185 rfl ?_
          refine gf_X10_107 (c2 := 27) dX10_stones_186 rfl (sR_0 hE) (cR_0 hE) rfl ?_
          refine z_iload_n dX10_stones_189 rfl ?_
          refine z_aload_n dX10_stones_190 rfl ?_
          refine gf_X10_98 (c2 := 24) dX10_stones_191 rfl (sR_0 hE) (cR_0 hE) rfl ?_
          refine z_iload_n dX10_stones_194 rfl ?_
          obtain ⟨⟨hi0, hi1⟩, hyp⟩ := hyp
          refine z_iaload dX10_stones_195 (sR_24 hE) (cR_24 hE) hi0 hi1 ?_
          obtain ⟨⟨hi0, hi1⟩, hyp⟩ := hyp
          refine z_iastore dX10_stones_196 (sR_27 hE) (cR_27 hE) hi0 hi1 ?_
          generalize eh_7 : hset h 27 _ (h 24 x2.toNat) = h_7
          have hyp := hyp h_7 eh_7.symm
          refine z_aload_n dX10_stones_197 rfl ?_
          refine gf_X10_110 (c2 := 28) dX10_stones_198 rfl (sR_0 hE) (cR_0 hE) rfl ?_
          refine z_iload_n dX10_stones_201 rfl ?_
          refine z_aload_n dX10_stones_202 rfl ?_
          refine gf_X10_101 (c2 := 25) dX10_stones_203 rfl (sR_0 hE) (cR_0 hE) rfl ?_
          refine z_iload_n dX10_stones_206 rfl ?_
          obtain ⟨⟨hi0, hi1⟩, hyp⟩ := hyp
          refine z_iaload dX10_stones_207 (sR_25 hE) (cR_25 hE) hi0 hi1 ?_
          obtain ⟨⟨hi0, hi1⟩, hyp⟩ := hyp
          refine z_iastore dX10_stones_208 (sR_28 hE) (cR_28 hE) hi0 hi1 ?_
          generalize eh_8 : hset h_7 28 _ (h_7 25 x2.toNat) = h_8
          have hyp := hyp h_8 eh_8.symm
          refine z_iinc dX10_stones_209 rfl (by decide) rfl ?_
          generalize ex_9 : w32 (x2 + 1) = x_9
          have hyp := hyp x_9 ex_9.symm
          refine z_goto (tgt := 117) dX10_stones_212 (by decide) ?_
          exact z_forget [true, true, true, false] rfl hyp
        · have hyp := hyp.2 c_6
          refine z_aload_n dX10_stones_161 rfl ?_
          refine gf_X10_113 (c2 := 29) dX10_stones_162 rfl (sR_0 hE) (cR_0 hE) rfl ?_
          refine z_iload_n dX10_stones_165 rfl ?_
          refine z_aload_n dX10_stones_166 rfl ?_
          refine gf_X10_98 (c2 := 24) dX10_stones_167 rfl (sR_0 hE) (cR_0 hE) rfl ?_
          refine z_iload_n dX10_stones_170 rfl ?_
          obtain ⟨⟨hi0, hi1⟩, hyp⟩ := hyp
          refine z_iaload dX10_stones_171 (sR_24 hE) (cR_24 hE) hi0 hi1 ?_
          refine z_iconst dX10_stones_172 (r32d rfl) ?_
          refine z_icmp_ne (tgt := 180) dX10_stones_173 (by decide) (fun c_10 => ?_) (fun c_10 => ?_)
          · have hyp := hyp.1 c_10
            refine z_iconst dX10_stones_180 (r32d rfl) ?_
            obtain ⟨⟨hi0, hi1⟩, hyp⟩ := hyp
            refine z_bastore dX10_stones_181 (sR_29 hE) (cR_29 hE) hi0 hi1 (Or.inl rfl) ?_
            generalize eh_11 : hset h 29 _ 0 = h_11
            have hyp := hyp h_11 eh_11.symm
            refine z_goto (tgt := 209) dX10_stones_182 (by decide) ?_
            refine z_iinc dX10_stones_209 rfl (by decide) rfl ?_
            generalize ex_12 : w32 (x2 + 1) = x_12
            have hyp := hyp x_12 ex_12.symm
            refine z_goto (tgt := 117) dX10_stones_212 (by decide) ?_
            exact z_forget [true, true, true, false] rfl hyp
          · have hyp := hyp.2 c_10
            refine z_iconst dX10_stones_176 (r32d rfl) ?_
            refine z_goto (tgt := 181) dX10_stones_177 (by decide) ?_
            obtain ⟨⟨hi0, hi1⟩, hyp⟩ := hyp
            refine z_bastore dX10_stones_181 (sR_29 hE) (cR_29 hE) hi0 hi1 (Or.inr rfl) ?_
            generalize eh_13 : hset h 29 _ 1 = h_13
            have hyp := hyp h_13 eh_13.symm
            refine z_goto (tgt := 209) dX10_stones_182 (by decide) ?_
            refine z_iinc dX10_stones_209 rfl (by decide) rfl ?_
            generalize ex_14 : w32 (x2 + 1) = x_14
            have hyp := hyp x_14 ex_14.symm
            refine z_goto (tgt := 117) dX10_stones_212 (by decide) ?_
            exact z_forget [true, true, true, false] rfl hyp
      · have hyp := hyp.2 c_4
        refine z_goto (tgt := 209) dX10_stones_141 (by decide) ?_
        refine z_iinc dX10_stones_209 rfl (by decide) rfl ?_
        generalize ex_15 : w32 (x2 + 1) = x_15
        have hyp := hyp x_15 ex_15.symm
        refine z_goto (tgt := 117) dX10_stones_212 (by decide) ?_
        exact hyp
set_option maxRecDepth 20000 in
theorem eX10_stones {E : zE} (hE : isR E) {d : Nat} {x1 : Int} {h : zH} {K : zH → Prop} (hyp :
  zG E mX10_stones d 2 [zR 0, zI x1, zI 0, zU] [] h (qV K)) :
  zCV E mX10_stones d [zR 0, zI x1] h K := by
  refine zC_in (L0 := [zR 0, zI x1, zU, zU]) pn_X10 rfl (Nat.le_of_ble_eq_true rfl) ?_
  refine z_iconst dX10_stones_0 (r32d rfl) ?_
  refine z_istore_n dX10_stones_1 rfl (by decide) rfl ?_
  exact hyp
set_option maxRecDepth 20000 in
theorem eX10_stretched {E : zE} (hE : isR E) {d : Nat} {x0 x1 : Int} {h : zH} {K : Int → zH → Prop} (hyp :
  ((x1 ≠ 1 →
    K (w32 (Int.tdiv (w32 (x0 * 3)) 4)) h) ∧
  (¬ (x1 ≠ 1) →
    K (w32 (Int.tdiv (w32 (x0 * 4)) 3)) h))) :
  zCI E mX10_stretched d [zI x0, zI x1] h K := by
  refine zC_in (L0 := [zI x0, zI x1]) pn_X10 rfl (Nat.le_of_ble_eq_true rfl) ?_
  refine z_iload_n dX10_stretched_0 rfl ?_
  refine z_iconst dX10_stretched_1 (r32d rfl) ?_
  refine z_icmp_ne (tgt := 13) dX10_stretched_2 (by decide) (fun c_1 => ?_) (fun c_1 => ?_)
  · have hyp := hyp.1 c_1
    refine z_iload_n dX10_stretched_13 rfl ?_
    refine z_iconst dX10_stretched_14 (r32d rfl) ?_
    refine z_imul dX10_stretched_15 ?_
    refine z_iconst dX10_stretched_16 (r32d rfl) ?_
    refine z_idiv (by decide) dX10_stretched_17 ?_
    exact z_iret dX10_stretched_18 rfl ⟨_, rfl, hyp⟩
  · have hyp := hyp.2 c_1
    refine z_iload_n dX10_stretched_5 rfl ?_
    refine z_iconst dX10_stretched_6 (r32d rfl) ?_
    refine z_imul dX10_stretched_7 ?_
    refine z_iconst dX10_stretched_8 (r32d rfl) ?_
    refine z_idiv (by decide) dX10_stretched_9 ?_
    refine z_goto (tgt := 18) dX10_stretched_10 (by decide) ?_
    exact z_iret dX10_stretched_18 rfl ⟨_, rfl, hyp⟩
set_option maxRecDepth 20000 in
theorem eX10_strike {E : zE} (hE : isR E) {d : Nat} {x1 : Int} {h : zH} {K : Int → zH → Prop} (hyp :
  ∀ h_1 : zH, h_1 = hset h 0 0 0 →
  ((x1 < 0 →
    K (-1) h_1) ∧
  (¬ (x1 < 0) →
    (((h_1 0 54) ≤ x1 →
      K (-1) h_1) ∧
    (¬ ((h_1 0 54) ≤ x1) →
      (((h_1 0 54) ≠ 60 →
        zCI E mX10_noted d [zR 0, zI 2, zI x1, zI 0, zI 0] h_1 (fun r_5 h_5 =>
          K r_5 h_5)) ∧
      (¬ ((h_1 0 54) ≠ 60) →
        K (-1) h_1))))))) :
  zCI E mX10_strike (d + 1) [zR 0, zI x1] h K := by
  refine zC_in (L0 := [zR 0, zI x1]) pn_X10 rfl (Nat.le_of_ble_eq_true rfl) ?_
  refine z_aload_n dX10_strike_0 rfl ?_
  refine z_iconst dX10_strike_1 (r32d rfl) ?_
  refine pf_X10_153 dX10_strike_2 rfl (sR_0 hE) (cR_0 hE) ?_
  generalize eh_1 : hset h 0 0 _ = h_1
  have hyp := hyp h_1 eh_1.symm
  refine z_iload_n dX10_strike_5 rfl ?_
  refine z_if_lt (tgt := 26) dX10_strike_6 (by decide) (fun c_2 => ?_) (fun c_2 => ?_)
  · have hyp := hyp.1 c_2
    refine z_iconst dX10_strike_26 (r32d rfl) ?_
    refine z_goto (tgt := 38) dX10_strike_27 (by decide) ?_
    exact z_iret dX10_strike_38 rfl ⟨_, rfl, hyp⟩
  · have hyp := hyp.2 c_2
    refine z_iload_n dX10_strike_9 rfl ?_
    refine z_aload_n dX10_strike_10 rfl ?_
    refine gf_X10_355 dX10_strike_11 rfl (sR_0 hE) (cR_0 hE) ?_
    refine z_icmp_ge (tgt := 26) dX10_strike_14 (by decide) (fun c_3 => ?_) (fun c_3 => ?_)
    · have hyp := hyp.1 c_3
      refine z_iconst dX10_strike_26 (r32d rfl) ?_
      refine z_goto (tgt := 38) dX10_strike_27 (by decide) ?_
      exact z_iret dX10_strike_38 rfl ⟨_, rfl, hyp⟩
    · have hyp := hyp.2 c_3
      refine z_aload_n dX10_strike_17 rfl ?_
      refine gf_X10_355 dX10_strike_18 rfl (sR_0 hE) (cR_0 hE) ?_
      refine z_bipush dX10_strike_21 (r32d rfl) (by decide) ?_
      refine z_icmp_ne (tgt := 30) dX10_strike_23 (by decide) (fun c_4 => ?_) (fun c_4 => ?_)
      · have hyp := hyp.1 c_4
        refine z_aload_n dX10_strike_30 rfl ?_
        refine z_iconst dX10_strike_31 (r32d rfl) ?_
        refine z_iload_n dX10_strike_32 rfl ?_
        refine z_iconst dX10_strike_33 (r32d rfl) ?_
        refine z_iconst dX10_strike_34 (r32d rfl) ?_
        refine cl_X10_369 dX10_strike_35 rfl (sR_0 hE) (cR_0 hE) (Nat.le_of_ble_eq_true rfl) (zC_mono ?_ hyp)
        rintro _ h_5 ⟨r_5, rfl, hyp⟩
        refine ⟨r_5, rfl, ?_⟩
        exact z_iret dX10_strike_38 rfl ⟨_, rfl, hyp⟩
      · have hyp := hyp.2 c_4
        refine z_iconst dX10_strike_26 (r32d rfl) ?_
        refine z_goto (tgt := 38) dX10_strike_27 (by decide) ?_
        exact z_iret dX10_strike_38 rfl ⟨_, rfl, hyp⟩
set_option maxRecDepth 20000 in
theorem bX10_sum_4 {E : zE} (hE : isR E) {d : Nat} {h : zH} {K : zH → Prop} (hyp :
  zCI E mX10_isSign d [zR 0, zI 43] h (fun r_1 h_1 =>
    ((r_1 ≠ 0 →
      zG E mX10_sum (d + 1) 22 [zR 0, zU] [] h_1 (qV K)) ∧
    (¬ (r_1 ≠ 0) →
      zCI E mX10_isSign d [zR 0, zI 45] h_1 (fun r_3 h_3 =>
        ((r_3 = 0 →
          K h_3) ∧
        (¬ (r_3 = 0) →
          zG E mX10_sum (d + 1) 22 [zR 0, zU] [] h_3 (qV K)))))))) :
  zG E mX10_sum (d + 1) 4 [zR 0, zU] [] h (qV K) := by
  refine z_aload_n dX10_sum_4 rfl ?_
  refine z_bipush dX10_sum_5 (r32d rfl) (by decide) ?_
  refine cl_X10_219 dX10_sum_7 rfl (sR_0 hE) (cR_0 hE) (Nat.le_of_ble_eq_true rfl) (zC_mono ?_ hyp)
  rintro _ h_1 ⟨r_1, rfl, hyp⟩
  refine ⟨r_1, rfl, ?_⟩
  refine z_if_ne (tgt := 22) dX10_sum_10 (by decide) (fun c_2 => ?_) (fun c_2 => ?_)
  · have hyp := hyp.1 c_2
    exact hyp
  · have hyp := hyp.2 c_2
    refine z_aload_n dX10_sum_13 rfl ?_
    refine z_bipush dX10_sum_14 (r32d rfl) (by decide) ?_
    refine cl_X10_219 dX10_sum_16 rfl (sR_0 hE) (cR_0 hE) (Nat.le_of_ble_eq_true rfl) (zC_mono ?_ hyp)
    rintro _ h_3 ⟨r_3, rfl, hyp⟩
    refine ⟨r_3, rfl, ?_⟩
    refine z_if_eq (tgt := 48) dX10_sum_19 (by decide) (fun c_4 => ?_) (fun c_4 => ?_)
    · have hyp := hyp.1 c_4
      exact z_vret dX10_sum_48 rfl ⟨rfl, hyp⟩
    · have hyp := hyp.2 c_4
      exact hyp
set_option maxRecDepth 20000 in
theorem bX10_sum_22 {E : zE} (hE : isR E) {d : Nat} {h : zH} {K : zH → Prop} (hyp :
  ∀ x_1 : Int, x_1 = h 0 48 →
  zCV E mX10_knot d [zR 0] h (fun h_2 =>
    zCV E mX10_goOn d [zR 0] h_2 (fun h_3 =>
      zCV E mX10_product d [zR 0] h_3 (fun h_4 =>
        zCV E mX10_puts d [zR 0, zI 2, zI x_1] h_4 (fun h_5 =>
          zG E mX10_sum (d + 1) 4 [zR 0, zU] [] h_5 (qV K)))))) :
  zG E mX10_sum (d + 1) 22 [zR 0, zU] [] h (qV K) := by
  refine z_aload_n dX10_sum_22 rfl ?_
  refine gf_X10_182 dX10_sum_23 rfl (sR_0 hE) (cR_0 hE) ?_
  generalize ex_1 : h 0 48 = x_1
  have hyp := hyp x_1 ex_1.symm
  refine z_istore_n dX10_sum_26 rfl (by decide) rfl ?_
  refine z_aload_n dX10_sum_27 rfl ?_
  refine cl_X10_306 dX10_sum_28 rfl (sR_0 hE) (cR_0 hE) (Nat.le_of_ble_eq_true rfl) (zC_mono ?_ hyp)
  rintro _ h_2 ⟨rfl, hyp⟩
  refine ⟨rfl, ?_⟩
  refine z_aload_n dX10_sum_31 rfl ?_
  refine cl_X10_282 dX10_sum_32 rfl (sR_0 hE) (cR_0 hE) (Nat.le_of_ble_eq_true rfl) (zC_mono ?_ hyp)
  rintro _ h_3 ⟨rfl, hyp⟩
  refine ⟨rfl, ?_⟩
  refine z_aload_n dX10_sum_35 rfl ?_
  refine cl_X10_319 dX10_sum_36 rfl (sR_0 hE) (cR_0 hE) (Nat.le_of_ble_eq_true rfl) (zC_mono ?_ hyp)
  rintro _ h_4 ⟨rfl, hyp⟩
  refine ⟨rfl, ?_⟩
  refine z_aload_n dX10_sum_39 rfl ?_
  refine z_iconst dX10_sum_40 (r32d rfl) ?_
  refine z_iload_n dX10_sum_41 rfl ?_
  refine cl_X10_309 dX10_sum_42 rfl (sR_0 hE) (cR_0 hE) (Nat.le_of_ble_eq_true rfl) (zC_mono ?_ hyp)
  rintro _ h_5 ⟨rfl, hyp⟩
  refine ⟨rfl, ?_⟩
  refine z_goto (tgt := 4) dX10_sum_45 (by decide) ?_
  exact z_forget [true, false] rfl hyp
set_option maxRecDepth 20000 in
theorem eX10_sum {E : zE} (hE : isR E) {d : Nat} {h : zH} {K : zH → Prop} (hyp :
  zCV E mX10_product d [zR 0] h (fun h_1 =>
    zG E mX10_sum (d + 1) 4 [zR 0, zU] [] h_1 (qV K))) :
  zCV E mX10_sum (d + 1) [zR 0] h K := by
  refine zC_in (L0 := [zR 0, zU]) pn_X10 rfl (Nat.le_of_ble_eq_true rfl) ?_
  refine z_aload_n dX10_sum_0 rfl ?_
  refine cl_X10_319 dX10_sum_1 rfl (sR_0 hE) (cR_0 hE) (Nat.le_of_ble_eq_true rfl) (zC_mono ?_ hyp)
  rintro _ h_1 ⟨rfl, hyp⟩
  refine ⟨rfl, ?_⟩
  exact hyp
set_option maxRecDepth 20000 in
theorem eX10_tape {E : zE} (hE : isR E) {d : Nat} {x1 x2 x3 x4 : Int} {h : zH} {K : Int → zH → Prop} (hyp :
  ∀ h_1 : zH, h_1 = hset h 0 0 0 →
  zCI E mX10_isStone d [zR 0, zI x1, zI x2] h_1 (fun r_2 h_2 =>
    ((r_2 = 0 →
      K (-1) h_2) ∧
    (¬ (r_2 = 0) →
      zCI E mX10_isPlace d [zI x3] h_2 (fun r_4 h_4 =>
        ((r_4 = 0 →
          K (-1) h_4) ∧
        (¬ (r_4 = 0) →
          zCI E mX10_isPlace d [zI x4] h_4 (fun r_6 h_6 =>
            ((r_6 = 0 →
              K (-1) h_6) ∧
            (¬ (r_6 = 0) →
              (((h_6 0 54) ≠ 60 →
                zCI E mX10_noted d [zR 0, zI 0, zI (w32 ((w32 (10 * x1)) + x2)), zI x3, zI x4] h_6 (fun r_9 h_9 =>
                  K r_9 h_9)) ∧
              (¬ ((h_6 0 54) ≠ 60) →
                K (-1) h_6)))))))))))) :
  zCI E mX10_tape (d + 1) [zR 0, zI x1, zI x2, zI x3, zI x4] h K := by
  refine zC_in (L0 := [zR 0, zI x1, zI x2, zI x3, zI x4]) pn_X10 rfl (Nat.le_of_ble_eq_true rfl) ?_
  refine z_aload_n dX10_tape_0 rfl ?_
  refine z_iconst dX10_tape_1 (r32d rfl) ?_
  refine pf_X10_153 dX10_tape_2 rfl (sR_0 hE) (cR_0 hE) ?_
  generalize eh_1 : hset h 0 0 _ = h_1
  have hyp := hyp h_1 eh_1.symm
  refine z_aload_n dX10_tape_5 rfl ?_
  refine z_iload_n dX10_tape_6 rfl ?_
  refine z_iload_n dX10_tape_7 rfl ?_
  refine cl_X10_362 dX10_tape_8 rfl (sR_0 hE) (cR_0 hE) (Nat.le_of_ble_eq_true rfl) (zC_mono ?_ hyp)
  rintro _ h_2 ⟨r_2, rfl, hyp⟩
  refine ⟨r_2, rfl, ?_⟩
  refine z_if_eq (tgt := 38) dX10_tape_11 (by decide) (fun c_3 => ?_) (fun c_3 => ?_)
  · have hyp := hyp.1 c_3
    refine z_iconst dX10_tape_38 (r32d rfl) ?_
    refine z_goto (tgt := 56) dX10_tape_39 (by decide) ?_
    exact z_iret dX10_tape_56 rfl ⟨_, rfl, hyp⟩
  · have hyp := hyp.2 c_3
    refine z_iload_n dX10_tape_14 rfl ?_
    refine cl_X10_366 dX10_tape_15 rfl (Nat.le_of_ble_eq_true rfl) (zC_mono ?_ hyp)
    rintro _ h_4 ⟨r_4, rfl, hyp⟩
    refine ⟨r_4, rfl, ?_⟩
    refine z_if_eq (tgt := 38) dX10_tape_18 (by decide) (fun c_5 => ?_) (fun c_5 => ?_)
    · have hyp := hyp.1 c_5
      refine z_iconst dX10_tape_38 (r32d rfl) ?_
      refine z_goto (tgt := 56) dX10_tape_39 (by decide) ?_
      exact z_iret dX10_tape_56 rfl ⟨_, rfl, hyp⟩
    · have hyp := hyp.2 c_5
      refine z_iload dX10_tape_21 rfl ?_
      refine cl_X10_366 dX10_tape_23 rfl (Nat.le_of_ble_eq_true rfl) (zC_mono ?_ hyp)
      rintro _ h_6 ⟨r_6, rfl, hyp⟩
      refine ⟨r_6, rfl, ?_⟩
      refine z_if_eq (tgt := 38) dX10_tape_26 (by decide) (fun c_7 => ?_) (fun c_7 => ?_)
      · have hyp := hyp.1 c_7
        refine z_iconst dX10_tape_38 (r32d rfl) ?_
        refine z_goto (tgt := 56) dX10_tape_39 (by decide) ?_
        exact z_iret dX10_tape_56 rfl ⟨_, rfl, hyp⟩
      · have hyp := hyp.2 c_7
        refine z_aload_n dX10_tape_29 rfl ?_
        refine gf_X10_355 dX10_tape_30 rfl (sR_0 hE) (cR_0 hE) ?_
        refine z_bipush dX10_tape_33 (r32d rfl) (by decide) ?_
        refine z_icmp_ne (tgt := 42) dX10_tape_35 (by decide) (fun c_8 => ?_) (fun c_8 => ?_)
        · have hyp := hyp.1 c_8
          refine z_aload_n dX10_tape_42 rfl ?_
          refine z_iconst dX10_tape_43 (r32d rfl) ?_
          refine z_bipush dX10_tape_44 (r32d rfl) (by decide) ?_
          refine z_iload_n dX10_tape_46 rfl ?_
          refine z_imul dX10_tape_47 ?_
          refine z_iload_n dX10_tape_48 rfl ?_
          refine z_iadd dX10_tape_49 ?_
          refine z_iload_n dX10_tape_50 rfl ?_
          refine z_iload dX10_tape_51 rfl ?_
          refine cl_X10_369 dX10_tape_53 rfl (sR_0 hE) (cR_0 hE) (Nat.le_of_ble_eq_true rfl) (zC_mono ?_ hyp)
          rintro _ h_9 ⟨r_9, rfl, hyp⟩
          refine ⟨r_9, rfl, ?_⟩
          exact z_iret dX10_tape_56 rfl ⟨_, rfl, hyp⟩
        · have hyp := hyp.2 c_8
          refine z_iconst dX10_tape_38 (r32d rfl) ?_
          refine z_goto (tgt := 56) dX10_tape_39 (by decide) ?_
          exact z_iret dX10_tape_56 rfl ⟨_, rfl, hyp⟩
set_option maxRecDepth 20000 in
theorem bX10_tells_47 {E : zE} (hE : isR E) {d : Nat} {x1 x2 x3 y4 x6 : Int} {h : zH} {K : Int → zH → Prop} (hyp :
  (((h 0 25) ≤ x6 →
    ((y4 ≠ 0 →
      zCJ E mX10_toldBy d [zR 0, zI x1, zI x2] h (fun r_3 h_3 =>
        zCJ E mX10_common d [zJ r_3, zJ y4] h_3 (fun r_4 h_4 =>
          ((x3 ≠ 0 →
            ¬ r_4 = 0 ∧
            K (w64 (Int.tdiv y4 r_4)) h_4) ∧
          (¬ (x3 ≠ 0) →
            zCJ E mX10_toldBy d [zR 0, zI x1, zI x2] h_4 (fun r_6 h_6 =>
              ¬ r_4 = 0 ∧
              K (w64 (Int.tdiv r_6 r_4)) h_6)))))) ∧
    (¬ (y4 ≠ 0) →
      K 0 h))) ∧
  (¬ ((h 0 25) ≤ x6) →
    zCJ E mX10_toldBy d [zR 0, zI x6, zI x2] h (fun r_7 h_7 =>
      ∀ y_8 : Int, y_8 = w64 (y4 + r_7) →
      ∀ x_9 : Int, x_9 = w32 (x6 + 1) →
      zG E mX10_tells (d + 1) 47 [zR 0, zI x1, zI x2, zI x3, zJ y_8, zU, zI x_9, zU] [] h_7 (qJ K))))) :
  zG E mX10_tells (d + 1) 47 [zR 0, zI x1, zI x2, zI x3, zJ y4, zU, zI x6, zU] [] h (qJ K) := by
  refine z_iload dX10_tells_47 rfl ?_
  refine z_aload_n dX10_tells_49 rfl ?_
  refine gf_X10_343 dX10_tells_50 rfl (sR_0 hE) (cR_0 hE) ?_
  refine z_icmp_ge (tgt := 74) dX10_tells_53 (by decide) (fun c_1 => ?_) (fun c_1 => ?_)
  · have hyp := hyp.1 c_1
    refine z_lload dX10_tells_74 rfl ?_
    refine z_lconst (x := 0) dX10_tells_76 (by decide) (r64d rfl) ?_
    refine z_lc_ne (tgt := 83) dX10_tells_77 dX10_tells_78 (by decide) (fun c_2 => ?_) (fun c_2 => ?_)
    · have hyp := hyp.1 c_2
      refine z_aload_n dX10_tells_83 rfl ?_
      refine z_iload_n dX10_tells_84 rfl ?_
      refine z_iload_n dX10_tells_85 rfl ?_
      refine cl_X10_521 dX10_tells_86 rfl (sR_0 hE) (cR_0 hE) (Nat.le_of_ble_eq_true rfl) (zC_mono ?_ hyp)
      rintro _ h_3 ⟨r_3, rfl, hyp⟩
      refine ⟨r_3, rfl, ?_⟩
      refine z_lload dX10_tells_89 rfl ?_
      refine cl_X10_525 dX10_tells_91 rfl (Nat.le_of_ble_eq_true rfl) (zC_mono ?_ hyp)
      rintro _ h_4 ⟨r_4, rfl, hyp⟩
      refine ⟨r_4, rfl, ?_⟩
      refine z_lstore dX10_tells_94 (by decide) rfl ?_
      refine z_iload_n dX10_tells_96 rfl ?_
      refine z_if_ne (tgt := 112) dX10_tells_97 (by decide) (fun c_5 => ?_) (fun c_5 => ?_)
      · have hyp := hyp.1 c_5
        refine z_lload dX10_tells_112 rfl ?_
        refine z_lload dX10_tells_114 rfl ?_
        obtain ⟨hz, hyp⟩ := hyp
        refine z_ldiv hz dX10_tells_116 ?_
        exact z_lret dX10_tells_117 rfl ⟨_, rfl, hyp⟩
      · have hyp := hyp.2 c_5
        refine z_aload_n dX10_tells_100 rfl ?_
        refine z_iload_n dX10_tells_101 rfl ?_
        refine z_iload_n dX10_tells_102 rfl ?_
        refine cl_X10_521 dX10_tells_103 rfl (sR_0 hE) (cR_0 hE) (Nat.le_of_ble_eq_true rfl) (zC_mono ?_ hyp)
        rintro _ h_6 ⟨r_6, rfl, hyp⟩
        refine ⟨r_6, rfl, ?_⟩
        refine z_lload dX10_tells_106 rfl ?_
        obtain ⟨hz, hyp⟩ := hyp
        refine z_ldiv hz dX10_tells_108 ?_
        refine z_goto (tgt := 117) dX10_tells_109 (by decide) ?_
        exact z_lret dX10_tells_117 rfl ⟨_, rfl, hyp⟩
    · have hyp := hyp.2 c_2
      refine z_lconst (x := 0) dX10_tells_81 (by decide) (r64d rfl) ?_
      exact z_lret dX10_tells_82 rfl ⟨_, rfl, hyp⟩
  · have hyp := hyp.2 c_1
    refine z_lload dX10_tells_56 rfl ?_
    refine z_aload_n dX10_tells_58 rfl ?_
    refine z_iload dX10_tells_59 rfl ?_
    refine z_iload_n dX10_tells_61 rfl ?_
    refine cl_X10_521 dX10_tells_62 rfl (sR_0 hE) (cR_0 hE) (Nat.le_of_ble_eq_true rfl) (zC_mono ?_ hyp)
    rintro _ h_7 ⟨r_7, rfl, hyp⟩
    refine ⟨r_7, rfl, ?_⟩
    refine z_ladd dX10_tells_65 ?_
    generalize ey_8 : w64 (y4 + r_7) = y_8
    have hyp := hyp y_8 ey_8.symm
    refine z_lstore dX10_tells_66 (by decide) rfl ?_
    refine z_iinc dX10_tells_68 rfl (by decide) rfl ?_
    generalize ex_9 : w32 (x6 + 1) = x_9
    have hyp := hyp x_9 ex_9.symm
    refine z_goto (tgt := 47) dX10_tells_71 (by decide) ?_
    exact hyp
set_option maxRecDepth 20000 in
theorem eX10_tells {E : zE} (hE : isR E) {d : Nat} {x1 x2 x3 : Int} {h : zH} {K : Int → zH → Prop} (hyp :
  ∀ h_1 : zH, h_1 = hset h 0 0 0 →
  ((x1 < 0 →
    K (-1) h_1) ∧
  (¬ (x1 < 0) →
    (((h_1 0 25) ≤ x1 →
      K (-1) h_1) ∧
    (¬ ((h_1 0 25) ≤ x1) →
      zCI E mX10_isUnit d [zI x2] h_1 (fun r_4 h_4 =>
        ((r_4 = 0 →
          K (-1) h_4) ∧
        (¬ (r_4 = 0) →
          ((x3 < 0 →
            K (-1) h_4) ∧
          (¬ (x3 < 0) →
            ((x3 ≤ 1 →
              zCV E mX10_laid d [zR 0] h_4 (fun h_8 =>
                zG E mX10_tells (d + 1) 47 [zR 0, zI x1, zI x2, zI x3, zJ 0, zU, zI 0, zU] [] h_8 (qJ K))) ∧
            (¬ (x3 ≤ 1) →
              K (-1) h_4)))))))))))) :
  zCJ E mX10_tells (d + 1) [zR 0, zI x1, zI x2, zI x3] h K := by
  refine zC_in (L0 := [zR 0, zI x1, zI x2, zI x3, zU, zU, zU, zU]) pn_X10 rfl (Nat.le_of_ble_eq_true rfl) ?_
  refine z_aload_n dX10_tells_0 rfl ?_
  refine z_iconst dX10_tells_1 (r32d rfl) ?_
  refine pf_X10_153 dX10_tells_2 rfl (sR_0 hE) (cR_0 hE) ?_
  generalize eh_1 : hset h 0 0 _ = h_1
  have hyp := hyp h_1 eh_1.symm
  refine z_iload_n dX10_tells_5 rfl ?_
  refine z_if_lt (tgt := 33) dX10_tells_6 (by decide) (fun c_2 => ?_) (fun c_2 => ?_)
  · have hyp := hyp.1 c_2
    refine z_ldc2 (x := (-1)) dX10_tells_33 rfl wk_X10_519 (by decide) (r64d rfl) ?_
    exact z_lret dX10_tells_36 rfl ⟨_, rfl, hyp⟩
  · have hyp := hyp.2 c_2
    refine z_iload_n dX10_tells_9 rfl ?_
    refine z_aload_n dX10_tells_10 rfl ?_
    refine gf_X10_343 dX10_tells_11 rfl (sR_0 hE) (cR_0 hE) ?_
    refine z_icmp_ge (tgt := 33) dX10_tells_14 (by decide) (fun c_3 => ?_) (fun c_3 => ?_)
    · have hyp := hyp.1 c_3
      refine z_ldc2 (x := (-1)) dX10_tells_33 rfl wk_X10_519 (by decide) (r64d rfl) ?_
      exact z_lret dX10_tells_36 rfl ⟨_, rfl, hyp⟩
    · have hyp := hyp.2 c_3
      refine z_iload_n dX10_tells_17 rfl ?_
      refine cl_X10_460 dX10_tells_18 rfl (Nat.le_of_ble_eq_true rfl) (zC_mono ?_ hyp)
      rintro _ h_4 ⟨r_4, rfl, hyp⟩
      refine ⟨r_4, rfl, ?_⟩
      refine z_if_eq (tgt := 33) dX10_tells_21 (by decide) (fun c_5 => ?_) (fun c_5 => ?_)
      · have hyp := hyp.1 c_5
        refine z_ldc2 (x := (-1)) dX10_tells_33 rfl wk_X10_519 (by decide) (r64d rfl) ?_
        exact z_lret dX10_tells_36 rfl ⟨_, rfl, hyp⟩
      · have hyp := hyp.2 c_5
        refine z_iload_n dX10_tells_24 rfl ?_
        refine z_if_lt (tgt := 33) dX10_tells_25 (by decide) (fun c_6 => ?_) (fun c_6 => ?_)
        · have hyp := hyp.1 c_6
          refine z_ldc2 (x := (-1)) dX10_tells_33 rfl wk_X10_519 (by decide) (r64d rfl) ?_
          exact z_lret dX10_tells_36 rfl ⟨_, rfl, hyp⟩
        · have hyp := hyp.2 c_6
          refine z_iload_n dX10_tells_28 rfl ?_
          refine z_iconst dX10_tells_29 (r32d rfl) ?_
          refine z_icmp_le (tgt := 37) dX10_tells_30 (by decide) (fun c_7 => ?_) (fun c_7 => ?_)
          · have hyp := hyp.1 c_7
            refine z_aload_n dX10_tells_37 rfl ?_
            refine cl_X10_440 dX10_tells_38 rfl (sR_0 hE) (cR_0 hE) (Nat.le_of_ble_eq_true rfl) (zC_mono ?_ hyp)
            rintro _ h_8 ⟨rfl, hyp⟩
            refine ⟨rfl, ?_⟩
            refine z_lconst (x := 0) dX10_tells_41 (by decide) (r64d rfl) ?_
            refine z_lstore dX10_tells_42 (by decide) rfl ?_
            refine z_iconst dX10_tells_44 (r32d rfl) ?_
            refine z_istore dX10_tells_45 (by decide) rfl ?_
            exact hyp
          · have hyp := hyp.2 c_7
            refine z_ldc2 (x := (-1)) dX10_tells_33 rfl wk_X10_519 (by decide) (r64d rfl) ?_
            exact z_lret dX10_tells_36 rfl ⟨_, rfl, hyp⟩
set_option maxRecDepth 20000 in
theorem bX10_text_117 {E : zE} (hE : isR E) {d : Nat} {h : zH} {K : Int → zH → Prop} (hyp :
  (((h 0 49) ≠ 0 →
    zG E mX10_text (d + 1) 139 [zR 0, zU] [] h (qI K)) ∧
  (¬ ((h 0 49) ≠ 0) →
    (((h 0 47) = 4 →
      zG E mX10_text (d + 1) 139 [zR 0, zU] [] h (qI K)) ∧
    (¬ ((h 0 47) = 4) →
      zCV E mX10_line d [zR 0] h (fun h_3 =>
        zG E mX10_text (d + 1) 117 [zR 0, zU] [] h_3 (qI K))))))) :
  zG E mX10_text (d + 1) 117 [zR 0, zU] [] h (qI K) := by
  refine z_aload_n dX10_text_117 rfl ?_
  refine gf_X10_207 dX10_text_118 rfl (sR_0 hE) (cR_0 hE) ?_
  refine z_if_ne (tgt := 139) dX10_text_121 (by decide) (fun c_1 => ?_) (fun c_1 => ?_)
  · have hyp := hyp.1 c_1
    exact hyp
  · have hyp := hyp.2 c_1
    refine z_aload_n dX10_text_124 rfl ?_
    refine gf_X10_172 dX10_text_125 rfl (sR_0 hE) (cR_0 hE) ?_
    refine z_iconst dX10_text_128 (r32d rfl) ?_
    refine z_icmp_eq (tgt := 139) dX10_text_129 (by decide) (fun c_2 => ?_) (fun c_2 => ?_)
    · have hyp := hyp.1 c_2
      exact hyp
    · have hyp := hyp.2 c_2
      refine z_aload_n dX10_text_132 rfl ?_
      refine cl_X10_328 dX10_text_133 rfl (sR_0 hE) (cR_0 hE) (Nat.le_of_ble_eq_true rfl) (zC_mono ?_ hyp)
      rintro _ h_3 ⟨rfl, hyp⟩
      refine ⟨rfl, ?_⟩
      refine z_goto (tgt := 117) dX10_text_136 (by decide) ?_
      exact hyp
set_option maxRecDepth 20000 in
theorem bX10_text_139 {E : zE} (hE : isR E) {d : Nat} {h : zH} {K : Int → zH → Prop} (hyp :
  ∀ h_1 : zH, h_1 = hset h 0 51 (h 0 49) →
  ∀ h_2 : zH, h_2 = hset h_1 0 52 (h_1 0 50) →
  (((h_2 0 49) = 0 →
    zCV E mX10_lays d [zR 0] h_2 (fun h_4 =>
      K (h_4 0 43) h_4)) ∧
  (¬ ((h_2 0 49) = 0) →
    K (-1) h_2))) :
  zG E mX10_text (d + 1) 139 [zR 0, zU] [] h (qI K) := by
  refine z_aload_n dX10_text_139 rfl ?_
  refine z_aload_n dX10_text_140 rfl ?_
  refine gf_X10_207 dX10_text_141 rfl (sR_0 hE) (cR_0 hE) ?_
  refine pf_X10_331 dX10_text_144 rfl (sR_0 hE) (cR_0 hE) ?_
  generalize eh_1 : hset h 0 51 _ = h_1
  have hyp := hyp h_1 eh_1.symm
  refine z_aload_n dX10_text_147 rfl ?_
  refine z_aload_n dX10_text_148 rfl ?_
  refine gf_X10_210 dX10_text_149 rfl (sR_0 hE) (cR_0 hE) ?_
  refine pf_X10_86 dX10_text_152 rfl (sR_0 hE) (cR_0 hE) ?_
  generalize eh_2 : hset h_1 0 52 _ = h_2
  have hyp := hyp h_2 eh_2.symm
  refine z_aload_n dX10_text_155 rfl ?_
  refine gf_X10_207 dX10_text_156 rfl (sR_0 hE) (cR_0 hE) ?_
  refine z_if_eq (tgt := 164) dX10_text_159 (by decide) (fun c_3 => ?_) (fun c_3 => ?_)
  · have hyp := hyp.1 c_3
    refine z_aload_n dX10_text_164 rfl ?_
    refine cl_X10_334 dX10_text_165 rfl (sR_0 hE) (cR_0 hE) (Nat.le_of_ble_eq_true rfl) (zC_mono ?_ hyp)
    rintro _ h_4 ⟨rfl, hyp⟩
    refine ⟨rfl, ?_⟩
    refine z_aload_n dX10_text_168 rfl ?_
    refine gf_X10_273 dX10_text_169 rfl (sR_0 hE) (cR_0 hE) ?_
    exact z_iret dX10_text_172 rfl ⟨_, rfl, hyp⟩
  · have hyp := hyp.2 c_3
    refine z_iconst dX10_text_162 (r32d rfl) ?_
    exact z_iret dX10_text_163 rfl ⟨_, rfl, hyp⟩
set_option maxRecDepth 20000 in
theorem eX10_text {E : zE} (hE : isR E) {d : Nat} {x1 : Int} {h : zH} {K : Int → zH → Prop} (hyp :
  ∀ h_1 : zH, h_1 = hset h 0 0 0 →
  ((x1 < 0 →
    K (-2) h_1) ∧
  (¬ (x1 < 0) →
    ((x1 ≤ (h_1 0 2) →
      ∀ h_4 : zH, h_4 = hset h_1 0 44 x1 →
      ∀ h_5 : zH, h_5 = hset h_4 0 2 0 →
      ∀ h_6 : zH, h_6 = hset h_5 0 45 0 →
      ∀ h_7 : zH, h_7 = hset h_6 0 49 0 →
      ∀ h_8 : zH, h_8 = hset h_7 0 50 (-1) →
      ∀ h_9 : zH, h_9 = hset h_8 0 32 0 →
      ∀ h_10 : zH, h_10 = hset h_9 0 33 0 →
      ∀ h_11 : zH, h_11 = hset h_10 0 34 0 →
      ∀ h_12 : zH, h_12 = hset h_11 0 35 0 →
      ∀ h_13 : zH, h_13 = hset h_12 0 36 0 →
      ∀ h_14 : zH, h_14 = hset h_13 0 37 0 →
      ∀ h_15 : zH, h_15 = hset h_14 0 38 4 →
      ∀ h_16 : zH, h_16 = hset h_15 0 39 6 →
      ∀ h_17 : zH, h_17 = hset h_16 0 40 300 →
      ∀ h_18 : zH, h_18 = hset h_17 0 41 0 →
      ∀ h_19 : zH, h_19 = hset h_18 0 42 0 →
      ∀ h_20 : zH, h_20 = hset h_19 0 43 0 →
      ∀ h_21 : zH, h_21 = hset h_20 0 53 0 →
      zCV E mX10_token d [zR 0] h_21 (fun h_22 =>
        zG E mX10_text (d + 1) 117 [zR 0, zU] [] h_22 (qI K))) ∧
    (¬ (x1 ≤ (h_1 0 2)) →
      K (-2) h_1))))) :
  zCI E mX10_text (d + 1) [zR 0, zI x1] h K := by
  refine zC_in (L0 := [zR 0, zI x1]) pn_X10 rfl (Nat.le_of_ble_eq_true rfl) ?_
  refine z_aload_n dX10_text_0 rfl ?_
  refine z_iconst dX10_text_1 (r32d rfl) ?_
  refine pf_X10_153 dX10_text_2 rfl (sR_0 hE) (cR_0 hE) ?_
  generalize eh_1 : hset h 0 0 _ = h_1
  have hyp := hyp h_1 eh_1.symm
  refine z_iload_n dX10_text_5 rfl ?_
  refine z_if_lt (tgt := 17) dX10_text_6 (by decide) (fun c_2 => ?_) (fun c_2 => ?_)
  · have hyp := hyp.1 c_2
    refine z_bipush dX10_text_17 (r32d rfl) (by decide) ?_
    exact z_iret dX10_text_19 rfl ⟨_, rfl, hyp⟩
  · have hyp := hyp.2 c_2
    refine z_iload_n dX10_text_9 rfl ?_
    refine z_aload_n dX10_text_10 rfl ?_
    refine gf_X10_156 dX10_text_11 rfl (sR_0 hE) (cR_0 hE) ?_
    refine z_icmp_le (tgt := 20) dX10_text_14 (by decide) (fun c_3 => ?_) (fun c_3 => ?_)
    · have hyp := hyp.1 c_3
      refine z_aload_n dX10_text_20 rfl ?_
      refine z_iload_n dX10_text_21 rfl ?_
      refine pf_X10_162 dX10_text_22 rfl (sR_0 hE) (cR_0 hE) ?_
      generalize eh_4 : hset h_1 0 44 _ = h_4
      have hyp := hyp h_4 eh_4.symm
      refine z_aload_n dX10_text_25 rfl ?_
      refine z_iconst dX10_text_26 (r32d rfl) ?_
      refine pf_X10_156 dX10_text_27 rfl (sR_0 hE) (cR_0 hE) ?_
      generalize eh_5 : hset h_4 0 2 _ = h_5
      have hyp := hyp h_5 eh_5.symm
      refine z_aload_n dX10_text_30 rfl ?_
      refine z_iconst dX10_text_31 (r32d rfl) ?_
      refine pf_X10_159 dX10_text_32 rfl (sR_0 hE) (cR_0 hE) ?_
      generalize eh_6 : hset h_5 0 45 _ = h_6
      have hyp := hyp h_6 eh_6.symm
      refine z_aload_n dX10_text_35 rfl ?_
      refine z_iconst dX10_text_36 (r32d rfl) ?_
      refine pf_X10_207 dX10_text_37 rfl (sR_0 hE) (cR_0 hE) ?_
      generalize eh_7 : hset h_6 0 49 _ = h_7
      have hyp := hyp h_7 eh_7.symm
      refine z_aload_n dX10_text_40 rfl ?_
      refine z_iconst dX10_text_41 (r32d rfl) ?_
      refine pf_X10_210 dX10_text_42 rfl (sR_0 hE) (cR_0 hE) ?_
      generalize eh_8 : hset h_7 0 50 _ = h_8
      have hyp := hyp h_8 eh_8.symm
      refine z_aload_n dX10_text_45 rfl ?_
      refine z_iconst dX10_text_46 (r32d rfl) ?_
      refine pf_X10_230 dX10_text_47 rfl (sR_0 hE) (cR_0 hE) ?_
      generalize eh_9 : hset h_8 0 32 _ = h_9
      have hyp := hyp h_9 eh_9.symm
      refine z_aload_n dX10_text_50 rfl ?_
      refine z_iconst dX10_text_51 (r32d rfl) ?_
      refine pf_X10_233 dX10_text_52 rfl (sR_0 hE) (cR_0 hE) ?_
      generalize eh_10 : hset h_9 0 33 _ = h_10
      have hyp := hyp h_10 eh_10.symm
      refine z_aload_n dX10_text_55 rfl ?_
      refine z_iconst dX10_text_56 (r32d rfl) ?_
      refine pf_X10_236 dX10_text_57 rfl (sR_0 hE) (cR_0 hE) ?_
      generalize eh_11 : hset h_10 0 34 _ = h_11
      have hyp := hyp h_11 eh_11.symm
      refine z_aload_n dX10_text_60 rfl ?_
      refine z_iconst dX10_text_61 (r32d rfl) ?_
      refine pf_X10_239 dX10_text_62 rfl (sR_0 hE) (cR_0 hE) ?_
      generalize eh_12 : hset h_11 0 35 _ = h_12
      have hyp := hyp h_12 eh_12.symm
      refine z_aload_n dX10_text_65 rfl ?_
      refine z_iconst dX10_text_66 (r32d rfl) ?_
      refine pf_X10_294 dX10_text_67 rfl (sR_0 hE) (cR_0 hE) ?_
      generalize eh_13 : hset h_12 0 36 _ = h_13
      have hyp := hyp h_13 eh_13.symm
      refine z_aload_n dX10_text_70 rfl ?_
      refine z_iconst dX10_text_71 (r32d rfl) ?_
      refine pf_X10_297 dX10_text_72 rfl (sR_0 hE) (cR_0 hE) ?_
      generalize eh_14 : hset h_13 0 37 _ = h_14
      have hyp := hyp h_14 eh_14.symm
      refine z_aload_n dX10_text_75 rfl ?_
      refine z_iconst dX10_text_76 (r32d rfl) ?_
      refine pf_X10_264 dX10_text_77 rfl (sR_0 hE) (cR_0 hE) ?_
      generalize eh_15 : hset h_14 0 38 _ = h_15
      have hyp := hyp h_15 eh_15.symm
      refine z_aload_n dX10_text_80 rfl ?_
      refine z_bipush dX10_text_81 (r32d rfl) (by decide) ?_
      refine pf_X10_267 dX10_text_83 rfl (sR_0 hE) (cR_0 hE) ?_
      generalize eh_16 : hset h_15 0 39 _ = h_16
      have hyp := hyp h_16 eh_16.symm
      refine z_aload_n dX10_text_86 rfl ?_
      refine z_sipush dX10_text_87 (r32d rfl) (by decide) ?_
      refine pf_X10_270 dX10_text_90 rfl (sR_0 hE) (cR_0 hE) ?_
      generalize eh_17 : hset h_16 0 40 _ = h_17
      have hyp := hyp h_17 eh_17.symm
      refine z_aload_n dX10_text_93 rfl ?_
      refine z_iconst dX10_text_94 (r32d rfl) ?_
      refine pf_X10_300 dX10_text_95 rfl (sR_0 hE) (cR_0 hE) ?_
      generalize eh_18 : hset h_17 0 41 _ = h_18
      have hyp := hyp h_18 eh_18.symm
      refine z_aload_n dX10_text_98 rfl ?_
      refine z_iconst dX10_text_99 (r32d rfl) ?_
      refine pf_X10_245 dX10_text_100 rfl (sR_0 hE) (cR_0 hE) ?_
      generalize eh_19 : hset h_18 0 42 _ = h_19
      have hyp := hyp h_19 eh_19.symm
      refine z_aload_n dX10_text_103 rfl ?_
      refine z_iconst dX10_text_104 (r32d rfl) ?_
      refine pf_X10_273 dX10_text_105 rfl (sR_0 hE) (cR_0 hE) ?_
      generalize eh_20 : hset h_19 0 43 _ = h_20
      have hyp := hyp h_20 eh_20.symm
      refine z_aload_n dX10_text_108 rfl ?_
      refine z_iconst dX10_text_109 (r32d rfl) ?_
      refine pf_X10_325 dX10_text_110 rfl (sR_0 hE) (cR_0 hE) ?_
      generalize eh_21 : hset h_20 0 53 _ = h_21
      have hyp := hyp h_21 eh_21.symm
      refine z_aload_n dX10_text_113 rfl ?_
      refine cl_X10_213 dX10_text_114 rfl (sR_0 hE) (cR_0 hE) (Nat.le_of_ble_eq_true rfl) (zC_mono ?_ hyp)
      rintro _ h_22 ⟨rfl, hyp⟩
      refine ⟨rfl, ?_⟩
      exact z_forget [true, false] rfl hyp
    · have hyp := hyp.2 c_3
      refine z_bipush dX10_text_17 (r32d rfl) (by decide) ?_
      exact z_iret dX10_text_19 rfl ⟨_, rfl, hyp⟩
set_option maxRecDepth 20000 in
theorem eX10_thrown {E : zE} (hE : isR E) {d : Nat} {h : zH} {K : Int → zH → Prop} (hyp :
  K (h 0 0) h) :
  zCI E mX10_thrown d [zR 0] h K := by
  refine zC_in (L0 := [zR 0]) pn_X10 rfl (Nat.le_of_ble_eq_true rfl) ?_
  refine z_aload_n dX10_thrown_0 rfl ?_
  refine gf_X10_153 dX10_thrown_1 rfl (sR_0 hE) (cR_0 hE) ?_
  exact z_iret dX10_thrown_4 rfl ⟨_, rfl, hyp⟩
set_option maxRecDepth 20000 in
theorem eX10_timesBy {E : zE} (hE : isR E) {d : Nat} {x0 x1 : Int} {h : zH} {K : Int → zH → Prop} (hyp :
  ¬ x1 = 0 ∧
  ¬ x1 = 0 ∧
  (((w32 (2 * (w32 (Int.tmod x0 x1)))) ≤ x1 →
    K (w32 ((w32 (Int.tdiv x0 x1)) + 0)) h) ∧
  (¬ ((w32 (2 * (w32 (Int.tmod x0 x1)))) ≤ x1) →
    K (w32 ((w32 (Int.tdiv x0 x1)) + 1)) h))) :
  zCI E mX10_timesBy d [zI x0, zI x1] h K := by
  refine zC_in (L0 := [zI x0, zI x1]) pn_X10 rfl (Nat.le_of_ble_eq_true rfl) ?_
  refine z_iload_n dX10_timesBy_0 rfl ?_
  refine z_iload_n dX10_timesBy_1 rfl ?_
  obtain ⟨hz, hyp⟩ := hyp
  refine z_idiv hz dX10_timesBy_2 ?_
  refine z_iconst dX10_timesBy_3 (r32d rfl) ?_
  refine z_iload_n dX10_timesBy_4 rfl ?_
  refine z_iload_n dX10_timesBy_5 rfl ?_
  obtain ⟨hz, hyp⟩ := hyp
  refine z_irem hz dX10_timesBy_6 ?_
  refine z_imul dX10_timesBy_7 ?_
  refine z_iload_n dX10_timesBy_8 rfl ?_
  refine z_icmp_le (tgt := 16) dX10_timesBy_9 (by decide) (fun c_1 => ?_) (fun c_1 => ?_)
  · have hyp := hyp.1 c_1
    refine z_iconst dX10_timesBy_16 (r32d rfl) ?_
    refine z_iadd dX10_timesBy_17 ?_
    exact z_iret dX10_timesBy_18 rfl ⟨_, rfl, hyp⟩
  · have hyp := hyp.2 c_1
    refine z_iconst dX10_timesBy_12 (r32d rfl) ?_
    refine z_goto (tgt := 17) dX10_timesBy_13 (by decide) ?_
    refine z_iadd dX10_timesBy_17 ?_
    exact z_iret dX10_timesBy_18 rfl ⟨_, rfl, hyp⟩
set_option maxRecDepth 20000 in
theorem bX10_token_0 {E : zE} (hE : isR E) {d : Nat} {h : zH} {K : zH → Prop} (hyp :
  zCI E mX10_here d [zR 0] h (fun r_1 h_1 =>
    ((r_1 = 10 →
      ∀ h_3 : zH, h_3 = hset h_1 0 45 (w32 ((h_1 0 45) + 1)) →
      zG E mX10_token (d + 1) 0 [zR 0, zU] [] h_3 (qV K)) ∧
    (¬ (r_1 = 10) →
      zCI E mX10_here d [zR 0] h_1 (fun r_4 h_4 =>
        ((r_4 ≠ 32 →
          ∀ h_6 : zH, h_6 = hset h_4 0 46 (h_4 0 45) →
          zCI E mX10_here d [zR 0] h_6 (fun r_7 h_7 =>
            ((r_7 ≠ (-1) →
              zCI E mX10_isSmall d [zI r_7] h_7 (fun r_9 h_9 =>
                ((r_9 = 0 →
                  zCI E mX10_isDigit d [zI r_7] h_9 (fun r_11 h_11 =>
                    ((r_11 = 0 →
                      zCV E mX10_sign d [zR 0, zI r_7] h_11 (fun h_13 =>
                        K h_13)) ∧
                    (¬ (r_11 = 0) →
                      ∀ h_14 : zH, h_14 = hset h_11 0 47 2 →
                      ∀ h_15 : zH, h_15 = hset h_14 0 48 0 →
                      zG E mX10_token (d + 1) 162 [zR 0, zU] [] h_15 (qV K))))) ∧
                (¬ (r_9 = 0) →
                  zG E mX10_token (d + 1) 64 [zR 0, zU] [] h_9 (qV K))))) ∧
            (¬ (r_7 ≠ (-1)) →
              ∀ h_16 : zH, h_16 = hset h_7 0 47 4 →
              K h_16)))) ∧
        (¬ (r_4 ≠ 32) →
          ∀ h_17 : zH, h_17 = hset h_4 0 45 (w32 ((h_4 0 45) + 1)) →
          zG E mX10_token (d + 1) 0 [zR 0, zU] [] h_17 (qV K)))))))) :
  zG E mX10_token (d + 1) 0 [zR 0, zU] [] h (qV K) := by
  refine z_aload_n dX10_token_0 rfl ?_
  refine cl_X10_165 dX10_token_1 rfl (sR_0 hE) (cR_0 hE) (Nat.le_of_ble_eq_true rfl) (zC_mono ?_ hyp)
  rintro _ h_1 ⟨r_1, rfl, hyp⟩
  refine ⟨r_1, rfl, ?_⟩
  refine z_bipush dX10_token_4 (r32d rfl) (by decide) ?_
  refine z_icmp_eq (tgt := 18) dX10_token_6 (by decide) (fun c_2 => ?_) (fun c_2 => ?_)
  · have hyp := hyp.1 c_2
    refine z_aload_n dX10_token_18 rfl ?_
    refine z_dup dX10_token_19 rfl ?_
    refine gf_X10_159 dX10_token_20 rfl (sR_0 hE) (cR_0 hE) ?_
    refine z_iconst dX10_token_23 (r32d rfl) ?_
    refine z_iadd dX10_token_24 ?_
    refine pf_X10_159 dX10_token_25 rfl (sR_0 hE) (cR_0 hE) ?_
    generalize eh_3 : hset h_1 0 45 _ = h_3
    have hyp := hyp h_3 eh_3.symm
    refine z_goto (tgt := 0) dX10_token_28 (by decide) ?_
    exact hyp
  · have hyp := hyp.2 c_2
    refine z_aload_n dX10_token_9 rfl ?_
    refine cl_X10_165 dX10_token_10 rfl (sR_0 hE) (cR_0 hE) (Nat.le_of_ble_eq_true rfl) (zC_mono ?_ hyp)
    rintro _ h_4 ⟨r_4, rfl, hyp⟩
    refine ⟨r_4, rfl, ?_⟩
    refine z_bipush dX10_token_13 (r32d rfl) (by decide) ?_
    refine z_icmp_ne (tgt := 31) dX10_token_15 (by decide) (fun c_5 => ?_) (fun c_5 => ?_)
    · have hyp := hyp.1 c_5
      refine z_aload_n dX10_token_31 rfl ?_
      refine z_aload_n dX10_token_32 rfl ?_
      refine gf_X10_159 dX10_token_33 rfl (sR_0 hE) (cR_0 hE) ?_
      refine pf_X10_169 dX10_token_36 rfl (sR_0 hE) (cR_0 hE) ?_
      generalize eh_6 : hset h_4 0 46 _ = h_6
      have hyp := hyp h_6 eh_6.symm
      refine z_aload_n dX10_token_39 rfl ?_
      refine cl_X10_165 dX10_token_40 rfl (sR_0 hE) (cR_0 hE) (Nat.le_of_ble_eq_true rfl) (zC_mono ?_ hyp)
      rintro _ h_7 ⟨r_7, rfl, hyp⟩
      refine ⟨r_7, rfl, ?_⟩
      refine z_istore_n dX10_token_43 rfl (by decide) rfl ?_
      refine z_iload_n dX10_token_44 rfl ?_
      refine z_iconst dX10_token_45 (r32d rfl) ?_
      refine z_icmp_ne (tgt := 57) dX10_token_46 (by decide) (fun c_8 => ?_) (fun c_8 => ?_)
      · have hyp := hyp.1 c_8
        refine z_iload_n dX10_token_57 rfl ?_
        refine cl_X10_175 dX10_token_58 rfl (Nat.le_of_ble_eq_true rfl) (zC_mono ?_ hyp)
        rintro _ h_9 ⟨r_9, rfl, hyp⟩
        refine ⟨r_9, rfl, ?_⟩
        refine z_if_eq (tgt := 145) dX10_token_61 (by decide) (fun c_10 => ?_) (fun c_10 => ?_)
        · have hyp := hyp.1 c_10
          refine z_iload_n dX10_token_145 rfl ?_
          refine cl_X10_188 dX10_token_146 rfl (Nat.le_of_ble_eq_true rfl) (zC_mono ?_ hyp)
          rintro _ h_11 ⟨r_11, rfl, hyp⟩
          refine ⟨r_11, rfl, ?_⟩
          refine z_if_eq (tgt := 220) dX10_token_149 (by decide) (fun c_12 => ?_) (fun c_12 => ?_)
          · have hyp := hyp.1 c_12
            refine z_aload_n dX10_token_220 rfl ?_
            refine z_iload_n dX10_token_221 rfl ?_
            refine cl_X10_192 dX10_token_222 rfl (sR_0 hE) (cR_0 hE) (Nat.le_of_ble_eq_true rfl) (zC_mono ?_ hyp)
            rintro _ h_13 ⟨rfl, hyp⟩
            refine ⟨rfl, ?_⟩
            exact z_vret dX10_token_225 rfl ⟨rfl, hyp⟩
          · have hyp := hyp.2 c_12
            refine z_aload_n dX10_token_152 rfl ?_
            refine z_iconst dX10_token_153 (r32d rfl) ?_
            refine pf_X10_172 dX10_token_154 rfl (sR_0 hE) (cR_0 hE) ?_
            generalize eh_14 : hset h_11 0 47 _ = h_14
            have hyp := hyp h_14 eh_14.symm
            refine z_aload_n dX10_token_157 rfl ?_
            refine z_iconst dX10_token_158 (r32d rfl) ?_
            refine pf_X10_182 dX10_token_159 rfl (sR_0 hE) (cR_0 hE) ?_
            generalize eh_15 : hset h_14 0 48 _ = h_15
            have hyp := hyp h_15 eh_15.symm
            exact z_forget [true, false] rfl hyp
        · have hyp := hyp.2 c_10
          exact z_forget [true, false] rfl hyp
      · have hyp := hyp.2 c_8
        refine z_aload_n dX10_token_49 rfl ?_
        refine z_iconst dX10_token_50 (r32d rfl) ?_
        refine pf_X10_172 dX10_token_51 rfl (sR_0 hE) (cR_0 hE) ?_
        generalize eh_16 : hset h_7 0 47 _ = h_16
        have hyp := hyp h_16 eh_16.symm
        refine z_goto (tgt := 225) dX10_token_54 (by decide) ?_
        exact z_vret dX10_token_225 rfl ⟨rfl, hyp⟩
    · have hyp := hyp.2 c_5
      refine z_aload_n dX10_token_18 rfl ?_
      refine z_dup dX10_token_19 rfl ?_
      refine gf_X10_159 dX10_token_20 rfl (sR_0 hE) (cR_0 hE) ?_
      refine z_iconst dX10_token_23 (r32d rfl) ?_
      refine z_iadd dX10_token_24 ?_
      refine pf_X10_159 dX10_token_25 rfl (sR_0 hE) (cR_0 hE) ?_
      generalize eh_17 : hset h_4 0 45 _ = h_17
      have hyp := hyp h_17 eh_17.symm
      refine z_goto (tgt := 0) dX10_token_28 (by decide) ?_
      exact hyp
set_option maxRecDepth 20000 in
theorem bX10_token_64 {E : zE} (hE : isR E) {d : Nat} {h : zH} {K : zH → Prop} (hyp :
  zCI E mX10_here d [zR 0] h (fun r_1 h_1 =>
    zCI E mX10_isSmall d [zI r_1] h_1 (fun r_2 h_2 =>
      ((r_2 = 0 →
        zCI E mX10_word d [zR 0] h_2 (fun r_4 h_4 =>
          ∀ h_5 : zH, h_5 = hset h_4 0 48 r_4 →
          (((h_5 0 48) = (-1) →
            (((w32 ((h_5 0 45) - (h_5 0 46))) ≤ 6 →
              zG E mX10_token (d + 1) 127 [zR 0, zU] [zI 1, zR 0] h_5 (qV K)) ∧
            (¬ ((w32 ((h_5 0 45) - (h_5 0 46))) ≤ 6) →
              zG E mX10_token (d + 1) 127 [zR 0, zU] [zI 5, zR 0] h_5 (qV K)))) ∧
          (¬ ((h_5 0 48) = (-1)) →
            zG E mX10_token (d + 1) 127 [zR 0, zU] [zI 0, zR 0] h_5 (qV K))))) ∧
      (¬ (r_2 = 0) →
        ∀ h_8 : zH, h_8 = hset h_2 0 45 (w32 ((h_2 0 45) + 1)) →
        zG E mX10_token (d + 1) 64 [zR 0, zU] [] h_8 (qV K)))))) :
  zG E mX10_token (d + 1) 64 [zR 0, zU] [] h (qV K) := by
  refine z_aload_n dX10_token_64 rfl ?_
  refine cl_X10_165 dX10_token_65 rfl (sR_0 hE) (cR_0 hE) (Nat.le_of_ble_eq_true rfl) (zC_mono ?_ hyp)
  rintro _ h_1 ⟨r_1, rfl, hyp⟩
  refine ⟨r_1, rfl, ?_⟩
  refine cl_X10_175 dX10_token_68 rfl (Nat.le_of_ble_eq_true rfl) (zC_mono ?_ hyp)
  rintro _ h_2 ⟨r_2, rfl, hyp⟩
  refine ⟨r_2, rfl, ?_⟩
  refine z_if_eq (tgt := 87) dX10_token_71 (by decide) (fun c_3 => ?_) (fun c_3 => ?_)
  · have hyp := hyp.1 c_3
    refine z_aload_n dX10_token_87 rfl ?_
    refine z_aload_n dX10_token_88 rfl ?_
    refine cl_X10_179 dX10_token_89 rfl (sR_0 hE) (cR_0 hE) (Nat.le_of_ble_eq_true rfl) (zC_mono ?_ hyp)
    rintro _ h_4 ⟨r_4, rfl, hyp⟩
    refine ⟨r_4, rfl, ?_⟩
    refine pf_X10_182 dX10_token_92 rfl (sR_0 hE) (cR_0 hE) ?_
    generalize eh_5 : hset h_4 0 48 _ = h_5
    have hyp := hyp h_5 eh_5.symm
    refine z_aload_n dX10_token_95 rfl ?_
    refine z_aload_n dX10_token_96 rfl ?_
    refine gf_X10_182 dX10_token_97 rfl (sR_0 hE) (cR_0 hE) ?_
    refine z_iconst dX10_token_100 (r32d rfl) ?_
    refine z_icmp_eq (tgt := 108) dX10_token_101 (by decide) (fun c_6 => ?_) (fun c_6 => ?_)
    · have hyp := hyp.1 c_6
      refine z_aload_n dX10_token_108 rfl ?_
      refine gf_X10_159 dX10_token_109 rfl (sR_0 hE) (cR_0 hE) ?_
      refine z_aload_n dX10_token_112 rfl ?_
      refine gf_X10_169 dX10_token_113 rfl (sR_0 hE) (cR_0 hE) ?_
      refine z_isub dX10_token_116 ?_
      refine z_bipush dX10_token_117 (r32d rfl) (by decide) ?_
      refine z_icmp_le (tgt := 126) dX10_token_119 (by decide) (fun c_7 => ?_) (fun c_7 => ?_)
      · have hyp := hyp.1 c_7
        refine z_iconst dX10_token_126 (r32d rfl) ?_
        exact hyp
      · have hyp := hyp.2 c_7
        refine z_iconst dX10_token_122 (r32d rfl) ?_
        refine z_goto (tgt := 127) dX10_token_123 (by decide) ?_
        exact hyp
    · have hyp := hyp.2 c_6
      refine z_iconst dX10_token_104 (r32d rfl) ?_
      refine z_goto (tgt := 127) dX10_token_105 (by decide) ?_
      exact hyp
  · have hyp := hyp.2 c_3
    refine z_aload_n dX10_token_74 rfl ?_
    refine z_dup dX10_token_75 rfl ?_
    refine gf_X10_159 dX10_token_76 rfl (sR_0 hE) (cR_0 hE) ?_
    refine z_iconst dX10_token_79 (r32d rfl) ?_
    refine z_iadd dX10_token_80 ?_
    refine pf_X10_159 dX10_token_81 rfl (sR_0 hE) (cR_0 hE) ?_
    generalize eh_8 : hset h_2 0 45 _ = h_8
    have hyp := hyp h_8 eh_8.symm
    refine z_goto (tgt := 64) dX10_token_84 (by decide) ?_
    exact hyp
set_option maxRecDepth 20000 in
theorem bX10_token_127 {E : zE} (hE : isR E) {d : Nat} {s0 : Int} {h : zH} {K : zH → Prop} (hyp :
  ∀ h_1 : zH, h_1 = hset h 0 47 s0 →
  (((h_1 0 47) ≠ 1 →
    K h_1) ∧
  (¬ ((h_1 0 47) ≠ 1) →
    zCV E mX10_name d [zR 0] h_1 (fun h_3 =>
      K h_3)))) :
  zG E mX10_token (d + 1) 127 [zR 0, zU] [zI s0, zR 0] h (qV K) := by
  refine pf_X10_172 dX10_token_127 rfl (sR_0 hE) (cR_0 hE) ?_
  generalize eh_1 : hset h 0 47 _ = h_1
  have hyp := hyp h_1 eh_1.symm
  refine z_aload_n dX10_token_130 rfl ?_
  refine gf_X10_172 dX10_token_131 rfl (sR_0 hE) (cR_0 hE) ?_
  refine z_iconst dX10_token_134 (r32d rfl) ?_
  refine z_icmp_ne (tgt := 225) dX10_token_135 (by decide) (fun c_2 => ?_) (fun c_2 => ?_)
  · have hyp := hyp.1 c_2
    exact z_vret dX10_token_225 rfl ⟨rfl, hyp⟩
  · have hyp := hyp.2 c_2
    refine z_aload_n dX10_token_138 rfl ?_
    refine cl_X10_185 dX10_token_139 rfl (sR_0 hE) (cR_0 hE) (Nat.le_of_ble_eq_true rfl) (zC_mono ?_ hyp)
    rintro _ h_3 ⟨rfl, hyp⟩
    refine ⟨rfl, ?_⟩
    refine z_goto (tgt := 225) dX10_token_142 (by decide) ?_
    exact z_vret dX10_token_225 rfl ⟨rfl, hyp⟩
set_option maxRecDepth 20000 in
theorem bX10_token_162 {E : zE} (hE : isR E) {d : Nat} {h : zH} {K : zH → Prop} (hyp :
  zCI E mX10_here d [zR 0] h (fun r_1 h_1 =>
    zCI E mX10_isDigit d [zI r_1] h_1 (fun r_2 h_2 =>
      ((r_2 = 0 →
        K h_2) ∧
      (¬ (r_2 = 0) →
        (((h_2 0 48) ≤ 99999 →
          zCI E mX10_here d [zR 0] h_2 (fun r_5 h_5 =>
            ∀ h_6 : zH, h_6 = hset h_5 0 48 (w32 ((w32 ((w32 (10 * (h_2 0 48))) + r_5)) - 48)) →
            ∀ h_7 : zH, h_7 = hset h_6 0 45 (w32 ((h_6 0 45) + 1)) →
            zG E mX10_token (d + 1) 162 [zR 0, zU] [] h_7 (qV K))) ∧
        (¬ ((h_2 0 48) ≤ 99999) →
          ∀ h_8 : zH, h_8 = hset h_2 0 48 (h_2 0 48) →
          ∀ h_9 : zH, h_9 = hset h_8 0 45 (w32 ((h_8 0 45) + 1)) →
          zG E mX10_token (d + 1) 162 [zR 0, zU] [] h_9 (qV K)))))))) :
  zG E mX10_token (d + 1) 162 [zR 0, zU] [] h (qV K) := by
  refine z_aload_n dX10_token_162 rfl ?_
  refine cl_X10_165 dX10_token_163 rfl (sR_0 hE) (cR_0 hE) (Nat.le_of_ble_eq_true rfl) (zC_mono ?_ hyp)
  rintro _ h_1 ⟨r_1, rfl, hyp⟩
  refine ⟨r_1, rfl, ?_⟩
  refine cl_X10_188 dX10_token_166 rfl (Nat.le_of_ble_eq_true rfl) (zC_mono ?_ hyp)
  rintro _ h_2 ⟨r_2, rfl, hyp⟩
  refine ⟨r_2, rfl, ?_⟩
  refine z_if_eq (tgt := 225) dX10_token_169 (by decide) (fun c_3 => ?_) (fun c_3 => ?_)
  · have hyp := hyp.1 c_3
    exact z_vret dX10_token_225 rfl ⟨rfl, hyp⟩
  · have hyp := hyp.2 c_3
    refine z_aload_n dX10_token_172 rfl ?_
    refine z_aload_n dX10_token_173 rfl ?_
    refine gf_X10_182 dX10_token_174 rfl (sR_0 hE) (cR_0 hE) ?_
    refine z_ldc (x := 99999) dX10_token_177 rfl wk_X10_191 (by decide) (r32d rfl) ?_
    refine z_icmp_le (tgt := 189) dX10_token_179 (by decide) (fun c_4 => ?_) (fun c_4 => ?_)
    · have hyp := hyp.1 c_4
      refine z_bipush dX10_token_189 (r32d rfl) (by decide) ?_
      refine z_aload_n dX10_token_191 rfl ?_
      refine gf_X10_182 dX10_token_192 rfl (sR_0 hE) (cR_0 hE) ?_
      refine z_imul dX10_token_195 ?_
      refine z_aload_n dX10_token_196 rfl ?_
      refine cl_X10_165 dX10_token_197 rfl (sR_0 hE) (cR_0 hE) (Nat.le_of_ble_eq_true rfl) (zC_mono ?_ hyp)
      rintro _ h_5 ⟨r_5, rfl, hyp⟩
      refine ⟨r_5, rfl, ?_⟩
      refine z_iadd dX10_token_200 ?_
      refine z_bipush dX10_token_201 (r32d rfl) (by decide) ?_
      refine z_isub dX10_token_203 ?_
      refine pf_X10_182 dX10_token_204 rfl (sR_0 hE) (cR_0 hE) ?_
      generalize eh_6 : hset h_5 0 48 _ = h_6
      have hyp := hyp h_6 eh_6.symm
      refine z_aload_n dX10_token_207 rfl ?_
      refine z_dup dX10_token_208 rfl ?_
      refine gf_X10_159 dX10_token_209 rfl (sR_0 hE) (cR_0 hE) ?_
      refine z_iconst dX10_token_212 (r32d rfl) ?_
      refine z_iadd dX10_token_213 ?_
      refine pf_X10_159 dX10_token_214 rfl (sR_0 hE) (cR_0 hE) ?_
      generalize eh_7 : hset h_6 0 45 _ = h_7
      have hyp := hyp h_7 eh_7.symm
      refine z_goto (tgt := 162) dX10_token_217 (by decide) ?_
      exact hyp
    · have hyp := hyp.2 c_4
      refine z_aload_n dX10_token_182 rfl ?_
      refine gf_X10_182 dX10_token_183 rfl (sR_0 hE) (cR_0 hE) ?_
      refine z_goto (tgt := 204) dX10_token_186 (by decide) ?_
      refine pf_X10_182 dX10_token_204 rfl (sR_0 hE) (cR_0 hE) ?_
      generalize eh_8 : hset h_2 0 48 _ = h_8
      have hyp := hyp h_8 eh_8.symm
      refine z_aload_n dX10_token_207 rfl ?_
      refine z_dup dX10_token_208 rfl ?_
      refine gf_X10_159 dX10_token_209 rfl (sR_0 hE) (cR_0 hE) ?_
      refine z_iconst dX10_token_212 (r32d rfl) ?_
      refine z_iadd dX10_token_213 ?_
      refine pf_X10_159 dX10_token_214 rfl (sR_0 hE) (cR_0 hE) ?_
      generalize eh_9 : hset h_8 0 45 _ = h_9
      have hyp := hyp h_9 eh_9.symm
      refine z_goto (tgt := 162) dX10_token_217 (by decide) ?_
      exact hyp
set_option maxRecDepth 20000 in
theorem eX10_token {E : zE} (hE : isR E) {d : Nat} {h : zH} {K : zH → Prop} (hyp :
  zG E mX10_token (d + 1) 0 [zR 0, zU] [] h (qV K)) :
  zCV E mX10_token (d + 1) [zR 0] h K := by
  refine zC_in (L0 := [zR 0, zU]) pn_X10 rfl (Nat.le_of_ble_eq_true rfl) ?_
  exact hyp
set_option maxRecDepth 20000 in
theorem bX10_toldAhead_44 {E : zE} (hE : isR E) {a1 na1 : Nat} (ha1 : zsh E a1 = (20, na1) ∧ a1 < zN E ∧ na1 < 2147483648) {d : Nat} {x2 x3 : Int} {h : zH} {K : Int → zH → Prop} (hyp :
  (((h 0 49) = 0 →
    zCI E mX10_found d [zR a1, zI x2, zI x3, zI (h 0 48)] h (fun r_2 h_2 =>
      zCV E mX10_token d [zR 0] h_2 (fun h_3 =>
        K r_2 h_3))) ∧
  (¬ ((h 0 49) = 0) →
    K 0 h))) :
  zG E mX10_toldAhead (d + 1) 44 [zR 0, zR a1, zI x2, zI x3, zU] [] h (qI K) := by
  refine z_aload_n dX10_toldAhead_44 rfl ?_
  refine gf_X10_207 dX10_toldAhead_45 rfl (sR_0 hE) (cR_0 hE) ?_
  refine z_if_eq (tgt := 53) dX10_toldAhead_48 (by decide) (fun c_1 => ?_) (fun c_1 => ?_)
  · have hyp := hyp.1 c_1
    refine z_aload_n dX10_toldAhead_53 rfl ?_
    refine z_iload_n dX10_toldAhead_54 rfl ?_
    refine z_iload_n dX10_toldAhead_55 rfl ?_
    refine z_aload_n dX10_toldAhead_56 rfl ?_
    refine gf_X10_182 dX10_toldAhead_57 rfl (sR_0 hE) (cR_0 hE) ?_
    refine cl_X10_226 dX10_toldAhead_60 rfl (Nat.le_of_ble_eq_true rfl) (zC_mono ?_ hyp)
    rintro _ h_2 ⟨r_2, rfl, hyp⟩
    refine ⟨r_2, rfl, ?_⟩
    refine z_istore dX10_toldAhead_63 (by decide) rfl ?_
    refine z_aload_n dX10_toldAhead_65 rfl ?_
    refine cl_X10_213 dX10_toldAhead_66 rfl (sR_0 hE) (cR_0 hE) (Nat.le_of_ble_eq_true rfl) (zC_mono ?_ hyp)
    rintro _ h_3 ⟨rfl, hyp⟩
    refine ⟨rfl, ?_⟩
    refine z_iload dX10_toldAhead_69 rfl ?_
    exact z_iret dX10_toldAhead_71 rfl ⟨_, rfl, hyp⟩
  · have hyp := hyp.2 c_1
    refine z_iconst dX10_toldAhead_51 (r32d rfl) ?_
    exact z_iret dX10_toldAhead_52 rfl ⟨_, rfl, hyp⟩
set_option maxRecDepth 20000 in
theorem eX10_toldAhead {E : zE} (hE : isR E) {a1 na1 : Nat} (ha1 : zsh E a1 = (20, na1) ∧ a1 < zN E ∧ na1 < 2147483648) {d : Nat} {x2 x3 : Int} {h : zH} {K : Int → zH → Prop} (hyp :
  (((h 0 49) = 0 →
    (((h 0 47) = 1 →
      zCI E mX10_found d [zR a1, zI x2, zI x3, zI (h 0 48)] h (fun r_3 h_3 =>
        ((r_3 ≠ (-1) →
          zG E mX10_toldAhead (d + 1) 44 [zR 0, zR a1, zI x2, zI x3, zU] [] h_3 (qI K)) ∧
        (¬ (r_3 ≠ (-1)) →
          zCV E mX10_wrong d [zR 0, zI 4] h_3 (fun h_5 =>
            zG E mX10_toldAhead (d + 1) 44 [zR 0, zR a1, zI x2, zI x3, zU] [] h_5 (qI K)))))) ∧
    (¬ ((h 0 47) = 1) →
      zCV E mX10_wrong d [zR 0, zI 1] h (fun h_6 =>
        zG E mX10_toldAhead (d + 1) 44 [zR 0, zR a1, zI x2, zI x3, zU] [] h_6 (qI K))))) ∧
  (¬ ((h 0 49) = 0) →
    K 0 h))) :
  zCI E mX10_toldAhead (d + 1) [zR 0, zR a1, zI x2, zI x3] h K := by
  refine zC_in (L0 := [zR 0, zR a1, zI x2, zI x3, zU]) pn_X10 rfl (Nat.le_of_ble_eq_true rfl) ?_
  refine z_aload_n dX10_toldAhead_0 rfl ?_
  refine gf_X10_207 dX10_toldAhead_1 rfl (sR_0 hE) (cR_0 hE) ?_
  refine z_if_eq (tgt := 9) dX10_toldAhead_4 (by decide) (fun c_1 => ?_) (fun c_1 => ?_)
  · have hyp := hyp.1 c_1
    refine z_aload_n dX10_toldAhead_9 rfl ?_
    refine gf_X10_172 dX10_toldAhead_10 rfl (sR_0 hE) (cR_0 hE) ?_
    refine z_iconst dX10_toldAhead_13 (r32d rfl) ?_
    refine z_icmp_eq (tgt := 25) dX10_toldAhead_14 (by decide) (fun c_2 => ?_) (fun c_2 => ?_)
    · have hyp := hyp.1 c_2
      refine z_aload_n dX10_toldAhead_25 rfl ?_
      refine z_iload_n dX10_toldAhead_26 rfl ?_
      refine z_iload_n dX10_toldAhead_27 rfl ?_
      refine z_aload_n dX10_toldAhead_28 rfl ?_
      refine gf_X10_182 dX10_toldAhead_29 rfl (sR_0 hE) (cR_0 hE) ?_
      refine cl_X10_226 dX10_toldAhead_32 rfl (Nat.le_of_ble_eq_true rfl) (zC_mono ?_ hyp)
      rintro _ h_3 ⟨r_3, rfl, hyp⟩
      refine ⟨r_3, rfl, ?_⟩
      refine z_iconst dX10_toldAhead_35 (r32d rfl) ?_
      refine z_icmp_ne (tgt := 44) dX10_toldAhead_36 (by decide) (fun c_4 => ?_) (fun c_4 => ?_)
      · have hyp := hyp.1 c_4
        exact hyp
      · have hyp := hyp.2 c_4
        refine z_aload_n dX10_toldAhead_39 rfl ?_
        refine z_iconst dX10_toldAhead_40 (r32d rfl) ?_
        refine cl_X10_216 dX10_toldAhead_41 rfl (sR_0 hE) (cR_0 hE) (Nat.le_of_ble_eq_true rfl) (zC_mono ?_ hyp)
        rintro _ h_5 ⟨rfl, hyp⟩
        refine ⟨rfl, ?_⟩
        exact hyp
    · have hyp := hyp.2 c_2
      refine z_aload_n dX10_toldAhead_17 rfl ?_
      refine z_iconst dX10_toldAhead_18 (r32d rfl) ?_
      refine cl_X10_216 dX10_toldAhead_19 rfl (sR_0 hE) (cR_0 hE) (Nat.le_of_ble_eq_true rfl) (zC_mono ?_ hyp)
      rintro _ h_6 ⟨rfl, hyp⟩
      refine ⟨rfl, ?_⟩
      refine z_goto (tgt := 44) dX10_toldAhead_22 (by decide) ?_
      exact hyp
  · have hyp := hyp.2 c_1
    refine z_iconst dX10_toldAhead_7 (r32d rfl) ?_
    exact z_iret dX10_toldAhead_8 rfl ⟨_, rfl, hyp⟩
set_option maxRecDepth 20000 in
theorem bX10_toldBy_11 {E : zE} (hE : isR E) {d : Nat} {x1 x2 y3 x5 : Int} {h : zH} {K : Int → zH → Prop} (hyp :
  (((h 0 24) ≤ x5 →
    K y3 h) ∧
  (¬ ((h 0 24) ≤ x5) →
    zCI E mX10_hasFit d [zR 0, zI x5] h (fun r_2 h_2 =>
      ((r_2 = 0 →
        ∀ x_4 : Int, x_4 = w32 (x5 + 1) →
        zG E mX10_toldBy (d + 1) 11 [zR 0, zI x1, zI x2, zJ y3, zU, zI x_4] [] h_2 (qJ K)) ∧
      (¬ (r_2 = 0) →
        zCI E mX10_binOfRing d [zR 0, zI x5, zI x2] h_2 (fun r_5 h_5 =>
          ((0 : Int) ≤ w32 ((w32 (6 * x1)) + r_5) ∧ w32 ((w32 (6 * x1)) + r_5) < (60 : Int)) ∧
          ∀ y_6 : Int, y_6 = w64 (y3 * (h_5 14 (w32 ((w32 (6 * x1)) + r_5)).toNat)) →
          ∀ x_7 : Int, x_7 = w32 (x5 + 1) →
          zG E mX10_toldBy (d + 1) 11 [zR 0, zI x1, zI x2, zJ y_6, zU, zI x_7] [] h_5 (qJ K)))))))) :
  zG E mX10_toldBy (d + 1) 11 [zR 0, zI x1, zI x2, zJ y3, zU, zI x5] [] h (qJ K) := by
  refine z_iload dX10_toldBy_11 rfl ?_
  refine z_aload_n dX10_toldBy_13 rfl ?_
  refine gf_X10_340 dX10_toldBy_14 rfl (sR_0 hE) (cR_0 hE) ?_
  refine z_icmp_ge (tgt := 56) dX10_toldBy_17 (by decide) (fun c_1 => ?_) (fun c_1 => ?_)
  · have hyp := hyp.1 c_1
    refine z_lload_n dX10_toldBy_56 rfl ?_
    exact z_lret dX10_toldBy_57 rfl ⟨_, rfl, hyp⟩
  · have hyp := hyp.2 c_1
    refine z_aload_n dX10_toldBy_20 rfl ?_
    refine z_iload dX10_toldBy_21 rfl ?_
    refine cl_X10_443 dX10_toldBy_23 rfl (sR_0 hE) (cR_0 hE) (Nat.le_of_ble_eq_true rfl) (zC_mono ?_ hyp)
    rintro _ h_2 ⟨r_2, rfl, hyp⟩
    refine ⟨r_2, rfl, ?_⟩
    refine z_if_eq (tgt := 50) dX10_toldBy_26 (by decide) (fun c_3 => ?_) (fun c_3 => ?_)
    · have hyp := hyp.1 c_3
      refine z_iinc dX10_toldBy_50 rfl (by decide) rfl ?_
      generalize ex_4 : w32 (x5 + 1) = x_4
      have hyp := hyp x_4 ex_4.symm
      refine z_goto (tgt := 11) dX10_toldBy_53 (by decide) ?_
      exact hyp
    · have hyp := hyp.2 c_3
      refine z_lload_n dX10_toldBy_29 rfl ?_
      refine z_aload_n dX10_toldBy_30 rfl ?_
      refine gf_X10_52 (c2 := 14) dX10_toldBy_31 rfl (sR_0 hE) (cR_0 hE) rfl ?_
      refine z_bipush dX10_toldBy_34 (r32d rfl) (by decide) ?_
      refine z_iload_n dX10_toldBy_36 rfl ?_
      refine z_imul dX10_toldBy_37 ?_
      refine z_aload_n dX10_toldBy_38 rfl ?_
      refine z_iload dX10_toldBy_39 rfl ?_
      refine z_iload_n dX10_toldBy_41 rfl ?_
      refine cl_X10_516 dX10_toldBy_42 rfl (sR_0 hE) (cR_0 hE) (Nat.le_of_ble_eq_true rfl) (zC_mono ?_ hyp)
      rintro _ h_5 ⟨r_5, rfl, hyp⟩
      refine ⟨r_5, rfl, ?_⟩
      refine z_iadd dX10_toldBy_45 ?_
      obtain ⟨⟨hi0, hi1⟩, hyp⟩ := hyp
      refine z_iaload dX10_toldBy_46 (sR_14 hE) (cR_14 hE) hi0 hi1 ?_
      refine z_i2l dX10_toldBy_47 ?_
      refine z_lmul dX10_toldBy_48 ?_
      generalize ey_6 : w64 (y3 * (h_5 14 (w32 ((w32 (6 * x1)) + r_5)).toNat)) = y_6
      have hyp := hyp y_6 ey_6.symm
      refine z_lstore_n dX10_toldBy_49 rfl (by decide) rfl ?_
      refine z_iinc dX10_toldBy_50 rfl (by decide) rfl ?_
      generalize ex_7 : w32 (x5 + 1) = x_7
      have hyp := hyp x_7 ex_7.symm
      refine z_goto (tgt := 11) dX10_toldBy_53 (by decide) ?_
      exact hyp
set_option maxRecDepth 20000 in
theorem eX10_toldBy {E : zE} (hE : isR E) {d : Nat} {x1 x2 : Int} {h : zH} {K : Int → zH → Prop} (hyp :
  ((0 : Int) ≤ x1 ∧ x1 < (10 : Int)) ∧
  ∀ y_1 : Int, y_1 = h 13 x1.toNat →
  zG E mX10_toldBy (d + 1) 11 [zR 0, zI x1, zI x2, zJ y_1, zU, zI 0] [] h (qJ K)) :
  zCJ E mX10_toldBy (d + 1) [zR 0, zI x1, zI x2] h K := by
  refine zC_in (L0 := [zR 0, zI x1, zI x2, zU, zU, zU]) pn_X10 rfl (Nat.le_of_ble_eq_true rfl) ?_
  refine z_aload_n dX10_toldBy_0 rfl ?_
  refine gf_X10_49 (c2 := 13) dX10_toldBy_1 rfl (sR_0 hE) (cR_0 hE) rfl ?_
  refine z_iload_n dX10_toldBy_4 rfl ?_
  obtain ⟨⟨hi0, hi1⟩, hyp⟩ := hyp
  refine z_iaload dX10_toldBy_5 (sR_13 hE) (cR_13 hE) hi0 hi1 ?_
  refine z_i2l dX10_toldBy_6 ?_
  generalize ey_1 : h 13 x1.toNat = y_1
  have hyp := hyp y_1 ey_1.symm
  refine z_lstore_n dX10_toldBy_7 rfl (by decide) rfl ?_
  refine z_iconst dX10_toldBy_8 (r32d rfl) ?_
  refine z_istore dX10_toldBy_9 (by decide) rfl ?_
  exact hyp
