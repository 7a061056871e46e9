set_option maxRecDepth 20000 in
theorem eX9_about {E : zE} (hE : isC E) {bt : Nat} (hbt : isSu E bt) {d : Nat} {x1 x2 : Int} {h : zH} {K : Int → zH → Prop} (hyp :
  (h 0 3 = (bt : Nat)) ∧
  zCI E mX8_hasRing d [zR bt, zI x1] h (fun r_1 h_1 =>
    ((r_1 ≠ 0 →
      ((x2 = 0) →
          (h_1 0 3 = (bt : Nat)) ∧
          ((0 : Int) ≤ x1 ∧ x1 < (8 : Int)) ∧
          K (h_1 (bt + 9) x1.toNat) h_1) ∧
      ((x2 = 1) →
          (h_1 0 3 = (bt : Nat)) ∧
          ((0 : Int) ≤ x1 ∧ x1 < (8 : Int)) ∧
          K (h_1 (bt + 10) x1.toNat) h_1) ∧
      ((x2 = 2) →
          ((0 : Int) ≤ x1 ∧ x1 < (8 : Int)) ∧
          K (h_1 54 x1.toNat) h_1) ∧
      ((x2 ≠ 0 ∧ x2 ≠ 1 ∧ x2 ≠ 2) →
        K (-1) h_1)) ∧
    (¬ (r_1 ≠ 0) →
      K (-1) h_1)))) :
  zCI E mX9_about (d + 1) [zR 0, zI x1, zI x2] h K := by
  refine zC_in (L0 := [zR 0, zI x1, zI x2]) pn_X9 rfl (Nat.le_of_ble_eq_true rfl) ?_
  refine z_aload_n dX9_about_0 rfl ?_
  obtain ⟨hdy, hyp⟩ := hyp
  refine gf_X9_27 (c2 := bt) dX9_about_1 rfl (sC_0 hE) (cC_0 hE) hdy ?_
  refine z_iload_n dX9_about_4 rfl ?_
  refine cl_X9_141 dX9_about_5 rfl ((hbt.2.1)) (Nat.lt_of_le_of_lt (Nat.le_add_right bt 18) hbt.1) (Nat.le_of_ble_eq_true rfl) (zC_mono ?_ hyp)
  rintro _ h_1 ⟨r_1, rfl, hyp⟩
  refine ⟨r_1, rfl, ?_⟩
  refine z_if_ne (tgt := 13) dX9_about_8 (by decide) (fun c_2 => ?_) (fun c_2 => ?_)
  · have hyp := hyp.1 c_2
    refine z_iload_n dX9_about_13 rfl ?_
    have hgo : (x2 ≠ 0 ∧ x2 ≠ 1 ∧ x2 ≠ 2) → zG E mX9_about (d + 1) 70 [zR 0, zI x1, zI x2] [] h_1 (qI K) := by
      intro hcc
      have hyp := hyp.2.2.2 hcc
      refine z_iconst dX9_about_70 (r32d rfl) ?_
      exact z_iret dX9_about_71 rfl ⟨_, rfl, hyp⟩
    by_cases cr : x2 < 0 ∨ 2 < x2
    · exact z_tsOut (tgt := 70) dX9_about_14 cr (by decide) (hgo ⟨tsne cr (by decide) (by decide), tsne cr (by decide) (by decide), tsne cr (by decide) (by decide)⟩)
    by_cases c_3 : x2 = 0
    · have hyp := hyp.1 c_3
      have hgo : zG E mX9_about (d + 1) 40 [zR 0, zI x1, zI x2] [] h_1 (qI K) := by
        refine z_aload_n dX9_about_40 rfl ?_
        obtain ⟨hdy, hyp⟩ := hyp
        refine gf_X9_27 (c2 := bt) dX9_about_41 rfl (sC_0 hE) (cC_0 hE) hdy ?_
        refine gf_X9_145 (c2 := (bt + 9)) dX9_about_44 rfl ((hbt.2.1)) (Nat.lt_of_le_of_lt (Nat.le_add_right bt 18) hbt.1) rfl ?_
        refine z_iload_n dX9_about_47 rfl ?_
        obtain ⟨⟨hi0, hi1⟩, hyp⟩ := hyp
        refine z_iaload dX9_about_48 ((hbt.2.2.2.2.2.2.1)) (Nat.lt_of_le_of_lt (Nat.add_le_add_left (Nat.le_of_ble_eq_true rfl : 9 ≤ 18) bt) hbt.1) hi0 hi1 ?_
        exact z_iret dX9_about_49 rfl ⟨_, rfl, hyp⟩
      exact z_tsIn (i := 0) (tgt := 40) dX9_about_14 (c_3.trans (by decide)) (by decide) rfl (by decide) hgo
    by_cases c_4 : x2 = 1
    · have hyp := hyp.2.1 c_4
      have hgo : zG E mX9_about (d + 1) 50 [zR 0, zI x1, zI x2] [] h_1 (qI K) := by
        refine z_aload_n dX9_about_50 rfl ?_
        obtain ⟨hdy, hyp⟩ := hyp
        refine gf_X9_27 (c2 := bt) dX9_about_51 rfl (sC_0 hE) (cC_0 hE) hdy ?_
        refine gf_X9_148 (c2 := (bt + 10)) dX9_about_54 rfl ((hbt.2.1)) (Nat.lt_of_le_of_lt (Nat.le_add_right bt 18) hbt.1) rfl ?_
        refine z_iload_n dX9_about_57 rfl ?_
        obtain ⟨⟨hi0, hi1⟩, hyp⟩ := hyp
        refine z_iaload dX9_about_58 ((hbt.2.2.2.2.2.2.2.1)) (Nat.lt_of_le_of_lt (Nat.add_le_add_left (Nat.le_of_ble_eq_true rfl : 10 ≤ 18) bt) hbt.1) hi0 hi1 ?_
        exact z_iret dX9_about_59 rfl ⟨_, rfl, hyp⟩
      exact z_tsIn (i := 1) (tgt := 50) dX9_about_14 (c_4.trans (by decide)) (by decide) rfl (by decide) hgo
    by_cases c_5 : x2 = 2
    · have hyp := hyp.2.2.1 c_5
      have hgo : zG E mX9_about (d + 1) 60 [zR 0, zI x1, zI x2] [] h_1 (qI K) := by
        refine z_aload_n dX9_about_60 rfl ?_
        refine gf_X9_54 (c2 := 52) dX9_about_61 rfl (sC_0 hE) (cC_0 hE) rfl ?_
        refine gf_X9_151 (c2 := 54) dX9_about_64 rfl (sC_52 hE) (cC_52 hE) rfl ?_
        refine z_iload_n dX9_about_67 rfl ?_
        obtain ⟨⟨hi0, hi1⟩, hyp⟩ := hyp
        refine z_iaload dX9_about_68 (sC_54 hE) (cC_54 hE) hi0 hi1 ?_
        exact z_iret dX9_about_69 rfl ⟨_, rfl, hyp⟩
      exact z_tsIn (i := 2) (tgt := 60) dX9_about_14 (c_5.trans (by decide)) (by decide) rfl (by decide) hgo
    exact absurd (tsbs (tsbs (tsbs (tsb1 cr) c_3) c_4) c_5) (tsb2 cr)
  · have hyp := hyp.2 c_2
    refine z_iconst dX9_about_11 (r32d rfl) ?_
    exact z_iret dX9_about_12 rfl ⟨_, rfl, hyp⟩
set_option maxRecDepth 20000 in
theorem bX9_ahead_80 {E : zE} (hE : isC E) {bt : Nat} (hbt : isSu E bt) {d : Nat} {x2 x3 x4 x5 x7 : Int} {h : zH} {K : Int → zH → Prop} (hyp :
  ((8 ≤ x7 →
    zCI E mX7_bestUnit d [zR 76, zI x2, zI x3, zI x4, zI (h 0 8)] h (fun r_2 h_2 =>
      ((x5 ≠ 0 →
        ((x5 ≠ 1 →
          zCI E mX9_countTapedSince d [zR 0, zI r_2, zI 0] h_2 (fun r_5 h_5 =>
            K r_5 h_5)) ∧
        (¬ (x5 ≠ 1) →
          zCI E mX9_countTapedSince d [zR 0, zI r_2, zI 1] h_2 (fun r_6 h_6 =>
            K r_6 h_6)))) ∧
      (¬ (x5 ≠ 0) →
        K r_2 h_2)))) ∧
  (¬ (8 ≤ x7) →
    zCI E mX0_isFitted d [zR 64, zI x7] h (fun r_7 h_7 =>
      ((r_7 = 0 →
        ∀ x_9 : Int, x_9 = w32 (x7 + 1) →
        zG E mX9_ahead (d + 1) 80 [zR 0, zU, zI x2, zI x3, zI x4, zI x5, zU, zI x_9] [] h_7 (qI K)) ∧
      (¬ (r_7 = 0) →
        zCI E mX9_sizeThen d [zR 0, zI x7] h_7 (fun r_10 h_10 =>
          zCV E mX7_put d [zR 76, zI r_10] h_10 (fun h_11 =>
            ∀ x_12 : Int, x_12 = w32 (x7 + 1) →
            zG E mX9_ahead (d + 1) 80 [zR 0, zU, zI x2, zI x3, zI x4, zI x5, zU, zI x_12] [] h_11 (qI K))))))))) :
  zG E mX9_ahead (d + 1) 80 [zR 0, zU, zI x2, zI x3, zI x4, zI x5, zU, zI x7] [] h (qI K) := by
  refine z_iload dX9_ahead_80 rfl ?_
  refine z_bipush dX9_ahead_82 (r32d rfl) (by decide) ?_
  refine z_icmp_ge (tgt := 118) dX9_ahead_84 (by decide) (fun c_1 => ?_) (fun c_1 => ?_)
  · have hyp := hyp.1 c_1
    refine z_aload_n dX9_ahead_118 rfl ?_
    refine gf_X9_64 (c2 := 76) dX9_ahead_119 rfl (sC_0 hE) (cC_0 hE) rfl ?_
    refine z_iload_n dX9_ahead_122 rfl ?_
    refine z_iload_n dX9_ahead_123 rfl ?_
    refine z_iload dX9_ahead_124 rfl ?_
    refine z_aload_n dX9_ahead_126 rfl ?_
    refine gf_X9_47 dX9_ahead_127 rfl (sC_0 hE) (cC_0 hE) ?_
    refine cl_X9_289 dX9_ahead_130 rfl (sC_76 hE) (cC_76 hE) (Nat.le_of_ble_eq_true rfl) (zC_mono ?_ hyp)
    rintro _ h_2 ⟨r_2, rfl, hyp⟩
    refine ⟨r_2, rfl, ?_⟩
    refine z_istore dX9_ahead_133 (by decide) rfl ?_
    refine z_iload dX9_ahead_135 rfl ?_
    refine z_if_ne (tgt := 145) dX9_ahead_137 (by decide) (fun c_3 => ?_) (fun c_3 => ?_)
    · have hyp := hyp.1 c_3
      refine z_aload_n dX9_ahead_145 rfl ?_
      refine z_iload dX9_ahead_146 rfl ?_
      refine z_iload dX9_ahead_148 rfl ?_
      refine z_iconst dX9_ahead_150 (r32d rfl) ?_
      refine z_icmp_ne (tgt := 158) dX9_ahead_151 (by decide) (fun c_4 => ?_) (fun c_4 => ?_)
      · have hyp := hyp.1 c_4
        refine z_iconst dX9_ahead_158 (r32d rfl) ?_
        refine cl_X9_311 dX9_ahead_159 rfl (sC_0 hE) (cC_0 hE) (Nat.le_of_ble_eq_true rfl) (zC_mono ?_ hyp)
        rintro _ h_5 ⟨r_5, rfl, hyp⟩
        refine ⟨r_5, rfl, ?_⟩
        exact z_iret dX9_ahead_162 rfl ⟨_, rfl, hyp⟩
      · have hyp := hyp.2 c_4
        refine z_iconst dX9_ahead_154 (r32d rfl) ?_
        refine z_goto (tgt := 159) dX9_ahead_155 (by decide) ?_
        refine cl_X9_311 dX9_ahead_159 rfl (sC_0 hE) (cC_0 hE) (Nat.le_of_ble_eq_true rfl) (zC_mono ?_ hyp)
        rintro _ h_6 ⟨r_6, rfl, hyp⟩
        refine ⟨r_6, rfl, ?_⟩
        exact z_iret dX9_ahead_162 rfl ⟨_, rfl, hyp⟩
    · have hyp := hyp.2 c_3
      refine z_iload dX9_ahead_140 rfl ?_
      refine z_goto (tgt := 162) dX9_ahead_142 (by decide) ?_
      exact z_iret dX9_ahead_162 rfl ⟨_, rfl, hyp⟩
  · have hyp := hyp.2 c_1
    refine z_aload_n dX9_ahead_87 rfl ?_
    refine gf_X9_58 (c2 := 64) dX9_ahead_88 rfl (sC_0 hE) (cC_0 hE) rfl ?_
    refine z_iload dX9_ahead_91 rfl ?_
    refine cl_X9_194 dX9_ahead_93 rfl (sC_64 hE) (cC_64 hE) (Nat.le_of_ble_eq_true rfl) (zC_mono ?_ hyp)
    rintro _ h_7 ⟨r_7, rfl, hyp⟩
    refine ⟨r_7, rfl, ?_⟩
    refine z_if_eq (tgt := 112) dX9_ahead_96 (by decide) (fun c_8 => ?_) (fun c_8 => ?_)
    · have hyp := hyp.1 c_8
      refine z_iinc dX9_ahead_112 rfl (by decide) rfl ?_
      generalize ex_9 : w32 (x7 + 1) = x_9
      have hyp := hyp x_9 ex_9.symm
      refine z_goto (tgt := 80) dX9_ahead_115 (by decide) ?_
      exact hyp
    · have hyp := hyp.2 c_8
      refine z_aload_n dX9_ahead_99 rfl ?_
      refine gf_X9_64 (c2 := 76) dX9_ahead_100 rfl (sC_0 hE) (cC_0 hE) rfl ?_
      refine z_aload_n dX9_ahead_103 rfl ?_
      refine z_iload dX9_ahead_104 rfl ?_
      refine cl_X9_308 dX9_ahead_106 rfl (sC_0 hE) (cC_0 hE) (Nat.le_of_ble_eq_true rfl) (zC_mono ?_ hyp)
      rintro _ h_10 ⟨r_10, rfl, hyp⟩
      refine ⟨r_10, rfl, ?_⟩
      refine cl_X9_252 dX9_ahead_109 rfl (sC_76 hE) (cC_76 hE) (Nat.le_of_ble_eq_true rfl) (zC_mono ?_ hyp)
      rintro _ h_11 ⟨rfl, hyp⟩
      refine ⟨rfl, ?_⟩
      refine z_iinc dX9_ahead_112 rfl (by decide) rfl ?_
      generalize ex_12 : w32 (x7 + 1) = x_12
      have hyp := hyp x_12 ex_12.symm
      refine z_goto (tgt := 80) dX9_ahead_115 (by decide) ?_
      exact hyp
set_option maxRecDepth 20000 in
theorem eX9_ahead {E : zE} (hE : isC E) {bt : Nat} (hbt : isSu E bt) {d : Nat} {x1 x2 x3 x4 x5 : Int} {h : zH} {K : Int → zH → Prop} (hyp :
  zCI E mX9_unitsOf d [zI x2, zI x3, zI x4] h (fun r_1 h_1 =>
    ((r_1 = 0 →
      K (-1) h_1) ∧
    (¬ (r_1 = 0) →
      ((1000 < r_1 →
        K (-1) h_1) ∧
      (¬ (1000 < r_1) →
        zCI E mX9_isBeyond d [zI x1, zI 0, zI (h_1 46 5)] h_1 (fun r_4 h_4 =>
          ((r_4 ≠ 0 →
            K (-1) h_4) ∧
          (¬ (r_4 ≠ 0) →
            zCI E mX9_isBeyond d [zI x5, zI 0, zI 2] h_4 (fun r_6 h_6 =>
              ((r_6 = 0 →
                (h_6 0 3 = (bt : Nat)) ∧
                zCV E mX0_learn d [zR 64, zR bt, zR 46, zI x1, zI (h_6 0 7)] h_6 (fun h_8 =>
                  ∀ h_9 : zH, h_9 = hset h_8 76 1 0 →
                  zG E mX9_ahead (d + 1) 80 [zR 0, zU, zI x2, zI x3, zI x4, zI x5, zU, zI 0] [] h_9 (qI K))) ∧
              (¬ (r_6 = 0) →
                K (-1) h_6)))))))))))) :
  zCI E mX9_ahead (d + 1) [zR 0, zI x1, zI x2, zI x3, zI x4, zI x5] h K := by
  refine zC_in (L0 := [zR 0, zI x1, zI x2, zI x3, zI x4, zI x5, zU, zU]) pn_X9 rfl (Nat.le_of_ble_eq_true rfl) ?_
  refine z_iload_n dX9_ahead_0 rfl ?_
  refine z_iload_n dX9_ahead_1 rfl ?_
  refine z_iload dX9_ahead_2 rfl ?_
  refine cl_X9_286 dX9_ahead_4 rfl (Nat.le_of_ble_eq_true rfl) (zC_mono ?_ hyp)
  rintro _ h_1 ⟨r_1, rfl, hyp⟩
  refine ⟨r_1, rfl, ?_⟩
  refine z_istore dX9_ahead_7 (by decide) rfl ?_
  refine z_iload dX9_ahead_9 rfl ?_
  refine z_if_eq (tgt := 47) dX9_ahead_11 (by decide) (fun c_2 => ?_) (fun c_2 => ?_)
  · have hyp := hyp.1 c_2
    refine z_iconst dX9_ahead_47 (r32d rfl) ?_
    exact z_iret dX9_ahead_48 rfl ⟨_, rfl, hyp⟩
  · have hyp := hyp.2 c_2
    refine z_iload dX9_ahead_14 rfl ?_
    refine z_sipush dX9_ahead_16 (r32d rfl) (by decide) ?_
    refine z_icmp_gt (tgt := 47) dX9_ahead_19 (by decide) (fun c_3 => ?_) (fun c_3 => ?_)
    · have hyp := hyp.1 c_3
      refine z_iconst dX9_ahead_47 (r32d rfl) ?_
      exact z_iret dX9_ahead_48 rfl ⟨_, rfl, hyp⟩
    · have hyp := hyp.2 c_3
      refine z_iload_n dX9_ahead_22 rfl ?_
      refine z_iconst dX9_ahead_23 (r32d rfl) ?_
      refine z_aload_n dX9_ahead_24 rfl ?_
      refine gf_X9_37 (c2 := 46) dX9_ahead_25 rfl (sC_0 hE) (cC_0 hE) rfl ?_
      refine gf_X9_83 dX9_ahead_28 rfl (sC_46 hE) (cC_46 hE) ?_
      refine cl_X9_154 dX9_ahead_31 rfl (Nat.le_of_ble_eq_true rfl) (zC_mono ?_ hyp)
      rintro _ h_4 ⟨r_4, rfl, hyp⟩
      refine ⟨r_4, rfl, ?_⟩
      refine z_if_ne (tgt := 47) dX9_ahead_34 (by decide) (fun c_5 => ?_) (fun c_5 => ?_)
      · have hyp := hyp.1 c_5
        refine z_iconst dX9_ahead_47 (r32d rfl) ?_
        exact z_iret dX9_ahead_48 rfl ⟨_, rfl, hyp⟩
      · have hyp := hyp.2 c_5
        refine z_iload dX9_ahead_37 rfl ?_
        refine z_iconst dX9_ahead_39 (r32d rfl) ?_
        refine z_iconst dX9_ahead_40 (r32d rfl) ?_
        refine cl_X9_154 dX9_ahead_41 rfl (Nat.le_of_ble_eq_true rfl) (zC_mono ?_ hyp)
        rintro _ h_6 ⟨r_6, rfl, hyp⟩
        refine ⟨r_6, rfl, ?_⟩
        refine z_if_eq (tgt := 49) dX9_ahead_44 (by decide) (fun c_7 => ?_) (fun c_7 => ?_)
        · have hyp := hyp.1 c_7
          refine z_aload_n dX9_ahead_49 rfl ?_
          refine gf_X9_58 (c2 := 64) dX9_ahead_50 rfl (sC_0 hE) (cC_0 hE) rfl ?_
          refine z_aload_n dX9_ahead_53 rfl ?_
          obtain ⟨hdy, hyp⟩ := hyp
          refine gf_X9_27 (c2 := bt) dX9_ahead_54 rfl (sC_0 hE) (cC_0 hE) hdy ?_
          refine z_aload_n dX9_ahead_57 rfl ?_
          refine gf_X9_37 (c2 := 46) dX9_ahead_58 rfl (sC_0 hE) (cC_0 hE) rfl ?_
          refine z_iload_n dX9_ahead_61 rfl ?_
          refine z_aload_n dX9_ahead_62 rfl ?_
          refine gf_X9_44 dX9_ahead_63 rfl (sC_0 hE) (cC_0 hE) ?_
          refine cl_X9_169 dX9_ahead_66 rfl (sC_64 hE) (cC_64 hE) (Nat.le_of_ble_eq_true rfl) (zC_mono ?_ hyp)
          rintro _ h_8 ⟨rfl, hyp⟩
          refine ⟨rfl, ?_⟩
          refine z_aload_n dX9_ahead_69 rfl ?_
          refine gf_X9_64 (c2 := 76) dX9_ahead_70 rfl (sC_0 hE) (cC_0 hE) rfl ?_
          refine z_iconst dX9_ahead_73 (r32d rfl) ?_
          refine pf_X9_251 dX9_ahead_74 rfl (sC_76 hE) (cC_76 hE) ?_
          generalize eh_9 : hset h_8 76 1 _ = h_9
          have hyp := hyp h_9 eh_9.symm
          refine z_iconst dX9_ahead_77 (r32d rfl) ?_
          refine z_istore dX9_ahead_78 (by decide) rfl ?_
          exact z_forget [true, false, true, true, true, true, false, true] rfl hyp
        · have hyp := hyp.2 c_7
          refine z_iconst dX9_ahead_47 (r32d rfl) ?_
          exact z_iret dX9_ahead_48 rfl ⟨_, rfl, hyp⟩
set_option maxRecDepth 20000 in
theorem bX9_any_83 {E : zE} (hE : isC E) {d : Nat} {x1 x2 x3 x4 x6 x8 y9 x11 x12 : Int} {h : zH} {K : Int → zH → Prop} (hyp :
  ((x6 ≤ x12 →
    K x11 h) ∧
  (¬ (x6 ≤ x12) →
    ∀ h_2 : zH, h_2 = hset h 78 1 0 →
    zG E mX9_any (d + 1) 101 [zR 0, zI x1, zI x2, zI x3, zI x4, zU, zI x6, zU, zI x8, zJ y9, zU, zI x11, zI x12, zI 0, zU] [] h_2 (qI K)))) :
  zG E mX9_any (d + 1) 83 [zR 0, zI x1, zI x2, zI x3, zI x4, zU, zI x6, zU, zI x8, zJ y9, zU, zI x11, zI x12, zU, zU] [] h (qI K) := by
  refine z_iload dX9_any_83 rfl ?_
  refine z_iload dX9_any_85 rfl ?_
  refine z_icmp_ge (tgt := 206) dX9_any_87 (by decide) (fun c_1 => ?_) (fun c_1 => ?_)
  · have hyp := hyp.1 c_1
    refine z_iload dX9_any_206 rfl ?_
    exact z_iret dX9_any_208 rfl ⟨_, rfl, hyp⟩
  · have hyp := hyp.2 c_1
    refine z_aload_n dX9_any_90 rfl ?_
    refine gf_X9_68 (c2 := 78) dX9_any_91 rfl (sC_0 hE) (cC_0 hE) rfl ?_
    refine z_iconst dX9_any_94 (r32d rfl) ?_
    refine pf_X9_251 dX9_any_95 rfl (sC_78 hE) (cC_78 hE) ?_
    generalize eh_2 : hset h 78 1 _ = h_2
    have hyp := hyp h_2 eh_2.symm
    refine z_iconst dX9_any_98 (r32d rfl) ?_
    refine z_istore dX9_any_99 (by decide) rfl ?_
    exact hyp
set_option maxRecDepth 20000 in
theorem bX9_any_101 {E : zE} (hE : isC E) {d : Nat} {x1 x2 x3 x4 x6 x8 y9 x11 x12 x13 : Int} {h : zH} {K : Int → zH → Prop} (hyp :
  (((h 76 1) ≤ x13 →
    zCI E mX7_lumpsOfBestUnit d [zR 78, zI x1, zI x2, zI x3, zI (h 0 8)] h (fun r_2 h_2 =>
      ((x8 < r_2 →
        ∀ x_4 : Int, x_4 = w32 (x12 + 1) →
        zG E mX9_any (d + 1) 83 [zR 0, zI x1, zI x2, zI x3, zI x4, zU, zI x6, zU, zI x8, zJ y9, zU, zI x11, zI x_4, zU, zU] [] h_2 (qI K)) ∧
      (¬ (x8 < r_2) →
        ∀ x_5 : Int, x_5 = w32 (x11 + 1) →
        ∀ x_6 : Int, x_6 = w32 (x12 + 1) →
        zG E mX9_any (d + 1) 83 [zR 0, zI x1, zI x2, zI x3, zI x4, zU, zI x6, zU, zI x8, zJ y9, zU, zI x_5, zI x_6, zU, zU] [] h_2 (qI K))))) ∧
  (¬ ((h 76 1) ≤ x13) →
    ∀ y_7 : Int, y_7 = zandJ (w64 ((w64 (y9 * 1103515245)) + 12345)) 2147483647 →
    ((0 : Int) ≤ x13 ∧ x13 < (8 : Int)) ∧
    ¬ (w32 ((w32 (2 * x4)) + 1)) = 0 ∧
    ∀ x_8 : Int, x_8 = w32 ((w32 ((h 77 x13.toNat) + (w32 (Int.tmod (w32 (w64 (Int.tdiv y_7 65536))) (w32 ((w32 (2 * x4)) + 1)))))) - x4) →
    zCV E mX7_put d [zR 78, zI (max x_8 0)] h (fun h_9 =>
      ∀ x_10 : Int, x_10 = w32 (x13 + 1) →
      zG E mX9_any (d + 1) 101 [zR 0, zI x1, zI x2, zI x3, zI x4, zU, zI x6, zU, zI x8, zJ y_7, zU, zI x11, zI x12, zI x_10, zU] [] h_9 (qI K))))) :
  zG E mX9_any (d + 1) 101 [zR 0, zI x1, zI x2, zI x3, zI x4, zU, zI x6, zU, zI x8, zJ y9, zU, zI x11, zI x12, zI x13, zU] [] h (qI K) := by
  refine z_iload dX9_any_101 rfl ?_
  refine z_aload_n dX9_any_103 rfl ?_
  refine gf_X9_64 (c2 := 76) dX9_any_104 rfl (sC_0 hE) (cC_0 hE) rfl ?_
  refine gf_X9_251 dX9_any_107 rfl (sC_76 hE) (cC_76 hE) ?_
  refine z_icmp_ge (tgt := 178) dX9_any_110 (by decide) (fun c_1 => ?_) (fun c_1 => ?_)
  · have hyp := hyp.1 c_1
    refine z_aload_n dX9_any_178 rfl ?_
    refine gf_X9_68 (c2 := 78) dX9_any_179 rfl (sC_0 hE) (cC_0 hE) rfl ?_
    refine z_iload_n dX9_any_182 rfl ?_
    refine z_iload_n dX9_any_183 rfl ?_
    refine z_iload_n dX9_any_184 rfl ?_
    refine z_aload_n dX9_any_185 rfl ?_
    refine gf_X9_47 dX9_any_186 rfl (sC_0 hE) (cC_0 hE) ?_
    refine cl_X9_293 dX9_any_189 rfl (sC_78 hE) (cC_78 hE) (Nat.le_of_ble_eq_true rfl) (zC_mono ?_ hyp)
    rintro _ h_2 ⟨r_2, rfl, hyp⟩
    refine ⟨r_2, rfl, ?_⟩
    refine z_iload dX9_any_192 rfl ?_
    refine z_icmp_gt (tgt := 200) dX9_any_194 (by decide) (fun c_3 => ?_) (fun c_3 => ?_)
    · have hyp := hyp.1 c_3
      refine z_iinc dX9_any_200 rfl (by decide) rfl ?_
      generalize ex_4 : w32 (x12 + 1) = x_4
      have hyp := hyp x_4 ex_4.symm
      refine z_goto (tgt := 83) dX9_any_203 (by decide) ?_
      exact z_forget [true, true, true, true, true, false, true, false, true, true, false, true, true, false, false] rfl hyp
    · have hyp := hyp.2 c_3
      refine z_iinc dX9_any_197 rfl (by decide) rfl ?_
      generalize ex_5 : w32 (x11 + 1) = x_5
      have hyp := hyp x_5 ex_5.symm
      refine z_iinc dX9_any_200 rfl (by decide) rfl ?_
      generalize ex_6 : w32 (x12 + 1) = x_6
      have hyp := hyp x_6 ex_6.symm
      refine z_goto (tgt := 83) dX9_any_203 (by decide) ?_
      exact z_forget [true, true, true, true, true, false, true, false, true, true, false, true, true, false, false] rfl hyp
  · have hyp := hyp.2 c_1
    refine z_lload dX9_any_113 rfl ?_
    refine z_ldc2 (x := 1103515245) dX9_any_115 rfl wk_X9_296 (by decide) (r64d rfl) ?_
    refine z_lmul dX9_any_118 ?_
    refine z_ldc2 (x := 12345) dX9_any_119 rfl wk_X9_298 (by decide) (r64d rfl) ?_
    refine z_ladd dX9_any_122 ?_
    refine z_ldc2 (x := 2147483647) dX9_any_123 rfl wk_X9_300 (by decide) (r64d rfl) ?_
    refine z_land dX9_any_126 ?_
    generalize ey_7 : zandJ (w64 ((w64 (y9 * 1103515245)) + 12345)) 2147483647 = y_7
    have hyp := hyp y_7 ey_7.symm
    refine z_lstore dX9_any_127 (by decide) rfl ?_
    refine z_aload_n dX9_any_129 rfl ?_
    refine gf_X9_64 (c2 := 76) dX9_any_130 rfl (sC_0 hE) (cC_0 hE) rfl ?_
    refine gf_X9_280 (c2 := 77) dX9_any_133 rfl (sC_76 hE) (cC_76 hE) rfl ?_
    refine z_iload dX9_any_136 rfl ?_
    obtain ⟨⟨hi0, hi1⟩, hyp⟩ := hyp
    refine z_iaload dX9_any_138 (sC_77 hE) (cC_77 hE) hi0 hi1 ?_
    refine z_lload dX9_any_139 rfl ?_
    refine z_ldc2 (x := 65536) dX9_any_141 rfl wk_X9_302 (by decide) (r64d rfl) ?_
    refine z_ldiv (by decide) dX9_any_144 ?_
    refine z_l2i dX9_any_145 ?_
    refine z_iconst dX9_any_146 (r32d rfl) ?_
    refine z_iload dX9_any_147 rfl ?_
    refine z_imul dX9_any_149 ?_
    refine z_iconst dX9_any_150 (r32d rfl) ?_
    refine z_iadd dX9_any_151 ?_
    obtain ⟨hz, hyp⟩ := hyp
    refine z_irem hz dX9_any_152 ?_
    refine z_iadd dX9_any_153 ?_
    refine z_iload dX9_any_154 rfl ?_
    refine z_isub dX9_any_156 ?_
    generalize ex_8 : w32 ((w32 ((h 77 x13.toNat) + (w32 (Int.tmod (w32 (w64 (Int.tdiv y_7 65536))) (w32 ((w32 (2 * x4)) + 1)))))) - x4) = x_8
    have hyp := hyp x_8 ex_8.symm
    refine z_istore dX9_any_157 (by decide) rfl ?_
    refine z_aload_n dX9_any_159 rfl ?_
    refine gf_X9_68 (c2 := 78) dX9_any_160 rfl (sC_0 hE) (cC_0 hE) rfl ?_
    refine z_iload dX9_any_163 rfl ?_
    refine z_iconst dX9_any_165 (r32d rfl) ?_
    refine cl_X9_281 dX9_any_166 rfl (Nat.le_of_ble_eq_true rfl) ?_
    refine cl_X9_252 dX9_any_169 rfl (sC_78 hE) (cC_78 hE) (Nat.le_of_ble_eq_true rfl) (zC_mono ?_ hyp)
    rintro _ h_9 ⟨rfl, hyp⟩
    refine ⟨rfl, ?_⟩
    refine z_iinc dX9_any_172 rfl (by decide) rfl ?_
    generalize ex_10 : w32 (x13 + 1) = x_10
    have hyp := hyp x_10 ex_10.symm
    refine z_goto (tgt := 101) dX9_any_175 (by decide) ?_
    exact z_forget [true, true, true, true, true, false, true, false, true, true, false, true, true, true, false] rfl hyp
set_option maxRecDepth 20000 in
theorem eX9_any {E : zE} (hE : isC E) {d : Nat} {x1 x2 x3 x4 x5 x6 : Int} {h : zH} {K : Int → zH → Prop} (hyp :
  zCI E mX9_unitsOf d [zI x1, zI x2, zI x3] h (fun r_1 h_1 =>
    ((r_1 = 0 →
      K (-1) h_1) ∧
    (¬ (r_1 = 0) →
      ((100 < r_1 →
        K (-1) h_1) ∧
      (¬ (100 < r_1) →
        zCI E mX9_isBeyond d [zI x4, zI 0, zI 9999] h_1 (fun r_4 h_4 =>
          ((r_4 ≠ 0 →
            K (-1) h_4) ∧
          (¬ (r_4 ≠ 0) →
            ((x5 < 0 →
              K (-1) h_4) ∧
            (¬ (x5 < 0) →
              zCI E mX9_isBeyond d [zI x6, zI 1, zI 50] h_4 (fun r_7 h_7 =>
                ((r_7 = 0 →
                  zCV E mX9_gather d [zR 0, zI (-1), zI (-1)] h_7 (fun h_9 =>
                    zCI E mX7_lumpsOfBestUnit d [zR 76, zI x1, zI x2, zI x3, zI (h_9 0 8)] h_9 (fun r_10 h_10 =>
                      zG E mX9_any (d + 1) 83 [zR 0, zI x1, zI x2, zI x3, zI x4, zU, zI x6, zU, zI r_10, zJ x5, zU, zI 0, zI 0, zU, zU] [] h_10 (qI K)))) ∧
                (¬ (r_7 = 0) →
                  K (-1) h_7)))))))))))))) :
  zCI E mX9_any (d + 1) [zR 0, zI x1, zI x2, zI x3, zI x4, zI x5, zI x6] h K := by
  refine zC_in (L0 := [zR 0, zI x1, zI x2, zI x3, zI x4, zI x5, zI x6, zU, zU, zU, zU, zU, zU, zU, zU]) pn_X9 rfl (Nat.le_of_ble_eq_true rfl) ?_
  refine z_iload_n dX9_any_0 rfl ?_
  refine z_iload_n dX9_any_1 rfl ?_
  refine z_iload_n dX9_any_2 rfl ?_
  refine cl_X9_286 dX9_any_3 rfl (Nat.le_of_ble_eq_true rfl) (zC_mono ?_ hyp)
  rintro _ h_1 ⟨r_1, rfl, hyp⟩
  refine ⟨r_1, rfl, ?_⟩
  refine z_istore dX9_any_6 (by decide) rfl ?_
  refine z_iload dX9_any_8 rfl ?_
  refine z_if_eq (tgt := 48) dX9_any_10 (by decide) (fun c_2 => ?_) (fun c_2 => ?_)
  · have hyp := hyp.1 c_2
    refine z_iconst dX9_any_48 (r32d rfl) ?_
    exact z_iret dX9_any_49 rfl ⟨_, rfl, hyp⟩
  · have hyp := hyp.2 c_2
    refine z_iload dX9_any_13 rfl ?_
    refine z_bipush dX9_any_15 (r32d rfl) (by decide) ?_
    refine z_icmp_gt (tgt := 48) dX9_any_17 (by decide) (fun c_3 => ?_) (fun c_3 => ?_)
    · have hyp := hyp.1 c_3
      refine z_iconst dX9_any_48 (r32d rfl) ?_
      exact z_iret dX9_any_49 rfl ⟨_, rfl, hyp⟩
    · have hyp := hyp.2 c_3
      refine z_iload dX9_any_20 rfl ?_
      refine z_iconst dX9_any_22 (r32d rfl) ?_
      refine z_sipush dX9_any_23 (r32d rfl) (by decide) ?_
      refine cl_X9_154 dX9_any_26 rfl (Nat.le_of_ble_eq_true rfl) (zC_mono ?_ hyp)
      rintro _ h_4 ⟨r_4, rfl, hyp⟩
      refine ⟨r_4, rfl, ?_⟩
      refine z_if_ne (tgt := 48) dX9_any_29 (by decide) (fun c_5 => ?_) (fun c_5 => ?_)
      · have hyp := hyp.1 c_5
        refine z_iconst dX9_any_48 (r32d rfl) ?_
        exact z_iret dX9_any_49 rfl ⟨_, rfl, hyp⟩
      · have hyp := hyp.2 c_5
        refine z_iload dX9_any_32 rfl ?_
        refine z_if_lt (tgt := 48) dX9_any_34 (by decide) (fun c_6 => ?_) (fun c_6 => ?_)
        · have hyp := hyp.1 c_6
          refine z_iconst dX9_any_48 (r32d rfl) ?_
          exact z_iret dX9_any_49 rfl ⟨_, rfl, hyp⟩
        · have hyp := hyp.2 c_6
          refine z_iload dX9_any_37 rfl ?_
          refine z_iconst dX9_any_39 (r32d rfl) ?_
          refine z_bipush dX9_any_40 (r32d rfl) (by decide) ?_
          refine cl_X9_154 dX9_any_42 rfl (Nat.le_of_ble_eq_true rfl) (zC_mono ?_ hyp)
          rintro _ h_7 ⟨r_7, rfl, hyp⟩
          refine ⟨r_7, rfl, ?_⟩
          refine z_if_eq (tgt := 50) dX9_any_45 (by decide) (fun c_8 => ?_) (fun c_8 => ?_)
          · have hyp := hyp.1 c_8
            refine z_aload_n dX9_any_50 rfl ?_
            refine z_iconst dX9_any_51 (r32d rfl) ?_
            refine z_iconst dX9_any_52 (r32d rfl) ?_
            refine cl_X9_244 dX9_any_53 rfl (sC_0 hE) (cC_0 hE) (Nat.le_of_ble_eq_true rfl) (zC_mono ?_ hyp)
            rintro _ h_9 ⟨rfl, hyp⟩
            refine ⟨rfl, ?_⟩
            refine z_aload_n dX9_any_56 rfl ?_
            refine gf_X9_64 (c2 := 76) dX9_any_57 rfl (sC_0 hE) (cC_0 hE) rfl ?_
            refine z_iload_n dX9_any_60 rfl ?_
            refine z_iload_n dX9_any_61 rfl ?_
            refine z_iload_n dX9_any_62 rfl ?_
            refine z_aload_n dX9_any_63 rfl ?_
            refine gf_X9_47 dX9_any_64 rfl (sC_0 hE) (cC_0 hE) ?_
            refine cl_X9_293 dX9_any_67 rfl (sC_76 hE) (cC_76 hE) (Nat.le_of_ble_eq_true rfl) (zC_mono ?_ hyp)
            rintro _ h_10 ⟨r_10, rfl, hyp⟩
            refine ⟨r_10, rfl, ?_⟩
            refine z_istore dX9_any_70 (by decide) rfl ?_
            refine z_iload dX9_any_72 rfl ?_
            refine z_i2l dX9_any_74 ?_
            refine z_lstore dX9_any_75 (by decide) rfl ?_
            refine z_iconst dX9_any_77 (r32d rfl) ?_
            refine z_istore dX9_any_78 (by decide) rfl ?_
            refine z_iconst dX9_any_80 (r32d rfl) ?_
            refine z_istore dX9_any_81 (by decide) rfl ?_
            exact z_forget [true, true, true, true, true, false, true, false, true, true, false, true, true, false, false] rfl hyp
          · have hyp := hyp.2 c_8
            refine z_iconst dX9_any_48 (r32d rfl) ?_
            exact z_iret dX9_any_49 rfl ⟨_, rfl, hyp⟩
set_option maxRecDepth 20000 in
theorem bX9_apart_34 {E : zE} (hE : isC E) {bt : Nat} (hbt : isSu E bt) {d : Nat} {x1 x2 x3 x5 x6 x7 : Int} {h : zH} {K : Int → zH → Prop} (hyp :
  (h 0 3 = (bt : Nat)) ∧
  (((h (bt + 1) 1) ≤ x7 →
    ((x6 ≠ (-1) →
      K (w32 (x6 - x5)) h) ∧
    (¬ (x6 ≠ (-1)) →
      K (-1) h))) ∧
  (¬ ((h (bt + 1) 1) ≤ x7) →
    zCV E mX9_gather d [zR 0, zI x7, zI (-1)] h (fun h_3 =>
      (((h_3 76 1) ≤ 0 →
        ∀ x_5 : Int, x_5 = w32 (x7 + 1) →
        zG E mX9_apart (d + 1) 34 [zR 0, zI x1, zI x2, zI x3, zU, zI x5, zI x6, zI x_5, zU] [] h_3 (qI K)) ∧
      (¬ ((h_3 76 1) ≤ 0) →
        zCI E mX7_bestUnit d [zR 76, zI x1, zI x2, zI x3, zI (h_3 0 8)] h_3 (fun r_6 h_6 =>
          ∀ x_7 : Int, x_7 = min x5 r_6 →
          ∀ x_8 : Int, x_8 = max x6 r_6 →
          ∀ x_9 : Int, x_9 = w32 (x7 + 1) →
          zG E mX9_apart (d + 1) 34 [zR 0, zI x1, zI x2, zI x3, zU, zI x_7, zI x_8, zI x_9, zU] [] h_6 (qI K)))))))) :
  zG E mX9_apart (d + 1) 34 [zR 0, zI x1, zI x2, zI x3, zU, zI x5, zI x6, zI x7, zU] [] h (qI K) := by
  refine z_iload dX9_apart_34 rfl ?_
  refine z_aload_n dX9_apart_36 rfl ?_
  obtain ⟨hdy, hyp⟩ := hyp
  refine gf_X9_27 (c2 := bt) dX9_apart_37 rfl (sC_0 hE) (cC_0 hE) hdy ?_
  refine gf_X9_98 (c2 := (bt + 1)) dX9_apart_40 rfl ((hbt.2.1)) (Nat.lt_of_le_of_lt (Nat.le_add_right bt 18) hbt.1) rfl ?_
  refine gf_X9_279 dX9_apart_43 rfl (((hbt.2.2.1).2.1)) (Nat.lt_of_le_of_lt (Nat.add_le_add_left (Nat.le_of_ble_eq_true rfl : 1 ≤ 18) bt) hbt.1) ?_
  refine z_icmp_ge (tgt := 106) dX9_apart_46 (by decide) (fun c_1 => ?_) (fun c_1 => ?_)
  · have hyp := hyp.1 c_1
    refine z_iload dX9_apart_106 rfl ?_
    refine z_iconst dX9_apart_108 (r32d rfl) ?_
    refine z_icmp_ne (tgt := 116) dX9_apart_109 (by decide) (fun c_2 => ?_) (fun c_2 => ?_)
    · have hyp := hyp.1 c_2
      refine z_iload dX9_apart_116 rfl ?_
      refine z_iload dX9_apart_118 rfl ?_
      refine z_isub dX9_apart_120 ?_
      exact z_iret dX9_apart_121 rfl ⟨_, rfl, hyp⟩
    · have hyp := hyp.2 c_2
      refine z_iconst dX9_apart_112 (r32d rfl) ?_
      refine z_goto (tgt := 121) dX9_apart_113 (by decide) ?_
      exact z_iret dX9_apart_121 rfl ⟨_, rfl, hyp⟩
  · have hyp := hyp.2 c_1
    refine z_aload_n dX9_apart_49 rfl ?_
    refine z_iload dX9_apart_50 rfl ?_
    refine z_iconst dX9_apart_52 (r32d rfl) ?_
    refine cl_X9_244 dX9_apart_53 rfl (sC_0 hE) (cC_0 hE) (Nat.le_of_ble_eq_true rfl) (zC_mono ?_ hyp)
    rintro _ h_3 ⟨rfl, hyp⟩
    refine ⟨rfl, ?_⟩
    refine z_aload_n dX9_apart_56 rfl ?_
    refine gf_X9_64 (c2 := 76) dX9_apart_57 rfl (sC_0 hE) (cC_0 hE) rfl ?_
    refine gf_X9_251 dX9_apart_60 rfl (sC_76 hE) (cC_76 hE) ?_
    refine z_if_le (tgt := 100) dX9_apart_63 (by decide) (fun c_4 => ?_) (fun c_4 => ?_)
    · have hyp := hyp.1 c_4
      refine z_iinc dX9_apart_100 rfl (by decide) rfl ?_
      generalize ex_5 : w32 (x7 + 1) = x_5
      have hyp := hyp x_5 ex_5.symm
      refine z_goto (tgt := 34) dX9_apart_103 (by decide) ?_
      exact hyp
    · have hyp := hyp.2 c_4
      refine z_aload_n dX9_apart_66 rfl ?_
      refine gf_X9_64 (c2 := 76) dX9_apart_67 rfl (sC_0 hE) (cC_0 hE) rfl ?_
      refine z_iload_n dX9_apart_70 rfl ?_
      refine z_iload_n dX9_apart_71 rfl ?_
      refine z_iload_n dX9_apart_72 rfl ?_
      refine z_aload_n dX9_apart_73 rfl ?_
      refine gf_X9_47 dX9_apart_74 rfl (sC_0 hE) (cC_0 hE) ?_
      refine cl_X9_289 dX9_apart_77 rfl (sC_76 hE) (cC_76 hE) (Nat.le_of_ble_eq_true rfl) (zC_mono ?_ hyp)
      rintro _ h_6 ⟨r_6, rfl, hyp⟩
      refine ⟨r_6, rfl, ?_⟩
      refine z_istore dX9_apart_80 (by decide) rfl ?_
      refine z_iload dX9_apart_82 rfl ?_
      refine z_iload dX9_apart_84 rfl ?_
      refine cl_X9_305 dX9_apart_86 rfl (Nat.le_of_ble_eq_true rfl) ?_
      generalize ex_7 : min x5 r_6 = x_7
      have hyp := hyp x_7 ex_7.symm
      refine z_istore dX9_apart_89 (by decide) rfl ?_
      refine z_iload dX9_apart_91 rfl ?_
      refine z_iload dX9_apart_93 rfl ?_
      refine cl_X9_281 dX9_apart_95 rfl (Nat.le_of_ble_eq_true rfl) ?_
      generalize ex_8 : max x6 r_6 = x_8
      have hyp := hyp x_8 ex_8.symm
      refine z_istore dX9_apart_98 (by decide) rfl ?_
      refine z_iinc dX9_apart_100 rfl (by decide) rfl ?_
      generalize ex_9 : w32 (x7 + 1) = x_9
      have hyp := hyp x_9 ex_9.symm
      refine z_goto (tgt := 34) dX9_apart_103 (by decide) ?_
      exact z_forget [true, true, true, true, false, true, true, true, false] rfl hyp
set_option maxRecDepth 20000 in
theorem eX9_apart {E : zE} (hE : isC E) {bt : Nat} (hbt : isSu E bt) {d : Nat} {x1 x2 x3 : Int} {h : zH} {K : Int → zH → Prop} (hyp :
  zCI E mX9_unitsOf d [zI x1, zI x2, zI x3] h (fun r_1 h_1 =>
    ((r_1 = 0 →
      K (-1) h_1) ∧
    (¬ (r_1 = 0) →
      ((r_1 ≤ 1000 →
        zG E mX9_apart (d + 1) 34 [zR 0, zI x1, zI x2, zI x3, zU, zI 2147483647, zI (-1), zI 0, zU] [] h_1 (qI K)) ∧
      (¬ (r_1 ≤ 1000) →
        K (-1) h_1)))))) :
  zCI E mX9_apart (d + 1) [zR 0, zI x1, zI x2, zI x3] h K := by
  refine zC_in (L0 := [zR 0, zI x1, zI x2, zI x3, zU, zU, zU, zU, zU]) pn_X9 rfl (Nat.le_of_ble_eq_true rfl) ?_
  refine z_iload_n dX9_apart_0 rfl ?_
  refine z_iload_n dX9_apart_1 rfl ?_
  refine z_iload_n dX9_apart_2 rfl ?_
  refine cl_X9_286 dX9_apart_3 rfl (Nat.le_of_ble_eq_true rfl) (zC_mono ?_ hyp)
  rintro _ h_1 ⟨r_1, rfl, hyp⟩
  refine ⟨r_1, rfl, ?_⟩
  refine z_istore dX9_apart_6 (by decide) rfl ?_
  refine z_iload dX9_apart_8 rfl ?_
  refine z_if_eq (tgt := 21) dX9_apart_10 (by decide) (fun c_2 => ?_) (fun c_2 => ?_)
  · have hyp := hyp.1 c_2
    refine z_iconst dX9_apart_21 (r32d rfl) ?_
    exact z_iret dX9_apart_22 rfl ⟨_, rfl, hyp⟩
  · have hyp := hyp.2 c_2
    refine z_iload dX9_apart_13 rfl ?_
    refine z_sipush dX9_apart_15 (r32d rfl) (by decide) ?_
    refine z_icmp_le (tgt := 23) dX9_apart_18 (by decide) (fun c_3 => ?_) (fun c_3 => ?_)
    · have hyp := hyp.1 c_3
      refine z_ldcw (x := 2147483647) dX9_apart_23 rfl wk_X9_304 (by decide) (r32d rfl) ?_
      refine z_istore dX9_apart_26 (by decide) rfl ?_
      refine z_iconst dX9_apart_28 (r32d rfl) ?_
      refine z_istore dX9_apart_29 (by decide) rfl ?_
      refine z_iconst dX9_apart_31 (r32d rfl) ?_
      refine z_istore dX9_apart_32 (by decide) rfl ?_
      exact z_forget [true, true, true, true, false, true, true, true, false] rfl hyp
    · have hyp := hyp.2 c_3
      refine z_iconst dX9_apart_21 (r32d rfl) ?_
      exact z_iret dX9_apart_22 rfl ⟨_, rfl, hyp⟩
set_option maxRecDepth 20000 in
theorem eX9_best {E : zE} (hE : isC E) {d : Nat} {x1 x2 : Int} {h : zH} {K : Int → zH → Prop} (hyp :
  zCI E mX0_bestShape d [zR 52, zI x1] h (fun r_1 h_1 =>
    zCI E mX0_fitAt d [zR 52, zI x1, zI r_1] h_1 (fun r_2 h_2 =>
      ((r_2 ≠ (-1) →
        ((x2 = 0) →
            K (w32 (Int.tdiv r_1 4)) h_2) ∧
        ((x2 = 1) →
            K (w32 (Int.tmod r_1 4)) h_2) ∧
        ((x2 = 2) →
            ((0 : Int) ≤ r_2 ∧ r_2 < (96 : Int)) ∧
            K (h_2 59 r_2.toNat) h_2) ∧
        ((x2 = 3) →
            ((0 : Int) ≤ r_2 ∧ r_2 < (96 : Int)) ∧
            K (h_2 60 r_2.toNat) h_2) ∧
        ((x2 ≠ 0 ∧ x2 ≠ 1 ∧ x2 ≠ 2 ∧ x2 ≠ 3) →
          K (-1) h_2)) ∧
      (¬ (r_2 ≠ (-1)) →
        K (-1) h_2))))) :
  zCI E mX9_best (d + 1) [zR 0, zI x1, zI x2] h K := by
  refine zC_in (L0 := [zR 0, zI x1, zI x2, zU, zU]) pn_X9 rfl (Nat.le_of_ble_eq_true rfl) ?_
  refine z_aload_n dX9_best_0 rfl ?_
  refine gf_X9_54 (c2 := 52) dX9_best_1 rfl (sC_0 hE) (cC_0 hE) rfl ?_
  refine z_iload_n dX9_best_4 rfl ?_
  refine cl_X9_191 dX9_best_5 rfl (sC_52 hE) (cC_52 hE) (Nat.le_of_ble_eq_true rfl) (zC_mono ?_ hyp)
  rintro _ h_1 ⟨r_1, rfl, hyp⟩
  refine ⟨r_1, rfl, ?_⟩
  refine z_istore_n dX9_best_8 rfl (by decide) rfl ?_
  refine z_aload_n dX9_best_9 rfl ?_
  refine gf_X9_54 (c2 := 52) dX9_best_10 rfl (sC_0 hE) (cC_0 hE) rfl ?_
  refine z_iload_n dX9_best_13 rfl ?_
  refine z_iload_n dX9_best_14 rfl ?_
  refine cl_X9_176 dX9_best_15 rfl (sC_52 hE) (cC_52 hE) (Nat.le_of_ble_eq_true rfl) (zC_mono ?_ hyp)
  rintro _ h_2 ⟨r_2, rfl, hyp⟩
  refine ⟨r_2, rfl, ?_⟩
  refine z_istore dX9_best_18 (by decide) rfl ?_
  refine z_iload dX9_best_20 rfl ?_
  refine z_iconst dX9_best_22 (r32d rfl) ?_
  refine z_icmp_ne (tgt := 28) dX9_best_23 (by decide) (fun c_3 => ?_) (fun c_3 => ?_)
  · have hyp := hyp.1 c_3
    refine z_iload_n dX9_best_28 rfl ?_
    have hgo : (x2 ≠ 0 ∧ x2 ≠ 1 ∧ x2 ≠ 2 ∧ x2 ≠ 3) → zG E mX9_best (d + 1) 90 [zR 0, zI x1, zI x2, zI r_1, zI r_2] [] h_2 (qI K) := by
      intro hcc
      have hyp := hyp.2.2.2.2 hcc
      refine z_iconst dX9_best_90 (r32d rfl) ?_
      exact z_iret dX9_best_91 rfl ⟨_, rfl, hyp⟩
    by_cases cr : x2 < 0 ∨ 3 < x2
    · exact z_tsOut (tgt := 90) dX9_best_29 cr (by decide) (hgo ⟨tsne cr (by decide) (by decide), tsne cr (by decide) (by decide), tsne cr (by decide) (by decide), tsne cr (by decide) (by decide)⟩)
    by_cases c_4 : x2 = 0
    · have hyp := hyp.1 c_4
      have hgo : zG E mX9_best (d + 1) 60 [zR 0, zI x1, zI x2, zI r_1, zI r_2] [] h_2 (qI K) := by
        refine z_iload_n dX9_best_60 rfl ?_
        refine z_iconst dX9_best_61 (r32d rfl) ?_
        refine z_idiv (by decide) dX9_best_62 ?_
        exact z_iret dX9_best_63 rfl ⟨_, rfl, hyp⟩
      exact z_tsIn (i := 0) (tgt := 60) dX9_best_29 (c_4.trans (by decide)) (by decide) rfl (by decide) hgo
    by_cases c_5 : x2 = 1
    · have hyp := hyp.2.1 c_5
      have hgo : zG E mX9_best (d + 1) 64 [zR 0, zI x1, zI x2, zI r_1, zI r_2] [] h_2 (qI K) := by
        refine z_iload_n dX9_best_64 rfl ?_
        refine z_iconst dX9_best_65 (r32d rfl) ?_
        refine z_irem (by decide) dX9_best_66 ?_
        exact z_iret dX9_best_67 rfl ⟨_, rfl, hyp⟩
      exact z_tsIn (i := 1) (tgt := 64) dX9_best_29 (c_5.trans (by decide)) (by decide) rfl (by decide) hgo
    by_cases c_6 : x2 = 2
    · have hyp := hyp.2.2.1 c_6
      have hgo : zG E mX9_best (d + 1) 68 [zR 0, zI x1, zI x2, zI r_1, zI r_2] [] h_2 (qI K) := by
        refine z_aload_n dX9_best_68 rfl ?_
        refine gf_X9_54 (c2 := 52) dX9_best_69 rfl (sC_0 hE) (cC_0 hE) rfl ?_
        refine gf_X9_179 (c2 := 59) dX9_best_72 rfl (sC_52 hE) (cC_52 hE) rfl ?_
        refine z_iload dX9_best_75 rfl ?_
        obtain ⟨⟨hi0, hi1⟩, hyp⟩ := hyp
        refine z_iaload dX9_best_77 (sC_59 hE) (cC_59 hE) hi0 hi1 ?_
        exact z_iret dX9_best_78 rfl ⟨_, rfl, hyp⟩
      exact z_tsIn (i := 2) (tgt := 68) dX9_best_29 (c_6.trans (by decide)) (by decide) rfl (by decide) hgo
    by_cases c_7 : x2 = 3
    · have hyp := hyp.2.2.2.1 c_7
      have hgo : zG E mX9_best (d + 1) 79 [zR 0, zI x1, zI x2, zI r_1, zI r_2] [] h_2 (qI K) := by
        refine z_aload_n dX9_best_79 rfl ?_
        refine gf_X9_54 (c2 := 52) dX9_best_80 rfl (sC_0 hE) (cC_0 hE) rfl ?_
        refine gf_X9_182 (c2 := 60) dX9_best_83 rfl (sC_52 hE) (cC_52 hE) rfl ?_
        refine z_iload dX9_best_86 rfl ?_
        obtain ⟨⟨hi0, hi1⟩, hyp⟩ := hyp
        refine z_iaload dX9_best_88 (sC_60 hE) (cC_60 hE) hi0 hi1 ?_
        exact z_iret dX9_best_89 rfl ⟨_, rfl, hyp⟩
      exact z_tsIn (i := 3) (tgt := 79) dX9_best_29 (c_7.trans (by decide)) (by decide) rfl (by decide) hgo
    exact absurd (tsbs (tsbs (tsbs (tsbs (tsb1 cr) c_4) c_5) c_6) c_7) (tsb2 cr)
  · have hyp := hyp.2 c_3
    refine z_iconst dX9_best_26 (r32d rfl) ?_
    exact z_iret dX9_best_27 rfl ⟨_, rfl, hyp⟩
set_option maxRecDepth 20000 in
theorem bX9_blind_48 {E : zE} (hE : isC E) {bt : Nat} (hbt : isSu E bt) {d : Nat} {x2 x3 x4 x5 x6 x7 : Int} {h : zH} {K : Int → zH → Prop} (hyp :
  (h 0 3 = (bt : Nat)) ∧
  (((h bt 9) ≤ x7 →
    (((w32 (Int.tmod x2 2)) ≠ 0 →
      K x6 h) ∧
    (¬ ((w32 (Int.tmod x2 2)) ≠ 0) →
      K x5 h))) ∧
  (¬ ((h bt 9) ≤ x7) →
    (h 0 3 = (bt : Nat)) ∧
    zCI E mX8_saidOf d [zR bt, zI x7, zI 3] h (fun r_3 h_3 =>
      ((r_3 ≠ x4 →
        ∀ x_5 : Int, x_5 = w32 (x7 + 1) →
        zG E mX9_blind (d + 1) 48 [zR 0, zU, zI x2, zI x3, zI x4, zI x5, zI x6, zI x_5] [] h_3 (qI K)) ∧
      (¬ (r_3 ≠ x4) →
        (h_3 0 3 = (bt : Nat)) ∧
        zCI E mX8_saidOf d [zR bt, zI x7, zI 2] h_3 (fun r_6 h_6 =>
          zCI E mX9_offBy d [zI r_6, zI x3] h_6 (fun r_7 h_7 =>
            ∀ x_8 : Int, x_8 = w32 (x5 + r_7) →
            ∀ x_9 : Int, x_9 = w32 (x6 + 1) →
            ∀ x_10 : Int, x_10 = w32 (x7 + 1) →
            zG E mX9_blind (d + 1) 48 [zR 0, zU, zI x2, zI x3, zI x4, zI x_8, zI x_9, zI x_10] [] h_7 (qI K))))))))) :
  zG E mX9_blind (d + 1) 48 [zR 0, zU, zI x2, zI x3, zI x4, zI x5, zI x6, zI x7] [] h (qI K) := by
  refine z_iload dX9_blind_48 rfl ?_
  refine z_aload_n dX9_blind_50 rfl ?_
  obtain ⟨hdy, hyp⟩ := hyp
  refine gf_X9_27 (c2 := bt) dX9_blind_51 rfl (sC_0 hE) (cC_0 hE) hdy ?_
  refine gf_X9_328 dX9_blind_54 rfl ((hbt.2.1)) (Nat.lt_of_le_of_lt (Nat.le_add_right bt 18) hbt.1) ?_
  refine z_icmp_ge (tgt := 103) dX9_blind_57 (by decide) (fun c_1 => ?_) (fun c_1 => ?_)
  · have hyp := hyp.1 c_1
    refine z_iload_n dX9_blind_103 rfl ?_
    refine z_iconst dX9_blind_104 (r32d rfl) ?_
    refine z_irem (by decide) dX9_blind_105 ?_
    refine z_if_ne (tgt := 114) dX9_blind_106 (by decide) (fun c_2 => ?_) (fun c_2 => ?_)
    · have hyp := hyp.1 c_2
      refine z_iload dX9_blind_114 rfl ?_
      exact z_iret dX9_blind_116 rfl ⟨_, rfl, hyp⟩
    · have hyp := hyp.2 c_2
      refine z_iload dX9_blind_109 rfl ?_
      refine z_goto (tgt := 116) dX9_blind_111 (by decide) ?_
      exact z_iret dX9_blind_116 rfl ⟨_, rfl, hyp⟩
  · have hyp := hyp.2 c_1
    refine z_aload_n dX9_blind_60 rfl ?_
    obtain ⟨hdy, hyp⟩ := hyp
    refine gf_X9_27 (c2 := bt) dX9_blind_61 rfl (sC_0 hE) (cC_0 hE) hdy ?_
    refine z_iload dX9_blind_64 rfl ?_
    refine z_iconst dX9_blind_66 (r32d rfl) ?_
    refine cl_X9_331 dX9_blind_67 rfl ((hbt.2.1)) (Nat.lt_of_le_of_lt (Nat.le_add_right bt 18) hbt.1) (Nat.le_of_ble_eq_true rfl) (zC_mono ?_ hyp)
    rintro _ h_3 ⟨r_3, rfl, hyp⟩
    refine ⟨r_3, rfl, ?_⟩
    refine z_iload dX9_blind_70 rfl ?_
    refine z_icmp_ne (tgt := 97) dX9_blind_72 (by decide) (fun c_4 => ?_) (fun c_4 => ?_)
    · have hyp := hyp.1 c_4
      refine z_iinc dX9_blind_97 rfl (by decide) rfl ?_
      generalize ex_5 : w32 (x7 + 1) = x_5
      have hyp := hyp x_5 ex_5.symm
      refine z_goto (tgt := 48) dX9_blind_100 (by decide) ?_
      exact hyp
    · have hyp := hyp.2 c_4
      refine z_iload dX9_blind_75 rfl ?_
      refine z_aload_n dX9_blind_77 rfl ?_
      obtain ⟨hdy, hyp⟩ := hyp
      refine gf_X9_27 (c2 := bt) dX9_blind_78 rfl (sC_0 hE) (cC_0 hE) hdy ?_
      refine z_iload dX9_blind_81 rfl ?_
      refine z_iconst dX9_blind_83 (r32d rfl) ?_
      refine cl_X9_331 dX9_blind_84 rfl ((hbt.2.1)) (Nat.lt_of_le_of_lt (Nat.le_add_right bt 18) hbt.1) (Nat.le_of_ble_eq_true rfl) (zC_mono ?_ hyp)
      rintro _ h_6 ⟨r_6, rfl, hyp⟩
      refine ⟨r_6, rfl, ?_⟩
      refine z_iload_n dX9_blind_87 rfl ?_
      refine cl_X9_215 dX9_blind_88 rfl (Nat.le_of_ble_eq_true rfl) (zC_mono ?_ hyp)
      rintro _ h_7 ⟨r_7, rfl, hyp⟩
      refine ⟨r_7, rfl, ?_⟩
      refine z_iadd dX9_blind_91 ?_
      generalize ex_8 : w32 (x5 + r_7) = x_8
      have hyp := hyp x_8 ex_8.symm
      refine z_istore dX9_blind_92 (by decide) rfl ?_
      refine z_iinc dX9_blind_94 rfl (by decide) rfl ?_
      generalize ex_9 : w32 (x6 + 1) = x_9
      have hyp := hyp x_9 ex_9.symm
      refine z_iinc dX9_blind_97 rfl (by decide) rfl ?_
      generalize ex_10 : w32 (x7 + 1) = x_10
      have hyp := hyp x_10 ex_10.symm
      refine z_goto (tgt := 48) dX9_blind_100 (by decide) ?_
      exact hyp
set_option maxRecDepth 20000 in
theorem eX9_blind {E : zE} (hE : isC E) {bt : Nat} (hbt : isSu E bt) {d : Nat} {x1 x2 : Int} {h : zH} {K : Int → zH → Prop} (hyp :
  zCI E mX9_isUnit d [zI x1] h (fun r_1 h_1 =>
    ((r_1 = 0 →
      K (-1) h_1) ∧
    (¬ (r_1 = 0) →
      zCI E mX9_isBeyond d [zI x2, zI 0, zI 3] h_1 (fun r_3 h_3 =>
        ((r_3 = 0 →
          zCI E mX9_placesOf d [zI x1, zI (h_3 0 8)] h_3 (fun r_5 h_5 =>
            ((2 ≤ x2 →
              zG E mX9_blind (d + 1) 48 [zR 0, zU, zI x2, zI r_5, zI 0, zI 0, zI 0, zI 0] [] h_5 (qI K)) ∧
            (¬ (2 ≤ x2) →
              zG E mX9_blind (d + 1) 48 [zR 0, zU, zI x2, zI r_5, zI 1, zI 0, zI 0, zI 0] [] h_5 (qI K))))) ∧
        (¬ (r_3 = 0) →
          K (-1) h_3))))))) :
  zCI E mX9_blind (d + 1) [zR 0, zI x1, zI x2] h K := by
  refine zC_in (L0 := [zR 0, zI x1, zI x2, zU, zU, zU, zU, zU]) pn_X9 rfl (Nat.le_of_ble_eq_true rfl) ?_
  refine z_iload_n dX9_blind_0 rfl ?_
  refine cl_X9_208 dX9_blind_1 rfl (Nat.le_of_ble_eq_true rfl) (zC_mono ?_ hyp)
  rintro _ h_1 ⟨r_1, rfl, hyp⟩
  refine ⟨r_1, rfl, ?_⟩
  refine z_if_eq (tgt := 16) dX9_blind_4 (by decide) (fun c_2 => ?_) (fun c_2 => ?_)
  · have hyp := hyp.1 c_2
    refine z_iconst dX9_blind_16 (r32d rfl) ?_
    exact z_iret dX9_blind_17 rfl ⟨_, rfl, hyp⟩
  · have hyp := hyp.2 c_2
    refine z_iload_n dX9_blind_7 rfl ?_
    refine z_iconst dX9_blind_8 (r32d rfl) ?_
    refine z_iconst dX9_blind_9 (r32d rfl) ?_
    refine cl_X9_154 dX9_blind_10 rfl (Nat.le_of_ble_eq_true rfl) (zC_mono ?_ hyp)
    rintro _ h_3 ⟨r_3, rfl, hyp⟩
    refine ⟨r_3, rfl, ?_⟩
    refine z_if_eq (tgt := 18) dX9_blind_13 (by decide) (fun c_4 => ?_) (fun c_4 => ?_)
    · have hyp := hyp.1 c_4
      refine z_iload_n dX9_blind_18 rfl ?_
      refine z_aload_n dX9_blind_19 rfl ?_
      refine gf_X9_47 dX9_blind_20 rfl (sC_0 hE) (cC_0 hE) ?_
      refine cl_X9_211 dX9_blind_23 rfl (Nat.le_of_ble_eq_true rfl) (zC_mono ?_ hyp)
      rintro _ h_5 ⟨r_5, rfl, hyp⟩
      refine ⟨r_5, rfl, ?_⟩
      refine z_istore_n dX9_blind_26 rfl (by decide) rfl ?_
      refine z_iload_n dX9_blind_27 rfl ?_
      refine z_iconst dX9_blind_28 (r32d rfl) ?_
      refine z_icmp_ge (tgt := 36) dX9_blind_29 (by decide) (fun c_6 => ?_) (fun c_6 => ?_)
      · have hyp := hyp.1 c_6
        refine z_iconst dX9_blind_36 (r32d rfl) ?_
        refine z_istore dX9_blind_37 (by decide) rfl ?_
        refine z_iconst dX9_blind_39 (r32d rfl) ?_
        refine z_istore dX9_blind_40 (by decide) rfl ?_
        refine z_iconst dX9_blind_42 (r32d rfl) ?_
        refine z_istore dX9_blind_43 (by decide) rfl ?_
        refine z_iconst dX9_blind_45 (r32d rfl) ?_
        refine z_istore dX9_blind_46 (by decide) rfl ?_
        exact z_forget [true, false, true, true, true, true, true, true] rfl hyp
      · have hyp := hyp.2 c_6
        refine z_iconst dX9_blind_32 (r32d rfl) ?_
        refine z_goto (tgt := 37) dX9_blind_33 (by decide) ?_
        refine z_istore dX9_blind_37 (by decide) rfl ?_
        refine z_iconst dX9_blind_39 (r32d rfl) ?_
        refine z_istore dX9_blind_40 (by decide) rfl ?_
        refine z_iconst dX9_blind_42 (r32d rfl) ?_
        refine z_istore dX9_blind_43 (by decide) rfl ?_
        refine z_iconst dX9_blind_45 (r32d rfl) ?_
        refine z_istore dX9_blind_46 (by decide) rfl ?_
        exact z_forget [true, false, true, true, true, true, true, true] rfl hyp
    · have hyp := hyp.2 c_4
      refine z_iconst dX9_blind_16 (r32d rfl) ?_
      exact z_iret dX9_blind_17 rfl ⟨_, rfl, hyp⟩
set_option maxRecDepth 20000 in
theorem bX9_chosen_41 {E : zE} (hE : isC E) {bt : Nat} (hbt : isSu E bt) {d : Nat} {x2 x3 x4 x5 : Int} {h : zH} {K : Int → zH → Prop} (hyp :
  ((8 ≤ x5 →
    ((x2 ≠ 0 →
      K x4 h) ∧
    (¬ (x2 ≠ 0) →
      zCI E mX7_sumOfLumps d [zR 76, zI x3] h (fun r_3 h_3 =>
        K r_3 h_3)))) ∧
  (¬ (8 ≤ x5) →
    (h 0 3 = (bt : Nat)) ∧
    zCI E mX0_shapeLeastOff d [zR 52, zI x5, zI (h bt 16), zI x3] h (fun r_4 h_4 =>
      zCI E mX0_fitAt d [zR 52, zI x5, zI r_4] h_4 (fun r_5 h_5 =>
        ((r_5 ≠ (-1) →
          ((0 : Int) ≤ r_5 ∧ r_5 < (96 : Int)) ∧
          zCV E mX7_put d [zR 76, zI (h_5 59 r_5.toNat)] h_5 (fun h_7 =>
            zCI E mX0_bestShape d [zR 52, zI x5] h_7 (fun r_8 h_8 =>
              ((r_4 = r_8 →
                ∀ x_10 : Int, x_10 = w32 (x5 + 1) →
                zG E mX9_chosen (d + 1) 41 [zR 0, zU, zI x2, zI x3, zI x4, zI x_10, zU, zU] [] h_8 (qI K)) ∧
              (¬ (r_4 = r_8) →
                ∀ x_11 : Int, x_11 = w32 (x4 + 1) →
                ∀ x_12 : Int, x_12 = w32 (x5 + 1) →
                zG E mX9_chosen (d + 1) 41 [zR 0, zU, zI x2, zI x3, zI x_11, zI x_12, zU, zU] [] h_8 (qI K)))))) ∧
        (¬ (r_5 ≠ (-1)) →
          ∀ x_13 : Int, x_13 = w32 (x5 + 1) →
          zG E mX9_chosen (d + 1) 41 [zR 0, zU, zI x2, zI x3, zI x4, zI x_13, zU, zU] [] h_5 (qI K)))))))) :
  zG E mX9_chosen (d + 1) 41 [zR 0, zU, zI x2, zI x3, zI x4, zI x5, zU, zU] [] h (qI K) := by
  refine z_iload dX9_chosen_41 rfl ?_
  refine z_bipush dX9_chosen_43 (r32d rfl) (by decide) ?_
  refine z_icmp_ge (tgt := 129) dX9_chosen_45 (by decide) (fun c_1 => ?_) (fun c_1 => ?_)
  · have hyp := hyp.1 c_1
    refine z_iload_n dX9_chosen_129 rfl ?_
    refine z_if_ne (tgt := 144) dX9_chosen_130 (by decide) (fun c_2 => ?_) (fun c_2 => ?_)
    · have hyp := hyp.1 c_2
      refine z_iload dX9_chosen_144 rfl ?_
      exact z_iret dX9_chosen_146 rfl ⟨_, rfl, hyp⟩
    · have hyp := hyp.2 c_2
      refine z_aload_n dX9_chosen_133 rfl ?_
      refine gf_X9_64 (c2 := 76) dX9_chosen_134 rfl (sC_0 hE) (cC_0 hE) rfl ?_
      refine z_iload_n dX9_chosen_137 rfl ?_
      refine cl_X9_248 dX9_chosen_138 rfl (sC_76 hE) (cC_76 hE) (Nat.le_of_ble_eq_true rfl) (zC_mono ?_ hyp)
      rintro _ h_3 ⟨r_3, rfl, hyp⟩
      refine ⟨r_3, rfl, ?_⟩
      refine z_goto (tgt := 146) dX9_chosen_141 (by decide) ?_
      exact z_iret dX9_chosen_146 rfl ⟨_, rfl, hyp⟩
  · have hyp := hyp.2 c_1
    refine z_aload_n dX9_chosen_48 rfl ?_
    refine gf_X9_54 (c2 := 52) dX9_chosen_49 rfl (sC_0 hE) (cC_0 hE) rfl ?_
    refine z_iload dX9_chosen_52 rfl ?_
    refine z_aload_n dX9_chosen_54 rfl ?_
    obtain ⟨hdy, hyp⟩ := hyp
    refine gf_X9_27 (c2 := bt) dX9_chosen_55 rfl (sC_0 hE) (cC_0 hE) hdy ?_
    refine gf_X9_197 dX9_chosen_58 rfl ((hbt.2.1)) (Nat.lt_of_le_of_lt (Nat.le_add_right bt 18) hbt.1) ?_
    refine z_iload_n dX9_chosen_61 rfl ?_
    refine cl_X9_272 dX9_chosen_62 rfl (sC_52 hE) (cC_52 hE) (Nat.le_of_ble_eq_true rfl) (zC_mono ?_ hyp)
    rintro _ h_4 ⟨r_4, rfl, hyp⟩
    refine ⟨r_4, rfl, ?_⟩
    refine z_istore dX9_chosen_65 (by decide) rfl ?_
    refine z_aload_n dX9_chosen_67 rfl ?_
    refine gf_X9_54 (c2 := 52) dX9_chosen_68 rfl (sC_0 hE) (cC_0 hE) rfl ?_
    refine z_iload dX9_chosen_71 rfl ?_
    refine z_iload dX9_chosen_73 rfl ?_
    refine cl_X9_176 dX9_chosen_75 rfl (sC_52 hE) (cC_52 hE) (Nat.le_of_ble_eq_true rfl) (zC_mono ?_ hyp)
    rintro _ h_5 ⟨r_5, rfl, hyp⟩
    refine ⟨r_5, rfl, ?_⟩
    refine z_istore dX9_chosen_78 (by decide) rfl ?_
    refine z_iload dX9_chosen_80 rfl ?_
    refine z_iconst dX9_chosen_82 (r32d rfl) ?_
    refine z_icmp_ne (tgt := 89) dX9_chosen_83 (by decide) (fun c_6 => ?_) (fun c_6 => ?_)
    · have hyp := hyp.1 c_6
      refine z_aload_n dX9_chosen_89 rfl ?_
      refine gf_X9_64 (c2 := 76) dX9_chosen_90 rfl (sC_0 hE) (cC_0 hE) rfl ?_
      refine z_aload_n dX9_chosen_93 rfl ?_
      refine gf_X9_54 (c2 := 52) dX9_chosen_94 rfl (sC_0 hE) (cC_0 hE) rfl ?_
      refine gf_X9_179 (c2 := 59) dX9_chosen_97 rfl (sC_52 hE) (cC_52 hE) rfl ?_
      refine z_iload dX9_chosen_100 rfl ?_
      obtain ⟨⟨hi0, hi1⟩, hyp⟩ := hyp
      refine z_iaload dX9_chosen_102 (sC_59 hE) (cC_59 hE) hi0 hi1 ?_
      refine cl_X9_252 dX9_chosen_103 rfl (sC_76 hE) (cC_76 hE) (Nat.le_of_ble_eq_true rfl) (zC_mono ?_ hyp)
      rintro _ h_7 ⟨rfl, hyp⟩
      refine ⟨rfl, ?_⟩
      refine z_iload dX9_chosen_106 rfl ?_
      refine z_aload_n dX9_chosen_108 rfl ?_
      refine gf_X9_54 (c2 := 52) dX9_chosen_109 rfl (sC_0 hE) (cC_0 hE) rfl ?_
      refine z_iload dX9_chosen_112 rfl ?_
      refine cl_X9_191 dX9_chosen_114 rfl (sC_52 hE) (cC_52 hE) (Nat.le_of_ble_eq_true rfl) (zC_mono ?_ hyp)
      rintro _ h_8 ⟨r_8, rfl, hyp⟩
      refine ⟨r_8, rfl, ?_⟩
      refine z_icmp_eq (tgt := 123) dX9_chosen_117 (by decide) (fun c_9 => ?_) (fun c_9 => ?_)
      · have hyp := hyp.1 c_9
        refine z_iinc dX9_chosen_123 rfl (by decide) rfl ?_
        generalize ex_10 : w32 (x5 + 1) = x_10
        have hyp := hyp x_10 ex_10.symm
        refine z_goto (tgt := 41) dX9_chosen_126 (by decide) ?_
        exact z_forget [true, false, true, true, true, true, false, false] rfl hyp
      · have hyp := hyp.2 c_9
        refine z_iinc dX9_chosen_120 rfl (by decide) rfl ?_
        generalize ex_11 : w32 (x4 + 1) = x_11
        have hyp := hyp x_11 ex_11.symm
        refine z_iinc dX9_chosen_123 rfl (by decide) rfl ?_
        generalize ex_12 : w32 (x5 + 1) = x_12
        have hyp := hyp x_12 ex_12.symm
        refine z_goto (tgt := 41) dX9_chosen_126 (by decide) ?_
        exact z_forget [true, false, true, true, true, true, false, false] rfl hyp
    · have hyp := hyp.2 c_6
      refine z_goto (tgt := 123) dX9_chosen_86 (by decide) ?_
      refine z_iinc dX9_chosen_123 rfl (by decide) rfl ?_
      generalize ex_13 : w32 (x5 + 1) = x_13
      have hyp := hyp x_13 ex_13.symm
      refine z_goto (tgt := 41) dX9_chosen_126 (by decide) ?_
      exact z_forget [true, false, true, true, true, true, false, false] rfl hyp
set_option maxRecDepth 20000 in
theorem eX9_chosen {E : zE} (hE : isC E) {bt : Nat} (hbt : isSu E bt) {d : Nat} {x1 x2 : Int} {h : zH} {K : Int → zH → Prop} (hyp :
  zCI E mX9_isUnit d [zI x1] h (fun r_1 h_1 =>
    ((r_1 = 0 →
      K (-1) h_1) ∧
    (¬ (r_1 = 0) →
      zCI E mX9_isBeyond d [zI x2, zI 0, zI 1] h_1 (fun r_3 h_3 =>
        ((r_3 = 0 →
          zCI E mX9_placesOf d [zI x1, zI (h_3 0 8)] h_3 (fun r_5 h_5 =>
            ∀ h_6 : zH, h_6 = hset h_5 76 1 0 →
            zG E mX9_chosen (d + 1) 41 [zR 0, zU, zI x2, zI r_5, zI 0, zI 0, zU, zU] [] h_6 (qI K))) ∧
        (¬ (r_3 = 0) →
          K (-1) h_3))))))) :
  zCI E mX9_chosen (d + 1) [zR 0, zI x1, zI x2] h K := by
  refine zC_in (L0 := [zR 0, zI x1, zI x2, zU, zU, zU, zU, zU]) pn_X9 rfl (Nat.le_of_ble_eq_true rfl) ?_
  refine z_iload_n dX9_chosen_0 rfl ?_
  refine cl_X9_208 dX9_chosen_1 rfl (Nat.le_of_ble_eq_true rfl) (zC_mono ?_ hyp)
  rintro _ h_1 ⟨r_1, rfl, hyp⟩
  refine ⟨r_1, rfl, ?_⟩
  refine z_if_eq (tgt := 16) dX9_chosen_4 (by decide) (fun c_2 => ?_) (fun c_2 => ?_)
  · have hyp := hyp.1 c_2
    refine z_iconst dX9_chosen_16 (r32d rfl) ?_
    exact z_iret dX9_chosen_17 rfl ⟨_, rfl, hyp⟩
  · have hyp := hyp.2 c_2
    refine z_iload_n dX9_chosen_7 rfl ?_
    refine z_iconst dX9_chosen_8 (r32d rfl) ?_
    refine z_iconst dX9_chosen_9 (r32d rfl) ?_
    refine cl_X9_154 dX9_chosen_10 rfl (Nat.le_of_ble_eq_true rfl) (zC_mono ?_ hyp)
    rintro _ h_3 ⟨r_3, rfl, hyp⟩
    refine ⟨r_3, rfl, ?_⟩
    refine z_if_eq (tgt := 18) dX9_chosen_13 (by decide) (fun c_4 => ?_) (fun c_4 => ?_)
    · have hyp := hyp.1 c_4
      refine z_iload_n dX9_chosen_18 rfl ?_
      refine z_aload_n dX9_chosen_19 rfl ?_
      refine gf_X9_47 dX9_chosen_20 rfl (sC_0 hE) (cC_0 hE) ?_
      refine cl_X9_211 dX9_chosen_23 rfl (Nat.le_of_ble_eq_true rfl) (zC_mono ?_ hyp)
      rintro _ h_5 ⟨r_5, rfl, hyp⟩
      refine ⟨r_5, rfl, ?_⟩
      refine z_istore_n dX9_chosen_26 rfl (by decide) rfl ?_
      refine z_iconst dX9_chosen_27 (r32d rfl) ?_
      refine z_istore dX9_chosen_28 (by decide) rfl ?_
      refine z_aload_n dX9_chosen_30 rfl ?_
      refine gf_X9_64 (c2 := 76) dX9_chosen_31 rfl (sC_0 hE) (cC_0 hE) rfl ?_
      refine z_iconst dX9_chosen_34 (r32d rfl) ?_
      refine pf_X9_251 dX9_chosen_35 rfl (sC_76 hE) (cC_76 hE) ?_
      generalize eh_6 : hset h_5 76 1 _ = h_6
      have hyp := hyp h_6 eh_6.symm
      refine z_iconst dX9_chosen_38 (r32d rfl) ?_
      refine z_istore dX9_chosen_39 (by decide) rfl ?_
      exact z_forget [true, false, true, true, true, true, false, false] rfl hyp
    · have hyp := hyp.2 c_4
      refine z_iconst dX9_chosen_16 (r32d rfl) ?_
      exact z_iret dX9_chosen_17 rfl ⟨_, rfl, hyp⟩
set_option maxRecDepth 20000 in
theorem eX9_count {E : zE} (hE : isC E) {bt : Nat} (hbt : isSu E bt) {d : Nat} {x1 : Int} {h : zH} {K : Int → zH → Prop} (hyp :
  ((x1 = 0) →
      (h 0 3 = (bt : Nat)) ∧
      K (h (bt + 1) 1) h) ∧
  ((x1 = 1) →
      (h 0 3 = (bt : Nat)) ∧
      K (h (bt + 3) 1) h) ∧
  ((x1 = 2) →
      (h 0 3 = (bt : Nat)) ∧
      K (h (bt + 5) 1) h) ∧
  ((x1 = 3) →
      (h 0 3 = (bt : Nat)) ∧
      K (h bt 9) h) ∧
  ((x1 = 4) →
      (h 0 3 = (bt : Nat)) ∧
      K (h (bt + 7) 1) h) ∧
  ((x1 = 5) →
      K (h 46 5) h) ∧
  ((x1 = 6) →
      zCI E mX9_notesKnown d [zR 0] h (fun r_8 h_8 =>
        K r_8 h_8)) ∧
  ((x1 = 7) →
      (h 0 3 = (bt : Nat)) ∧
      K (h (bt + 14) 4) h) ∧
  ((x1 = 8) →
      (h 0 3 = (bt : Nat)) ∧
      K (h bt 14) h) ∧
  ((x1 = 9) →
      (h 0 3 = (bt : Nat)) ∧
      K (h bt 15) h) ∧
  ((x1 = 10) →
      (h 0 3 = (bt : Nat)) ∧
      K (h bt 16) h) ∧
  ((x1 = 11) →
      K (h 0 7) h) ∧
  ((x1 = 12) →
      (((h 0 8) = 0 →
        K 0 h) ∧
      (¬ ((h 0 8) = 0) →
        K 1 h))) ∧
  ((x1 = 13) →
      zCI E mX0_fittedRings d [zR 52] h (fun r_17 h_17 =>
        K r_17 h_17)) ∧
  ((x1 ≠ 0 ∧ x1 ≠ 1 ∧ x1 ≠ 2 ∧ x1 ≠ 3 ∧ x1 ≠ 4 ∧ x1 ≠ 5 ∧ x1 ≠ 6 ∧ x1 ≠ 7 ∧ x1 ≠ 8 ∧ x1 ≠ 9 ∧ x1 ≠ 10 ∧ x1 ≠ 11 ∧ x1 ≠ 12 ∧ x1 ≠ 13) →
    K (-1) h)) :
  zCI E mX9_count (d + 1) [zR 0, zI x1] h K := by
  refine zC_in (L0 := [zR 0, zI x1]) pn_X9 rfl (Nat.le_of_ble_eq_true rfl) ?_
  refine z_iload_n dX9_count_0 rfl ?_
  have hgo : (x1 ≠ 0 ∧ x1 ≠ 1 ∧ x1 ≠ 2 ∧ x1 ≠ 3 ∧ x1 ≠ 4 ∧ x1 ≠ 5 ∧ x1 ≠ 6 ∧ x1 ≠ 7 ∧ x1 ≠ 8 ∧ x1 ≠ 9 ∧ x1 ≠ 10 ∧ x1 ≠ 11 ∧ x1 ≠ 12 ∧ x1 ≠ 13) → zG E mX9_count (d + 1) 198 [zR 0, zI x1] [] h (qI K) := by
    intro hcc
    have hyp := hyp.2.2.2.2.2.2.2.2.2.2.2.2.2.2 hcc
    refine z_iconst dX9_count_198 (r32d rfl) ?_
    exact z_iret dX9_count_199 rfl ⟨_, rfl, hyp⟩
  by_cases cr : x1 < 0 ∨ 13 < x1
  · exact z_tsOut (tgt := 198) dX9_count_1 cr (by decide) (hgo ⟨tsne cr (by decide) (by decide), tsne cr (by decide) (by decide), tsne cr (by decide) (by decide), tsne cr (by decide) (by decide), tsne cr (by decide) (by decide), tsne cr (by decide) (by decide), tsne cr (by decide) (by decide), tsne cr (by decide) (by decide), tsne cr (by decide) (by decide), tsne cr (by decide) (by decide), tsne cr (by decide) (by decide), tsne cr (by decide) (by decide), tsne cr (by decide) (by decide), tsne cr (by decide) (by decide)⟩)
  by_cases c_1 : x1 = 0
  · have hyp := hyp.1 c_1
    have hgo : zG E mX9_count (d + 1) 72 [zR 0, zI x1] [] h (qI K) := by
      refine z_aload_n dX9_count_72 rfl ?_
      obtain ⟨hdy, hyp⟩ := hyp
      refine gf_X9_27 (c2 := bt) dX9_count_73 rfl (sC_0 hE) (cC_0 hE) hdy ?_
      refine gf_X9_98 (c2 := (bt + 1)) dX9_count_76 rfl ((hbt.2.1)) (Nat.lt_of_le_of_lt (Nat.le_add_right bt 18) hbt.1) rfl ?_
      refine gf_X9_279 dX9_count_79 rfl (((hbt.2.2.1).2.1)) (Nat.lt_of_le_of_lt (Nat.add_le_add_left (Nat.le_of_ble_eq_true rfl : 1 ≤ 18) bt) hbt.1) ?_
      exact z_iret dX9_count_82 rfl ⟨_, rfl, hyp⟩
    exact z_tsIn (i := 0) (tgt := 72) dX9_count_1 (c_1.trans (by decide)) (by decide) rfl (by decide) hgo
  by_cases c_2 : x1 = 1
  · have hyp := hyp.2.1 c_2
    have hgo : zG E mX9_count (d + 1) 83 [zR 0, zI x1] [] h (qI K) := by
      refine z_aload_n dX9_count_83 rfl ?_
      obtain ⟨hdy, hyp⟩ := hyp
      refine gf_X9_27 (c2 := bt) dX9_count_84 rfl (sC_0 hE) (cC_0 hE) hdy ?_
      refine gf_X9_108 (c2 := (bt + 3)) dX9_count_87 rfl ((hbt.2.1)) (Nat.lt_of_le_of_lt (Nat.le_add_right bt 18) hbt.1) rfl ?_
      refine gf_X9_279 dX9_count_90 rfl (((hbt.2.2.2.1).2.1)) (Nat.lt_of_le_of_lt (Nat.add_le_add_left (Nat.le_of_ble_eq_true rfl : 3 ≤ 18) bt) hbt.1) ?_
      exact z_iret dX9_count_93 rfl ⟨_, rfl, hyp⟩
    exact z_tsIn (i := 1) (tgt := 83) dX9_count_1 (c_2.trans (by decide)) (by decide) rfl (by decide) hgo
  by_cases c_3 : x1 = 2
  · have hyp := hyp.2.2.1 c_3
    have hgo : zG E mX9_count (d + 1) 94 [zR 0, zI x1] [] h (qI K) := by
      refine z_aload_n dX9_count_94 rfl ?_
      obtain ⟨hdy, hyp⟩ := hyp
      refine gf_X9_27 (c2 := bt) dX9_count_95 rfl (sC_0 hE) (cC_0 hE) hdy ?_
      refine gf_X9_111 (c2 := (bt + 5)) dX9_count_98 rfl ((hbt.2.1)) (Nat.lt_of_le_of_lt (Nat.le_add_right bt 18) hbt.1) rfl ?_
      refine gf_X9_279 dX9_count_101 rfl (((hbt.2.2.2.2.1).2.1)) (Nat.lt_of_le_of_lt (Nat.add_le_add_left (Nat.le_of_ble_eq_true rfl : 5 ≤ 18) bt) hbt.1) ?_
      exact z_iret dX9_count_104 rfl ⟨_, rfl, hyp⟩
    exact z_tsIn (i := 2) (tgt := 94) dX9_count_1 (c_3.trans (by decide)) (by decide) rfl (by decide) hgo
  by_cases c_4 : x1 = 3
  · have hyp := hyp.2.2.2.1 c_4
    have hgo : zG E mX9_count (d + 1) 105 [zR 0, zI x1] [] h (qI K) := by
      refine z_aload_n dX9_count_105 rfl ?_
      obtain ⟨hdy, hyp⟩ := hyp
      refine gf_X9_27 (c2 := bt) dX9_count_106 rfl (sC_0 hE) (cC_0 hE) hdy ?_
      refine gf_X9_328 dX9_count_109 rfl ((hbt.2.1)) (Nat.lt_of_le_of_lt (Nat.le_add_right bt 18) hbt.1) ?_
      exact z_iret dX9_count_112 rfl ⟨_, rfl, hyp⟩
    exact z_tsIn (i := 3) (tgt := 105) dX9_count_1 (c_4.trans (by decide)) (by decide) rfl (by decide) hgo
  by_cases c_5 : x1 = 4
  · have hyp := hyp.2.2.2.2.1 c_5
    have hgo : zG E mX9_count (d + 1) 113 [zR 0, zI x1] [] h (qI K) := by
      refine z_aload_n dX9_count_113 rfl ?_
      obtain ⟨hdy, hyp⟩ := hyp
      refine gf_X9_27 (c2 := bt) dX9_count_114 rfl (sC_0 hE) (cC_0 hE) hdy ?_
      refine gf_X9_114 (c2 := (bt + 7)) dX9_count_117 rfl ((hbt.2.1)) (Nat.lt_of_le_of_lt (Nat.le_add_right bt 18) hbt.1) rfl ?_
      refine gf_X9_279 dX9_count_120 rfl (((hbt.2.2.2.2.2.1).2.1)) (Nat.lt_of_le_of_lt (Nat.add_le_add_left (Nat.le_of_ble_eq_true rfl : 7 ≤ 18) bt) hbt.1) ?_
      exact z_iret dX9_count_123 rfl ⟨_, rfl, hyp⟩
    exact z_tsIn (i := 4) (tgt := 113) dX9_count_1 (c_5.trans (by decide)) (by decide) rfl (by decide) hgo
  by_cases c_6 : x1 = 5
  · have hyp := hyp.2.2.2.2.2.1 c_6
    have hgo : zG E mX9_count (d + 1) 124 [zR 0, zI x1] [] h (qI K) := by
      refine z_aload_n dX9_count_124 rfl ?_
      refine gf_X9_37 (c2 := 46) dX9_count_125 rfl (sC_0 hE) (cC_0 hE) rfl ?_
      refine gf_X9_83 dX9_count_128 rfl (sC_46 hE) (cC_46 hE) ?_
      exact z_iret dX9_count_131 rfl ⟨_, rfl, hyp⟩
    exact z_tsIn (i := 5) (tgt := 124) dX9_count_1 (c_6.trans (by decide)) (by decide) rfl (by decide) hgo
  by_cases c_7 : x1 = 6
  · have hyp := hyp.2.2.2.2.2.2.1 c_7
    have hgo : zG E mX9_count (d + 1) 132 [zR 0, zI x1] [] h (qI K) := by
      refine z_aload_n dX9_count_132 rfl ?_
      refine cl_X9_165 dX9_count_133 rfl (sC_0 hE) (cC_0 hE) (Nat.le_of_ble_eq_true rfl) (zC_mono ?_ hyp)
      rintro _ h_8 ⟨r_8, rfl, hyp⟩
      refine ⟨r_8, rfl, ?_⟩
      exact z_iret dX9_count_136 rfl ⟨_, rfl, hyp⟩
    exact z_tsIn (i := 6) (tgt := 132) dX9_count_1 (c_7.trans (by decide)) (by decide) rfl (by decide) hgo
  by_cases c_9 : x1 = 7
  · have hyp := hyp.2.2.2.2.2.2.2.1 c_9
    have hgo : zG E mX9_count (d + 1) 137 [zR 0, zI x1] [] h (qI K) := by
      refine z_aload_n dX9_count_137 rfl ?_
      obtain ⟨hdy, hyp⟩ := hyp
      refine gf_X9_27 (c2 := bt) dX9_count_138 rfl (sC_0 hE) (cC_0 hE) hdy ?_
      refine gf_X9_234 (c2 := (bt + 14)) dX9_count_141 rfl ((hbt.2.1)) (Nat.lt_of_le_of_lt (Nat.le_add_right bt 18) hbt.1) rfl ?_
      refine gf_X9_334 dX9_count_144 rfl (((hbt.2.2.2.2.2.2.2.2.2.2.2).2.1)) (Nat.lt_of_le_of_lt (Nat.add_le_add_left (Nat.le_of_ble_eq_true rfl : 14 ≤ 18) bt) hbt.1) ?_
      exact z_iret dX9_count_147 rfl ⟨_, rfl, hyp⟩
    exact z_tsIn (i := 7) (tgt := 137) dX9_count_1 (c_9.trans (by decide)) (by decide) rfl (by decide) hgo
  by_cases c_10 : x1 = 8
  · have hyp := hyp.2.2.2.2.2.2.2.2.1 c_10
    have hgo : zG E mX9_count (d + 1) 148 [zR 0, zI x1] [] h (qI K) := by
      refine z_aload_n dX9_count_148 rfl ?_
      obtain ⟨hdy, hyp⟩ := hyp
      refine gf_X9_27 (c2 := bt) dX9_count_149 rfl (sC_0 hE) (cC_0 hE) hdy ?_
      refine gf_X9_337 dX9_count_152 rfl ((hbt.2.1)) (Nat.lt_of_le_of_lt (Nat.le_add_right bt 18) hbt.1) ?_
      exact z_iret dX9_count_155 rfl ⟨_, rfl, hyp⟩
    exact z_tsIn (i := 8) (tgt := 148) dX9_count_1 (c_10.trans (by decide)) (by decide) rfl (by decide) hgo
  by_cases c_11 : x1 = 9
  · have hyp := hyp.2.2.2.2.2.2.2.2.2.1 c_11
    have hgo : zG E mX9_count (d + 1) 156 [zR 0, zI x1] [] h (qI K) := by
      refine z_aload_n dX9_count_156 rfl ?_
      obtain ⟨hdy, hyp⟩ := hyp
      refine gf_X9_27 (c2 := bt) dX9_count_157 rfl (sC_0 hE) (cC_0 hE) hdy ?_
      refine gf_X9_340 dX9_count_160 rfl ((hbt.2.1)) (Nat.lt_of_le_of_lt (Nat.le_add_right bt 18) hbt.1) ?_
      exact z_iret dX9_count_163 rfl ⟨_, rfl, hyp⟩
    exact z_tsIn (i := 9) (tgt := 156) dX9_count_1 (c_11.trans (by decide)) (by decide) rfl (by decide) hgo
  by_cases c_12 : x1 = 10
  · have hyp := hyp.2.2.2.2.2.2.2.2.2.2.1 c_12
    have hgo : zG E mX9_count (d + 1) 164 [zR 0, zI x1] [] h (qI K) := by
      refine z_aload_n dX9_count_164 rfl ?_
      obtain ⟨hdy, hyp⟩ := hyp
      refine gf_X9_27 (c2 := bt) dX9_count_165 rfl (sC_0 hE) (cC_0 hE) hdy ?_
      refine gf_X9_197 dX9_count_168 rfl ((hbt.2.1)) (Nat.lt_of_le_of_lt (Nat.le_add_right bt 18) hbt.1) ?_
      exact z_iret dX9_count_171 rfl ⟨_, rfl, hyp⟩
    exact z_tsIn (i := 10) (tgt := 164) dX9_count_1 (c_12.trans (by decide)) (by decide) rfl (by decide) hgo
  by_cases c_13 : x1 = 11
  · have hyp := hyp.2.2.2.2.2.2.2.2.2.2.2.1 c_13
    have hgo : zG E mX9_count (d + 1) 172 [zR 0, zI x1] [] h (qI K) := by
      refine z_aload_n dX9_count_172 rfl ?_
      refine gf_X9_44 dX9_count_173 rfl (sC_0 hE) (cC_0 hE) ?_
      exact z_iret dX9_count_176 rfl ⟨_, rfl, hyp⟩
    exact z_tsIn (i := 11) (tgt := 172) dX9_count_1 (c_13.trans (by decide)) (by decide) rfl (by decide) hgo
  by_cases c_14 : x1 = 12
  · have hyp := hyp.2.2.2.2.2.2.2.2.2.2.2.2.1 c_14
    have hgo : zG E mX9_count (d + 1) 177 [zR 0, zI x1] [] h (qI K) := by
      refine z_aload_n dX9_count_177 rfl ?_
      refine gf_X9_47 dX9_count_178 rfl (sC_0 hE) (cC_0 hE) ?_
      refine z_if_eq (tgt := 188) dX9_count_181 (by decide) (fun c_15 => ?_) (fun c_15 => ?_)
      · have hyp := hyp.1 c_15
        refine z_iconst dX9_count_188 (r32d rfl) ?_
        exact z_iret dX9_count_189 rfl ⟨_, rfl, hyp⟩
      · have hyp := hyp.2 c_15
        refine z_iconst dX9_count_184 (r32d rfl) ?_
        refine z_goto (tgt := 189) dX9_count_185 (by decide) ?_
        exact z_iret dX9_count_189 rfl ⟨_, rfl, hyp⟩
    exact z_tsIn (i := 12) (tgt := 177) dX9_count_1 (c_14.trans (by decide)) (by decide) rfl (by decide) hgo
  by_cases c_16 : x1 = 13
  · have hyp := hyp.2.2.2.2.2.2.2.2.2.2.2.2.2.1 c_16
    have hgo : zG E mX9_count (d + 1) 190 [zR 0, zI x1] [] h (qI K) := by
      refine z_aload_n dX9_count_190 rfl ?_
      refine gf_X9_54 (c2 := 52) dX9_count_191 rfl (sC_0 hE) (cC_0 hE) rfl ?_
      refine cl_X9_254 dX9_count_194 rfl (sC_52 hE) (cC_52 hE) (Nat.le_of_ble_eq_true rfl) (zC_mono ?_ hyp)
      rintro _ h_17 ⟨r_17, rfl, hyp⟩
      refine ⟨r_17, rfl, ?_⟩
      exact z_iret dX9_count_197 rfl ⟨_, rfl, hyp⟩
    exact z_tsIn (i := 13) (tgt := 190) dX9_count_1 (c_16.trans (by decide)) (by decide) rfl (by decide) hgo
  exact absurd (tsbs (tsbs (tsbs (tsbs (tsbs (tsbs (tsbs (tsbs (tsbs (tsbs (tsbs (tsbs (tsbs (tsbs (tsb1 cr) c_1) c_2) c_3) c_4) c_5) c_6) c_7) c_9) c_10) c_11) c_12) c_13) c_14) c_16) (tsb2 cr)
set_option maxRecDepth 20000 in
theorem bX9_countTapedSince_5 {E : zE} (hE : isC E) {d : Nat} {x1 x2 x3 x4 : Int} {h : zH} {K : Int → zH → Prop} (hyp :
  ((8 ≤ x4 →
    K x3 h) ∧
  (¬ (8 ≤ x4) →
    zCI E mX0_isFitted d [zR 52, zI x4] h (fun r_2 h_2 =>
      ((r_2 = 0 →
        ∀ x_4 : Int, x_4 = w32 (x4 + 1) →
        zG E mX9_countTapedSince (d + 1) 5 [zR 0, zI x1, zI x2, zI x3, zI x_4] [] h_2 (qI K)) ∧
      (¬ (r_2 = 0) →
        zCI E mX9_sizeThen d [zR 0, zI x4] h_2 (fun r_5 h_5 =>
          zCI E mX0_bestSize d [zR 52, zI x4] h_5 (fun r_6 h_6 =>
            ((r_5 ≠ r_6 →
              ((x2 = 0 →
                ∀ x_9 : Int, x_9 = w32 (x3 + 1) →
                ∀ x_10 : Int, x_10 = w32 (x4 + 1) →
                zG E mX9_countTapedSince (d + 1) 5 [zR 0, zI x1, zI x2, zI x_9, zI x_10] [] h_6 (qI K)) ∧
              (¬ (x2 = 0) →
                zCI E mX9_isNearBy d [zR 0, zI x4, zI x1] h_6 (fun r_11 h_11 =>
                  ((r_11 = 0 →
                    ∀ x_13 : Int, x_13 = w32 (x4 + 1) →
                    zG E mX9_countTapedSince (d + 1) 5 [zR 0, zI x1, zI x2, zI x3, zI x_13] [] h_11 (qI K)) ∧
                  (¬ (r_11 = 0) →
                    ∀ x_14 : Int, x_14 = w32 (x3 + 1) →
                    ∀ x_15 : Int, x_15 = w32 (x4 + 1) →
                    zG E mX9_countTapedSince (d + 1) 5 [zR 0, zI x1, zI x2, zI x_14, zI x_15] [] h_11 (qI K))))))) ∧
            (¬ (r_5 ≠ r_6) →
              ∀ x_16 : Int, x_16 = w32 (x4 + 1) →
              zG E mX9_countTapedSince (d + 1) 5 [zR 0, zI x1, zI x2, zI x3, zI x_16] [] h_6 (qI K))))))))))) :
  zG E mX9_countTapedSince (d + 1) 5 [zR 0, zI x1, zI x2, zI x3, zI x4] [] h (qI K) := by
  refine z_iload dX9_countTapedSince_5 rfl ?_
  refine z_bipush dX9_countTapedSince_7 (r32d rfl) (by decide) ?_
  refine z_icmp_ge (tgt := 68) dX9_countTapedSince_9 (by decide) (fun c_1 => ?_) (fun c_1 => ?_)
  · have hyp := hyp.1 c_1
    refine z_iload_n dX9_countTapedSince_68 rfl ?_
    exact z_iret dX9_countTapedSince_69 rfl ⟨_, rfl, hyp⟩
  · have hyp := hyp.2 c_1
    refine z_aload_n dX9_countTapedSince_12 rfl ?_
    refine gf_X9_54 (c2 := 52) dX9_countTapedSince_13 rfl (sC_0 hE) (cC_0 hE) rfl ?_
    refine z_iload dX9_countTapedSince_16 rfl ?_
    refine cl_X9_194 dX9_countTapedSince_18 rfl (sC_52 hE) (cC_52 hE) (Nat.le_of_ble_eq_true rfl) (zC_mono ?_ hyp)
    rintro _ h_2 ⟨r_2, rfl, hyp⟩
    refine ⟨r_2, rfl, ?_⟩
    refine z_if_eq (tgt := 62) dX9_countTapedSince_21 (by decide) (fun c_3 => ?_) (fun c_3 => ?_)
    · have hyp := hyp.1 c_3
      refine z_iinc dX9_countTapedSince_62 rfl (by decide) rfl ?_
      generalize ex_4 : w32 (x4 + 1) = x_4
      have hyp := hyp x_4 ex_4.symm
      refine z_goto (tgt := 5) dX9_countTapedSince_65 (by decide) ?_
      exact hyp
    · have hyp := hyp.2 c_3
      refine z_aload_n dX9_countTapedSince_24 rfl ?_
      refine z_iload dX9_countTapedSince_25 rfl ?_
      refine cl_X9_308 dX9_countTapedSince_27 rfl (sC_0 hE) (cC_0 hE) (Nat.le_of_ble_eq_true rfl) (zC_mono ?_ hyp)
      rintro _ h_5 ⟨r_5, rfl, hyp⟩
      refine ⟨r_5, rfl, ?_⟩
      refine z_aload_n dX9_countTapedSince_30 rfl ?_
      refine gf_X9_54 (c2 := 52) dX9_countTapedSince_31 rfl (sC_0 hE) (cC_0 hE) rfl ?_
      refine z_iload dX9_countTapedSince_34 rfl ?_
      refine cl_X9_224 dX9_countTapedSince_36 rfl (sC_52 hE) (cC_52 hE) (Nat.le_of_ble_eq_true rfl) (zC_mono ?_ hyp)
      rintro _ h_6 ⟨r_6, rfl, hyp⟩
      refine ⟨r_6, rfl, ?_⟩
      refine z_icmp_ne (tgt := 45) dX9_countTapedSince_39 (by decide) (fun c_7 => ?_) (fun c_7 => ?_)
      · have hyp := hyp.1 c_7
        refine z_iload_n dX9_countTapedSince_45 rfl ?_
        refine z_if_eq (tgt := 59) dX9_countTapedSince_46 (by decide) (fun c_8 => ?_) (fun c_8 => ?_)
        · have hyp := hyp.1 c_8
          refine z_iinc dX9_countTapedSince_59 rfl (by decide) rfl ?_
          generalize ex_9 : w32 (x3 + 1) = x_9
          have hyp := hyp x_9 ex_9.symm
          refine z_iinc dX9_countTapedSince_62 rfl (by decide) rfl ?_
          generalize ex_10 : w32 (x4 + 1) = x_10
          have hyp := hyp x_10 ex_10.symm
          refine z_goto (tgt := 5) dX9_countTapedSince_65 (by decide) ?_
          exact hyp
        · have hyp := hyp.2 c_8
          refine z_aload_n dX9_countTapedSince_49 rfl ?_
          refine z_iload dX9_countTapedSince_50 rfl ?_
          refine z_iload_n dX9_countTapedSince_52 rfl ?_
          refine cl_X9_221 dX9_countTapedSince_53 rfl (sC_0 hE) (cC_0 hE) (Nat.le_of_ble_eq_true rfl) (zC_mono ?_ hyp)
          rintro _ h_11 ⟨r_11, rfl, hyp⟩
          refine ⟨r_11, rfl, ?_⟩
          refine z_if_eq (tgt := 62) dX9_countTapedSince_56 (by decide) (fun c_12 => ?_) (fun c_12 => ?_)
          · have hyp := hyp.1 c_12
            refine z_iinc dX9_countTapedSince_62 rfl (by decide) rfl ?_
            generalize ex_13 : w32 (x4 + 1) = x_13
            have hyp := hyp x_13 ex_13.symm
            refine z_goto (tgt := 5) dX9_countTapedSince_65 (by decide) ?_
            exact hyp
          · have hyp := hyp.2 c_12
            refine z_iinc dX9_countTapedSince_59 rfl (by decide) rfl ?_
            generalize ex_14 : w32 (x3 + 1) = x_14
            have hyp := hyp x_14 ex_14.symm
            refine z_iinc dX9_countTapedSince_62 rfl (by decide) rfl ?_
            generalize ex_15 : w32 (x4 + 1) = x_15
            have hyp := hyp x_15 ex_15.symm
            refine z_goto (tgt := 5) dX9_countTapedSince_65 (by decide) ?_
            exact hyp
      · have hyp := hyp.2 c_7
        refine z_goto (tgt := 62) dX9_countTapedSince_42 (by decide) ?_
        refine z_iinc dX9_countTapedSince_62 rfl (by decide) rfl ?_
        generalize ex_16 : w32 (x4 + 1) = x_16
        have hyp := hyp x_16 ex_16.symm
        refine z_goto (tgt := 5) dX9_countTapedSince_65 (by decide) ?_
        exact hyp
set_option maxRecDepth 20000 in
theorem eX9_countTapedSince {E : zE} (hE : isC E) {d : Nat} {x1 x2 : Int} {h : zH} {K : Int → zH → Prop} (hyp :
  zG E mX9_countTapedSince (d + 1) 5 [zR 0, zI x1, zI x2, zI 0, zI 0] [] h (qI K)) :
  zCI E mX9_countTapedSince (d + 1) [zR 0, zI x1, zI x2] h K := by
  refine zC_in (L0 := [zR 0, zI x1, zI x2, zU, zU]) pn_X9 rfl (Nat.le_of_ble_eq_true rfl) ?_
  refine z_iconst dX9_countTapedSince_0 (r32d rfl) ?_
  refine z_istore_n dX9_countTapedSince_1 rfl (by decide) rfl ?_
  refine z_iconst dX9_countTapedSince_2 (r32d rfl) ?_
  refine z_istore dX9_countTapedSince_3 (by decide) rfl ?_
  exact hyp
set_option maxRecDepth 20000 in
theorem eX9_fault {E : zE} (hE : isC E) {d : Nat} {x1 : Int} {h : zH} {K : Int → zH → Prop} (hyp :
  ((x1 = 0) →
      K (h 2 2) h) ∧
  ((x1 = 1) →
      K (h 2 3) h) ∧
  ((x1 ≠ 0 ∧ x1 ≠ 1) →
    K (-1) h)) :
  zCI E mX9_fault d [zR 0, zI x1] h K := by
  refine zC_in (L0 := [zR 0, zI x1]) pn_X9 rfl (Nat.le_of_ble_eq_true rfl) ?_
  refine z_iload_n dX9_fault_0 rfl ?_
  have hgo : (x1 ≠ 0 ∧ x1 ≠ 1) → zG E mX9_fault d 44 [zR 0, zI x1] [] h (qI K) := by
    intro hcc
    have hyp := hyp.2.2 hcc
    refine z_iconst dX9_fault_44 (r32d rfl) ?_
    exact z_iret dX9_fault_45 rfl ⟨_, rfl, hyp⟩
  by_cases c_1 : x1 = 0
  · have hyp := hyp.1 c_1
    have hgo : zG E mX9_fault d 28 [zR 0, zI x1] [] h (qI K) := by
      refine z_aload_n dX9_fault_28 rfl ?_
      refine gf_X9_20 (c2 := 2) dX9_fault_29 rfl (sC_0 hE) (cC_0 hE) rfl ?_
      refine gf_X9_92 dX9_fault_32 rfl (sC_2 hE) (cC_2 hE) ?_
      exact z_iret dX9_fault_35 rfl ⟨_, rfl, hyp⟩
    exact z_lsw (off := 27) (tgt := 28) dX9_fault_1 (by decide) (by rw [c_1] <;> rfl) (by decide) hgo
  by_cases c_2 : x1 = 1
  · have hyp := hyp.2.1 c_2
    have hgo : zG E mX9_fault d 36 [zR 0, zI x1] [] h (qI K) := by
      refine z_aload_n dX9_fault_36 rfl ?_
      refine gf_X9_20 (c2 := 2) dX9_fault_37 rfl (sC_0 hE) (cC_0 hE) rfl ?_
      refine gf_X9_95 dX9_fault_40 rfl (sC_2 hE) (cC_2 hE) ?_
      exact z_iret dX9_fault_43 rfl ⟨_, rfl, hyp⟩
    exact z_lsw (off := 35) (tgt := 36) dX9_fault_1 (by decide) (by rw [c_2] <;> rfl) (by decide) hgo
  have z_3 : ¬ 0 = x1 := fun q => c_1 q.symm
  have z_4 : ¬ 1 = x1 := fun q => c_2 q.symm
  exact z_lsw (off := 43) (tgt := 44) dX9_fault_1 (by decide) (by simp [Op.lookupswitch.offset, z_3, z_4]) (by decide) (hgo ⟨c_1, c_2⟩)
set_option maxRecDepth 20000 in
theorem eX9_feed {E : zE} (hE : isC E) {d : Nat} {x1 x2 x3 x4 x5 : Int} {h : zH} {K : Int → zH → Prop} (hyp :
  (((h 0 1) < 0 →
    K (-1) h) ∧
  (¬ ((h 0 1) < 0) →
    (((w32 ((h 0 1) + 20)) ≤ 900 →
      zCV E mX9_putFourBytes d [zR 0, zI x1] h (fun h_3 =>
        zCV E mX9_putFourBytes d [zR 0, zI x2] h_3 (fun h_4 =>
          zCV E mX9_putFourBytes d [zR 0, zI x3] h_4 (fun h_5 =>
            zCV E mX9_putFourBytes d [zR 0, zI x4] h_5 (fun h_6 =>
              zCV E mX9_putFourBytes d [zR 0, zI x5] h_6 (fun h_7 =>
                K (h_7 0 1) h_7)))))) ∧
    (¬ ((w32 ((h 0 1) + 20)) ≤ 900) →
      K (-1) h))))) :
  zCI E mX9_feed (d + 1) [zR 0, zI x1, zI x2, zI x3, zI x4, zI x5] h K := by
  refine zC_in (L0 := [zR 0, zI x1, zI x2, zI x3, zI x4, zI x5]) pn_X9 rfl (Nat.le_of_ble_eq_true rfl) ?_
  refine z_aload_n dX9_feed_0 rfl ?_
  refine gf_X9_13 dX9_feed_1 rfl (sC_0 hE) (cC_0 hE) ?_
  refine z_if_lt (tgt := 20) dX9_feed_4 (by decide) (fun c_1 => ?_) (fun c_1 => ?_)
  · have hyp := hyp.1 c_1
    refine z_iconst dX9_feed_20 (r32d rfl) ?_
    exact z_iret dX9_feed_21 rfl ⟨_, rfl, hyp⟩
  · have hyp := hyp.2 c_1
    refine z_aload_n dX9_feed_7 rfl ?_
    refine gf_X9_13 dX9_feed_8 rfl (sC_0 hE) (cC_0 hE) ?_
    refine z_bipush dX9_feed_11 (r32d rfl) (by decide) ?_
    refine z_iadd dX9_feed_13 ?_
    refine z_sipush dX9_feed_14 (r32d rfl) (by decide) ?_
    refine z_icmp_le (tgt := 22) dX9_feed_17 (by decide) (fun c_2 => ?_) (fun c_2 => ?_)
    · have hyp := hyp.1 c_2
      refine z_aload_n dX9_feed_22 rfl ?_
      refine z_iload_n dX9_feed_23 rfl ?_
      refine cl_X9_75 dX9_feed_24 rfl (sC_0 hE) (cC_0 hE) (Nat.le_of_ble_eq_true rfl) (zC_mono ?_ hyp)
      rintro _ h_3 ⟨rfl, hyp⟩
      refine ⟨rfl, ?_⟩
      refine z_aload_n dX9_feed_27 rfl ?_
      refine z_iload_n dX9_feed_28 rfl ?_
      refine cl_X9_75 dX9_feed_29 rfl (sC_0 hE) (cC_0 hE) (Nat.le_of_ble_eq_true rfl) (zC_mono ?_ hyp)
      rintro _ h_4 ⟨rfl, hyp⟩
      refine ⟨rfl, ?_⟩
      refine z_aload_n dX9_feed_32 rfl ?_
      refine z_iload_n dX9_feed_33 rfl ?_
      refine cl_X9_75 dX9_feed_34 rfl (sC_0 hE) (cC_0 hE) (Nat.le_of_ble_eq_true rfl) (zC_mono ?_ hyp)
      rintro _ h_5 ⟨rfl, hyp⟩
      refine ⟨rfl, ?_⟩
      refine z_aload_n dX9_feed_37 rfl ?_
      refine z_iload dX9_feed_38 rfl ?_
      refine cl_X9_75 dX9_feed_40 rfl (sC_0 hE) (cC_0 hE) (Nat.le_of_ble_eq_true rfl) (zC_mono ?_ hyp)
      rintro _ h_6 ⟨rfl, hyp⟩
      refine ⟨rfl, ?_⟩
      refine z_aload_n dX9_feed_43 rfl ?_
      refine z_iload dX9_feed_44 rfl ?_
      refine cl_X9_75 dX9_feed_46 rfl (sC_0 hE) (cC_0 hE) (Nat.le_of_ble_eq_true rfl) (zC_mono ?_ hyp)
      rintro _ h_7 ⟨rfl, hyp⟩
      refine ⟨rfl, ?_⟩
      refine z_aload_n dX9_feed_49 rfl ?_
      refine gf_X9_13 dX9_feed_50 rfl (sC_0 hE) (cC_0 hE) ?_
      exact z_iret dX9_feed_53 rfl ⟨_, rfl, hyp⟩
    · have hyp := hyp.2 c_2
      refine z_iconst dX9_feed_20 (r32d rfl) ?_
      exact z_iret dX9_feed_21 rfl ⟨_, rfl, hyp⟩
set_option maxRecDepth 20000 in
theorem eX9_fit {E : zE} (hE : isC E) {d : Nat} {x1 x2 x3 x4 : Int} {h : zH} {K : Int → zH → Prop} (hyp :
  zCI E mX9_isBeyond d [zI x2, zI 0, zI 2] h (fun r_1 h_1 =>
    ((r_1 ≠ 0 →
      K (-2147483648) h_1) ∧
    (¬ (r_1 ≠ 0) →
      zCI E mX9_isBeyond d [zI x3, zI 0, zI 3] h_1 (fun r_3 h_3 =>
        ((r_3 = 0 →
          zCI E mX0_fitAt d [zR 52, zI x1, zI (w32 ((w32 (x2 * 4)) + x3))] h_3 (fun r_5 h_5 =>
            ((r_5 ≠ (-1) →
              ((x4 = 0) →
                  ((0 : Int) ≤ r_5 ∧ r_5 < (96 : Int)) ∧
                  K (h_5 59 r_5.toNat) h_5) ∧
              ((x4 = 1) →
                  ((0 : Int) ≤ r_5 ∧ r_5 < (96 : Int)) ∧
                  K (h_5 60 r_5.toNat) h_5) ∧
              ((x4 = 2) →
                  ((0 : Int) ≤ r_5 ∧ r_5 < (96 : Int)) ∧
                  K (h_5 61 r_5.toNat) h_5) ∧
              ((x4 = 3) →
                  ((0 : Int) ≤ r_5 ∧ r_5 < (96 : Int)) ∧
                  K (h_5 62 r_5.toNat) h_5) ∧
              ((x4 ≠ 0 ∧ x4 ≠ 1 ∧ x4 ≠ 2 ∧ x4 ≠ 3) →
                K (-2147483648) h_5)) ∧
            (¬ (r_5 ≠ (-1)) →
              K (-2147483648) h_5)))) ∧
        (¬ (r_3 = 0) →
          K (-2147483648) h_3))))))) :
  zCI E mX9_fit (d + 1) [zR 0, zI x1, zI x2, zI x3, zI x4] h K := by
  refine zC_in (L0 := [zR 0, zI x1, zI x2, zI x3, zI x4, zU]) pn_X9 rfl (Nat.le_of_ble_eq_true rfl) ?_
  refine z_iload_n dX9_fit_0 rfl ?_
  refine z_iconst dX9_fit_1 (r32d rfl) ?_
  refine z_iconst dX9_fit_2 (r32d rfl) ?_
  refine cl_X9_154 dX9_fit_3 rfl (Nat.le_of_ble_eq_true rfl) (zC_mono ?_ hyp)
  rintro _ h_1 ⟨r_1, rfl, hyp⟩
  refine ⟨r_1, rfl, ?_⟩
  refine z_if_ne (tgt := 18) dX9_fit_6 (by decide) (fun c_2 => ?_) (fun c_2 => ?_)
  · have hyp := hyp.1 c_2
    refine z_ldc (x := (-2147483648)) dX9_fit_18 rfl wk_X9_175 (by decide) (r32d rfl) ?_
    exact z_iret dX9_fit_20 rfl ⟨_, rfl, hyp⟩
  · have hyp := hyp.2 c_2
    refine z_iload_n dX9_fit_9 rfl ?_
    refine z_iconst dX9_fit_10 (r32d rfl) ?_
    refine z_iconst dX9_fit_11 (r32d rfl) ?_
    refine cl_X9_154 dX9_fit_12 rfl (Nat.le_of_ble_eq_true rfl) (zC_mono ?_ hyp)
    rintro _ h_3 ⟨r_3, rfl, hyp⟩
    refine ⟨r_3, rfl, ?_⟩
    refine z_if_eq (tgt := 21) dX9_fit_15 (by decide) (fun c_4 => ?_) (fun c_4 => ?_)
    · have hyp := hyp.1 c_4
      refine z_aload_n dX9_fit_21 rfl ?_
      refine gf_X9_54 (c2 := 52) dX9_fit_22 rfl (sC_0 hE) (cC_0 hE) rfl ?_
      refine z_iload_n dX9_fit_25 rfl ?_
      refine z_iload_n dX9_fit_26 rfl ?_
      refine z_iconst dX9_fit_27 (r32d rfl) ?_
      refine z_imul dX9_fit_28 ?_
      refine z_iload_n dX9_fit_29 rfl ?_
      refine z_iadd dX9_fit_30 ?_
      refine cl_X9_176 dX9_fit_31 rfl (sC_52 hE) (cC_52 hE) (Nat.le_of_ble_eq_true rfl) (zC_mono ?_ hyp)
      rintro _ h_5 ⟨r_5, rfl, hyp⟩
      refine ⟨r_5, rfl, ?_⟩
      refine z_istore dX9_fit_34 (by decide) rfl ?_
      refine z_iload dX9_fit_36 rfl ?_
      refine z_iconst dX9_fit_38 (r32d rfl) ?_
      refine z_icmp_ne (tgt := 45) dX9_fit_39 (by decide) (fun c_6 => ?_) (fun c_6 => ?_)
      · have hyp := hyp.1 c_6
        refine z_iload dX9_fit_45 rfl ?_
        have hgo : (x4 ≠ 0 ∧ x4 ≠ 1 ∧ x4 ≠ 2 ∧ x4 ≠ 3) → zG E mX9_fit (d + 1) 120 [zR 0, zI x1, zI x2, zI x3, zI x4, zI r_5] [] h_5 (qI K) := by
          intro hcc
          have hyp := hyp.2.2.2.2 hcc
          refine z_ldc (x := (-2147483648)) dX9_fit_120 rfl wk_X9_175 (by decide) (r32d rfl) ?_
          exact z_iret dX9_fit_122 rfl ⟨_, rfl, hyp⟩
        by_cases cr : x4 < 0 ∨ 3 < x4
        · exact z_tsOut (tgt := 120) dX9_fit_47 cr (by decide) (hgo ⟨tsne cr (by decide) (by decide), tsne cr (by decide) (by decide), tsne cr (by decide) (by decide), tsne cr (by decide) (by decide)⟩)
        by_cases c_7 : x4 = 0
        · have hyp := hyp.1 c_7
          have hgo : zG E mX9_fit (d + 1) 76 [zR 0, zI x1, zI x2, zI x3, zI x4, zI r_5] [] h_5 (qI K) := by
            refine z_aload_n dX9_fit_76 rfl ?_
            refine gf_X9_54 (c2 := 52) dX9_fit_77 rfl (sC_0 hE) (cC_0 hE) rfl ?_
            refine gf_X9_179 (c2 := 59) dX9_fit_80 rfl (sC_52 hE) (cC_52 hE) rfl ?_
            refine z_iload dX9_fit_83 rfl ?_
            obtain ⟨⟨hi0, hi1⟩, hyp⟩ := hyp
            refine z_iaload dX9_fit_85 (sC_59 hE) (cC_59 hE) hi0 hi1 ?_
            exact z_iret dX9_fit_86 rfl ⟨_, rfl, hyp⟩
          exact z_tsIn (i := 0) (tgt := 76) dX9_fit_47 (c_7.trans (by decide)) (by decide) rfl (by decide) hgo
        by_cases c_8 : x4 = 1
        · have hyp := hyp.2.1 c_8
          have hgo : zG E mX9_fit (d + 1) 87 [zR 0, zI x1, zI x2, zI x3, zI x4, zI r_5] [] h_5 (qI K) := by
            refine z_aload_n dX9_fit_87 rfl ?_
            refine gf_X9_54 (c2 := 52) dX9_fit_88 rfl (sC_0 hE) (cC_0 hE) rfl ?_
            refine gf_X9_182 (c2 := 60) dX9_fit_91 rfl (sC_52 hE) (cC_52 hE) rfl ?_
            refine z_iload dX9_fit_94 rfl ?_
            obtain ⟨⟨hi0, hi1⟩, hyp⟩ := hyp
            refine z_iaload dX9_fit_96 (sC_60 hE) (cC_60 hE) hi0 hi1 ?_
            exact z_iret dX9_fit_97 rfl ⟨_, rfl, hyp⟩
          exact z_tsIn (i := 1) (tgt := 87) dX9_fit_47 (c_8.trans (by decide)) (by decide) rfl (by decide) hgo
        by_cases c_9 : x4 = 2
        · have hyp := hyp.2.2.1 c_9
          have hgo : zG E mX9_fit (d + 1) 98 [zR 0, zI x1, zI x2, zI x3, zI x4, zI r_5] [] h_5 (qI K) := by
            refine z_aload_n dX9_fit_98 rfl ?_
            refine gf_X9_54 (c2 := 52) dX9_fit_99 rfl (sC_0 hE) (cC_0 hE) rfl ?_
            refine gf_X9_185 (c2 := 61) dX9_fit_102 rfl (sC_52 hE) (cC_52 hE) rfl ?_
            refine z_iload dX9_fit_105 rfl ?_
            obtain ⟨⟨hi0, hi1⟩, hyp⟩ := hyp
            refine z_iaload dX9_fit_107 (sC_61 hE) (cC_61 hE) hi0 hi1 ?_
            exact z_iret dX9_fit_108 rfl ⟨_, rfl, hyp⟩
          exact z_tsIn (i := 2) (tgt := 98) dX9_fit_47 (c_9.trans (by decide)) (by decide) rfl (by decide) hgo
        by_cases c_10 : x4 = 3
        · have hyp := hyp.2.2.2.1 c_10
          have hgo : zG E mX9_fit (d + 1) 109 [zR 0, zI x1, zI x2, zI x3, zI x4, zI r_5] [] h_5 (qI K) := by
            refine z_aload_n dX9_fit_109 rfl ?_
            refine gf_X9_54 (c2 := 52) dX9_fit_110 rfl (sC_0 hE) (cC_0 hE) rfl ?_
            refine gf_X9_188 (c2 := 62) dX9_fit_113 rfl (sC_52 hE) (cC_52 hE) rfl ?_
            refine z_iload dX9_fit_116 rfl ?_
            obtain ⟨⟨hi0, hi1⟩, hyp⟩ := hyp
            refine z_iaload dX9_fit_118 (sC_62 hE) (cC_62 hE) hi0 hi1 ?_
            exact z_iret dX9_fit_119 rfl ⟨_, rfl, hyp⟩
          exact z_tsIn (i := 3) (tgt := 109) dX9_fit_47 (c_10.trans (by decide)) (by decide) rfl (by decide) hgo
        exact absurd (tsbs (tsbs (tsbs (tsbs (tsb1 cr) c_7) c_8) c_9) c_10) (tsb2 cr)
      · have hyp := hyp.2 c_6
        refine z_ldc (x := (-2147483648)) dX9_fit_42 rfl wk_X9_175 (by decide) (r32d rfl) ?_
        exact z_iret dX9_fit_44 rfl ⟨_, rfl, hyp⟩
    · have hyp := hyp.2 c_4
      refine z_ldc (x := (-2147483648)) dX9_fit_18 rfl wk_X9_175 (by decide) (r32d rfl) ?_
      exact z_iret dX9_fit_20 rfl ⟨_, rfl, hyp⟩
set_option maxRecDepth 20000 in
theorem bX9_gather_10 {E : zE} (hE : isC E) {bt : Nat} (hbt : isSu E bt) {d : Nat} {x1 x2 x3 : Int} {h : zH} {K : zH → Prop} (hyp :
  ((8 ≤ x3 →
    K h) ∧
  (¬ (8 ≤ x3) →
    zCI E mX0_bestShape d [zR 52, zI x3] h (fun r_2 h_2 =>
      ((r_2 = (-1) →
        ∀ x_4 : Int, x_4 = w32 (x3 + 1) →
        zG E mX9_gather (d + 1) 10 [zR 0, zI x1, zI x2, zI x_4, zU] [] h_2 (qV K)) ∧
      (¬ (r_2 = (-1)) →
        ((x1 = (-1) →
          zG E mX9_gather (d + 1) 50 [zR 0, zI x1, zI x2, zI x3, zI r_2] [] h_2 (qV K)) ∧
        (¬ (x1 = (-1)) →
          (h_2 0 3 = (bt : Nat)) ∧
          ((0 : Int) ≤ x3 ∧ x3 < (8 : Int)) ∧
          (((h_2 (bt + 9) x3.toNat) ≠ x1 →
            ∀ x_7 : Int, x_7 = w32 (x3 + 1) →
            zG E mX9_gather (d + 1) 10 [zR 0, zI x1, zI x2, zI x_7, zU] [] h_2 (qV K)) ∧
          (¬ ((h_2 (bt + 9) x3.toNat) ≠ x1) →
            zG E mX9_gather (d + 1) 50 [zR 0, zI x1, zI x2, zI x3, zI r_2] [] h_2 (qV K))))))))))) :
  zG E mX9_gather (d + 1) 10 [zR 0, zI x1, zI x2, zI x3, zU] [] h (qV K) := by
  refine z_iload_n dX9_gather_10 rfl ?_
  refine z_bipush dX9_gather_11 (r32d rfl) (by decide) ?_
  refine z_icmp_ge (tgt := 87) dX9_gather_13 (by decide) (fun c_1 => ?_) (fun c_1 => ?_)
  · have hyp := hyp.1 c_1
    exact z_vret dX9_gather_87 rfl ⟨rfl, hyp⟩
  · have hyp := hyp.2 c_1
    refine z_aload_n dX9_gather_16 rfl ?_
    refine gf_X9_54 (c2 := 52) dX9_gather_17 rfl (sC_0 hE) (cC_0 hE) rfl ?_
    refine z_iload_n dX9_gather_20 rfl ?_
    refine cl_X9_191 dX9_gather_21 rfl (sC_52 hE) (cC_52 hE) (Nat.le_of_ble_eq_true rfl) (zC_mono ?_ hyp)
    rintro _ h_2 ⟨r_2, rfl, hyp⟩
    refine ⟨r_2, rfl, ?_⟩
    refine z_istore dX9_gather_24 (by decide) rfl ?_
    refine z_iload dX9_gather_26 rfl ?_
    refine z_iconst dX9_gather_28 (r32d rfl) ?_
    refine z_icmp_eq (tgt := 81) dX9_gather_29 (by decide) (fun c_3 => ?_) (fun c_3 => ?_)
    · have hyp := hyp.1 c_3
      refine z_iinc dX9_gather_81 rfl (by decide) rfl ?_
      generalize ex_4 : w32 (x3 + 1) = x_4
      have hyp := hyp x_4 ex_4.symm
      refine z_goto (tgt := 10) dX9_gather_84 (by decide) ?_
      exact z_forget [true, true, true, true, false] rfl hyp
    · have hyp := hyp.2 c_3
      refine z_iload_n dX9_gather_32 rfl ?_
      refine z_iconst dX9_gather_33 (r32d rfl) ?_
      refine z_icmp_eq (tgt := 50) dX9_gather_34 (by decide) (fun c_5 => ?_) (fun c_5 => ?_)
      · have hyp := hyp.1 c_5
        exact hyp
      · have hyp := hyp.2 c_5
        refine z_aload_n dX9_gather_37 rfl ?_
        obtain ⟨hdy, hyp⟩ := hyp
        refine gf_X9_27 (c2 := bt) dX9_gather_38 rfl (sC_0 hE) (cC_0 hE) hdy ?_
        refine gf_X9_145 (c2 := (bt + 9)) dX9_gather_41 rfl ((hbt.2.1)) (Nat.lt_of_le_of_lt (Nat.le_add_right bt 18) hbt.1) rfl ?_
        refine z_iload_n dX9_gather_44 rfl ?_
        obtain ⟨⟨hi0, hi1⟩, hyp⟩ := hyp
        refine z_iaload dX9_gather_45 ((hbt.2.2.2.2.2.2.1)) (Nat.lt_of_le_of_lt (Nat.add_le_add_left (Nat.le_of_ble_eq_true rfl : 9 ≤ 18) bt) hbt.1) hi0 hi1 ?_
        refine z_iload_n dX9_gather_46 rfl ?_
        refine z_icmp_ne (tgt := 81) dX9_gather_47 (by decide) (fun c_6 => ?_) (fun c_6 => ?_)
        · have hyp := hyp.1 c_6
          refine z_iinc dX9_gather_81 rfl (by decide) rfl ?_
          generalize ex_7 : w32 (x3 + 1) = x_7
          have hyp := hyp x_7 ex_7.symm
          refine z_goto (tgt := 10) dX9_gather_84 (by decide) ?_
          exact z_forget [true, true, true, true, false] rfl hyp
        · have hyp := hyp.2 c_6
          exact hyp
set_option maxRecDepth 20000 in
theorem bX9_gather_50 {E : zE} (hE : isC E) {bt : Nat} (hbt : isSu E bt) {d : Nat} {x1 x2 x3 x4 : Int} {h : zH} {K : zH → Prop} (hyp :
  ((x2 = (-1) →
    zCI E mX0_bestSize d [zR 52, zI x3] h (fun r_2 h_2 =>
      zCV E mX7_put d [zR 76, zI r_2] h_2 (fun h_3 =>
        ∀ x_4 : Int, x_4 = w32 (x3 + 1) →
        zG E mX9_gather (d + 1) 10 [zR 0, zI x1, zI x2, zI x_4, zU] [] h_3 (qV K)))) ∧
  (¬ (x2 = (-1)) →
    (((w32 (Int.tdiv x4 4)) = x2 →
      zCI E mX0_bestSize d [zR 52, zI x3] h (fun r_6 h_6 =>
        zCV E mX7_put d [zR 76, zI r_6] h_6 (fun h_7 =>
          ∀ x_8 : Int, x_8 = w32 (x3 + 1) →
          zG E mX9_gather (d + 1) 10 [zR 0, zI x1, zI x2, zI x_8, zU] [] h_7 (qV K)))) ∧
    (¬ ((w32 (Int.tdiv x4 4)) = x2) →
      ∀ x_9 : Int, x_9 = w32 (x3 + 1) →
      zG E mX9_gather (d + 1) 10 [zR 0, zI x1, zI x2, zI x_9, zU] [] h (qV K)))))) :
  zG E mX9_gather (d + 1) 50 [zR 0, zI x1, zI x2, zI x3, zI x4] [] h (qV K) := by
  refine z_iload_n dX9_gather_50 rfl ?_
  refine z_iconst dX9_gather_51 (r32d rfl) ?_
  refine z_icmp_eq (tgt := 66) dX9_gather_52 (by decide) (fun c_1 => ?_) (fun c_1 => ?_)
  · have hyp := hyp.1 c_1
    refine z_aload_n dX9_gather_66 rfl ?_
    refine gf_X9_64 (c2 := 76) dX9_gather_67 rfl (sC_0 hE) (cC_0 hE) rfl ?_
    refine z_aload_n dX9_gather_70 rfl ?_
    refine gf_X9_54 (c2 := 52) dX9_gather_71 rfl (sC_0 hE) (cC_0 hE) rfl ?_
    refine z_iload_n dX9_gather_74 rfl ?_
    refine cl_X9_224 dX9_gather_75 rfl (sC_52 hE) (cC_52 hE) (Nat.le_of_ble_eq_true rfl) (zC_mono ?_ hyp)
    rintro _ h_2 ⟨r_2, rfl, hyp⟩
    refine ⟨r_2, rfl, ?_⟩
    refine cl_X9_252 dX9_gather_78 rfl (sC_76 hE) (cC_76 hE) (Nat.le_of_ble_eq_true rfl) (zC_mono ?_ hyp)
    rintro _ h_3 ⟨rfl, hyp⟩
    refine ⟨rfl, ?_⟩
    refine z_iinc dX9_gather_81 rfl (by decide) rfl ?_
    generalize ex_4 : w32 (x3 + 1) = x_4
    have hyp := hyp x_4 ex_4.symm
    refine z_goto (tgt := 10) dX9_gather_84 (by decide) ?_
    exact z_forget [true, true, true, true, false] rfl hyp
  · have hyp := hyp.2 c_1
    refine z_iload dX9_gather_55 rfl ?_
    refine z_iconst dX9_gather_57 (r32d rfl) ?_
    refine z_idiv (by decide) dX9_gather_58 ?_
    refine z_iload_n dX9_gather_59 rfl ?_
    refine z_icmp_eq (tgt := 66) dX9_gather_60 (by decide) (fun c_5 => ?_) (fun c_5 => ?_)
    · have hyp := hyp.1 c_5
      refine z_aload_n dX9_gather_66 rfl ?_
      refine gf_X9_64 (c2 := 76) dX9_gather_67 rfl (sC_0 hE) (cC_0 hE) rfl ?_
      refine z_aload_n dX9_gather_70 rfl ?_
      refine gf_X9_54 (c2 := 52) dX9_gather_71 rfl (sC_0 hE) (cC_0 hE) rfl ?_
      refine z_iload_n dX9_gather_74 rfl ?_
      refine cl_X9_224 dX9_gather_75 rfl (sC_52 hE) (cC_52 hE) (Nat.le_of_ble_eq_true rfl) (zC_mono ?_ hyp)
      rintro _ h_6 ⟨r_6, rfl, hyp⟩
      refine ⟨r_6, rfl, ?_⟩
      refine cl_X9_252 dX9_gather_78 rfl (sC_76 hE) (cC_76 hE) (Nat.le_of_ble_eq_true rfl) (zC_mono ?_ hyp)
      rintro _ h_7 ⟨rfl, hyp⟩
      refine ⟨rfl, ?_⟩
      refine z_iinc dX9_gather_81 rfl (by decide) rfl ?_
      generalize ex_8 : w32 (x3 + 1) = x_8
      have hyp := hyp x_8 ex_8.symm
      refine z_goto (tgt := 10) dX9_gather_84 (by decide) ?_
      exact z_forget [true, true, true, true, false] rfl hyp
    · have hyp := hyp.2 c_5
      refine z_goto (tgt := 81) dX9_gather_63 (by decide) ?_
      refine z_iinc dX9_gather_81 rfl (by decide) rfl ?_
      generalize ex_9 : w32 (x3 + 1) = x_9
      have hyp := hyp x_9 ex_9.symm
      refine z_goto (tgt := 10) dX9_gather_84 (by decide) ?_
      exact z_forget [true, true, true, true, false] rfl hyp
set_option maxRecDepth 20000 in
theorem eX9_gather {E : zE} (hE : isC E) {bt : Nat} (hbt : isSu E bt) {d : Nat} {x1 x2 : Int} {h : zH} {K : zH → Prop} (hyp :
  ∀ h_1 : zH, h_1 = hset h 76 1 0 →
  zG E mX9_gather (d + 1) 10 [zR 0, zI x1, zI x2, zI 0, zU] [] h_1 (qV K)) :
  zCV E mX9_gather (d + 1) [zR 0, zI x1, zI x2] h K := by
  refine zC_in (L0 := [zR 0, zI x1, zI x2, zU, zU]) pn_X9 rfl (Nat.le_of_ble_eq_true rfl) ?_
  refine z_aload_n dX9_gather_0 rfl ?_
  refine gf_X9_64 (c2 := 76) dX9_gather_1 rfl (sC_0 hE) (cC_0 hE) rfl ?_
  refine z_iconst dX9_gather_4 (r32d rfl) ?_
  refine pf_X9_251 dX9_gather_5 rfl (sC_76 hE) (cC_76 hE) ?_
  generalize eh_1 : hset h 76 1 _ = h_1
  have hyp := hyp h_1 eh_1.symm
  refine z_iconst dX9_gather_8 (r32d rfl) ?_
  refine z_istore_n dX9_gather_9 rfl (by decide) rfl ?_
  exact hyp
set_option maxRecDepth 20000 in
theorem eX9_gone {E : zE} (hE : isC E) {bt : Nat} (hbt : isSu E bt) {d : Nat} {x1 x2 x3 : Int} {h : zH} {K : Int → zH → Prop} (hyp :
  (h 0 3 = (bt : Nat)) ∧
  zCI E mX8_hasStone d [zR bt, zI x1, zI x2] h (fun r_1 h_1 =>
    ((r_1 ≠ 0 →
      zCI E mX9_stoneAt d [zI x1, zI x2] h_1 (fun r_3 h_3 =>
        ((x3 = 0 →
          zCI E mX9_takeNote d [zR 0, zI 1, zI r_3, zI 0, zI 0] h_3 (fun r_5 h_5 =>
            K r_5 h_5)) ∧
        (¬ (x3 = 0) →
          zCI E mX9_takeNote d [zR 0, zI 1, zI r_3, zI 1, zI 0] h_3 (fun r_6 h_6 =>
            K r_6 h_6))))) ∧
    (¬ (r_1 ≠ 0) →
      K (-1) h_1)))) :
  zCI E mX9_gone (d + 1) [zR 0, zI x1, zI x2, zI x3] h K := by
  refine zC_in (L0 := [zR 0, zI x1, zI x2, zI x3]) pn_X9 rfl (Nat.le_of_ble_eq_true rfl) ?_
  refine z_aload_n dX9_gone_0 rfl ?_
  obtain ⟨hdy, hyp⟩ := hyp
  refine gf_X9_27 (c2 := bt) dX9_gone_1 rfl (sC_0 hE) (cC_0 hE) hdy ?_
  refine z_iload_n dX9_gone_4 rfl ?_
  refine z_iload_n dX9_gone_5 rfl ?_
  refine cl_X9_117 dX9_gone_6 rfl ((hbt.2.1)) (Nat.lt_of_le_of_lt (Nat.le_add_right bt 18) hbt.1) (Nat.le_of_ble_eq_true rfl) (zC_mono ?_ hyp)
  rintro _ h_1 ⟨r_1, rfl, hyp⟩
  refine ⟨r_1, rfl, ?_⟩
  refine z_if_ne (tgt := 14) dX9_gone_9 (by decide) (fun c_2 => ?_) (fun c_2 => ?_)
  · have hyp := hyp.1 c_2
    refine z_aload_n dX9_gone_14 rfl ?_
    refine z_iconst dX9_gone_15 (r32d rfl) ?_
    refine z_iload_n dX9_gone_16 rfl ?_
    refine z_iload_n dX9_gone_17 rfl ?_
    refine cl_X9_137 dX9_gone_18 rfl (Nat.le_of_ble_eq_true rfl) (zC_mono ?_ hyp)
    rintro _ h_3 ⟨r_3, rfl, hyp⟩
    refine ⟨r_3, rfl, ?_⟩
    refine z_iload_n dX9_gone_21 rfl ?_
    refine z_if_eq (tgt := 29) dX9_gone_22 (by decide) (fun c_4 => ?_) (fun c_4 => ?_)
    · have hyp := hyp.1 c_4
      refine z_iconst dX9_gone_29 (r32d rfl) ?_
      refine z_iconst dX9_gone_30 (r32d rfl) ?_
      refine cl_X9_158 dX9_gone_31 rfl (sC_0 hE) (cC_0 hE) (Nat.le_of_ble_eq_true rfl) (zC_mono ?_ hyp)
      rintro _ h_5 ⟨r_5, rfl, hyp⟩
      refine ⟨r_5, rfl, ?_⟩
      exact z_iret dX9_gone_34 rfl ⟨_, rfl, hyp⟩
    · have hyp := hyp.2 c_4
      refine z_iconst dX9_gone_25 (r32d rfl) ?_
      refine z_goto (tgt := 30) dX9_gone_26 (by decide) ?_
      refine z_iconst dX9_gone_30 (r32d rfl) ?_
      refine cl_X9_158 dX9_gone_31 rfl (sC_0 hE) (cC_0 hE) (Nat.le_of_ble_eq_true rfl) (zC_mono ?_ hyp)
      rintro _ h_6 ⟨r_6, rfl, hyp⟩
      refine ⟨r_6, rfl, ?_⟩
      exact z_iret dX9_gone_34 rfl ⟨_, rfl, hyp⟩
  · have hyp := hyp.2 c_2
    refine z_iconst dX9_gone_12 (r32d rfl) ?_
    exact z_iret dX9_gone_13 rfl ⟨_, rfl, hyp⟩
set_option maxRecDepth 20000 in
theorem bX9_hump_29 {E : zE} (hE : isC E) {d : Nat} {x1 x2 x3 x4 : Int} {h : zH} {K : Int → zH → Prop} (hyp :
  (((h 76 1) ≤ x4 →
    K x3 h) ∧
  (¬ ((h 76 1) ≤ x4) →
    zCI E mX9_placesOf d [zI x1, zI (h 0 8)] h (fun r_2 h_2 =>
      zCI E mX7_binOf d [zR 76, zI x4, zI r_2] h_2 (fun r_3 h_3 =>
        ((r_3 ≠ x2 →
          ∀ x_5 : Int, x_5 = w32 (x4 + 1) →
          zG E mX9_hump (d + 1) 29 [zR 0, zI x1, zI x2, zI x3, zI x_5] [] h_3 (qI K)) ∧
        (¬ (r_3 ≠ x2) →
          ∀ x_6 : Int, x_6 = w32 (x3 + 1) →
          ∀ x_7 : Int, x_7 = w32 (x4 + 1) →
          zG E mX9_hump (d + 1) 29 [zR 0, zI x1, zI x2, zI x_6, zI x_7] [] h_3 (qI K)))))))) :
  zG E mX9_hump (d + 1) 29 [zR 0, zI x1, zI x2, zI x3, zI x4] [] h (qI K) := by
  refine z_iload dX9_hump_29 rfl ?_
  refine z_aload_n dX9_hump_31 rfl ?_
  refine gf_X9_64 (c2 := 76) dX9_hump_32 rfl (sC_0 hE) (cC_0 hE) rfl ?_
  refine gf_X9_251 dX9_hump_35 rfl (sC_76 hE) (cC_76 hE) ?_
  refine z_icmp_ge (tgt := 71) dX9_hump_38 (by decide) (fun c_1 => ?_) (fun c_1 => ?_)
  · have hyp := hyp.1 c_1
    refine z_iload_n dX9_hump_71 rfl ?_
    exact z_iret dX9_hump_72 rfl ⟨_, rfl, hyp⟩
  · have hyp := hyp.2 c_1
    refine z_aload_n dX9_hump_41 rfl ?_
    refine gf_X9_64 (c2 := 76) dX9_hump_42 rfl (sC_0 hE) (cC_0 hE) rfl ?_
    refine z_iload dX9_hump_45 rfl ?_
    refine z_iload_n dX9_hump_47 rfl ?_
    refine z_aload_n dX9_hump_48 rfl ?_
    refine gf_X9_47 dX9_hump_49 rfl (sC_0 hE) (cC_0 hE) ?_
    refine cl_X9_211 dX9_hump_52 rfl (Nat.le_of_ble_eq_true rfl) (zC_mono ?_ hyp)
    rintro _ h_2 ⟨r_2, rfl, hyp⟩
    refine ⟨r_2, rfl, ?_⟩
    refine cl_X9_276 dX9_hump_55 rfl (sC_76 hE) (cC_76 hE) (Nat.le_of_ble_eq_true rfl) (zC_mono ?_ hyp)
    rintro _ h_3 ⟨r_3, rfl, hyp⟩
    refine ⟨r_3, rfl, ?_⟩
    refine z_iload_n dX9_hump_58 rfl ?_
    refine z_icmp_ne (tgt := 65) dX9_hump_59 (by decide) (fun c_4 => ?_) (fun c_4 => ?_)
    · have hyp := hyp.1 c_4
      refine z_iinc dX9_hump_65 rfl (by decide) rfl ?_
      generalize ex_5 : w32 (x4 + 1) = x_5
      have hyp := hyp x_5 ex_5.symm
      refine z_goto (tgt := 29) dX9_hump_68 (by decide) ?_
      exact hyp
    · have hyp := hyp.2 c_4
      refine z_iinc dX9_hump_62 rfl (by decide) rfl ?_
      generalize ex_6 : w32 (x3 + 1) = x_6
      have hyp := hyp x_6 ex_6.symm
      refine z_iinc dX9_hump_65 rfl (by decide) rfl ?_
      generalize ex_7 : w32 (x4 + 1) = x_7
      have hyp := hyp x_7 ex_7.symm
      refine z_goto (tgt := 29) dX9_hump_68 (by decide) ?_
      exact hyp
set_option maxRecDepth 20000 in
theorem eX9_hump {E : zE} (hE : isC E) {d : Nat} {x1 x2 : Int} {h : zH} {K : Int → zH → Prop} (hyp :
  zCI E mX9_isUnit d [zI x1] h (fun r_1 h_1 =>
    ((r_1 = 0 →
      K (-1) h_1) ∧
    (¬ (r_1 = 0) →
      zCI E mX9_isBeyond d [zI x2, zI 0, zI 5] h_1 (fun r_3 h_3 =>
        ((r_3 = 0 →
          zCV E mX9_gather d [zR 0, zI (-1), zI (-1)] h_3 (fun h_5 =>
            zG E mX9_hump (d + 1) 29 [zR 0, zI x1, zI x2, zI 0, zI 0] [] h_5 (qI K))) ∧
        (¬ (r_3 = 0) →
          K (-1) h_3))))))) :
  zCI E mX9_hump (d + 1) [zR 0, zI x1, zI x2] h K := by
  refine zC_in (L0 := [zR 0, zI x1, zI x2, zU, zU]) pn_X9 rfl (Nat.le_of_ble_eq_true rfl) ?_
  refine z_iload_n dX9_hump_0 rfl ?_
  refine cl_X9_208 dX9_hump_1 rfl (Nat.le_of_ble_eq_true rfl) (zC_mono ?_ hyp)
  rintro _ h_1 ⟨r_1, rfl, hyp⟩
  refine ⟨r_1, rfl, ?_⟩
  refine z_if_eq (tgt := 16) dX9_hump_4 (by decide) (fun c_2 => ?_) (fun c_2 => ?_)
  · have hyp := hyp.1 c_2
    refine z_iconst dX9_hump_16 (r32d rfl) ?_
    exact z_iret dX9_hump_17 rfl ⟨_, rfl, hyp⟩
  · have hyp := hyp.2 c_2
    refine z_iload_n dX9_hump_7 rfl ?_
    refine z_iconst dX9_hump_8 (r32d rfl) ?_
    refine z_iconst dX9_hump_9 (r32d rfl) ?_
    refine cl_X9_154 dX9_hump_10 rfl (Nat.le_of_ble_eq_true rfl) (zC_mono ?_ hyp)
    rintro _ h_3 ⟨r_3, rfl, hyp⟩
    refine ⟨r_3, rfl, ?_⟩
    refine z_if_eq (tgt := 18) dX9_hump_13 (by decide) (fun c_4 => ?_) (fun c_4 => ?_)
    · have hyp := hyp.1 c_4
      refine z_aload_n dX9_hump_18 rfl ?_
      refine z_iconst dX9_hump_19 (r32d rfl) ?_
      refine z_iconst dX9_hump_20 (r32d rfl) ?_
      refine cl_X9_244 dX9_hump_21 rfl (sC_0 hE) (cC_0 hE) (Nat.le_of_ble_eq_true rfl) (zC_mono ?_ hyp)
      rintro _ h_5 ⟨rfl, hyp⟩
      refine ⟨rfl, ?_⟩
      refine z_iconst dX9_hump_24 (r32d rfl) ?_
      refine z_istore_n dX9_hump_25 rfl (by decide) rfl ?_
      refine z_iconst dX9_hump_26 (r32d rfl) ?_
      refine z_istore dX9_hump_27 (by decide) rfl ?_
      exact hyp
    · have hyp := hyp.2 c_4
      refine z_iconst dX9_hump_16 (r32d rfl) ?_
      exact z_iret dX9_hump_17 rfl ⟨_, rfl, hyp⟩
set_option maxRecDepth 20000 in
theorem bX9_inLeastTerms_23 {E : zE} (hE : isC E) {d : Nat} {y0 y2 x4 y5 y7 x9 : Int} {h : zH} {K : Int → zH → Prop} (hyp :
  ((200 ≤ x9 →
    zG E mX9_inLeastTerms d 59 [zJ y0, zU, zJ y2, zU, zI x4, zJ y5, zU, zU, zU, zU, zU, zU] [] h (qJ K)) ∧
  (¬ (200 ≤ x9) →
    ((y7 = 0 →
      zG E mX9_inLeastTerms d 59 [zJ y0, zU, zJ y2, zU, zI x4, zJ y5, zU, zU, zU, zU, zU, zU] [] h (qJ K)) ∧
    (¬ (y7 = 0) →
      ¬ y7 = 0 ∧
      ∀ y_3 : Int, y_3 = w64 (Int.tmod y5 y7) →
      ∀ x_4 : Int, x_4 = w32 (x9 + 1) →
      zG E mX9_inLeastTerms d 23 [zJ y0, zU, zJ y2, zU, zI x4, zJ y7, zU, zJ y_3, zU, zI x_4, zU, zU] [] h (qJ K)))))) :
  zG E mX9_inLeastTerms d 23 [zJ y0, zU, zJ y2, zU, zI x4, zJ y5, zU, zJ y7, zU, zI x9, zU, zU] [] h (qJ K) := by
  refine z_iload dX9_inLeastTerms_23 rfl ?_
  refine z_sipush dX9_inLeastTerms_25 (r32d rfl) (by decide) ?_
  refine z_icmp_ge (tgt := 59) dX9_inLeastTerms_28 (by decide) (fun c_1 => ?_) (fun c_1 => ?_)
  · have hyp := hyp.1 c_1
    exact z_forget [true, false, true, false, true, true, false, false, false, false, false, false] rfl hyp
  · have hyp := hyp.2 c_1
    refine z_lload dX9_inLeastTerms_31 rfl ?_
    refine z_lconst (x := 0) dX9_inLeastTerms_33 (by decide) (r64d rfl) ?_
    refine z_lc_eq (tgt := 59) dX9_inLeastTerms_34 dX9_inLeastTerms_35 (by decide) (fun c_2 => ?_) (fun c_2 => ?_)
    · have hyp := hyp.1 c_2
      exact z_forget [true, false, true, false, true, true, false, false, false, false, false, false] rfl hyp
    · have hyp := hyp.2 c_2
      refine z_lload dX9_inLeastTerms_38 rfl ?_
      refine z_lload dX9_inLeastTerms_40 rfl ?_
      obtain ⟨hz, hyp⟩ := hyp
      refine z_lrem hz dX9_inLeastTerms_42 ?_
      generalize ey_3 : w64 (Int.tmod y5 y7) = y_3
      have hyp := hyp y_3 ey_3.symm
      refine z_lstore dX9_inLeastTerms_43 (by decide) rfl ?_
      refine z_lload dX9_inLeastTerms_45 rfl ?_
      refine z_lstore dX9_inLeastTerms_47 (by decide) rfl ?_
      refine z_lload dX9_inLeastTerms_49 rfl ?_
      refine z_lstore dX9_inLeastTerms_51 (by decide) rfl ?_
      refine z_iinc dX9_inLeastTerms_53 rfl (by decide) rfl ?_
      generalize ex_4 : w32 (x9 + 1) = x_4
      have hyp := hyp x_4 ex_4.symm
      refine z_goto (tgt := 23) dX9_inLeastTerms_56 (by decide) ?_
      exact z_forget [true, false, true, false, true, true, false, true, false, true, false, false] rfl hyp
set_option maxRecDepth 20000 in
theorem bX9_inLeastTerms_59 {E : zE} (hE : isC E) {d : Nat} {y0 y2 x4 y5 : Int} {h : zH} {K : Int → zH → Prop} (hyp :
  ((x4 = 0 →
    ((y5 ≠ 0 →
      ¬ y5 = 0 ∧
      K (w64 (Int.tdiv y2 y5)) h) ∧
    (¬ (y5 ≠ 0) →
      K y2 h))) ∧
  (¬ (x4 = 0) →
    ((y5 ≠ 0 →
      ¬ y5 = 0 ∧
      K (w64 (Int.tdiv y0 y5)) h) ∧
    (¬ (y5 ≠ 0) →
      K y0 h))))) :
  zG E mX9_inLeastTerms d 59 [zJ y0, zU, zJ y2, zU, zI x4, zJ y5, zU, zU, zU, zU, zU, zU] [] h (qJ K) := by
  refine z_iload dX9_inLeastTerms_59 rfl ?_
  refine z_if_eq (tgt := 68) dX9_inLeastTerms_61 (by decide) (fun c_1 => ?_) (fun c_1 => ?_)
  · have hyp := hyp.1 c_1
    refine z_lload_n dX9_inLeastTerms_68 rfl ?_
    refine z_lstore dX9_inLeastTerms_69 (by decide) rfl ?_
    refine z_lload dX9_inLeastTerms_71 rfl ?_
    refine z_lconst (x := 0) dX9_inLeastTerms_73 (by decide) (r64d rfl) ?_
    refine z_lc_ne (tgt := 83) dX9_inLeastTerms_74 dX9_inLeastTerms_75 (by decide) (fun c_2 => ?_) (fun c_2 => ?_)
    · have hyp := hyp.1 c_2
      refine z_lload dX9_inLeastTerms_83 rfl ?_
      refine z_lload dX9_inLeastTerms_85 rfl ?_
      obtain ⟨hz, hyp⟩ := hyp
      refine z_ldiv hz dX9_inLeastTerms_87 ?_
      exact z_lret dX9_inLeastTerms_88 rfl ⟨_, rfl, hyp⟩
    · have hyp := hyp.2 c_2
      refine z_lload dX9_inLeastTerms_78 rfl ?_
      refine z_goto (tgt := 88) dX9_inLeastTerms_80 (by decide) ?_
      exact z_lret dX9_inLeastTerms_88 rfl ⟨_, rfl, hyp⟩
  · have hyp := hyp.2 c_1
    refine z_lload_n dX9_inLeastTerms_64 rfl ?_
    refine z_goto (tgt := 69) dX9_inLeastTerms_65 (by decide) ?_
    refine z_lstore dX9_inLeastTerms_69 (by decide) rfl ?_
    refine z_lload dX9_inLeastTerms_71 rfl ?_
    refine z_lconst (x := 0) dX9_inLeastTerms_73 (by decide) (r64d rfl) ?_
    refine z_lc_ne (tgt := 83) dX9_inLeastTerms_74 dX9_inLeastTerms_75 (by decide) (fun c_3 => ?_) (fun c_3 => ?_)
    · have hyp := hyp.1 c_3
      refine z_lload dX9_inLeastTerms_83 rfl ?_
      refine z_lload dX9_inLeastTerms_85 rfl ?_
      obtain ⟨hz, hyp⟩ := hyp
      refine z_ldiv hz dX9_inLeastTerms_87 ?_
      exact z_lret dX9_inLeastTerms_88 rfl ⟨_, rfl, hyp⟩
    · have hyp := hyp.2 c_3
      refine z_lload dX9_inLeastTerms_78 rfl ?_
      refine z_goto (tgt := 88) dX9_inLeastTerms_80 (by decide) ?_
      exact z_lret dX9_inLeastTerms_88 rfl ⟨_, rfl, hyp⟩
set_option maxRecDepth 20000 in
theorem eX9_inLeastTerms {E : zE} (hE : isC E) {d : Nat} {y0 y2 x4 : Int} {h : zH} {K : Int → zH → Prop} (hyp :
  ((y2 ≠ 0 →
    ∀ y_2 : Int, y_2 = zabsJ y0 →
    ∀ y_3 : Int, y_3 = zabsJ y2 →
    zG E mX9_inLeastTerms d 23 [zJ y0, zU, zJ y2, zU, zI x4, zJ y_2, zU, zJ y_3, zU, zI 0, zU, zU] [] h (qJ K)) ∧
  (¬ (y2 ≠ 0) →
    K 0 h))) :
  zCJ E mX9_inLeastTerms d [zJ y0, zJ y2, zI x4] h K := by
  refine zC_in (L0 := [zJ y0, zU, zJ y2, zU, zI x4, zU, zU, zU, zU, zU, zU, zU]) pn_X9 rfl (Nat.le_of_ble_eq_true rfl) ?_
  refine z_lload_n dX9_inLeastTerms_0 rfl ?_
  refine z_lconst (x := 0) dX9_inLeastTerms_1 (by decide) (r64d rfl) ?_
  refine z_lc_ne (tgt := 8) dX9_inLeastTerms_2 dX9_inLeastTerms_3 (by decide) (fun c_1 => ?_) (fun c_1 => ?_)
  · have hyp := hyp.1 c_1
    refine z_lload_n dX9_inLeastTerms_8 rfl ?_
    refine cl_X9_343 dX9_inLeastTerms_9 rfl (Nat.le_of_ble_eq_true rfl) ?_
    generalize ey_2 : zabsJ y0 = y_2
    have hyp := hyp y_2 ey_2.symm
    refine z_lstore dX9_inLeastTerms_12 (by decide) rfl ?_
    refine z_lload_n dX9_inLeastTerms_14 rfl ?_
    refine cl_X9_343 dX9_inLeastTerms_15 rfl (Nat.le_of_ble_eq_true rfl) ?_
    generalize ey_3 : zabsJ y2 = y_3
    have hyp := hyp y_3 ey_3.symm
    refine z_lstore dX9_inLeastTerms_18 (by decide) rfl ?_
    refine z_iconst dX9_inLeastTerms_20 (r32d rfl) ?_
    refine z_istore dX9_inLeastTerms_21 (by decide) rfl ?_
    exact hyp
  · have hyp := hyp.2 c_1
    refine z_lconst (x := 0) dX9_inLeastTerms_6 (by decide) (r64d rfl) ?_
    exact z_lret dX9_inLeastTerms_7 rfl ⟨_, rfl, hyp⟩
set_option maxRecDepth 20000 in
theorem eX9_isBeyond {E : zE} (hE : isC E) {d : Nat} {x0 x1 x2 : Int} {h : zH} {K : Int → zH → Prop} (hyp :
  ((x0 < x1 →
    K 1 h) ∧
  (¬ (x0 < x1) →
    ((x0 ≤ x2 →
      K 0 h) ∧
    (¬ (x0 ≤ x2) →
      K 1 h))))) :
  zCI E mX9_isBeyond d [zI x0, zI x1, zI x2] h K := by
  refine zC_in (L0 := [zI x0, zI x1, zI x2]) pn_X9 rfl (Nat.le_of_ble_eq_true rfl) ?_
  refine z_iload_n dX9_isBeyond_0 rfl ?_
  refine z_iload_n dX9_isBeyond_1 rfl ?_
  refine z_icmp_lt (tgt := 10) dX9_isBeyond_2 (by decide) (fun c_1 => ?_) (fun c_1 => ?_)
  · have hyp := hyp.1 c_1
    refine z_iconst dX9_isBeyond_10 (r32d rfl) ?_
    refine z_goto (tgt := 15) dX9_isBeyond_11 (by decide) ?_
    exact z_zret dX9_isBeyond_15 rfl (Or.inr rfl) ⟨_, rfl, hyp⟩
  · have hyp := hyp.2 c_1
    refine z_iload_n dX9_isBeyond_5 rfl ?_
    refine z_iload_n dX9_isBeyond_6 rfl ?_
    refine z_icmp_le (tgt := 14) dX9_isBeyond_7 (by decide) (fun c_2 => ?_) (fun c_2 => ?_)
    · have hyp := hyp.1 c_2
      refine z_iconst dX9_isBeyond_14 (r32d rfl) ?_
      exact z_zret dX9_isBeyond_15 rfl (Or.inl rfl) ⟨_, rfl, hyp⟩
    · have hyp := hyp.2 c_2
      refine z_iconst dX9_isBeyond_10 (r32d rfl) ?_
      refine z_goto (tgt := 15) dX9_isBeyond_11 (by decide) ?_
      exact z_zret dX9_isBeyond_15 rfl (Or.inr rfl) ⟨_, rfl, hyp⟩
set_option maxRecDepth 20000 in
theorem eX9_isNearAs {E : zE} (hE : isC E) {bt : Nat} (hbt : isSu E bt) {d : Nat} {x1 x2 x3 x4 : Int} {h : zH} {K : Int → zH → Prop} (hyp :
  zCI E mX9_placesOf d [zI x2, zI (h 0 8)] h (fun r_1 h_1 =>
    zCI E mX9_offBy d [zI x1, zI r_1] h_1 (fun r_2 h_2 =>
      (h_2 0 3 = (bt : Nat)) ∧
      (((h_2 bt 11) ≠ 0 →
        (h_2 0 3 = (bt : Nat)) ∧
        zCI E mX9_timesBy d [zI x1, zI r_1] h_2 (fun r_4 h_4 =>
          zCI E mX5_holds d [zR (bt + 14), zI r_2, zI x2, zI x1, zI r_4, zI x3, zI x4] h_4 (fun r_5 h_5 =>
            (r_5 = 0 ∨ r_5 = 1) ∧ K r_5 h_5))) ∧
      (¬ ((h_2 bt 11) ≠ 0) →
        ((x2 < (w32 (8 * r_2)) →
          K 0 h_2) ∧
        (¬ (x2 < (w32 (8 * r_2))) →
          K 1 h_2))))))) :
  zCI E mX9_isNearAs (d + 1) [zR 0, zI x1, zI x2, zI x3, zI x4] h K := by
  refine zC_in (L0 := [zR 0, zI x1, zI x2, zI x3, zI x4, zU, zU]) pn_X9 rfl (Nat.le_of_ble_eq_true rfl) ?_
  refine z_iload_n dX9_isNearAs_0 rfl ?_
  refine z_aload_n dX9_isNearAs_1 rfl ?_
  refine gf_X9_47 dX9_isNearAs_2 rfl (sC_0 hE) (cC_0 hE) ?_
  refine cl_X9_211 dX9_isNearAs_5 rfl (Nat.le_of_ble_eq_true rfl) (zC_mono ?_ hyp)
  rintro _ h_1 ⟨r_1, rfl, hyp⟩
  refine ⟨r_1, rfl, ?_⟩
  refine z_istore dX9_isNearAs_8 (by decide) rfl ?_
  refine z_iload_n dX9_isNearAs_10 rfl ?_
  refine z_iload dX9_isNearAs_11 rfl ?_
  refine cl_X9_215 dX9_isNearAs_13 rfl (Nat.le_of_ble_eq_true rfl) (zC_mono ?_ hyp)
  rintro _ h_2 ⟨r_2, rfl, hyp⟩
  refine ⟨r_2, rfl, ?_⟩
  refine z_istore dX9_isNearAs_16 (by decide) rfl ?_
  refine z_aload_n dX9_isNearAs_18 rfl ?_
  obtain ⟨hdy, hyp⟩ := hyp
  refine gf_X9_27 (c2 := bt) dX9_isNearAs_19 rfl (sC_0 hE) (cC_0 hE) hdy ?_
  refine gf_X9_231 dX9_isNearAs_22 rfl ((hbt.2.1)) (Nat.lt_of_le_of_lt (Nat.le_add_right bt 18) hbt.1) ?_
  refine z_if_ne (tgt := 43) dX9_isNearAs_25 (by decide) (fun c_3 => ?_) (fun c_3 => ?_)
  · have hyp := hyp.1 c_3
    refine z_aload_n dX9_isNearAs_43 rfl ?_
    obtain ⟨hdy, hyp⟩ := hyp
    refine gf_X9_27 (c2 := bt) dX9_isNearAs_44 rfl (sC_0 hE) (cC_0 hE) hdy ?_
    refine gf_X9_234 (c2 := (bt + 14)) dX9_isNearAs_47 rfl ((hbt.2.1)) (Nat.lt_of_le_of_lt (Nat.le_add_right bt 18) hbt.1) rfl ?_
    refine z_iload dX9_isNearAs_50 rfl ?_
    refine z_iload_n dX9_isNearAs_52 rfl ?_
    refine z_iload_n dX9_isNearAs_53 rfl ?_
    refine z_iload_n dX9_isNearAs_54 rfl ?_
    refine z_iload dX9_isNearAs_55 rfl ?_
    refine cl_X9_218 dX9_isNearAs_57 rfl (Nat.le_of_ble_eq_true rfl) (zC_mono ?_ hyp)
    rintro _ h_4 ⟨r_4, rfl, hyp⟩
    refine ⟨r_4, rfl, ?_⟩
    refine z_iload_n dX9_isNearAs_60 rfl ?_
    refine z_iload dX9_isNearAs_61 rfl ?_
    refine cl_X9_238 dX9_isNearAs_63 rfl (((hbt.2.2.2.2.2.2.2.2.2.2.2).2.1)) (Nat.lt_of_le_of_lt (Nat.add_le_add_left (Nat.le_of_ble_eq_true rfl : 14 ≤ 18) bt) hbt.1) (Nat.le_of_ble_eq_true rfl) (zC_mono ?_ hyp)
    rintro _ h_5 ⟨r_5, rfl, hyp⟩
    refine ⟨r_5, rfl, ?_⟩
    exact z_zret dX9_isNearAs_66 rfl hyp.1 ⟨_, rfl, hyp.2⟩
  · have hyp := hyp.2 c_3
    refine z_bipush dX9_isNearAs_28 (r32d rfl) (by decide) ?_
    refine z_iload dX9_isNearAs_30 rfl ?_
    refine z_imul dX9_isNearAs_32 ?_
    refine z_iload_n dX9_isNearAs_33 rfl ?_
    refine z_icmp_gt (tgt := 41) dX9_isNearAs_34 (by decide) (fun c_6 => ?_) (fun c_6 => ?_)
    · have hyp := hyp.1 c_6
      refine z_iconst dX9_isNearAs_41 (r32d rfl) ?_
      exact z_zret dX9_isNearAs_42 rfl (Or.inl rfl) ⟨_, rfl, hyp⟩
    · have hyp := hyp.2 c_6
      refine z_iconst dX9_isNearAs_37 (r32d rfl) ?_
      refine z_goto (tgt := 42) dX9_isNearAs_38 (by decide) ?_
      exact z_zret dX9_isNearAs_42 rfl (Or.inr rfl) ⟨_, rfl, hyp⟩
set_option maxRecDepth 20000 in
theorem eX9_isNearBy {E : zE} (hE : isC E) {d : Nat} {x1 x2 : Int} {h : zH} {K : Int → zH → Prop} (hyp :
  zCI E mX0_bestShape d [zR 52, zI x1] h (fun r_1 h_1 =>
    ((r_1 = (-1) →
      K 0 h_1) ∧
    (¬ (r_1 = (-1)) →
      zCI E mX0_bestSize d [zR 52, zI x1] h_1 (fun r_3 h_3 =>
        ((0 : Int) ≤ x1 ∧ x1 < (8 : Int)) ∧
        zCI E mX9_isNearAs d [zR 0, zI r_3, zI x2, zI (h_3 54 x1.toNat), zI (w32 (Int.tdiv r_1 4))] h_3 (fun r_4 h_4 =>
          ((r_4 = 0 →
            K 0 h_4) ∧
          (¬ (r_4 = 0) →
            K 1 h_4)))))))) :
  zCI E mX9_isNearBy (d + 1) [zR 0, zI x1, zI x2] h K := by
  refine zC_in (L0 := [zR 0, zI x1, zI x2, zU]) pn_X9 rfl (Nat.le_of_ble_eq_true rfl) ?_
  refine z_aload_n dX9_isNearBy_0 rfl ?_
  refine gf_X9_54 (c2 := 52) dX9_isNearBy_1 rfl (sC_0 hE) (cC_0 hE) rfl ?_
  refine z_iload_n dX9_isNearBy_4 rfl ?_
  refine cl_X9_191 dX9_isNearBy_5 rfl (sC_52 hE) (cC_52 hE) (Nat.le_of_ble_eq_true rfl) (zC_mono ?_ hyp)
  rintro _ h_1 ⟨r_1, rfl, hyp⟩
  refine ⟨r_1, rfl, ?_⟩
  refine z_istore_n dX9_isNearBy_8 rfl (by decide) rfl ?_
  refine z_iload_n dX9_isNearBy_9 rfl ?_
  refine z_iconst dX9_isNearBy_10 (r32d rfl) ?_
  refine z_icmp_eq (tgt := 46) dX9_isNearBy_11 (by decide) (fun c_2 => ?_) (fun c_2 => ?_)
  · have hyp := hyp.1 c_2
    refine z_iconst dX9_isNearBy_46 (r32d rfl) ?_
    exact z_zret dX9_isNearBy_47 rfl (Or.inl rfl) ⟨_, rfl, hyp⟩
  · have hyp := hyp.2 c_2
    refine z_aload_n dX9_isNearBy_14 rfl ?_
    refine z_aload_n dX9_isNearBy_15 rfl ?_
    refine gf_X9_54 (c2 := 52) dX9_isNearBy_16 rfl (sC_0 hE) (cC_0 hE) rfl ?_
    refine z_iload_n dX9_isNearBy_19 rfl ?_
    refine cl_X9_224 dX9_isNearBy_20 rfl (sC_52 hE) (cC_52 hE) (Nat.le_of_ble_eq_true rfl) (zC_mono ?_ hyp)
    rintro _ h_3 ⟨r_3, rfl, hyp⟩
    refine ⟨r_3, rfl, ?_⟩
    refine z_iload_n dX9_isNearBy_23 rfl ?_
    refine z_aload_n dX9_isNearBy_24 rfl ?_
    refine gf_X9_54 (c2 := 52) dX9_isNearBy_25 rfl (sC_0 hE) (cC_0 hE) rfl ?_
    refine gf_X9_151 (c2 := 54) dX9_isNearBy_28 rfl (sC_52 hE) (cC_52 hE) rfl ?_
    refine z_iload_n dX9_isNearBy_31 rfl ?_
    obtain ⟨⟨hi0, hi1⟩, hyp⟩ := hyp
    refine z_iaload dX9_isNearBy_32 (sC_54 hE) (cC_54 hE) hi0 hi1 ?_
    refine z_iload_n dX9_isNearBy_33 rfl ?_
    refine z_iconst dX9_isNearBy_34 (r32d rfl) ?_
    refine z_idiv (by decide) dX9_isNearBy_35 ?_
    refine cl_X9_227 dX9_isNearBy_36 rfl (sC_0 hE) (cC_0 hE) (Nat.le_of_ble_eq_true rfl) (zC_mono ?_ hyp)
    rintro _ h_4 ⟨r_4, rfl, hyp⟩
    refine ⟨r_4, rfl, ?_⟩
    refine z_if_eq (tgt := 46) dX9_isNearBy_39 (by decide) (fun c_5 => ?_) (fun c_5 => ?_)
    · have hyp := hyp.1 c_5
      refine z_iconst dX9_isNearBy_46 (r32d rfl) ?_
      exact z_zret dX9_isNearBy_47 rfl (Or.inl rfl) ⟨_, rfl, hyp⟩
    · have hyp := hyp.2 c_5
      refine z_iconst dX9_isNearBy_42 (r32d rfl) ?_
      refine z_goto (tgt := 47) dX9_isNearBy_43 (by decide) ?_
      exact z_zret dX9_isNearBy_47 rfl (Or.inr rfl) ⟨_, rfl, hyp⟩
set_option maxRecDepth 20000 in
theorem eX9_isShape {E : zE} (hE : isC E) {d : Nat} {x0 : Int} {h : zH} {K : Int → zH → Prop} (hyp :
  ((x0 = 0 →
    K 1 h) ∧
  (¬ (x0 = 0) →
    ((x0 < 4 →
      K 0 h) ∧
    (¬ (x0 < 4) →
      ((12 ≤ x0 →
        K 0 h) ∧
      (¬ (12 ≤ x0) →
        K 1 h))))))) :
  zCI E mX9_isShape d [zI x0] h K := by
  refine zC_in (L0 := [zI x0]) pn_X9 rfl (Nat.le_of_ble_eq_true rfl) ?_
  refine z_iload_n dX9_isShape_0 rfl ?_
  refine z_if_eq (tgt := 15) dX9_isShape_1 (by decide) (fun c_1 => ?_) (fun c_1 => ?_)
  · have hyp := hyp.1 c_1
    refine z_iconst dX9_isShape_15 (r32d rfl) ?_
    refine z_goto (tgt := 20) dX9_isShape_16 (by decide) ?_
    exact z_zret dX9_isShape_20 rfl (Or.inr rfl) ⟨_, rfl, hyp⟩
  · have hyp := hyp.2 c_1
    refine z_iload_n dX9_isShape_4 rfl ?_
    refine z_iconst dX9_isShape_5 (r32d rfl) ?_
    refine z_icmp_lt (tgt := 19) dX9_isShape_6 (by decide) (fun c_2 => ?_) (fun c_2 => ?_)
    · have hyp := hyp.1 c_2
      refine z_iconst dX9_isShape_19 (r32d rfl) ?_
      exact z_zret dX9_isShape_20 rfl (Or.inl rfl) ⟨_, rfl, hyp⟩
    · have hyp := hyp.2 c_2
      refine z_iload_n dX9_isShape_9 rfl ?_
      refine z_bipush dX9_isShape_10 (r32d rfl) (by decide) ?_
      refine z_icmp_ge (tgt := 19) dX9_isShape_12 (by decide) (fun c_3 => ?_) (fun c_3 => ?_)
      · have hyp := hyp.1 c_3
        refine z_iconst dX9_isShape_19 (r32d rfl) ?_
        exact z_zret dX9_isShape_20 rfl (Or.inl rfl) ⟨_, rfl, hyp⟩
      · have hyp := hyp.2 c_3
        refine z_iconst dX9_isShape_15 (r32d rfl) ?_
        refine z_goto (tgt := 20) dX9_isShape_16 (by decide) ?_
        exact z_zret dX9_isShape_20 rfl (Or.inr rfl) ⟨_, rfl, hyp⟩
set_option maxRecDepth 20000 in
theorem eX9_isUnit {E : zE} (hE : isC E) {d : Nat} {x0 : Int} {h : zH} {K : Int → zH → Prop} (hyp :
  ((x0 < 100 →
    K 0 h) ∧
  (¬ (x0 < 100) →
    ((9999 < x0 →
      K 0 h) ∧
    (¬ (9999 < x0) →
      K 1 h))))) :
  zCI E mX9_isUnit d [zI x0] h K := by
  refine zC_in (L0 := [zI x0]) pn_X9 rfl (Nat.le_of_ble_eq_true rfl) ?_
  refine z_iload_n dX9_isUnit_0 rfl ?_
  refine z_bipush dX9_isUnit_1 (r32d rfl) (by decide) ?_
  refine z_icmp_lt (tgt := 17) dX9_isUnit_3 (by decide) (fun c_1 => ?_) (fun c_1 => ?_)
  · have hyp := hyp.1 c_1
    refine z_iconst dX9_isUnit_17 (r32d rfl) ?_
    exact z_zret dX9_isUnit_18 rfl (Or.inl rfl) ⟨_, rfl, hyp⟩
  · have hyp := hyp.2 c_1
    refine z_iload_n dX9_isUnit_6 rfl ?_
    refine z_sipush dX9_isUnit_7 (r32d rfl) (by decide) ?_
    refine z_icmp_gt (tgt := 17) dX9_isUnit_10 (by decide) (fun c_2 => ?_) (fun c_2 => ?_)
    · have hyp := hyp.1 c_2
      refine z_iconst dX9_isUnit_17 (r32d rfl) ?_
      exact z_zret dX9_isUnit_18 rfl (Or.inl rfl) ⟨_, rfl, hyp⟩
    · have hyp := hyp.2 c_2
      refine z_iconst dX9_isUnit_13 (r32d rfl) ?_
      refine z_goto (tgt := 18) dX9_isUnit_14 (by decide) ?_
      exact z_zret dX9_isUnit_18 rfl (Or.inr rfl) ⟨_, rfl, hyp⟩
set_option maxRecDepth 20000 in
theorem eX9_known {E : zE} (hE : isC E) {d : Nat} {x1 : Int} {h : zH} {K : Int → zH → Prop} (hyp :
  zCI E mX9_isBeyond d [zI x1, zI (-1), zI (h 46 5)] h (fun r_1 h_1 =>
    ((r_1 = 0 →
      ∀ h_3 : zH, h_3 = hset h_1 0 6 x1 →
      zCV E mX9_learnAnew d [zR 0] h_3 (fun h_4 =>
        K 1 h_4)) ∧
    (¬ (r_1 = 0) →
      K 0 h_1)))) :
  zCI E mX9_known (d + 1) [zR 0, zI x1] h K := by
  refine zC_in (L0 := [zR 0, zI x1]) pn_X9 rfl (Nat.le_of_ble_eq_true rfl) ?_
  refine z_iload_n dX9_known_0 rfl ?_
  refine z_iconst dX9_known_1 (r32d rfl) ?_
  refine z_aload_n dX9_known_2 rfl ?_
  refine gf_X9_37 (c2 := 46) dX9_known_3 rfl (sC_0 hE) (cC_0 hE) rfl ?_
  refine gf_X9_83 dX9_known_6 rfl (sC_46 hE) (cC_46 hE) ?_
  refine cl_X9_154 dX9_known_9 rfl (Nat.le_of_ble_eq_true rfl) (zC_mono ?_ hyp)
  rintro _ h_1 ⟨r_1, rfl, hyp⟩
  refine ⟨r_1, rfl, ?_⟩
  refine z_if_eq (tgt := 17) dX9_known_12 (by decide) (fun c_2 => ?_) (fun c_2 => ?_)
  · have hyp := hyp.1 c_2
    refine z_aload_n dX9_known_17 rfl ?_
    refine z_iload_n dX9_known_18 rfl ?_
    refine pf_X9_41 dX9_known_19 rfl (sC_0 hE) (cC_0 hE) ?_
    generalize eh_3 : hset h_1 0 6 _ = h_3
    have hyp := hyp h_3 eh_3.symm
    refine z_aload_n dX9_known_22 rfl ?_
    refine cl_X9_86 dX9_known_23 rfl (sC_0 hE) (cC_0 hE) (Nat.le_of_ble_eq_true rfl) (zC_mono ?_ hyp)
    rintro _ h_4 ⟨rfl, hyp⟩
    refine ⟨rfl, ?_⟩
    refine z_iconst dX9_known_26 (r32d rfl) ?_
    exact z_zret dX9_known_27 rfl (Or.inr rfl) ⟨_, rfl, hyp⟩
  · have hyp := hyp.2 c_2
    refine z_iconst dX9_known_15 (r32d rfl) ?_
    exact z_zret dX9_known_16 rfl (Or.inl rfl) ⟨_, rfl, hyp⟩
set_option maxRecDepth 20000 in
theorem eX9_land {E : zE} (hE : isC E) {bt : Nat} (hbt : isSu E bt) {d : Nat} {x1 x2 x3 x4 : Int} {h : zH} {K : Int → zH → Prop} (hyp :
  zCI E mX9_unitsOf d [zI x2, zI x3, zI x4] h (fun r_1 h_1 =>
    ((r_1 = 0 →
      K (-1) h_1) ∧
    (¬ (r_1 = 0) →
      ((1000 < r_1 →
        K (-1) h_1) ∧
      (¬ (1000 < r_1) →
        (h_1 0 3 = (bt : Nat)) ∧
        zCI E mX9_isBeyond d [zI x1, zI 0, zI (w32 ((h_1 (bt + 1) 1) - 1))] h_1 (fun r_4 h_4 =>
          ((r_4 = 0 →
            zCV E mX9_gather d [zR 0, zI x1, zI (-1)] h_4 (fun h_6 =>
              (((h_6 76 1) ≠ 0 →
                zCI E mX7_bestUnit d [zR 76, zI x2, zI x3, zI x4, zI (h_6 0 8)] h_6 (fun r_8 h_8 =>
                  K r_8 h_8)) ∧
              (¬ ((h_6 76 1) ≠ 0) →
                K (-1) h_6)))) ∧
          (¬ (r_4 = 0) →
            K (-1) h_4))))))))) :
  zCI E mX9_land (d + 1) [zR 0, zI x1, zI x2, zI x3, zI x4] h K := by
  refine zC_in (L0 := [zR 0, zI x1, zI x2, zI x3, zI x4, zU]) pn_X9 rfl (Nat.le_of_ble_eq_true rfl) ?_
  refine z_iload_n dX9_land_0 rfl ?_
  refine z_iload_n dX9_land_1 rfl ?_
  refine z_iload dX9_land_2 rfl ?_
  refine cl_X9_286 dX9_land_4 rfl (Nat.le_of_ble_eq_true rfl) (zC_mono ?_ hyp)
  rintro _ h_1 ⟨r_1, rfl, hyp⟩
  refine ⟨r_1, rfl, ?_⟩
  refine z_istore dX9_land_7 (by decide) rfl ?_
  refine z_iload dX9_land_9 rfl ?_
  refine z_if_eq (tgt := 42) dX9_land_11 (by decide) (fun c_2 => ?_) (fun c_2 => ?_)
  · have hyp := hyp.1 c_2
    refine z_iconst dX9_land_42 (r32d rfl) ?_
    exact z_iret dX9_land_43 rfl ⟨_, rfl, hyp⟩
  · have hyp := hyp.2 c_2
    refine z_iload dX9_land_14 rfl ?_
    refine z_sipush dX9_land_16 (r32d rfl) (by decide) ?_
    refine z_icmp_gt (tgt := 42) dX9_land_19 (by decide) (fun c_3 => ?_) (fun c_3 => ?_)
    · have hyp := hyp.1 c_3
      refine z_iconst dX9_land_42 (r32d rfl) ?_
      exact z_iret dX9_land_43 rfl ⟨_, rfl, hyp⟩
    · have hyp := hyp.2 c_3
      refine z_iload_n dX9_land_22 rfl ?_
      refine z_iconst dX9_land_23 (r32d rfl) ?_
      refine z_aload_n dX9_land_24 rfl ?_
      obtain ⟨hdy, hyp⟩ := hyp
      refine gf_X9_27 (c2 := bt) dX9_land_25 rfl (sC_0 hE) (cC_0 hE) hdy ?_
      refine gf_X9_98 (c2 := (bt + 1)) dX9_land_28 rfl ((hbt.2.1)) (Nat.lt_of_le_of_lt (Nat.le_add_right bt 18) hbt.1) rfl ?_
      refine gf_X9_279 dX9_land_31 rfl (((hbt.2.2.1).2.1)) (Nat.lt_of_le_of_lt (Nat.add_le_add_left (Nat.le_of_ble_eq_true rfl : 1 ≤ 18) bt) hbt.1) ?_
      refine z_iconst dX9_land_34 (r32d rfl) ?_
      refine z_isub dX9_land_35 ?_
      refine cl_X9_154 dX9_land_36 rfl (Nat.le_of_ble_eq_true rfl) (zC_mono ?_ hyp)
      rintro _ h_4 ⟨r_4, rfl, hyp⟩
      refine ⟨r_4, rfl, ?_⟩
      refine z_if_eq (tgt := 44) dX9_land_39 (by decide) (fun c_5 => ?_) (fun c_5 => ?_)
      · have hyp := hyp.1 c_5
        refine z_aload_n dX9_land_44 rfl ?_
        refine z_iload_n dX9_land_45 rfl ?_
        refine z_iconst dX9_land_46 (r32d rfl) ?_
        refine cl_X9_244 dX9_land_47 rfl (sC_0 hE) (cC_0 hE) (Nat.le_of_ble_eq_true rfl) (zC_mono ?_ hyp)
        rintro _ h_6 ⟨rfl, hyp⟩
        refine ⟨rfl, ?_⟩
        refine z_aload_n dX9_land_50 rfl ?_
        refine gf_X9_64 (c2 := 76) dX9_land_51 rfl (sC_0 hE) (cC_0 hE) rfl ?_
        refine gf_X9_251 dX9_land_54 rfl (sC_76 hE) (cC_76 hE) ?_
        refine z_if_ne (tgt := 64) dX9_land_57 (by decide) (fun c_7 => ?_) (fun c_7 => ?_)
        · have hyp := hyp.1 c_7
          refine z_aload_n dX9_land_64 rfl ?_
          refine gf_X9_64 (c2 := 76) dX9_land_65 rfl (sC_0 hE) (cC_0 hE) rfl ?_
          refine z_iload_n dX9_land_68 rfl ?_
          refine z_iload_n dX9_land_69 rfl ?_
          refine z_iload dX9_land_70 rfl ?_
          refine z_aload_n dX9_land_72 rfl ?_
          refine gf_X9_47 dX9_land_73 rfl (sC_0 hE) (cC_0 hE) ?_
          refine cl_X9_289 dX9_land_76 rfl (sC_76 hE) (cC_76 hE) (Nat.le_of_ble_eq_true rfl) (zC_mono ?_ hyp)
          rintro _ h_8 ⟨r_8, rfl, hyp⟩
          refine ⟨r_8, rfl, ?_⟩
          exact z_iret dX9_land_79 rfl ⟨_, rfl, hyp⟩
        · have hyp := hyp.2 c_7
          refine z_iconst dX9_land_60 (r32d rfl) ?_
          refine z_goto (tgt := 79) dX9_land_61 (by decide) ?_
          exact z_iret dX9_land_79 rfl ⟨_, rfl, hyp⟩
      · have hyp := hyp.2 c_5
        refine z_iconst dX9_land_42 (r32d rfl) ?_
        exact z_iret dX9_land_43 rfl ⟨_, rfl, hyp⟩
set_option maxRecDepth 20000 in
theorem bX9_lean_40 {E : zE} (hE : isC E) {bt : Nat} (hbt : isSu E bt) {d : Nat} {x1 x2 y3 y5 x7 : Int} {h : zH} {K : Int → zH → Prop} (hyp :
  (h 0 3 = (bt : Nat)) ∧
  (((h bt 9) ≤ x7 →
    ((x2 ≠ 0 →
      zCJ E mX9_inLeastTerms d [zJ y3, zJ y5, zI 0] h (fun r_3 h_3 =>
        K (w32 r_3) h_3)) ∧
    (¬ (x2 ≠ 0) →
      zCJ E mX9_inLeastTerms d [zJ y3, zJ y5, zI 1] h (fun r_4 h_4 =>
        K (w32 r_4) h_4)))) ∧
  (¬ ((h bt 9) ≤ x7) →
    (h 0 3 = (bt : Nat)) ∧
    zCI E mX8_saidOf d [zR bt, zI x7, zI 1] h (fun r_5 h_5 =>
      zCI E mX0_bestSize d [zR 52, zI r_5] h_5 (fun r_6 h_6 =>
        (h_6 0 3 = (bt : Nat)) ∧
        zCI E mX8_saidOf d [zR bt, zI x7, zI 0] h_6 (fun r_7 h_7 =>
          ((r_7 ≠ x1 →
            ∀ x_9 : Int, x_9 = w32 (x7 + 1) →
            zG E mX9_lean (d + 1) 40 [zR 0, zI x1, zI x2, zJ y3, zU, zJ y5, zU, zI x_9, zU] [] h_7 (qI K)) ∧
          (¬ (r_7 ≠ x1) →
            ((r_6 = (-1) →
              ∀ x_11 : Int, x_11 = w32 (x7 + 1) →
              zG E mX9_lean (d + 1) 40 [zR 0, zI x1, zI x2, zJ y3, zU, zJ y5, zU, zI x_11, zU] [] h_7 (qI K)) ∧
            (¬ (r_6 = (-1)) →
              (h_7 0 3 = (bt : Nat)) ∧
              zCI E mX8_saidOf d [zR bt, zI x7, zI 2] h_7 (fun r_12 h_12 =>
                ∀ y_13 : Int, y_13 = w64 (y3 + (w32 (r_12 - r_6))) →
                ∀ y_14 : Int, y_14 = w64 (y5 + 1) →
                ∀ x_15 : Int, x_15 = w32 (x7 + 1) →
                zG E mX9_lean (d + 1) 40 [zR 0, zI x1, zI x2, zJ y_13, zU, zJ y_14, zU, zI x_15, zU] [] h_12 (qI K)))))))))))) :
  zG E mX9_lean (d + 1) 40 [zR 0, zI x1, zI x2, zJ y3, zU, zJ y5, zU, zI x7, zU] [] h (qI K) := by
  refine z_iload dX9_lean_40 rfl ?_
  refine z_aload_n dX9_lean_42 rfl ?_
  obtain ⟨hdy, hyp⟩ := hyp
  refine gf_X9_27 (c2 := bt) dX9_lean_43 rfl (sC_0 hE) (cC_0 hE) hdy ?_
  refine gf_X9_328 dX9_lean_46 rfl ((hbt.2.1)) (Nat.lt_of_le_of_lt (Nat.le_add_right bt 18) hbt.1) ?_
  refine z_icmp_ge (tgt := 120) dX9_lean_49 (by decide) (fun c_1 => ?_) (fun c_1 => ?_)
  · have hyp := hyp.1 c_1
    refine z_lload_n dX9_lean_120 rfl ?_
    refine z_lload dX9_lean_121 rfl ?_
    refine z_iload_n dX9_lean_123 rfl ?_
    refine z_if_ne (tgt := 131) dX9_lean_124 (by decide) (fun c_2 => ?_) (fun c_2 => ?_)
    · have hyp := hyp.1 c_2
      refine z_iconst dX9_lean_131 (r32d rfl) ?_
      refine cl_X9_324 dX9_lean_132 rfl (Nat.le_of_ble_eq_true rfl) (zC_mono ?_ hyp)
      rintro _ h_3 ⟨r_3, rfl, hyp⟩
      refine ⟨r_3, rfl, ?_⟩
      refine z_l2i dX9_lean_135 ?_
      exact z_iret dX9_lean_136 rfl ⟨_, rfl, hyp⟩
    · have hyp := hyp.2 c_2
      refine z_iconst dX9_lean_127 (r32d rfl) ?_
      refine z_goto (tgt := 132) dX9_lean_128 (by decide) ?_
      refine cl_X9_324 dX9_lean_132 rfl (Nat.le_of_ble_eq_true rfl) (zC_mono ?_ hyp)
      rintro _ h_4 ⟨r_4, rfl, hyp⟩
      refine ⟨r_4, rfl, ?_⟩
      refine z_l2i dX9_lean_135 ?_
      exact z_iret dX9_lean_136 rfl ⟨_, rfl, hyp⟩
  · have hyp := hyp.2 c_1
    refine z_aload_n dX9_lean_52 rfl ?_
    refine gf_X9_54 (c2 := 52) dX9_lean_53 rfl (sC_0 hE) (cC_0 hE) rfl ?_
    refine z_aload_n dX9_lean_56 rfl ?_
    obtain ⟨hdy, hyp⟩ := hyp
    refine gf_X9_27 (c2 := bt) dX9_lean_57 rfl (sC_0 hE) (cC_0 hE) hdy ?_
    refine z_iload dX9_lean_60 rfl ?_
    refine z_iconst dX9_lean_62 (r32d rfl) ?_
    refine cl_X9_331 dX9_lean_63 rfl ((hbt.2.1)) (Nat.lt_of_le_of_lt (Nat.le_add_right bt 18) hbt.1) (Nat.le_of_ble_eq_true rfl) (zC_mono ?_ hyp)
    rintro _ h_5 ⟨r_5, rfl, hyp⟩
    refine ⟨r_5, rfl, ?_⟩
    refine cl_X9_224 dX9_lean_66 rfl (sC_52 hE) (cC_52 hE) (Nat.le_of_ble_eq_true rfl) (zC_mono ?_ hyp)
    rintro _ h_6 ⟨r_6, rfl, hyp⟩
    refine ⟨r_6, rfl, ?_⟩
    refine z_istore dX9_lean_69 (by decide) rfl ?_
    refine z_aload_n dX9_lean_71 rfl ?_
    obtain ⟨hdy, hyp⟩ := hyp
    refine gf_X9_27 (c2 := bt) dX9_lean_72 rfl (sC_0 hE) (cC_0 hE) hdy ?_
    refine z_iload dX9_lean_75 rfl ?_
    refine z_iconst dX9_lean_77 (r32d rfl) ?_
    refine cl_X9_331 dX9_lean_78 rfl ((hbt.2.1)) (Nat.lt_of_le_of_lt (Nat.le_add_right bt 18) hbt.1) (Nat.le_of_ble_eq_true rfl) (zC_mono ?_ hyp)
    rintro _ h_7 ⟨r_7, rfl, hyp⟩
    refine ⟨r_7, rfl, ?_⟩
    refine z_iload_n dX9_lean_81 rfl ?_
    refine z_icmp_ne (tgt := 114) dX9_lean_82 (by decide) (fun c_8 => ?_) (fun c_8 => ?_)
    · have hyp := hyp.1 c_8
      refine z_iinc dX9_lean_114 rfl (by decide) rfl ?_
      generalize ex_9 : w32 (x7 + 1) = x_9
      have hyp := hyp x_9 ex_9.symm
      refine z_goto (tgt := 40) dX9_lean_117 (by decide) ?_
      exact z_forget [true, true, true, true, false, true, false, true, false] rfl hyp
    · have hyp := hyp.2 c_8
      refine z_iload dX9_lean_85 rfl ?_
      refine z_iconst dX9_lean_87 (r32d rfl) ?_
      refine z_icmp_eq (tgt := 114) dX9_lean_88 (by decide) (fun c_10 => ?_) (fun c_10 => ?_)
      · have hyp := hyp.1 c_10
        refine z_iinc dX9_lean_114 rfl (by decide) rfl ?_
        generalize ex_11 : w32 (x7 + 1) = x_11
        have hyp := hyp x_11 ex_11.symm
        refine z_goto (tgt := 40) dX9_lean_117 (by decide) ?_
        exact z_forget [true, true, true, true, false, true, false, true, false] rfl hyp
      · have hyp := hyp.2 c_10
        refine z_lload_n dX9_lean_91 rfl ?_
        refine z_aload_n dX9_lean_92 rfl ?_
        obtain ⟨hdy, hyp⟩ := hyp
        refine gf_X9_27 (c2 := bt) dX9_lean_93 rfl (sC_0 hE) (cC_0 hE) hdy ?_
        refine z_iload dX9_lean_96 rfl ?_
        refine z_iconst dX9_lean_98 (r32d rfl) ?_
        refine cl_X9_331 dX9_lean_99 rfl ((hbt.2.1)) (Nat.lt_of_le_of_lt (Nat.le_add_right bt 18) hbt.1) (Nat.le_of_ble_eq_true rfl) (zC_mono ?_ hyp)
        rintro _ h_12 ⟨r_12, rfl, hyp⟩
        refine ⟨r_12, rfl, ?_⟩
        refine z_iload dX9_lean_102 rfl ?_
        refine z_isub dX9_lean_104 ?_
        refine z_i2l dX9_lean_105 ?_
        refine z_ladd dX9_lean_106 ?_
        generalize ey_13 : w64 (y3 + (w32 (r_12 - r_6))) = y_13
        have hyp := hyp y_13 ey_13.symm
        refine z_lstore_n dX9_lean_107 rfl (by decide) rfl ?_
        refine z_lload dX9_lean_108 rfl ?_
        refine z_lconst (x := 1) dX9_lean_110 (by decide) (r64d rfl) ?_
        refine z_ladd dX9_lean_111 ?_
        generalize ey_14 : w64 (y5 + 1) = y_14
        have hyp := hyp y_14 ey_14.symm
        refine z_lstore dX9_lean_112 (by decide) rfl ?_
        refine z_iinc dX9_lean_114 rfl (by decide) rfl ?_
        generalize ex_15 : w32 (x7 + 1) = x_15
        have hyp := hyp x_15 ex_15.symm
        refine z_goto (tgt := 40) dX9_lean_117 (by decide) ?_
        exact z_forget [true, true, true, true, false, true, false, true, false] rfl hyp
set_option maxRecDepth 20000 in
theorem eX9_lean {E : zE} (hE : isC E) {bt : Nat} (hbt : isSu E bt) {d : Nat} {x1 x2 : Int} {h : zH} {K : Int → zH → Prop} (hyp :
  (h 0 3 = (bt : Nat)) ∧
  zCI E mX9_isBeyond d [zI x1, zI 0, zI (w32 ((h (bt + 7) 1) - 1))] h (fun r_1 h_1 =>
    ((r_1 ≠ 0 →
      K (-2147483648) h_1) ∧
    (¬ (r_1 ≠ 0) →
      zCI E mX9_isBeyond d [zI x2, zI 0, zI 1] h_1 (fun r_3 h_3 =>
        ((r_3 = 0 →
          zG E mX9_lean (d + 1) 40 [zR 0, zI x1, zI x2, zJ 0, zU, zJ 0, zU, zI 0, zU] [] h_3 (qI K)) ∧
        (¬ (r_3 = 0) →
          K (-2147483648) h_3))))))) :
  zCI E mX9_lean (d + 1) [zR 0, zI x1, zI x2] h K := by
  refine zC_in (L0 := [zR 0, zI x1, zI x2, zU, zU, zU, zU, zU, zU]) pn_X9 rfl (Nat.le_of_ble_eq_true rfl) ?_
  refine z_iload_n dX9_lean_0 rfl ?_
  refine z_iconst dX9_lean_1 (r32d rfl) ?_
  refine z_aload_n dX9_lean_2 rfl ?_
  obtain ⟨hdy, hyp⟩ := hyp
  refine gf_X9_27 (c2 := bt) dX9_lean_3 rfl (sC_0 hE) (cC_0 hE) hdy ?_
  refine gf_X9_114 (c2 := (bt + 7)) dX9_lean_6 rfl ((hbt.2.1)) (Nat.lt_of_le_of_lt (Nat.le_add_right bt 18) hbt.1) rfl ?_
  refine gf_X9_279 dX9_lean_9 rfl (((hbt.2.2.2.2.2.1).2.1)) (Nat.lt_of_le_of_lt (Nat.add_le_add_left (Nat.le_of_ble_eq_true rfl : 7 ≤ 18) bt) hbt.1) ?_
  refine z_iconst dX9_lean_12 (r32d rfl) ?_
  refine z_isub dX9_lean_13 ?_
  refine cl_X9_154 dX9_lean_14 rfl (Nat.le_of_ble_eq_true rfl) (zC_mono ?_ hyp)
  rintro _ h_1 ⟨r_1, rfl, hyp⟩
  refine ⟨r_1, rfl, ?_⟩
  refine z_if_ne (tgt := 29) dX9_lean_17 (by decide) (fun c_2 => ?_) (fun c_2 => ?_)
  · have hyp := hyp.1 c_2
    refine z_ldc (x := (-2147483648)) dX9_lean_29 rfl wk_X9_175 (by decide) (r32d rfl) ?_
    exact z_iret dX9_lean_31 rfl ⟨_, rfl, hyp⟩
  · have hyp := hyp.2 c_2
    refine z_iload_n dX9_lean_20 rfl ?_
    refine z_iconst dX9_lean_21 (r32d rfl) ?_
    refine z_iconst dX9_lean_22 (r32d rfl) ?_
    refine cl_X9_154 dX9_lean_23 rfl (Nat.le_of_ble_eq_true rfl) (zC_mono ?_ hyp)
    rintro _ h_3 ⟨r_3, rfl, hyp⟩
    refine ⟨r_3, rfl, ?_⟩
    refine z_if_eq (tgt := 32) dX9_lean_26 (by decide) (fun c_4 => ?_) (fun c_4 => ?_)
    · have hyp := hyp.1 c_4
      refine z_lconst (x := 0) dX9_lean_32 (by decide) (r64d rfl) ?_
      refine z_lstore_n dX9_lean_33 rfl (by decide) rfl ?_
      refine z_lconst (x := 0) dX9_lean_34 (by decide) (r64d rfl) ?_
      refine z_lstore dX9_lean_35 (by decide) rfl ?_
      refine z_iconst dX9_lean_37 (r32d rfl) ?_
      refine z_istore dX9_lean_38 (by decide) rfl ?_
      exact hyp
    · have hyp := hyp.2 c_4
      refine z_ldc (x := (-2147483648)) dX9_lean_29 rfl wk_X9_175 (by decide) (r32d rfl) ?_
      exact z_iret dX9_lean_31 rfl ⟨_, rfl, hyp⟩
set_option maxRecDepth 20000 in
theorem eX9_learnAnew {E : zE} (hE : isC E) {bt : Nat} (hbt : isSu E bt) {d : Nat} {h : zH} {K : zH → Prop} (hyp :
  (h 0 3 = (bt : Nat)) ∧
  zCI E mX9_notesKnown d [zR 0] h (fun r_1 h_1 =>
    zCV E mX0_learn d [zR 52, zR bt, zR 46, zI r_1, zI (h_1 0 7)] h_1 (fun h_2 =>
      K h_2))) :
  zCV E mX9_learnAnew (d + 1) [zR 0] h K := by
  refine zC_in (L0 := [zR 0]) pn_X9 rfl (Nat.le_of_ble_eq_true rfl) ?_
  refine z_aload_n dX9_learnAnew_0 rfl ?_
  refine gf_X9_54 (c2 := 52) dX9_learnAnew_1 rfl (sC_0 hE) (cC_0 hE) rfl ?_
  refine z_aload_n dX9_learnAnew_4 rfl ?_
  obtain ⟨hdy, hyp⟩ := hyp
  refine gf_X9_27 (c2 := bt) dX9_learnAnew_5 rfl (sC_0 hE) (cC_0 hE) hdy ?_
  refine z_aload_n dX9_learnAnew_8 rfl ?_
  refine gf_X9_37 (c2 := 46) dX9_learnAnew_9 rfl (sC_0 hE) (cC_0 hE) rfl ?_
  refine z_aload_n dX9_learnAnew_12 rfl ?_
  refine cl_X9_165 dX9_learnAnew_13 rfl (sC_0 hE) (cC_0 hE) (Nat.le_of_ble_eq_true rfl) (zC_mono ?_ hyp)
  rintro _ h_1 ⟨r_1, rfl, hyp⟩
  refine ⟨r_1, rfl, ?_⟩
  refine z_aload_n dX9_learnAnew_16 rfl ?_
  refine gf_X9_44 dX9_learnAnew_17 rfl (sC_0 hE) (cC_0 hE) ?_
  refine cl_X9_169 dX9_learnAnew_20 rfl (sC_52 hE) (cC_52 hE) (Nat.le_of_ble_eq_true rfl) (zC_mono ?_ hyp)
  rintro _ h_2 ⟨rfl, hyp⟩
  refine ⟨rfl, ?_⟩
  exact z_vret dX9_learnAnew_23 rfl ⟨rfl, hyp⟩
set_option maxRecDepth 20000 in
theorem eX9_lumps {E : zE} (hE : isC E) {d : Nat} {x1 : Int} {h : zH} {K : Int → zH → Prop} (hyp :
  zCI E mX9_isUnit d [zI x1] h (fun r_1 h_1 =>
    ((r_1 ≠ 0 →
      zCV E mX9_gather d [zR 0, zI (-1), zI (-1)] h_1 (fun h_3 =>
        zCI E mX9_placesOf d [zI x1, zI (h_3 0 8)] h_3 (fun r_4 h_4 =>
          zCI E mX7_sumOfLumps d [zR 76, zI r_4] h_4 (fun r_5 h_5 =>
            K r_5 h_5)))) ∧
    (¬ (r_1 ≠ 0) →
      K (-1) h_1)))) :
  zCI E mX9_lumps (d + 1) [zR 0, zI x1] h K := by
  refine zC_in (L0 := [zR 0, zI x1]) pn_X9 rfl (Nat.le_of_ble_eq_true rfl) ?_
  refine z_iload_n dX9_lumps_0 rfl ?_
  refine cl_X9_208 dX9_lumps_1 rfl (Nat.le_of_ble_eq_true rfl) (zC_mono ?_ hyp)
  rintro _ h_1 ⟨r_1, rfl, hyp⟩
  refine ⟨r_1, rfl, ?_⟩
  refine z_if_ne (tgt := 9) dX9_lumps_4 (by decide) (fun c_2 => ?_) (fun c_2 => ?_)
  · have hyp := hyp.1 c_2
    refine z_aload_n dX9_lumps_9 rfl ?_
    refine z_iconst dX9_lumps_10 (r32d rfl) ?_
    refine z_iconst dX9_lumps_11 (r32d rfl) ?_
    refine cl_X9_244 dX9_lumps_12 rfl (sC_0 hE) (cC_0 hE) (Nat.le_of_ble_eq_true rfl) (zC_mono ?_ hyp)
    rintro _ h_3 ⟨rfl, hyp⟩
    refine ⟨rfl, ?_⟩
    refine z_aload_n dX9_lumps_15 rfl ?_
    refine gf_X9_64 (c2 := 76) dX9_lumps_16 rfl (sC_0 hE) (cC_0 hE) rfl ?_
    refine z_iload_n dX9_lumps_19 rfl ?_
    refine z_aload_n dX9_lumps_20 rfl ?_
    refine gf_X9_47 dX9_lumps_21 rfl (sC_0 hE) (cC_0 hE) ?_
    refine cl_X9_211 dX9_lumps_24 rfl (Nat.le_of_ble_eq_true rfl) (zC_mono ?_ hyp)
    rintro _ h_4 ⟨r_4, rfl, hyp⟩
    refine ⟨r_4, rfl, ?_⟩
    refine cl_X9_248 dX9_lumps_27 rfl (sC_76 hE) (cC_76 hE) (Nat.le_of_ble_eq_true rfl) (zC_mono ?_ hyp)
    rintro _ h_5 ⟨r_5, rfl, hyp⟩
    refine ⟨r_5, rfl, ?_⟩
    exact z_iret dX9_lumps_30 rfl ⟨_, rfl, hyp⟩
  · have hyp := hyp.2 c_2
    refine z_iconst dX9_lumps_7 (r32d rfl) ?_
    exact z_iret dX9_lumps_8 rfl ⟨_, rfl, hyp⟩
set_option maxRecDepth 20000 in
theorem eX9_mode {E : zE} (hE : isC E) {d : Nat} {x1 x2 : Int} {h : zH} {K : Int → zH → Prop} (hyp :
  zCI E mX9_isBeyond d [zI x1, zI 0, zI 3] h (fun r_1 h_1 =>
    ((r_1 = 0 →
      ∀ h_3 : zH, h_3 = hset h_1 0 7 x1 →
      (x2 = 0 ∨ x2 = 1) ∧
      ∀ h_4 : zH, h_4 = hset h_3 0 8 x2 →
      zCV E mX9_learnAnew d [zR 0] h_4 (fun h_5 =>
        K 1 h_5)) ∧
    (¬ (r_1 = 0) →
      K 0 h_1)))) :
  zCI E mX9_mode (d + 1) [zR 0, zI x1, zI x2] h K := by
  refine zC_in (L0 := [zR 0, zI x1, zI x2]) pn_X9 rfl (Nat.le_of_ble_eq_true rfl) ?_
  refine z_iload_n dX9_mode_0 rfl ?_
  refine z_iconst dX9_mode_1 (r32d rfl) ?_
  refine z_iconst dX9_mode_2 (r32d rfl) ?_
  refine cl_X9_154 dX9_mode_3 rfl (Nat.le_of_ble_eq_true rfl) (zC_mono ?_ hyp)
  rintro _ h_1 ⟨r_1, rfl, hyp⟩
  refine ⟨r_1, rfl, ?_⟩
  refine z_if_eq (tgt := 11) dX9_mode_6 (by decide) (fun c_2 => ?_) (fun c_2 => ?_)
  · have hyp := hyp.1 c_2
    refine z_aload_n dX9_mode_11 rfl ?_
    refine z_iload_n dX9_mode_12 rfl ?_
    refine pf_X9_44 dX9_mode_13 rfl (sC_0 hE) (cC_0 hE) ?_
    generalize eh_3 : hset h_1 0 7 _ = h_3
    have hyp := hyp h_3 eh_3.symm
    refine z_aload_n dX9_mode_16 rfl ?_
    refine z_iload_n dX9_mode_17 rfl ?_
    obtain ⟨hx0, hyp⟩ := hyp
    refine pf_X9_47 dX9_mode_18 rfl (sC_0 hE) (cC_0 hE) hx0 ?_
    generalize eh_4 : hset h_3 0 8 _ = h_4
    have hyp := hyp h_4 eh_4.symm
    refine z_aload_n dX9_mode_21 rfl ?_
    refine cl_X9_86 dX9_mode_22 rfl (sC_0 hE) (cC_0 hE) (Nat.le_of_ble_eq_true rfl) (zC_mono ?_ hyp)
    rintro _ h_5 ⟨rfl, hyp⟩
    refine ⟨rfl, ?_⟩
    refine z_iconst dX9_mode_25 (r32d rfl) ?_
    exact z_zret dX9_mode_26 rfl (Or.inr rfl) ⟨_, rfl, hyp⟩
  · have hyp := hyp.2 c_2
    refine z_iconst dX9_mode_9 (r32d rfl) ?_
    exact z_zret dX9_mode_10 rfl (Or.inl rfl) ⟨_, rfl, hyp⟩
set_option maxRecDepth 20000 in
theorem eX9_named {E : zE} (hE : isC E) {bt : Nat} (hbt : isSu E bt) {d : Nat} {x1 x2 : Int} {h : zH} {K : Int → zH → Prop} (hyp :
  ((x1 = 0) →
      (h 0 3 = (bt : Nat)) ∧
      zCI E mX2_find d [zR (bt + 1), zI x2] h (fun r_2 h_2 =>
        K r_2 h_2)) ∧
  ((x1 = 1) →
      (h 0 3 = (bt : Nat)) ∧
      zCI E mX2_find d [zR (bt + 3), zI x2] h (fun r_4 h_4 =>
        K r_4 h_4)) ∧
  ((x1 = 2) →
      (h 0 3 = (bt : Nat)) ∧
      zCI E mX2_find d [zR (bt + 5), zI x2] h (fun r_6 h_6 =>
        K r_6 h_6)) ∧
  ((x1 = 3) →
      (h 0 3 = (bt : Nat)) ∧
      zCI E mX2_find d [zR (bt + 7), zI x2] h (fun r_8 h_8 =>
        K r_8 h_8)) ∧
  ((x1 ≠ 0 ∧ x1 ≠ 1 ∧ x1 ≠ 2 ∧ x1 ≠ 3) →
    K (-1) h)) :
  zCI E mX9_named (d + 1) [zR 0, zI x1, zI x2] h K := by
  refine zC_in (L0 := [zR 0, zI x1, zI x2]) pn_X9 rfl (Nat.le_of_ble_eq_true rfl) ?_
  refine z_iload_n dX9_named_0 rfl ?_
  have hgo : (x1 ≠ 0 ∧ x1 ≠ 1 ∧ x1 ≠ 2 ∧ x1 ≠ 3) → zG E mX9_named (d + 1) 80 [zR 0, zI x1, zI x2] [] h (qI K) := by
    intro hcc
    have hyp := hyp.2.2.2.2 hcc
    refine z_iconst dX9_named_80 (r32d rfl) ?_
    exact z_iret dX9_named_81 rfl ⟨_, rfl, hyp⟩
  by_cases cr : x1 < 0 ∨ 3 < x1
  · exact z_tsOut (tgt := 80) dX9_named_1 cr (by decide) (hgo ⟨tsne cr (by decide) (by decide), tsne cr (by decide) (by decide), tsne cr (by decide) (by decide), tsne cr (by decide) (by decide)⟩)
  by_cases c_1 : x1 = 0
  · have hyp := hyp.1 c_1
    have hgo : zG E mX9_named (d + 1) 32 [zR 0, zI x1, zI x2] [] h (qI K) := by
      refine z_aload_n dX9_named_32 rfl ?_
      obtain ⟨hdy, hyp⟩ := hyp
      refine gf_X9_27 (c2 := bt) dX9_named_33 rfl (sC_0 hE) (cC_0 hE) hdy ?_
      refine gf_X9_98 (c2 := (bt + 1)) dX9_named_36 rfl ((hbt.2.1)) (Nat.lt_of_le_of_lt (Nat.le_add_right bt 18) hbt.1) rfl ?_
      refine z_iload_n dX9_named_39 rfl ?_
      refine cl_X9_102 dX9_named_40 rfl (((hbt.2.2.1).2.1)) (Nat.lt_of_le_of_lt (Nat.add_le_add_left (Nat.le_of_ble_eq_true rfl : 1 ≤ 18) bt) hbt.1) (Nat.le_of_ble_eq_true rfl) (zC_mono ?_ hyp)
      rintro _ h_2 ⟨r_2, rfl, hyp⟩
      refine ⟨r_2, rfl, ?_⟩
      exact z_iret dX9_named_43 rfl ⟨_, rfl, hyp⟩
    exact z_tsIn (i := 0) (tgt := 32) dX9_named_1 (c_1.trans (by decide)) (by decide) rfl (by decide) hgo
  by_cases c_3 : x1 = 1
  · have hyp := hyp.2.1 c_3
    have hgo : zG E mX9_named (d + 1) 44 [zR 0, zI x1, zI x2] [] h (qI K) := by
      refine z_aload_n dX9_named_44 rfl ?_
      obtain ⟨hdy, hyp⟩ := hyp
      refine gf_X9_27 (c2 := bt) dX9_named_45 rfl (sC_0 hE) (cC_0 hE) hdy ?_
      refine gf_X9_108 (c2 := (bt + 3)) dX9_named_48 rfl ((hbt.2.1)) (Nat.lt_of_le_of_lt (Nat.le_add_right bt 18) hbt.1) rfl ?_
      refine z_iload_n dX9_named_51 rfl ?_
      refine cl_X9_102 dX9_named_52 rfl (((hbt.2.2.2.1).2.1)) (Nat.lt_of_le_of_lt (Nat.add_le_add_left (Nat.le_of_ble_eq_true rfl : 3 ≤ 18) bt) hbt.1) (Nat.le_of_ble_eq_true rfl) (zC_mono ?_ hyp)
      rintro _ h_4 ⟨r_4, rfl, hyp⟩
      refine ⟨r_4, rfl, ?_⟩
      exact z_iret dX9_named_55 rfl ⟨_, rfl, hyp⟩
    exact z_tsIn (i := 1) (tgt := 44) dX9_named_1 (c_3.trans (by decide)) (by decide) rfl (by decide) hgo
  by_cases c_5 : x1 = 2
  · have hyp := hyp.2.2.1 c_5
    have hgo : zG E mX9_named (d + 1) 56 [zR 0, zI x1, zI x2] [] h (qI K) := by
      refine z_aload_n dX9_named_56 rfl ?_
      obtain ⟨hdy, hyp⟩ := hyp
      refine gf_X9_27 (c2 := bt) dX9_named_57 rfl (sC_0 hE) (cC_0 hE) hdy ?_
      refine gf_X9_111 (c2 := (bt + 5)) dX9_named_60 rfl ((hbt.2.1)) (Nat.lt_of_le_of_lt (Nat.le_add_right bt 18) hbt.1) rfl ?_
      refine z_iload_n dX9_named_63 rfl ?_
      refine cl_X9_102 dX9_named_64 rfl (((hbt.2.2.2.2.1).2.1)) (Nat.lt_of_le_of_lt (Nat.add_le_add_left (Nat.le_of_ble_eq_true rfl : 5 ≤ 18) bt) hbt.1) (Nat.le_of_ble_eq_true rfl) (zC_mono ?_ hyp)
      rintro _ h_6 ⟨r_6, rfl, hyp⟩
      refine ⟨r_6, rfl, ?_⟩
      exact z_iret dX9_named_67 rfl ⟨_, rfl, hyp⟩
    exact z_tsIn (i := 2) (tgt := 56) dX9_named_1 (c_5.trans (by decide)) (by decide) rfl (by decide) hgo
  by_cases c_7 : x1 = 3
  · have hyp := hyp.2.2.2.1 c_7
    have hgo : zG E mX9_named (d + 1) 68 [zR 0, zI x1, zI x2] [] h (qI K) := by
      refine z_aload_n dX9_named_68 rfl ?_
      obtain ⟨hdy, hyp⟩ := hyp
      refine gf_X9_27 (c2 := bt) dX9_named_69 rfl (sC_0 hE) (cC_0 hE) hdy ?_
      refine gf_X9_114 (c2 := (bt + 7)) dX9_named_72 rfl ((hbt.2.1)) (Nat.lt_of_le_of_lt (Nat.le_add_right bt 18) hbt.1) rfl ?_
      refine z_iload_n dX9_named_75 rfl ?_
      refine cl_X9_102 dX9_named_76 rfl (((hbt.2.2.2.2.2.1).2.1)) (Nat.lt_of_le_of_lt (Nat.add_le_add_left (Nat.le_of_ble_eq_true rfl : 7 ≤ 18) bt) hbt.1) (Nat.le_of_ble_eq_true rfl) (zC_mono ?_ hyp)
      rintro _ h_8 ⟨r_8, rfl, hyp⟩
      refine ⟨r_8, rfl, ?_⟩
      exact z_iret dX9_named_79 rfl ⟨_, rfl, hyp⟩
    exact z_tsIn (i := 3) (tgt := 68) dX9_named_1 (c_7.trans (by decide)) (by decide) rfl (by decide) hgo
  exact absurd (tsbs (tsbs (tsbs (tsbs (tsb1 cr) c_1) c_3) c_5) c_7) (tsb2 cr)
set_option maxRecDepth 20000 in
theorem bX9_near_13 {E : zE} (hE : isC E) {d : Nat} {x1 x2 x3 : Int} {h : zH} {K : Int → zH → Prop} (hyp :
  ((8 ≤ x3 →
    K x2 h) ∧
  (¬ (8 ≤ x3) →
    zCI E mX9_isNearBy d [zR 0, zI x3, zI x1] h (fun r_2 h_2 =>
      ((r_2 = 0 →
        ∀ x_4 : Int, x_4 = w32 (x3 + 1) →
        zG E mX9_near (d + 1) 13 [zR 0, zI x1, zI x2, zI x_4] [] h_2 (qI K)) ∧
      (¬ (r_2 = 0) →
        ∀ x_5 : Int, x_5 = zor x2 (zshl 1 x3) →
        ∀ x_6 : Int, x_6 = w32 (x3 + 1) →
        zG E mX9_near (d + 1) 13 [zR 0, zI x1, zI x_5, zI x_6] [] h_2 (qI K))))))) :
  zG E mX9_near (d + 1) 13 [zR 0, zI x1, zI x2, zI x3] [] h (qI K) := by
  refine z_iload_n dX9_near_13 rfl ?_
  refine z_bipush dX9_near_14 (r32d rfl) (by decide) ?_
  refine z_icmp_ge (tgt := 40) dX9_near_16 (by decide) (fun c_1 => ?_) (fun c_1 => ?_)
  · have hyp := hyp.1 c_1
    refine z_iload_n dX9_near_40 rfl ?_
    exact z_iret dX9_near_41 rfl ⟨_, rfl, hyp⟩
  · have hyp := hyp.2 c_1
    refine z_aload_n dX9_near_19 rfl ?_
    refine z_iload_n dX9_near_20 rfl ?_
    refine z_iload_n dX9_near_21 rfl ?_
    refine cl_X9_221 dX9_near_22 rfl (sC_0 hE) (cC_0 hE) (Nat.le_of_ble_eq_true rfl) (zC_mono ?_ hyp)
    rintro _ h_2 ⟨r_2, rfl, hyp⟩
    refine ⟨r_2, rfl, ?_⟩
    refine z_if_eq (tgt := 34) dX9_near_25 (by decide) (fun c_3 => ?_) (fun c_3 => ?_)
    · have hyp := hyp.1 c_3
      refine z_iinc dX9_near_34 rfl (by decide) rfl ?_
      generalize ex_4 : w32 (x3 + 1) = x_4
      have hyp := hyp x_4 ex_4.symm
      refine z_goto (tgt := 13) dX9_near_37 (by decide) ?_
      exact hyp
    · have hyp := hyp.2 c_3
      refine z_iload_n dX9_near_28 rfl ?_
      refine z_iconst dX9_near_29 (r32d rfl) ?_
      refine z_iload_n dX9_near_30 rfl ?_
      refine z_ishl dX9_near_31 ?_
      refine z_ior dX9_near_32 ?_
      generalize ex_5 : zor x2 (zshl 1 x3) = x_5
      have hyp := hyp x_5 ex_5.symm
      refine z_istore_n dX9_near_33 rfl (by decide) rfl ?_
      refine z_iinc dX9_near_34 rfl (by decide) rfl ?_
      generalize ex_6 : w32 (x3 + 1) = x_6
      have hyp := hyp x_6 ex_6.symm
      refine z_goto (tgt := 13) dX9_near_37 (by decide) ?_
      exact hyp
set_option maxRecDepth 20000 in
theorem eX9_near {E : zE} (hE : isC E) {d : Nat} {x1 : Int} {h : zH} {K : Int → zH → Prop} (hyp :
  zCI E mX9_isUnit d [zI x1] h (fun r_1 h_1 =>
    ((r_1 ≠ 0 →
      zG E mX9_near (d + 1) 13 [zR 0, zI x1, zI 0, zI 0] [] h_1 (qI K)) ∧
    (¬ (r_1 ≠ 0) →
      K (-1) h_1)))) :
  zCI E mX9_near (d + 1) [zR 0, zI x1] h K := by
  refine zC_in (L0 := [zR 0, zI x1, zU, zU]) pn_X9 rfl (Nat.le_of_ble_eq_true rfl) ?_
  refine z_iload_n dX9_near_0 rfl ?_
  refine cl_X9_208 dX9_near_1 rfl (Nat.le_of_ble_eq_true rfl) (zC_mono ?_ hyp)
  rintro _ h_1 ⟨r_1, rfl, hyp⟩
  refine ⟨r_1, rfl, ?_⟩
  refine z_if_ne (tgt := 9) dX9_near_4 (by decide) (fun c_2 => ?_) (fun c_2 => ?_)
  · have hyp := hyp.1 c_2
    refine z_iconst dX9_near_9 (r32d rfl) ?_
    refine z_istore_n dX9_near_10 rfl (by decide) rfl ?_
    refine z_iconst dX9_near_11 (r32d rfl) ?_
    refine z_istore_n dX9_near_12 rfl (by decide) rfl ?_
    exact hyp
  · have hyp := hyp.2 c_2
    refine z_iconst dX9_near_7 (r32d rfl) ?_
    exact z_iret dX9_near_8 rfl ⟨_, rfl, hyp⟩
set_option maxRecDepth 20000 in
theorem bX9_nearOnes_57 {E : zE} (hE : isC E) {d : Nat} {x1 x2 x3 x4 x6 x7 x8 : Int} {h : zH} {K : Int → zH → Prop} (hyp :
  ((x4 ≤ x8 →
    K x7 h) ∧
  (¬ (x4 ≤ x8) →
    ((0 : Int) ≤ x1 ∧ x1 < (8 : Int)) ∧
    zCI E mX9_isNearAs d [zR 0, zI (w32 (x6 + x8)), zI x2, zI (h 54 x1.toNat), zI (w32 (Int.tdiv x3 4))] h (fun r_2 h_2 =>
      ((r_2 = 0 →
        ∀ x_4 : Int, x_4 = w32 (x8 + 1) →
        zG E mX9_nearOnes (d + 1) 57 [zR 0, zI x1, zI x2, zI x3, zI x4, zU, zI x6, zI x7, zI x_4] [] h_2 (qI K)) ∧
      (¬ (r_2 = 0) →
        ∀ x_5 : Int, x_5 = w32 (x7 + 1) →
        ∀ x_6 : Int, x_6 = w32 (x8 + 1) →
        zG E mX9_nearOnes (d + 1) 57 [zR 0, zI x1, zI x2, zI x3, zI x4, zU, zI x6, zI x_5, zI x_6] [] h_2 (qI K))))))) :
  zG E mX9_nearOnes (d + 1) 57 [zR 0, zI x1, zI x2, zI x3, zI x4, zU, zI x6, zI x7, zI x8] [] h (qI K) := by
  refine z_iload dX9_nearOnes_57 rfl ?_
  refine z_iload dX9_nearOnes_59 rfl ?_
  refine z_icmp_ge (tgt := 98) dX9_nearOnes_61 (by decide) (fun c_1 => ?_) (fun c_1 => ?_)
  · have hyp := hyp.1 c_1
    refine z_iload dX9_nearOnes_98 rfl ?_
    exact z_iret dX9_nearOnes_100 rfl ⟨_, rfl, hyp⟩
  · have hyp := hyp.2 c_1
    refine z_aload_n dX9_nearOnes_64 rfl ?_
    refine z_iload dX9_nearOnes_65 rfl ?_
    refine z_iload dX9_nearOnes_67 rfl ?_
    refine z_iadd dX9_nearOnes_69 ?_
    refine z_iload_n dX9_nearOnes_70 rfl ?_
    refine z_aload_n dX9_nearOnes_71 rfl ?_
    refine gf_X9_54 (c2 := 52) dX9_nearOnes_72 rfl (sC_0 hE) (cC_0 hE) rfl ?_
    refine gf_X9_151 (c2 := 54) dX9_nearOnes_75 rfl (sC_52 hE) (cC_52 hE) rfl ?_
    refine z_iload_n dX9_nearOnes_78 rfl ?_
    obtain ⟨⟨hi0, hi1⟩, hyp⟩ := hyp
    refine z_iaload dX9_nearOnes_79 (sC_54 hE) (cC_54 hE) hi0 hi1 ?_
    refine z_iload_n dX9_nearOnes_80 rfl ?_
    refine z_iconst dX9_nearOnes_81 (r32d rfl) ?_
    refine z_idiv (by decide) dX9_nearOnes_82 ?_
    refine cl_X9_227 dX9_nearOnes_83 rfl (sC_0 hE) (cC_0 hE) (Nat.le_of_ble_eq_true rfl) (zC_mono ?_ hyp)
    rintro _ h_2 ⟨r_2, rfl, hyp⟩
    refine ⟨r_2, rfl, ?_⟩
    refine z_if_eq (tgt := 92) dX9_nearOnes_86 (by decide) (fun c_3 => ?_) (fun c_3 => ?_)
    · have hyp := hyp.1 c_3
      refine z_iinc dX9_nearOnes_92 rfl (by decide) rfl ?_
      generalize ex_4 : w32 (x8 + 1) = x_4
      have hyp := hyp x_4 ex_4.symm
      refine z_goto (tgt := 57) dX9_nearOnes_95 (by decide) ?_
      exact hyp
    · have hyp := hyp.2 c_3
      refine z_iinc dX9_nearOnes_89 rfl (by decide) rfl ?_
      generalize ex_5 : w32 (x7 + 1) = x_5
      have hyp := hyp x_5 ex_5.symm
      refine z_iinc dX9_nearOnes_92 rfl (by decide) rfl ?_
      generalize ex_6 : w32 (x8 + 1) = x_6
      have hyp := hyp x_6 ex_6.symm
      refine z_goto (tgt := 57) dX9_nearOnes_95 (by decide) ?_
      exact hyp
set_option maxRecDepth 20000 in
theorem eX9_nearOnes {E : zE} (hE : isC E) {d : Nat} {x1 x2 : Int} {h : zH} {K : Int → zH → Prop} (hyp :
  zCI E mX0_bestShape d [zR 52, zI x1] h (fun r_1 h_1 =>
    zCI E mX9_placesOf d [zI x2, zI (h_1 0 8)] h_1 (fun r_2 h_2 =>
      ((r_1 = (-1) →
        K 0 h_2) ∧
      (¬ (r_1 = (-1)) →
        ((0 < r_2 →
          zCI E mX0_bestSize d [zR 52, zI x1] h_2 (fun r_5 h_5 =>
            ¬ r_2 = 0 ∧
            ∀ x_6 : Int, x_6 = w32 (r_5 - (w32 (Int.tmod r_5 r_2))) →
            zG E mX9_nearOnes (d + 1) 57 [zR 0, zI x1, zI x2, zI r_1, zI r_2, zU, zI x_6, zI 0, zI 0] [] h_5 (qI K))) ∧
        (¬ (0 < r_2) →
          K 0 h_2))))))) :
  zCI E mX9_nearOnes (d + 1) [zR 0, zI x1, zI x2] h K := by
  refine zC_in (L0 := [zR 0, zI x1, zI x2, zU, zU, zU, zU, zU, zU]) pn_X9 rfl (Nat.le_of_ble_eq_true rfl) ?_
  refine z_aload_n dX9_nearOnes_0 rfl ?_
  refine gf_X9_54 (c2 := 52) dX9_nearOnes_1 rfl (sC_0 hE) (cC_0 hE) rfl ?_
  refine z_iload_n dX9_nearOnes_4 rfl ?_
  refine cl_X9_191 dX9_nearOnes_5 rfl (sC_52 hE) (cC_52 hE) (Nat.le_of_ble_eq_true rfl) (zC_mono ?_ hyp)
  rintro _ h_1 ⟨r_1, rfl, hyp⟩
  refine ⟨r_1, rfl, ?_⟩
  refine z_istore_n dX9_nearOnes_8 rfl (by decide) rfl ?_
  refine z_iload_n dX9_nearOnes_9 rfl ?_
  refine z_aload_n dX9_nearOnes_10 rfl ?_
  refine gf_X9_47 dX9_nearOnes_11 rfl (sC_0 hE) (cC_0 hE) ?_
  refine cl_X9_211 dX9_nearOnes_14 rfl (Nat.le_of_ble_eq_true rfl) (zC_mono ?_ hyp)
  rintro _ h_2 ⟨r_2, rfl, hyp⟩
  refine ⟨r_2, rfl, ?_⟩
  refine z_istore dX9_nearOnes_17 (by decide) rfl ?_
  refine z_iload_n dX9_nearOnes_19 rfl ?_
  refine z_iconst dX9_nearOnes_20 (r32d rfl) ?_
  refine z_icmp_eq (tgt := 29) dX9_nearOnes_21 (by decide) (fun c_3 => ?_) (fun c_3 => ?_)
  · have hyp := hyp.1 c_3
    refine z_iconst dX9_nearOnes_29 (r32d rfl) ?_
    exact z_iret dX9_nearOnes_30 rfl ⟨_, rfl, hyp⟩
  · have hyp := hyp.2 c_3
    refine z_iload dX9_nearOnes_24 rfl ?_
    refine z_if_gt (tgt := 31) dX9_nearOnes_26 (by decide) (fun c_4 => ?_) (fun c_4 => ?_)
    · have hyp := hyp.1 c_4
      refine z_aload_n dX9_nearOnes_31 rfl ?_
      refine gf_X9_54 (c2 := 52) dX9_nearOnes_32 rfl (sC_0 hE) (cC_0 hE) rfl ?_
      refine z_iload_n dX9_nearOnes_35 rfl ?_
      refine cl_X9_224 dX9_nearOnes_36 rfl (sC_52 hE) (cC_52 hE) (Nat.le_of_ble_eq_true rfl) (zC_mono ?_ hyp)
      rintro _ h_5 ⟨r_5, rfl, hyp⟩
      refine ⟨r_5, rfl, ?_⟩
      refine z_istore dX9_nearOnes_39 (by decide) rfl ?_
      refine z_iload dX9_nearOnes_41 rfl ?_
      refine z_iload dX9_nearOnes_43 rfl ?_
      refine z_iload dX9_nearOnes_45 rfl ?_
      obtain ⟨hz, hyp⟩ := hyp
      refine z_irem hz dX9_nearOnes_47 ?_
      refine z_isub dX9_nearOnes_48 ?_
      generalize ex_6 : w32 (r_5 - (w32 (Int.tmod r_5 r_2))) = x_6
      have hyp := hyp x_6 ex_6.symm
      refine z_istore dX9_nearOnes_49 (by decide) rfl ?_
      refine z_iconst dX9_nearOnes_51 (r32d rfl) ?_
      refine z_istore dX9_nearOnes_52 (by decide) rfl ?_
      refine z_iconst dX9_nearOnes_54 (r32d rfl) ?_
      refine z_istore dX9_nearOnes_55 (by decide) rfl ?_
      exact z_forget [true, true, true, true, true, false, true, true, true] rfl hyp
    · have hyp := hyp.2 c_4
      refine z_iconst dX9_nearOnes_29 (r32d rfl) ?_
      exact z_iret dX9_nearOnes_30 rfl ⟨_, rfl, hyp⟩
set_option maxRecDepth 20000 in
theorem bX9_next_6 {E : zE} (hE : isC E) {bt : Nat} (hbt : isSu E bt) {d : Nat} {x1 x2 x3 : Int} {h : zH} {K : Int → zH → Prop} (hyp :
  ((8 ≤ x3 →
    K x2 h) ∧
  (¬ (8 ≤ x3) →
    zCI E mX0_isFitted d [zR 52, zI x3] h (fun r_2 h_2 =>
      ((r_2 ≠ 0 →
        (h_2 0 3 = (bt : Nat)) ∧
        zCI E mX0_edgeOfSpan d [zR 52, zI x3, zI (h_2 bt 16), zI 1] h_2 (fun r_4 h_4 =>
          (h_4 0 3 = (bt : Nat)) ∧
          zCI E mX0_edgeOfSpan d [zR 52, zI x3, zI (h_4 bt 16), zI 0] h_4 (fun r_5 h_5 =>
            ∀ x_6 : Int, x_6 = w32 (r_4 - r_5) →
            ((x_6 ≤ x1 →
              ∀ x_8 : Int, x_8 = w32 (x3 + 1) →
              zG E mX9_next (d + 1) 6 [zR 0, zI x1, zI x2, zI x_8, zU] [] h_5 (qI K)) ∧
            (¬ (x_6 ≤ x1) →
              ∀ x_9 : Int, x_9 = w32 (x3 + 1) →
              zG E mX9_next (d + 1) 6 [zR 0, zI x_6, zI x3, zI x_9, zU] [] h_5 (qI K)))))) ∧
      (¬ (r_2 ≠ 0) →
        ∀ x_10 : Int, x_10 = w32 (x3 + 1) →
        zG E mX9_next (d + 1) 6 [zR 0, zI x1, zI x2, zI x_10, zU] [] h_2 (qI K))))))) :
  zG E mX9_next (d + 1) 6 [zR 0, zI x1, zI x2, zI x3, zU] [] h (qI K) := by
  refine z_iload_n dX9_next_6 rfl ?_
  refine z_bipush dX9_next_7 (r32d rfl) (by decide) ?_
  refine z_icmp_ge (tgt := 78) dX9_next_9 (by decide) (fun c_1 => ?_) (fun c_1 => ?_)
  · have hyp := hyp.1 c_1
    refine z_iload_n dX9_next_78 rfl ?_
    exact z_iret dX9_next_79 rfl ⟨_, rfl, hyp⟩
  · have hyp := hyp.2 c_1
    refine z_aload_n dX9_next_12 rfl ?_
    refine gf_X9_54 (c2 := 52) dX9_next_13 rfl (sC_0 hE) (cC_0 hE) rfl ?_
    refine z_iload_n dX9_next_16 rfl ?_
    refine cl_X9_194 dX9_next_17 rfl (sC_52 hE) (cC_52 hE) (Nat.le_of_ble_eq_true rfl) (zC_mono ?_ hyp)
    rintro _ h_2 ⟨r_2, rfl, hyp⟩
    refine ⟨r_2, rfl, ?_⟩
    refine z_if_ne (tgt := 26) dX9_next_20 (by decide) (fun c_3 => ?_) (fun c_3 => ?_)
    · have hyp := hyp.1 c_3
      refine z_aload_n dX9_next_26 rfl ?_
      refine gf_X9_54 (c2 := 52) dX9_next_27 rfl (sC_0 hE) (cC_0 hE) rfl ?_
      refine z_iload_n dX9_next_30 rfl ?_
      refine z_aload_n dX9_next_31 rfl ?_
      obtain ⟨hdy, hyp⟩ := hyp
      refine gf_X9_27 (c2 := bt) dX9_next_32 rfl (sC_0 hE) (cC_0 hE) hdy ?_
      refine gf_X9_197 dX9_next_35 rfl ((hbt.2.1)) (Nat.lt_of_le_of_lt (Nat.le_add_right bt 18) hbt.1) ?_
      refine z_iconst dX9_next_38 (r32d rfl) ?_
      refine cl_X9_203 dX9_next_39 rfl (sC_52 hE) (cC_52 hE) (Nat.le_of_ble_eq_true rfl) (zC_mono ?_ hyp)
      rintro _ h_4 ⟨r_4, rfl, hyp⟩
      refine ⟨r_4, rfl, ?_⟩
      refine z_aload_n dX9_next_42 rfl ?_
      refine gf_X9_54 (c2 := 52) dX9_next_43 rfl (sC_0 hE) (cC_0 hE) rfl ?_
      refine z_iload_n dX9_next_46 rfl ?_
      refine z_aload_n dX9_next_47 rfl ?_
      obtain ⟨hdy, hyp⟩ := hyp
      refine gf_X9_27 (c2 := bt) dX9_next_48 rfl (sC_0 hE) (cC_0 hE) hdy ?_
      refine gf_X9_197 dX9_next_51 rfl ((hbt.2.1)) (Nat.lt_of_le_of_lt (Nat.le_add_right bt 18) hbt.1) ?_
      refine z_iconst dX9_next_54 (r32d rfl) ?_
      refine cl_X9_203 dX9_next_55 rfl (sC_52 hE) (cC_52 hE) (Nat.le_of_ble_eq_true rfl) (zC_mono ?_ hyp)
      rintro _ h_5 ⟨r_5, rfl, hyp⟩
      refine ⟨r_5, rfl, ?_⟩
      refine z_isub dX9_next_58 ?_
      generalize ex_6 : w32 (r_4 - r_5) = x_6
      have hyp := hyp x_6 ex_6.symm
      refine z_istore dX9_next_59 (by decide) rfl ?_
      refine z_iload dX9_next_61 rfl ?_
      refine z_iload_n dX9_next_63 rfl ?_
      refine z_icmp_le (tgt := 72) dX9_next_64 (by decide) (fun c_7 => ?_) (fun c_7 => ?_)
      · have hyp := hyp.1 c_7
        refine z_iinc dX9_next_72 rfl (by decide) rfl ?_
        generalize ex_8 : w32 (x3 + 1) = x_8
        have hyp := hyp x_8 ex_8.symm
        refine z_goto (tgt := 6) dX9_next_75 (by decide) ?_
        exact z_forget [true, true, true, true, false] rfl hyp
      · have hyp := hyp.2 c_7
        refine z_iload dX9_next_67 rfl ?_
        refine z_istore_n dX9_next_69 rfl (by decide) rfl ?_
        refine z_iload_n dX9_next_70 rfl ?_
        refine z_istore_n dX9_next_71 rfl (by decide) rfl ?_
        refine z_iinc dX9_next_72 rfl (by decide) rfl ?_
        generalize ex_9 : w32 (x3 + 1) = x_9
        have hyp := hyp x_9 ex_9.symm
        refine z_goto (tgt := 6) dX9_next_75 (by decide) ?_
        exact z_forget [true, true, true, true, false] rfl hyp
    · have hyp := hyp.2 c_3
      refine z_goto (tgt := 72) dX9_next_23 (by decide) ?_
      refine z_iinc dX9_next_72 rfl (by decide) rfl ?_
      generalize ex_10 : w32 (x3 + 1) = x_10
      have hyp := hyp x_10 ex_10.symm
      refine z_goto (tgt := 6) dX9_next_75 (by decide) ?_
      exact hyp
set_option maxRecDepth 20000 in
theorem eX9_next {E : zE} (hE : isC E) {bt : Nat} (hbt : isSu E bt) {d : Nat} {h : zH} {K : Int → zH → Prop} (hyp :
  zG E mX9_next (d + 1) 6 [zR 0, zI (-1), zI (-1), zI 0, zU] [] h (qI K)) :
  zCI E mX9_next (d + 1) [zR 0] h K := by
  refine zC_in (L0 := [zR 0, zU, zU, zU, zU]) pn_X9 rfl (Nat.le_of_ble_eq_true rfl) ?_
  refine z_iconst dX9_next_0 (r32d rfl) ?_
  refine z_istore_n dX9_next_1 rfl (by decide) rfl ?_
  refine z_iconst dX9_next_2 (r32d rfl) ?_
  refine z_istore_n dX9_next_3 rfl (by decide) rfl ?_
  refine z_iconst dX9_next_4 (r32d rfl) ?_
  refine z_istore_n dX9_next_5 rfl (by decide) rfl ?_
  exact hyp
set_option maxRecDepth 20000 in
theorem eX9_notesKnown {E : zE} (hE : isC E) {d : Nat} {h : zH} {K : Int → zH → Prop} (hyp :
  (((h 0 6) ≠ (-1) →
    K (h 0 6) h) ∧
  (¬ ((h 0 6) ≠ (-1)) →
    K (h 46 5) h))) :
  zCI E mX9_notesKnown d [zR 0] h K := by
  refine zC_in (L0 := [zR 0]) pn_X9 rfl (Nat.le_of_ble_eq_true rfl) ?_
  refine z_aload_n dX9_notesKnown_0 rfl ?_
  refine gf_X9_41 dX9_notesKnown_1 rfl (sC_0 hE) (cC_0 hE) ?_
  refine z_iconst dX9_notesKnown_4 (r32d rfl) ?_
  refine z_icmp_ne (tgt := 18) dX9_notesKnown_5 (by decide) (fun c_1 => ?_) (fun c_1 => ?_)
  · have hyp := hyp.1 c_1
    refine z_aload_n dX9_notesKnown_18 rfl ?_
    refine gf_X9_41 dX9_notesKnown_19 rfl (sC_0 hE) (cC_0 hE) ?_
    exact z_iret dX9_notesKnown_22 rfl ⟨_, rfl, hyp⟩
  · have hyp := hyp.2 c_1
    refine z_aload_n dX9_notesKnown_8 rfl ?_
    refine gf_X9_37 (c2 := 46) dX9_notesKnown_9 rfl (sC_0 hE) (cC_0 hE) rfl ?_
    refine gf_X9_83 dX9_notesKnown_12 rfl (sC_46 hE) (cC_46 hE) ?_
    refine z_goto (tgt := 22) dX9_notesKnown_15 (by decide) ?_
    exact z_iret dX9_notesKnown_22 rfl ⟨_, rfl, hyp⟩
set_option maxRecDepth 20000 in
theorem bX9_odds_43 {E : zE} (hE : isC E) {d : Nat} {x1 x2 x3 : Int} {h : zH} {K : Int → zH → Prop} (hyp :
  ((8 ≤ x3 →
    zG E mX9_odds (d + 1) 91 [zR 0, zU, zU, zJ 0, zU, zI x2] [] h (qI K)) ∧
  (¬ (8 ≤ x3) →
    zCI E mX0_isFitted d [zR 52, zI x3] h (fun r_2 h_2 =>
      ((r_2 = 0 →
        ∀ x_4 : Int, x_4 = w32 (x3 + 1) →
        zG E mX9_odds (d + 1) 43 [zR 0, zI x1, zI x2, zI x_4, zU, zU] [] h_2 (qI K)) ∧
      (¬ (r_2 = 0) →
        zCI E mX9_nearOnes d [zR 0, zI x3, zI x1] h_2 (fun r_5 h_5 =>
          zCI E mX9_placesOf d [zI x1, zI (h_5 0 8)] h_5 (fun r_6 h_6 =>
            zCV E mX9_spreadRow d [zR 0, zJ r_5, zJ r_6] h_6 (fun h_7 =>
              ∀ x_8 : Int, x_8 = w32 (x3 + 1) →
              zG E mX9_odds (d + 1) 43 [zR 0, zI x1, zI x2, zI x_8, zU, zU] [] h_7 (qI K)))))))))) :
  zG E mX9_odds (d + 1) 43 [zR 0, zI x1, zI x2, zI x3, zU, zU] [] h (qI K) := by
  refine z_iload_n dX9_odds_43 rfl ?_
  refine z_bipush dX9_odds_44 (r32d rfl) (by decide) ?_
  refine z_icmp_ge (tgt := 86) dX9_odds_46 (by decide) (fun c_1 => ?_) (fun c_1 => ?_)
  · have hyp := hyp.1 c_1
    refine z_lconst (x := 0) dX9_odds_86 (by decide) (r64d rfl) ?_
    refine z_lstore_n dX9_odds_87 rfl (by decide) rfl ?_
    refine z_iload_n dX9_odds_88 rfl ?_
    refine z_istore dX9_odds_89 (by decide) rfl ?_
    exact z_forget [true, false, false, true, false, true] rfl hyp
  · have hyp := hyp.2 c_1
    refine z_aload_n dX9_odds_49 rfl ?_
    refine gf_X9_54 (c2 := 52) dX9_odds_50 rfl (sC_0 hE) (cC_0 hE) rfl ?_
    refine z_iload_n dX9_odds_53 rfl ?_
    refine cl_X9_194 dX9_odds_54 rfl (sC_52 hE) (cC_52 hE) (Nat.le_of_ble_eq_true rfl) (zC_mono ?_ hyp)
    rintro _ h_2 ⟨r_2, rfl, hyp⟩
    refine ⟨r_2, rfl, ?_⟩
    refine z_if_eq (tgt := 80) dX9_odds_57 (by decide) (fun c_3 => ?_) (fun c_3 => ?_)
    · have hyp := hyp.1 c_3
      refine z_iinc dX9_odds_80 rfl (by decide) rfl ?_
      generalize ex_4 : w32 (x3 + 1) = x_4
      have hyp := hyp x_4 ex_4.symm
      refine z_goto (tgt := 43) dX9_odds_83 (by decide) ?_
      exact hyp
    · have hyp := hyp.2 c_3
      refine z_aload_n dX9_odds_60 rfl ?_
      refine z_aload_n dX9_odds_61 rfl ?_
      refine z_iload_n dX9_odds_62 rfl ?_
      refine z_iload_n dX9_odds_63 rfl ?_
      refine cl_X9_265 dX9_odds_64 rfl (sC_0 hE) (cC_0 hE) (Nat.le_of_ble_eq_true rfl) (zC_mono ?_ hyp)
      rintro _ h_5 ⟨r_5, rfl, hyp⟩
      refine ⟨r_5, rfl, ?_⟩
      refine z_i2l dX9_odds_67 ?_
      refine z_iload_n dX9_odds_68 rfl ?_
      refine z_aload_n dX9_odds_69 rfl ?_
      refine gf_X9_47 dX9_odds_70 rfl (sC_0 hE) (cC_0 hE) ?_
      refine cl_X9_211 dX9_odds_73 rfl (Nat.le_of_ble_eq_true rfl) (zC_mono ?_ hyp)
      rintro _ h_6 ⟨r_6, rfl, hyp⟩
      refine ⟨r_6, rfl, ?_⟩
      refine z_i2l dX9_odds_76 ?_
      refine cl_X9_268 dX9_odds_77 rfl (sC_0 hE) (cC_0 hE) (Nat.le_of_ble_eq_true rfl) (zC_mono ?_ hyp)
      rintro _ h_7 ⟨rfl, hyp⟩
      refine ⟨rfl, ?_⟩
      refine z_iinc dX9_odds_80 rfl (by decide) rfl ?_
      generalize ex_8 : w32 (x3 + 1) = x_8
      have hyp := hyp x_8 ex_8.symm
      refine z_goto (tgt := 43) dX9_odds_83 (by decide) ?_
      exact hyp
set_option maxRecDepth 20000 in
theorem bX9_odds_91 {E : zE} (hE : isC E) {d : Nat} {y3 x5 : Int} {h : zH} {K : Int → zH → Prop} (hyp :
  ((9 ≤ x5 →
    K (w32 y3) h) ∧
  (¬ (9 ≤ x5) →
    ((0 : Int) ≤ x5 ∧ x5 < (9 : Int)) ∧
    ∀ y_2 : Int, y_2 = w64 (y3 + (h 80 x5.toNat)) →
    ∀ x_3 : Int, x_3 = w32 (x5 + 1) →
    zG E mX9_odds (d + 1) 91 [zR 0, zU, zU, zJ y_2, zU, zI x_3] [] h (qI K)))) :
  zG E mX9_odds (d + 1) 91 [zR 0, zU, zU, zJ y3, zU, zI x5] [] h (qI K) := by
  refine z_iload dX9_odds_91 rfl ?_
  refine z_aload_n dX9_odds_93 rfl ?_
  refine gf_X9_71 (c2 := 80) dX9_odds_94 rfl (sC_0 hE) (cC_0 hE) rfl ?_
  refine z_alen dX9_odds_97 (sC_80 hE) (by decide) (by decide) (by decide) (cC_80 hE) ?_
  refine z_icmp_ge (tgt := 117) dX9_odds_98 (by decide) (fun c_1 => ?_) (fun c_1 => ?_)
  · have hyp := hyp.1 c_1
    refine z_lload_n dX9_odds_117 rfl ?_
    refine z_l2i dX9_odds_118 ?_
    exact z_iret dX9_odds_119 rfl ⟨_, rfl, hyp⟩
  · have hyp := hyp.2 c_1
    refine z_lload_n dX9_odds_101 rfl ?_
    refine z_aload_n dX9_odds_102 rfl ?_
    refine gf_X9_71 (c2 := 80) dX9_odds_103 rfl (sC_0 hE) (cC_0 hE) rfl ?_
    refine z_iload dX9_odds_106 rfl ?_
    obtain ⟨⟨hi0, hi1⟩, hyp⟩ := hyp
    refine z_laload dX9_odds_108 (sC_80 hE) (cC_80 hE) hi0 hi1 ?_
    refine z_ladd dX9_odds_109 ?_
    generalize ey_2 : w64 (y3 + (h 80 x5.toNat)) = y_2
    have hyp := hyp y_2 ey_2.symm
    refine z_lstore_n dX9_odds_110 rfl (by decide) rfl ?_
    refine z_iinc dX9_odds_111 rfl (by decide) rfl ?_
    generalize ex_3 : w32 (x5 + 1) = x_3
    have hyp := hyp x_3 ex_3.symm
    refine z_goto (tgt := 91) dX9_odds_114 (by decide) ?_
    exact hyp
set_option maxRecDepth 20000 in
theorem eX9_odds {E : zE} (hE : isC E) {d : Nat} {x1 x2 : Int} {h : zH} {K : Int → zH → Prop} (hyp :
  zCI E mX9_isUnit d [zI x1] h (fun r_1 h_1 =>
    ((r_1 = 0 →
      K (-1) h_1) ∧
    (¬ (r_1 = 0) →
      ((x2 < 0 →
        K (-1) h_1) ∧
      (¬ (x2 < 0) →
        zCI E mX0_fittedRings d [zR 52] h_1 (fun r_4 h_4 =>
          ((x2 ≤ r_4 →
            zCV E mJ7_fill_d0a16 d [zR 80, zJ 0] h_4 (fun h_6 =>
              ∀ h_7 : zH, h_7 = hset h_6 80 0 1000000000 →
              zG E mX9_odds (d + 1) 43 [zR 0, zI x1, zI x2, zI 0, zU, zU] [] h_7 (qI K))) ∧
          (¬ (x2 ≤ r_4) →
            K (-1) h_4))))))))) :
  zCI E mX9_odds (d + 1) [zR 0, zI x1, zI x2] h K := by
  refine zC_in (L0 := [zR 0, zI x1, zI x2, zU, zU, zU]) pn_X9 rfl (Nat.le_of_ble_eq_true rfl) ?_
  refine z_iload_n dX9_odds_0 rfl ?_
  refine cl_X9_208 dX9_odds_1 rfl (Nat.le_of_ble_eq_true rfl) (zC_mono ?_ hyp)
  rintro _ h_1 ⟨r_1, rfl, hyp⟩
  refine ⟨r_1, rfl, ?_⟩
  refine z_if_eq (tgt := 22) dX9_odds_4 (by decide) (fun c_2 => ?_) (fun c_2 => ?_)
  · have hyp := hyp.1 c_2
    refine z_iconst dX9_odds_22 (r32d rfl) ?_
    exact z_iret dX9_odds_23 rfl ⟨_, rfl, hyp⟩
  · have hyp := hyp.2 c_2
    refine z_iload_n dX9_odds_7 rfl ?_
    refine z_if_lt (tgt := 22) dX9_odds_8 (by decide) (fun c_3 => ?_) (fun c_3 => ?_)
    · have hyp := hyp.1 c_3
      refine z_iconst dX9_odds_22 (r32d rfl) ?_
      exact z_iret dX9_odds_23 rfl ⟨_, rfl, hyp⟩
    · have hyp := hyp.2 c_3
      refine z_iload_n dX9_odds_11 rfl ?_
      refine z_aload_n dX9_odds_12 rfl ?_
      refine gf_X9_54 (c2 := 52) dX9_odds_13 rfl (sC_0 hE) (cC_0 hE) rfl ?_
      refine cl_X9_254 dX9_odds_16 rfl (sC_52 hE) (cC_52 hE) (Nat.le_of_ble_eq_true rfl) (zC_mono ?_ hyp)
      rintro _ h_4 ⟨r_4, rfl, hyp⟩
      refine ⟨r_4, rfl, ?_⟩
      refine z_icmp_le (tgt := 24) dX9_odds_19 (by decide) (fun c_5 => ?_) (fun c_5 => ?_)
      · have hyp := hyp.1 c_5
        refine z_aload_n dX9_odds_24 rfl ?_
        refine gf_X9_71 (c2 := 80) dX9_odds_25 rfl (sC_0 hE) (cC_0 hE) rfl ?_
        refine z_lconst (x := 0) dX9_odds_28 (by decide) (r64d rfl) ?_
        refine cl_X9_257 dX9_odds_29 rfl (Nat.le_of_ble_eq_true rfl) (zC_mono ?_ hyp)
        rintro _ h_6 ⟨rfl, hyp⟩
        refine ⟨rfl, ?_⟩
        refine z_aload_n dX9_odds_32 rfl ?_
        refine gf_X9_71 (c2 := 80) dX9_odds_33 rfl (sC_0 hE) (cC_0 hE) rfl ?_
        refine z_iconst dX9_odds_36 (r32d rfl) ?_
        refine z_ldc2 (x := 1000000000) dX9_odds_37 rfl wk_X9_263 (by decide) (r64d rfl) ?_
        refine z_lastore dX9_odds_40 (sC_80 hE) (cC_80 hE) (by decide) (by decide) ?_
        generalize eh_7 : hset h_6 80 _ 1000000000 = h_7
        have hyp := hyp h_7 eh_7.symm
        refine z_iconst dX9_odds_41 (r32d rfl) ?_
        refine z_istore_n dX9_odds_42 rfl (by decide) rfl ?_
        exact hyp
      · have hyp := hyp.2 c_5
        refine z_iconst dX9_odds_22 (r32d rfl) ?_
        exact z_iret dX9_odds_23 rfl ⟨_, rfl, hyp⟩
set_option maxRecDepth 20000 in
theorem eX9_offBy {E : zE} (hE : isC E) {d : Nat} {x0 x1 : Int} {h : zH} {K : Int → zH → Prop} (hyp :
  ((0 < x1 →
    ¬ x1 = 0 ∧
    ∀ x_2 : Int, x_2 = w32 (Int.tmod x0 x1) →
    (((w32 (2 * x_2)) ≤ x1 →
      K x_2 h) ∧
    (¬ ((w32 (2 * x_2)) ≤ x1) →
      K (w32 (x1 - x_2)) h))) ∧
  (¬ (0 < x1) →
    K 0 h))) :
  zCI E mX9_offBy d [zI x0, zI x1] h K := by
  refine zC_in (L0 := [zI x0, zI x1, zU]) pn_X9 rfl (Nat.le_of_ble_eq_true rfl) ?_
  refine z_iload_n dX9_offBy_0 rfl ?_
  refine z_if_gt (tgt := 6) dX9_offBy_1 (by decide) (fun c_1 => ?_) (fun c_1 => ?_)
  · have hyp := hyp.1 c_1
    refine z_iload_n dX9_offBy_6 rfl ?_
    refine z_iload_n dX9_offBy_7 rfl ?_
    obtain ⟨hz, hyp⟩ := hyp
    refine z_irem hz dX9_offBy_8 ?_
    generalize ex_2 : w32 (Int.tmod x0 x1) = x_2
    have hyp := hyp x_2 ex_2.symm
    refine z_istore_n dX9_offBy_9 rfl (by decide) rfl ?_
    refine z_iconst dX9_offBy_10 (r32d rfl) ?_
    refine z_iload_n dX9_offBy_11 rfl ?_
    refine z_imul dX9_offBy_12 ?_
    refine z_iload_n dX9_offBy_13 rfl ?_
    refine z_icmp_le (tgt := 23) dX9_offBy_14 (by decide) (fun c_3 => ?_) (fun c_3 => ?_)
    · have hyp := hyp.1 c_3
      refine z_iload_n dX9_offBy_23 rfl ?_
      exact z_iret dX9_offBy_24 rfl ⟨_, rfl, hyp⟩
    · have hyp := hyp.2 c_3
      refine z_iload_n dX9_offBy_17 rfl ?_
      refine z_iload_n dX9_offBy_18 rfl ?_
      refine z_isub dX9_offBy_19 ?_
      refine z_goto (tgt := 24) dX9_offBy_20 (by decide) ?_
      exact z_iret dX9_offBy_24 rfl ⟨_, rfl, hyp⟩
  · have hyp := hyp.2 c_1
    refine z_iconst dX9_offBy_4 (r32d rfl) ?_
    exact z_iret dX9_offBy_5 rfl ⟨_, rfl, hyp⟩
set_option maxRecDepth 20000 in
theorem eX9_placesOf {E : zE} (hE : isC E) {d : Nat} {x0 x1 : Int} {h : zH} {K : Int → zH → Prop} (hyp :
  ((x1 = 0 →
    K x0 h) ∧
  (¬ (x1 = 0) →
    K (w32 (Int.tdiv x0 2)) h))) :
  zCI E mX9_placesOf d [zI x0, zI x1] h K := by
  refine zC_in (L0 := [zI x0, zI x1]) pn_X9 rfl (Nat.le_of_ble_eq_true rfl) ?_
  refine z_iload_n dX9_placesOf_0 rfl ?_
  refine z_if_eq (tgt := 10) dX9_placesOf_1 (by decide) (fun c_1 => ?_) (fun c_1 => ?_)
  · have hyp := hyp.1 c_1
    refine z_iload_n dX9_placesOf_10 rfl ?_
    exact z_iret dX9_placesOf_11 rfl ⟨_, rfl, hyp⟩
  · have hyp := hyp.2 c_1
    refine z_iload_n dX9_placesOf_4 rfl ?_
    refine z_iconst dX9_placesOf_5 (r32d rfl) ?_
    refine z_idiv (by decide) dX9_placesOf_6 ?_
    refine z_goto (tgt := 11) dX9_placesOf_7 (by decide) ?_
    exact z_iret dX9_placesOf_11 rfl ⟨_, rfl, hyp⟩
set_option maxRecDepth 20000 in
theorem bX9_putFourBytes_3 {E : zE} (hE : isC E) {d : Nat} {x1 x2 : Int} {h : zH} {K : zH → Prop} (hyp :
  ((x2 < 0 →
    K h) ∧
  (¬ (x2 < 0) →
    ((900 ≤ (h 0 1) →
      K h) ∧
    (¬ (900 ≤ (h 0 1)) →
      ((0 : Int) ≤ h 0 1 ∧ h 0 1 < (900 : Int)) ∧
      (0 ≤ zi2c (zand (zushr x1 x2) 255) ∧ zi2c (zand (zushr x1 x2) 255) < 65536) ∧
      ∀ h_3 : zH, h_3 = hset h 1 ((h 0 1).toNat) (zi2c (zand (zushr x1 x2) 255)) →
      ∀ h_4 : zH, h_4 = hset h_3 0 1 (w32 ((h_3 0 1) + 1)) →
      ∀ x_5 : Int, x_5 = w32 (x2 + (-8)) →
      zG E mX9_putFourBytes d 3 [zR 0, zI x1, zI x_5] [] h_4 (qV K)))))) :
  zG E mX9_putFourBytes d 3 [zR 0, zI x1, zI x2] [] h (qV K) := by
  refine z_iload_n dX9_putFourBytes_3 rfl ?_
  refine z_if_lt (tgt := 50) dX9_putFourBytes_4 (by decide) (fun c_1 => ?_) (fun c_1 => ?_)
  · have hyp := hyp.1 c_1
    exact z_vret dX9_putFourBytes_50 rfl ⟨rfl, hyp⟩
  · have hyp := hyp.2 c_1
    refine z_aload_n dX9_putFourBytes_7 rfl ?_
    refine gf_X9_13 dX9_putFourBytes_8 rfl (sC_0 hE) (cC_0 hE) ?_
    refine z_sipush dX9_putFourBytes_11 (r32d rfl) (by decide) ?_
    refine z_icmp_ge (tgt := 50) dX9_putFourBytes_14 (by decide) (fun c_2 => ?_) (fun c_2 => ?_)
    · have hyp := hyp.1 c_2
      exact z_vret dX9_putFourBytes_50 rfl ⟨rfl, hyp⟩
    · have hyp := hyp.2 c_2
      refine z_aload_n dX9_putFourBytes_17 rfl ?_
      refine gf_X9_9 (c2 := 1) dX9_putFourBytes_18 rfl (sC_0 hE) (cC_0 hE) rfl ?_
      refine z_aload_n dX9_putFourBytes_21 rfl ?_
      refine gf_X9_13 dX9_putFourBytes_22 rfl (sC_0 hE) (cC_0 hE) ?_
      refine z_iload_n dX9_putFourBytes_25 rfl ?_
      refine z_iload_n dX9_putFourBytes_26 rfl ?_
      refine z_iushr dX9_putFourBytes_27 ?_
      refine z_sipush dX9_putFourBytes_28 (r32d rfl) (by decide) ?_
      refine z_iand dX9_putFourBytes_31 ?_
      refine z_i2c dX9_putFourBytes_32 ?_
      obtain ⟨⟨hi0, hi1⟩, hyp⟩ := hyp
      obtain ⟨⟨hx0, hx1⟩, hyp⟩ := hyp
      refine z_castore dX9_putFourBytes_33 (sC_1 hE) (cC_1 hE) hi0 hi1 hx0 hx1 ?_
      generalize eh_3 : hset h 1 _ (zi2c (zand (zushr x1 x2) 255)) = h_3
      have hyp := hyp h_3 eh_3.symm
      refine z_aload_n dX9_putFourBytes_34 rfl ?_
      refine z_dup dX9_putFourBytes_35 rfl ?_
      refine gf_X9_13 dX9_putFourBytes_36 rfl (sC_0 hE) (cC_0 hE) ?_
      refine z_iconst dX9_putFourBytes_39 (r32d rfl) ?_
      refine z_iadd dX9_putFourBytes_40 ?_
      refine pf_X9_13 dX9_putFourBytes_41 rfl (sC_0 hE) (cC_0 hE) ?_
      generalize eh_4 : hset h_3 0 1 _ = h_4
      have hyp := hyp h_4 eh_4.symm
      refine z_iinc dX9_putFourBytes_44 rfl (by decide) rfl ?_
      generalize ex_5 : w32 (x2 + (-8)) = x_5
      have hyp := hyp x_5 ex_5.symm
      refine z_goto (tgt := 3) dX9_putFourBytes_47 (by decide) ?_
      exact hyp
set_option maxRecDepth 20000 in
theorem eX9_putFourBytes {E : zE} (hE : isC E) {d : Nat} {x1 : Int} {h : zH} {K : zH → Prop} (hyp :
  zG E mX9_putFourBytes d 3 [zR 0, zI x1, zI 24] [] h (qV K)) :
  zCV E mX9_putFourBytes d [zR 0, zI x1] h K := by
  refine zC_in (L0 := [zR 0, zI x1, zU]) pn_X9 rfl (Nat.le_of_ble_eq_true rfl) ?_
  refine z_bipush dX9_putFourBytes_0 (r32d rfl) (by decide) ?_
  refine z_istore_n dX9_putFourBytes_2 rfl (by decide) rfl ?_
  exact hyp
set_option maxRecDepth 20000 in
theorem bX9_rootOf_37 {E : zE} (hE : isC E) {d : Nat} {y0 y4 x6 : Int} {h : zH} {K : Int → zH → Prop} (hyp :
  ((200 ≤ x6 →
    K y4 h) ∧
  (¬ (200 ≤ x6) →
    ((y4 ≤ 0 →
      K y4 h) ∧
    (¬ (y4 ≤ 0) →
      ¬ y4 = 0 ∧
      ∀ y_3 : Int, y_3 = w64 (Int.tdiv (w64 (y4 + (w64 (Int.tdiv y0 y4)))) 2) →
      ((y_3 < y4 →
        ∀ x_5 : Int, x_5 = w32 (x6 + 1) →
        zG E mX9_rootOf d 37 [zJ y0, zU, zU, zU, zJ y_3, zU, zI x_5, zU, zU] [] h (qJ K)) ∧
      (¬ (y_3 < y4) →
        K y4 h))))))) :
  zG E mX9_rootOf d 37 [zJ y0, zU, zU, zU, zJ y4, zU, zI x6, zU, zU] [] h (qJ K) := by
  refine z_iload dX9_rootOf_37 rfl ?_
  refine z_sipush dX9_rootOf_39 (r32d rfl) (by decide) ?_
  refine z_icmp_ge (tgt := 86) dX9_rootOf_42 (by decide) (fun c_1 => ?_) (fun c_1 => ?_)
  · have hyp := hyp.1 c_1
    refine z_lload dX9_rootOf_86 rfl ?_
    exact z_lret dX9_rootOf_88 rfl ⟨_, rfl, hyp⟩
  · have hyp := hyp.2 c_1
    refine z_lload dX9_rootOf_45 rfl ?_
    refine z_lconst (x := 0) dX9_rootOf_47 (by decide) (r64d rfl) ?_
    refine z_lc_le (tgt := 86) dX9_rootOf_48 dX9_rootOf_49 (by decide) (fun c_2 => ?_) (fun c_2 => ?_)
    · have hyp := hyp.1 c_2
      refine z_lload dX9_rootOf_86 rfl ?_
      exact z_lret dX9_rootOf_88 rfl ⟨_, rfl, hyp⟩
    · have hyp := hyp.2 c_2
      refine z_lload dX9_rootOf_52 rfl ?_
      refine z_lload_n dX9_rootOf_54 rfl ?_
      refine z_lload dX9_rootOf_55 rfl ?_
      obtain ⟨hz, hyp⟩ := hyp
      refine z_ldiv hz dX9_rootOf_57 ?_
      refine z_ladd dX9_rootOf_58 ?_
      refine z_ldc2 (x := 2) dX9_rootOf_59 rfl wk_X9_347 (by decide) (r64d rfl) ?_
      refine z_ldiv (by decide) dX9_rootOf_62 ?_
      generalize ey_3 : w64 (Int.tdiv (w64 (y4 + (w64 (Int.tdiv y0 y4)))) 2) = y_3
      have hyp := hyp y_3 ey_3.symm
      refine z_lstore dX9_rootOf_63 (by decide) rfl ?_
      refine z_lload dX9_rootOf_65 rfl ?_
      refine z_lload dX9_rootOf_67 rfl ?_
      refine z_lc_lt (tgt := 76) dX9_rootOf_69 dX9_rootOf_70 (by decide) (fun c_4 => ?_) (fun c_4 => ?_)
      · have hyp := hyp.1 c_4
        refine z_lload dX9_rootOf_76 rfl ?_
        refine z_lstore dX9_rootOf_78 (by decide) rfl ?_
        refine z_iinc dX9_rootOf_80 rfl (by decide) rfl ?_
        generalize ex_5 : w32 (x6 + 1) = x_5
        have hyp := hyp x_5 ex_5.symm
        refine z_goto (tgt := 37) dX9_rootOf_83 (by decide) ?_
        exact z_forget [true, false, false, false, true, false, true, false, false] rfl hyp
      · have hyp := hyp.2 c_4
        refine z_lload dX9_rootOf_73 rfl ?_
        exact z_lret dX9_rootOf_75 rfl ⟨_, rfl, hyp⟩
set_option maxRecDepth 20000 in
theorem eX9_rootOf {E : zE} (hE : isC E) {d : Nat} {y0 y2 : Int} {h : zH} {K : Int → zH → Prop} (hyp :
  ((0 < y0 →
    ((y2 ≤ 0 →
      ∀ y_3 : Int, y_3 = w64 (Int.tdiv (w64 (1 + (w64 (Int.tdiv y0 1)))) 2) →
      zG E mX9_rootOf d 37 [zJ y0, zU, zU, zU, zJ y_3, zU, zI 0, zU, zU] [] h (qJ K)) ∧
    (¬ (y2 ≤ 0) →
      ¬ y2 = 0 ∧
      ∀ y_4 : Int, y_4 = w64 (Int.tdiv (w64 (y2 + (w64 (Int.tdiv y0 y2)))) 2) →
      zG E mX9_rootOf d 37 [zJ y0, zU, zU, zU, zJ y_4, zU, zI 0, zU, zU] [] h (qJ K)))) ∧
  (¬ (0 < y0) →
    K 0 h))) :
  zCJ E mX9_rootOf d [zJ y0, zJ y2] h K := by
  refine zC_in (L0 := [zJ y0, zU, zJ y2, zU, zU, zU, zU, zU, zU]) pn_X9 rfl (Nat.le_of_ble_eq_true rfl) ?_
  refine z_lload_n dX9_rootOf_0 rfl ?_
  refine z_lconst (x := 0) dX9_rootOf_1 (by decide) (r64d rfl) ?_
  refine z_lc_gt (tgt := 8) dX9_rootOf_2 dX9_rootOf_3 (by decide) (fun c_1 => ?_) (fun c_1 => ?_)
  · have hyp := hyp.1 c_1
    refine z_lload_n dX9_rootOf_8 rfl ?_
    refine z_lconst (x := 0) dX9_rootOf_9 (by decide) (r64d rfl) ?_
    refine z_lc_le (tgt := 18) dX9_rootOf_10 dX9_rootOf_11 (by decide) (fun c_2 => ?_) (fun c_2 => ?_)
    · have hyp := hyp.1 c_2
      refine z_lconst (x := 1) dX9_rootOf_18 (by decide) (r64d rfl) ?_
      refine z_lstore dX9_rootOf_19 (by decide) rfl ?_
      refine z_lload dX9_rootOf_21 rfl ?_
      refine z_lload_n dX9_rootOf_23 rfl ?_
      refine z_lload dX9_rootOf_24 rfl ?_
      refine z_ldiv (by decide) dX9_rootOf_26 ?_
      refine z_ladd dX9_rootOf_27 ?_
      refine z_ldc2 (x := 2) dX9_rootOf_28 rfl wk_X9_347 (by decide) (r64d rfl) ?_
      refine z_ldiv (by decide) dX9_rootOf_31 ?_
      generalize ey_3 : w64 (Int.tdiv (w64 (1 + (w64 (Int.tdiv y0 1)))) 2) = y_3
      have hyp := hyp y_3 ey_3.symm
      refine z_lstore dX9_rootOf_32 (by decide) rfl ?_
      refine z_iconst dX9_rootOf_34 (r32d rfl) ?_
      refine z_istore dX9_rootOf_35 (by decide) rfl ?_
      exact z_forget [true, false, false, false, true, false, true, false, false] rfl hyp
    · have hyp := hyp.2 c_2
      refine z_lload_n dX9_rootOf_14 rfl ?_
      refine z_goto (tgt := 19) dX9_rootOf_15 (by decide) ?_
      refine z_lstore dX9_rootOf_19 (by decide) rfl ?_
      refine z_lload dX9_rootOf_21 rfl ?_
      refine z_lload_n dX9_rootOf_23 rfl ?_
      refine z_lload dX9_rootOf_24 rfl ?_
      obtain ⟨hz, hyp⟩ := hyp
      refine z_ldiv hz dX9_rootOf_26 ?_
      refine z_ladd dX9_rootOf_27 ?_
      refine z_ldc2 (x := 2) dX9_rootOf_28 rfl wk_X9_347 (by decide) (r64d rfl) ?_
      refine z_ldiv (by decide) dX9_rootOf_31 ?_
      generalize ey_4 : w64 (Int.tdiv (w64 (y2 + (w64 (Int.tdiv y0 y2)))) 2) = y_4
      have hyp := hyp y_4 ey_4.symm
      refine z_lstore dX9_rootOf_32 (by decide) rfl ?_
      refine z_iconst dX9_rootOf_34 (r32d rfl) ?_
      refine z_istore dX9_rootOf_35 (by decide) rfl ?_
      exact z_forget [true, false, false, false, true, false, true, false, false] rfl hyp
  · have hyp := hyp.2 c_1
    refine z_lconst (x := 0) dX9_rootOf_6 (by decide) (r64d rfl) ?_
    exact z_lret dX9_rootOf_7 rfl ⟨_, rfl, hyp⟩
set_option maxRecDepth 20000 in
theorem eX9_sizeThen {E : zE} (hE : isC E) {d : Nat} {x1 : Int} {h : zH} {K : Int → zH → Prop} (hyp :
  zCI E mX0_isAs d [zR 64, zR 52, zI x1] h (fun r_1 h_1 =>
    ((r_1 = 0 →
      zCI E mX0_bestSize d [zR 64, zI x1] h_1 (fun r_3 h_3 =>
        K r_3 h_3)) ∧
    (¬ (r_1 = 0) →
      zCI E mX0_bestSize d [zR 52, zI x1] h_1 (fun r_4 h_4 =>
        K r_4 h_4))))) :
  zCI E mX9_sizeThen (d + 1) [zR 0, zI x1] h K := by
  refine zC_in (L0 := [zR 0, zI x1]) pn_X9 rfl (Nat.le_of_ble_eq_true rfl) ?_
  refine z_aload_n dX9_sizeThen_0 rfl ?_
  refine gf_X9_58 (c2 := 64) dX9_sizeThen_1 rfl (sC_0 hE) (cC_0 hE) rfl ?_
  refine z_aload_n dX9_sizeThen_4 rfl ?_
  refine gf_X9_54 (c2 := 52) dX9_sizeThen_5 rfl (sC_0 hE) (cC_0 hE) rfl ?_
  refine z_iload_n dX9_sizeThen_8 rfl ?_
  refine cl_X9_314 dX9_sizeThen_9 rfl (sC_64 hE) (cC_64 hE) (Nat.le_of_ble_eq_true rfl) (zC_mono ?_ hyp)
  rintro _ h_1 ⟨r_1, rfl, hyp⟩
  refine ⟨r_1, rfl, ?_⟩
  refine z_if_eq (tgt := 26) dX9_sizeThen_12 (by decide) (fun c_2 => ?_) (fun c_2 => ?_)
  · have hyp := hyp.1 c_2
    refine z_aload_n dX9_sizeThen_26 rfl ?_
    refine gf_X9_58 (c2 := 64) dX9_sizeThen_27 rfl (sC_0 hE) (cC_0 hE) rfl ?_
    refine z_iload_n dX9_sizeThen_30 rfl ?_
    refine cl_X9_224 dX9_sizeThen_31 rfl (sC_64 hE) (cC_64 hE) (Nat.le_of_ble_eq_true rfl) (zC_mono ?_ hyp)
    rintro _ h_3 ⟨r_3, rfl, hyp⟩
    refine ⟨r_3, rfl, ?_⟩
    exact z_iret dX9_sizeThen_34 rfl ⟨_, rfl, hyp⟩
  · have hyp := hyp.2 c_2
    refine z_aload_n dX9_sizeThen_15 rfl ?_
    refine gf_X9_54 (c2 := 52) dX9_sizeThen_16 rfl (sC_0 hE) (cC_0 hE) rfl ?_
    refine z_iload_n dX9_sizeThen_19 rfl ?_
    refine cl_X9_224 dX9_sizeThen_20 rfl (sC_52 hE) (cC_52 hE) (Nat.le_of_ble_eq_true rfl) (zC_mono ?_ hyp)
    rintro _ h_4 ⟨r_4, rfl, hyp⟩
    refine ⟨r_4, rfl, ?_⟩
    refine z_goto (tgt := 34) dX9_sizeThen_23 (by decide) ?_
    exact z_iret dX9_sizeThen_34 rfl ⟨_, rfl, hyp⟩
set_option maxRecDepth 20000 in
theorem eX9_sort {E : zE} (hE : isC E) {d : Nat} {x1 x2 x3 : Int} {h : zH} {K : Int → zH → Prop} (hyp :
  zCI E mX9_isBeyond d [zI x1, zI 0, zI 2] h (fun r_1 h_1 =>
    ((r_1 ≠ 0 →
      K (-1) h_1) ∧
    (¬ (r_1 ≠ 0) →
      zCI E mX9_isUnit d [zI x2] h_1 (fun r_3 h_3 =>
        ((r_3 = 0 →
          K (-1) h_3) ∧
        (¬ (r_3 = 0) →
          zCI E mX9_isBeyond d [zI x3, zI 0, zI 1] h_3 (fun r_5 h_5 =>
            ((r_5 = 0 →
              zCV E mX9_gather d [zR 0, zI (-1), zI x1] h_5 (fun h_7 =>
                ((x3 ≠ 0 →
                  K (h_7 76 1) h_7) ∧
                (¬ (x3 ≠ 0) →
                  zCI E mX9_placesOf d [zI x2, zI (h_7 0 8)] h_7 (fun r_9 h_9 =>
                    zCI E mX7_sumOfLumps d [zR 76, zI r_9] h_9 (fun r_10 h_10 =>
                      K r_10 h_10)))))) ∧
            (¬ (r_5 = 0) →
              K (-1) h_5)))))))))) :
  zCI E mX9_sort (d + 1) [zR 0, zI x1, zI x2, zI x3] h K := by
  refine zC_in (L0 := [zR 0, zI x1, zI x2, zI x3]) pn_X9 rfl (Nat.le_of_ble_eq_true rfl) ?_
  refine z_iload_n dX9_sort_0 rfl ?_
  refine z_iconst dX9_sort_1 (r32d rfl) ?_
  refine z_iconst dX9_sort_2 (r32d rfl) ?_
  refine cl_X9_154 dX9_sort_3 rfl (Nat.le_of_ble_eq_true rfl) (zC_mono ?_ hyp)
  rintro _ h_1 ⟨r_1, rfl, hyp⟩
  refine ⟨r_1, rfl, ?_⟩
  refine z_if_ne (tgt := 25) dX9_sort_6 (by decide) (fun c_2 => ?_) (fun c_2 => ?_)
  · have hyp := hyp.1 c_2
    refine z_iconst dX9_sort_25 (r32d rfl) ?_
    exact z_iret dX9_sort_26 rfl ⟨_, rfl, hyp⟩
  · have hyp := hyp.2 c_2
    refine z_iload_n dX9_sort_9 rfl ?_
    refine cl_X9_208 dX9_sort_10 rfl (Nat.le_of_ble_eq_true rfl) (zC_mono ?_ hyp)
    rintro _ h_3 ⟨r_3, rfl, hyp⟩
    refine ⟨r_3, rfl, ?_⟩
    refine z_if_eq (tgt := 25) dX9_sort_13 (by decide) (fun c_4 => ?_) (fun c_4 => ?_)
    · have hyp := hyp.1 c_4
      refine z_iconst dX9_sort_25 (r32d rfl) ?_
      exact z_iret dX9_sort_26 rfl ⟨_, rfl, hyp⟩
    · have hyp := hyp.2 c_4
      refine z_iload_n dX9_sort_16 rfl ?_
      refine z_iconst dX9_sort_17 (r32d rfl) ?_
      refine z_iconst dX9_sort_18 (r32d rfl) ?_
      refine cl_X9_154 dX9_sort_19 rfl (Nat.le_of_ble_eq_true rfl) (zC_mono ?_ hyp)
      rintro _ h_5 ⟨r_5, rfl, hyp⟩
      refine ⟨r_5, rfl, ?_⟩
      refine z_if_eq (tgt := 27) dX9_sort_22 (by decide) (fun c_6 => ?_) (fun c_6 => ?_)
      · have hyp := hyp.1 c_6
        refine z_aload_n dX9_sort_27 rfl ?_
        refine z_iconst dX9_sort_28 (r32d rfl) ?_
        refine z_iload_n dX9_sort_29 rfl ?_
        refine cl_X9_244 dX9_sort_30 rfl (sC_0 hE) (cC_0 hE) (Nat.le_of_ble_eq_true rfl) (zC_mono ?_ hyp)
        rintro _ h_7 ⟨rfl, hyp⟩
        refine ⟨rfl, ?_⟩
        refine z_iload_n dX9_sort_33 rfl ?_
        refine z_if_ne (tgt := 55) dX9_sort_34 (by decide) (fun c_8 => ?_) (fun c_8 => ?_)
        · have hyp := hyp.1 c_8
          refine z_aload_n dX9_sort_55 rfl ?_
          refine gf_X9_64 (c2 := 76) dX9_sort_56 rfl (sC_0 hE) (cC_0 hE) rfl ?_
          refine gf_X9_251 dX9_sort_59 rfl (sC_76 hE) (cC_76 hE) ?_
          exact z_iret dX9_sort_62 rfl ⟨_, rfl, hyp⟩
        · have hyp := hyp.2 c_8
          refine z_aload_n dX9_sort_37 rfl ?_
          refine gf_X9_64 (c2 := 76) dX9_sort_38 rfl (sC_0 hE) (cC_0 hE) rfl ?_
          refine z_iload_n dX9_sort_41 rfl ?_
          refine z_aload_n dX9_sort_42 rfl ?_
          refine gf_X9_47 dX9_sort_43 rfl (sC_0 hE) (cC_0 hE) ?_
          refine cl_X9_211 dX9_sort_46 rfl (Nat.le_of_ble_eq_true rfl) (zC_mono ?_ hyp)
          rintro _ h_9 ⟨r_9, rfl, hyp⟩
          refine ⟨r_9, rfl, ?_⟩
          refine cl_X9_248 dX9_sort_49 rfl (sC_76 hE) (cC_76 hE) (Nat.le_of_ble_eq_true rfl) (zC_mono ?_ hyp)
          rintro _ h_10 ⟨r_10, rfl, hyp⟩
          refine ⟨r_10, rfl, ?_⟩
          refine z_goto (tgt := 62) dX9_sort_52 (by decide) ?_
          exact z_iret dX9_sort_62 rfl ⟨_, rfl, hyp⟩
      · have hyp := hyp.2 c_6
        refine z_iconst dX9_sort_25 (r32d rfl) ?_
        exact z_iret dX9_sort_26 rfl ⟨_, rfl, hyp⟩
set_option maxRecDepth 20000 in
theorem eX9_span {E : zE} (hE : isC E) {bt : Nat} (hbt : isSu E bt) {d : Nat} {x1 x2 : Int} {h : zH} {K : Int → zH → Prop} (hyp :
  zCI E mX0_isFitted d [zR 52, zI x1] h (fun r_1 h_1 =>
    ((r_1 = 0 →
      K (-1) h_1) ∧
    (¬ (r_1 = 0) →
      zCI E mX9_isBeyond d [zI x2, zI 0, zI 1] h_1 (fun r_3 h_3 =>
        ((r_3 = 0 →
          (h_3 0 3 = (bt : Nat)) ∧
          ((x2 ≠ 1 →
            zCI E mX0_edgeOfSpan d [zR 52, zI x1, zI (h_3 bt 16), zI 0] h_3 (fun r_6 h_6 =>
              K r_6 h_6)) ∧
          (¬ (x2 ≠ 1) →
            zCI E mX0_edgeOfSpan d [zR 52, zI x1, zI (h_3 bt 16), zI 1] h_3 (fun r_7 h_7 =>
              K r_7 h_7)))) ∧
        (¬ (r_3 = 0) →
          K (-1) h_3))))))) :
  zCI E mX9_span (d + 1) [zR 0, zI x1, zI x2] h K := by
  refine zC_in (L0 := [zR 0, zI x1, zI x2]) pn_X9 rfl (Nat.le_of_ble_eq_true rfl) ?_
  refine z_aload_n dX9_span_0 rfl ?_
  refine gf_X9_54 (c2 := 52) dX9_span_1 rfl (sC_0 hE) (cC_0 hE) rfl ?_
  refine z_iload_n dX9_span_4 rfl ?_
  refine cl_X9_194 dX9_span_5 rfl (sC_52 hE) (cC_52 hE) (Nat.le_of_ble_eq_true rfl) (zC_mono ?_ hyp)
  rintro _ h_1 ⟨r_1, rfl, hyp⟩
  refine ⟨r_1, rfl, ?_⟩
  refine z_if_eq (tgt := 20) dX9_span_8 (by decide) (fun c_2 => ?_) (fun c_2 => ?_)
  · have hyp := hyp.1 c_2
    refine z_iconst dX9_span_20 (r32d rfl) ?_
    exact z_iret dX9_span_21 rfl ⟨_, rfl, hyp⟩
  · have hyp := hyp.2 c_2
    refine z_iload_n dX9_span_11 rfl ?_
    refine z_iconst dX9_span_12 (r32d rfl) ?_
    refine z_iconst dX9_span_13 (r32d rfl) ?_
    refine cl_X9_154 dX9_span_14 rfl (Nat.le_of_ble_eq_true rfl) (zC_mono ?_ hyp)
    rintro _ h_3 ⟨r_3, rfl, hyp⟩
    refine ⟨r_3, rfl, ?_⟩
    refine z_if_eq (tgt := 22) dX9_span_17 (by decide) (fun c_4 => ?_) (fun c_4 => ?_)
    · have hyp := hyp.1 c_4
      refine z_aload_n dX9_span_22 rfl ?_
      refine gf_X9_54 (c2 := 52) dX9_span_23 rfl (sC_0 hE) (cC_0 hE) rfl ?_
      refine z_iload_n dX9_span_26 rfl ?_
      refine z_aload_n dX9_span_27 rfl ?_
      obtain ⟨hdy, hyp⟩ := hyp
      refine gf_X9_27 (c2 := bt) dX9_span_28 rfl (sC_0 hE) (cC_0 hE) hdy ?_
      refine gf_X9_197 dX9_span_31 rfl ((hbt.2.1)) (Nat.lt_of_le_of_lt (Nat.le_add_right bt 18) hbt.1) ?_
      refine z_iload_n dX9_span_34 rfl ?_
      refine z_iconst dX9_span_35 (r32d rfl) ?_
      refine z_icmp_ne (tgt := 43) dX9_span_36 (by decide) (fun c_5 => ?_) (fun c_5 => ?_)
      · have hyp := hyp.1 c_5
        refine z_iconst dX9_span_43 (r32d rfl) ?_
        refine cl_X9_203 dX9_span_44 rfl (sC_52 hE) (cC_52 hE) (Nat.le_of_ble_eq_true rfl) (zC_mono ?_ hyp)
        rintro _ h_6 ⟨r_6, rfl, hyp⟩
        refine ⟨r_6, rfl, ?_⟩
        exact z_iret dX9_span_47 rfl ⟨_, rfl, hyp⟩
      · have hyp := hyp.2 c_5
        refine z_iconst dX9_span_39 (r32d rfl) ?_
        refine z_goto (tgt := 44) dX9_span_40 (by decide) ?_
        refine cl_X9_203 dX9_span_44 rfl (sC_52 hE) (cC_52 hE) (Nat.le_of_ble_eq_true rfl) (zC_mono ?_ hyp)
        rintro _ h_7 ⟨r_7, rfl, hyp⟩
        refine ⟨r_7, rfl, ?_⟩
        exact z_iret dX9_span_47 rfl ⟨_, rfl, hyp⟩
    · have hyp := hyp.2 c_4
      refine z_iconst dX9_span_20 (r32d rfl) ?_
      exact z_iret dX9_span_21 rfl ⟨_, rfl, hyp⟩
set_option maxRecDepth 20000 in
theorem bX9_spreadRow_16 {E : zE} (hE : isC E) {d : Nat} {y1 y3 x5 : Int} {h : zH} {K : zH → Prop} (hyp :
  ((x5 < 0 →
    K h) ∧
  (¬ (x5 < 0) →
    ((x5 ≤ 0 →
      zG E mX9_spreadRow d 43 [zR 0, zJ y1, zU, zJ y3, zU, zI x5, zU, zU] [zJ 0] h (qV K)) ∧
    (¬ (x5 ≤ 0) →
      ((0 : Int) ≤ w32 (x5 - 1) ∧ w32 (x5 - 1) < (9 : Int)) ∧
      ¬ y3 = 0 ∧
      zG E mX9_spreadRow d 43 [zR 0, zJ y1, zU, zJ y3, zU, zI x5, zU, zU] [zJ (w64 (Int.tdiv (w64 ((h 80 (w32 (x5 - 1)).toNat) * y1)) y3))] h (qV K)))))) :
  zG E mX9_spreadRow d 16 [zR 0, zJ y1, zU, zJ y3, zU, zI x5, zU, zU] [] h (qV K) := by
  refine z_iload dX9_spreadRow_16 rfl ?_
  refine z_if_lt (tgt := 74) dX9_spreadRow_18 (by decide) (fun c_1 => ?_) (fun c_1 => ?_)
  · have hyp := hyp.1 c_1
    exact z_vret dX9_spreadRow_74 rfl ⟨rfl, hyp⟩
  · have hyp := hyp.2 c_1
    refine z_iload dX9_spreadRow_21 rfl ?_
    refine z_if_le (tgt := 42) dX9_spreadRow_23 (by decide) (fun c_2 => ?_) (fun c_2 => ?_)
    · have hyp := hyp.1 c_2
      refine z_lconst (x := 0) dX9_spreadRow_42 (by decide) (r64d rfl) ?_
      exact hyp
    · have hyp := hyp.2 c_2
      refine z_aload_n dX9_spreadRow_26 rfl ?_
      refine gf_X9_71 (c2 := 80) dX9_spreadRow_27 rfl (sC_0 hE) (cC_0 hE) rfl ?_
      refine z_iload dX9_spreadRow_30 rfl ?_
      refine z_iconst dX9_spreadRow_32 (r32d rfl) ?_
      refine z_isub dX9_spreadRow_33 ?_
      obtain ⟨⟨hi0, hi1⟩, hyp⟩ := hyp
      refine z_laload dX9_spreadRow_34 (sC_80 hE) (cC_80 hE) hi0 hi1 ?_
      refine z_lload_n dX9_spreadRow_35 rfl ?_
      refine z_lmul dX9_spreadRow_36 ?_
      refine z_lload_n dX9_spreadRow_37 rfl ?_
      obtain ⟨hz, hyp⟩ := hyp
      refine z_ldiv hz dX9_spreadRow_38 ?_
      refine z_goto (tgt := 43) dX9_spreadRow_39 (by decide) ?_
      exact hyp
set_option maxRecDepth 20000 in
theorem bX9_spreadRow_43 {E : zE} (hE : isC E) {d : Nat} {y1 y3 x5 s0 : Int} {h : zH} {K : zH → Prop} (hyp :
  ((0 : Int) ≤ x5 ∧ x5 < (9 : Int)) ∧
  ¬ y3 = 0 ∧
  ((0 : Int) ≤ x5 ∧ x5 < (9 : Int)) ∧
  ∀ h_1 : zH, h_1 = hset h 80 (x5.toNat) (w64 ((w64 (Int.tdiv (w64 ((h 80 x5.toNat) * (w64 (y3 - y1)))) y3)) + s0)) →
  ∀ x_2 : Int, x_2 = w32 (x5 + (-1)) →
  zG E mX9_spreadRow d 16 [zR 0, zJ y1, zU, zJ y3, zU, zI x_2, zU, zU] [] h_1 (qV K)) :
  zG E mX9_spreadRow d 43 [zR 0, zJ y1, zU, zJ y3, zU, zI x5, zU, zU] [zJ s0] h (qV K) := by
  refine z_lstore dX9_spreadRow_43 (by decide) rfl ?_
  refine z_aload_n dX9_spreadRow_45 rfl ?_
  refine gf_X9_71 (c2 := 80) dX9_spreadRow_46 rfl (sC_0 hE) (cC_0 hE) rfl ?_
  refine z_iload dX9_spreadRow_49 rfl ?_
  refine z_aload_n dX9_spreadRow_51 rfl ?_
  refine gf_X9_71 (c2 := 80) dX9_spreadRow_52 rfl (sC_0 hE) (cC_0 hE) rfl ?_
  refine z_iload dX9_spreadRow_55 rfl ?_
  obtain ⟨⟨hi0, hi1⟩, hyp⟩ := hyp
  refine z_laload dX9_spreadRow_57 (sC_80 hE) (cC_80 hE) hi0 hi1 ?_
  refine z_lload_n dX9_spreadRow_58 rfl ?_
  refine z_lload_n dX9_spreadRow_59 rfl ?_
  refine z_lsub dX9_spreadRow_60 ?_
  refine z_lmul dX9_spreadRow_61 ?_
  refine z_lload_n dX9_spreadRow_62 rfl ?_
  obtain ⟨hz, hyp⟩ := hyp
  refine z_ldiv hz dX9_spreadRow_63 ?_
  refine z_lload dX9_spreadRow_64 rfl ?_
  refine z_ladd dX9_spreadRow_66 ?_
  obtain ⟨⟨hi0, hi1⟩, hyp⟩ := hyp
  refine z_lastore dX9_spreadRow_67 (sC_80 hE) (cC_80 hE) hi0 hi1 ?_
  generalize eh_1 : hset h 80 _ (w64 ((w64 (Int.tdiv (w64 ((h 80 x5.toNat) * (w64 (y3 - y1)))) y3)) + s0)) = h_1
  have hyp := hyp h_1 eh_1.symm
  refine z_iinc dX9_spreadRow_68 rfl (by decide) rfl ?_
  generalize ex_2 : w32 (x5 + (-1)) = x_2
  have hyp := hyp x_2 ex_2.symm
  refine z_goto (tgt := 16) dX9_spreadRow_71 (by decide) ?_
  exact z_forget [true, true, false, true, false, true, false, false] rfl hyp
set_option maxRecDepth 20000 in
theorem eX9_spreadRow {E : zE} (hE : isC E) {d : Nat} {y1 y3 : Int} {h : zH} {K : zH → Prop} (hyp :
  ((0 < y3 →
    ∀ x_2 : Int, x_2 = w32 (9 - 1) →
    zG E mX9_spreadRow d 16 [zR 0, zJ y1, zU, zJ y3, zU, zI x_2, zU, zU] [] h (qV K)) ∧
  (¬ (0 < y3) →
    K h))) :
  zCV E mX9_spreadRow d [zR 0, zJ y1, zJ y3] h K := by
  refine zC_in (L0 := [zR 0, zJ y1, zU, zJ y3, zU, zU, zU, zU]) pn_X9 rfl (Nat.le_of_ble_eq_true rfl) ?_
  refine z_lload_n dX9_spreadRow_0 rfl ?_
  refine z_lconst (x := 0) dX9_spreadRow_1 (by decide) (r64d rfl) ?_
  refine z_lc_gt (tgt := 7) dX9_spreadRow_2 dX9_spreadRow_3 (by decide) (fun c_1 => ?_) (fun c_1 => ?_)
  · have hyp := hyp.1 c_1
    refine z_aload_n dX9_spreadRow_7 rfl ?_
    refine gf_X9_71 (c2 := 80) dX9_spreadRow_8 rfl (sC_0 hE) (cC_0 hE) rfl ?_
    refine z_alen dX9_spreadRow_11 (sC_80 hE) (by decide) (by decide) (by decide) (cC_80 hE) ?_
    refine z_iconst dX9_spreadRow_12 (r32d rfl) ?_
    refine z_isub dX9_spreadRow_13 ?_
    generalize ex_2 : w32 (9 - 1) = x_2
    have hyp := hyp x_2 ex_2.symm
    refine z_istore dX9_spreadRow_14 (by decide) rfl ?_
    exact hyp
  · have hyp := hyp.2 c_1
    exact z_vret dX9_spreadRow_6 rfl ⟨rfl, hyp⟩
set_option maxRecDepth 20000 in
theorem eX9_stoneAt {E : zE} (hE : isC E) {d : Nat} {x0 x1 : Int} {h : zH} {K : Int → zH → Prop} (hyp :
  K (w32 ((w32 ((w32 (x0 * 10)) + x1)) * 6)) h) :
  zCI E mX9_stoneAt d [zI x0, zI x1] h K := by
  refine zC_in (L0 := [zI x0, zI x1]) pn_X9 rfl (Nat.le_of_ble_eq_true rfl) ?_
  refine z_iload_n dX9_stoneAt_0 rfl ?_
  refine z_bipush dX9_stoneAt_1 (r32d rfl) (by decide) ?_
  refine z_imul dX9_stoneAt_3 ?_
  refine z_iload_n dX9_stoneAt_4 rfl ?_
  refine z_iadd dX9_stoneAt_5 ?_
  refine z_bipush dX9_stoneAt_6 (r32d rfl) (by decide) ?_
  refine z_imul dX9_stoneAt_8 ?_
  exact z_iret dX9_stoneAt_9 rfl ⟨_, rfl, hyp⟩
set_option maxRecDepth 20000 in
theorem eX9_strike {E : zE} (hE : isC E) {d : Nat} {x1 : Int} {h : zH} {K : Int → zH → Prop} (hyp :
  ((x1 < 0 →
    K (-1) h) ∧
  (¬ (x1 < 0) →
    ((x1 < (h 46 5) →
      zCI E mX9_takeNote d [zR 0, zI 2, zI x1, zI 0, zI 0] h (fun r_3 h_3 =>
        K r_3 h_3)) ∧
    (¬ (x1 < (h 46 5)) →
      K (-1) h))))) :
  zCI E mX9_strike (d + 1) [zR 0, zI x1] h K := by
  refine zC_in (L0 := [zR 0, zI x1]) pn_X9 rfl (Nat.le_of_ble_eq_true rfl) ?_
  refine z_iload_n dX9_strike_0 rfl ?_
  refine z_if_lt (tgt := 15) dX9_strike_1 (by decide) (fun c_1 => ?_) (fun c_1 => ?_)
  · have hyp := hyp.1 c_1
    refine z_iconst dX9_strike_15 (r32d rfl) ?_
    exact z_iret dX9_strike_16 rfl ⟨_, rfl, hyp⟩
  · have hyp := hyp.2 c_1
    refine z_iload_n dX9_strike_4 rfl ?_
    refine z_aload_n dX9_strike_5 rfl ?_
    refine gf_X9_37 (c2 := 46) dX9_strike_6 rfl (sC_0 hE) (cC_0 hE) rfl ?_
    refine gf_X9_83 dX9_strike_9 rfl (sC_46 hE) (cC_46 hE) ?_
    refine z_icmp_lt (tgt := 17) dX9_strike_12 (by decide) (fun c_2 => ?_) (fun c_2 => ?_)
    · have hyp := hyp.1 c_2
      refine z_aload_n dX9_strike_17 rfl ?_
      refine z_iconst dX9_strike_18 (r32d rfl) ?_
      refine z_iload_n dX9_strike_19 rfl ?_
      refine z_iconst dX9_strike_20 (r32d rfl) ?_
      refine z_iconst dX9_strike_21 (r32d rfl) ?_
      refine cl_X9_158 dX9_strike_22 rfl (sC_0 hE) (cC_0 hE) (Nat.le_of_ble_eq_true rfl) (zC_mono ?_ hyp)
      rintro _ h_3 ⟨r_3, rfl, hyp⟩
      refine ⟨r_3, rfl, ?_⟩
      exact z_iret dX9_strike_25 rfl ⟨_, rfl, hyp⟩
    · have hyp := hyp.2 c_2
      refine z_iconst dX9_strike_15 (r32d rfl) ?_
      exact z_iret dX9_strike_16 rfl ⟨_, rfl, hyp⟩
set_option maxRecDepth 20000 in
theorem eX9_takeNote {E : zE} (hE : isC E) {d : Nat} {x1 x2 x3 x4 : Int} {h : zH} {K : Int → zH → Prop} (hyp :
  zCI E mX3_put d [zR 46, zI x1, zI x2, zI x3, zI x4] h (fun r_1 h_1 =>
    ((r_1 = (-1) →
      K r_1 h_1) ∧
    (¬ (r_1 = (-1)) →
      zCV E mX9_learnAnew d [zR 0] h_1 (fun h_3 =>
        K r_1 h_3))))) :
  zCI E mX9_takeNote (d + 1) [zR 0, zI x1, zI x2, zI x3, zI x4] h K := by
  refine zC_in (L0 := [zR 0, zI x1, zI x2, zI x3, zI x4, zU]) pn_X9 rfl (Nat.le_of_ble_eq_true rfl) ?_
  refine z_aload_n dX9_takeNote_0 rfl ?_
  refine gf_X9_37 (c2 := 46) dX9_takeNote_1 rfl (sC_0 hE) (cC_0 hE) rfl ?_
  refine z_iload_n dX9_takeNote_4 rfl ?_
  refine z_iload_n dX9_takeNote_5 rfl ?_
  refine z_iload_n dX9_takeNote_6 rfl ?_
  refine z_iload dX9_takeNote_7 rfl ?_
  refine cl_X9_162 dX9_takeNote_9 rfl (sC_46 hE) (cC_46 hE) (Nat.le_of_ble_eq_true rfl) (zC_mono ?_ hyp)
  rintro _ h_1 ⟨r_1, rfl, hyp⟩
  refine ⟨r_1, rfl, ?_⟩
  refine z_istore dX9_takeNote_12 (by decide) rfl ?_
  refine z_iload dX9_takeNote_14 rfl ?_
  refine z_iconst dX9_takeNote_16 (r32d rfl) ?_
  refine z_icmp_eq (tgt := 24) dX9_takeNote_17 (by decide) (fun c_2 => ?_) (fun c_2 => ?_)
  · have hyp := hyp.1 c_2
    refine z_iload dX9_takeNote_24 rfl ?_
    exact z_iret dX9_takeNote_26 rfl ⟨_, rfl, hyp⟩
  · have hyp := hyp.2 c_2
    refine z_aload_n dX9_takeNote_20 rfl ?_
    refine cl_X9_86 dX9_takeNote_21 rfl (sC_0 hE) (cC_0 hE) (Nat.le_of_ble_eq_true rfl) (zC_mono ?_ hyp)
    rintro _ h_3 ⟨rfl, hyp⟩
    refine ⟨rfl, ?_⟩
    refine z_iload dX9_takeNote_24 rfl ?_
    exact z_iret dX9_takeNote_26 rfl ⟨_, rfl, hyp⟩
set_option maxRecDepth 20000 in
theorem eX9_tape {E : zE} (hE : isC E) {bt : Nat} (hbt : isSu E bt) {d : Nat} {x1 x2 x3 x4 : Int} {h : zH} {K : Int → zH → Prop} (hyp :
  (h 0 3 = (bt : Nat)) ∧
  zCI E mX8_hasStone d [zR bt, zI x1, zI x2] h (fun r_1 h_1 =>
    ((r_1 = 0 →
      K (-1) h_1) ∧
    (¬ (r_1 = 0) →
      zCI E mX9_isBeyond d [zI x3, zI (-999), zI 999] h_1 (fun r_3 h_3 =>
        ((r_3 ≠ 0 →
          K (-1) h_3) ∧
        (¬ (r_3 ≠ 0) →
          zCI E mX9_isBeyond d [zI x4, zI (-999), zI 999] h_3 (fun r_5 h_5 =>
            ((r_5 = 0 →
              zCI E mX9_stoneAt d [zI x1, zI x2] h_5 (fun r_7 h_7 =>
                zCI E mX9_takeNote d [zR 0, zI 0, zI r_7, zI x3, zI x4] h_7 (fun r_8 h_8 =>
                  K r_8 h_8))) ∧
            (¬ (r_5 = 0) →
              K (-1) h_5)))))))))) :
  zCI E mX9_tape (d + 1) [zR 0, zI x1, zI x2, zI x3, zI x4] h K := by
  refine zC_in (L0 := [zR 0, zI x1, zI x2, zI x3, zI x4]) pn_X9 rfl (Nat.le_of_ble_eq_true rfl) ?_
  refine z_aload_n dX9_tape_0 rfl ?_
  obtain ⟨hdy, hyp⟩ := hyp
  refine gf_X9_27 (c2 := bt) dX9_tape_1 rfl (sC_0 hE) (cC_0 hE) hdy ?_
  refine z_iload_n dX9_tape_4 rfl ?_
  refine z_iload_n dX9_tape_5 rfl ?_
  refine cl_X9_117 dX9_tape_6 rfl ((hbt.2.1)) (Nat.lt_of_le_of_lt (Nat.le_add_right bt 18) hbt.1) (Nat.le_of_ble_eq_true rfl) (zC_mono ?_ hyp)
  rintro _ h_1 ⟨r_1, rfl, hyp⟩
  refine ⟨r_1, rfl, ?_⟩
  refine z_if_eq (tgt := 39) dX9_tape_9 (by decide) (fun c_2 => ?_) (fun c_2 => ?_)
  · have hyp := hyp.1 c_2
    refine z_iconst dX9_tape_39 (r32d rfl) ?_
    exact z_iret dX9_tape_40 rfl ⟨_, rfl, hyp⟩
  · have hyp := hyp.2 c_2
    refine z_iload_n dX9_tape_12 rfl ?_
    refine z_sipush dX9_tape_13 (r32d rfl) (by decide) ?_
    refine z_sipush dX9_tape_16 (r32d rfl) (by decide) ?_
    refine cl_X9_154 dX9_tape_19 rfl (Nat.le_of_ble_eq_true rfl) (zC_mono ?_ hyp)
    rintro _ h_3 ⟨r_3, rfl, hyp⟩
    refine ⟨r_3, rfl, ?_⟩
    refine z_if_ne (tgt := 39) dX9_tape_22 (by decide) (fun c_4 => ?_) (fun c_4 => ?_)
    · have hyp := hyp.1 c_4
      refine z_iconst dX9_tape_39 (r32d rfl) ?_
      exact z_iret dX9_tape_40 rfl ⟨_, rfl, hyp⟩
    · have hyp := hyp.2 c_4
      refine z_iload dX9_tape_25 rfl ?_
      refine z_sipush dX9_tape_27 (r32d rfl) (by decide) ?_
      refine z_sipush dX9_tape_30 (r32d rfl) (by decide) ?_
      refine cl_X9_154 dX9_tape_33 rfl (Nat.le_of_ble_eq_true rfl) (zC_mono ?_ hyp)
      rintro _ h_5 ⟨r_5, rfl, hyp⟩
      refine ⟨r_5, rfl, ?_⟩
      refine z_if_eq (tgt := 41) dX9_tape_36 (by decide) (fun c_6 => ?_) (fun c_6 => ?_)
      · have hyp := hyp.1 c_6
        refine z_aload_n dX9_tape_41 rfl ?_
        refine z_iconst dX9_tape_42 (r32d rfl) ?_
        refine z_iload_n dX9_tape_43 rfl ?_
        refine z_iload_n dX9_tape_44 rfl ?_
        refine cl_X9_137 dX9_tape_45 rfl (Nat.le_of_ble_eq_true rfl) (zC_mono ?_ hyp)
        rintro _ h_7 ⟨r_7, rfl, hyp⟩
        refine ⟨r_7, rfl, ?_⟩
        refine z_iload_n dX9_tape_48 rfl ?_
        refine z_iload dX9_tape_49 rfl ?_
        refine cl_X9_158 dX9_tape_51 rfl (sC_0 hE) (cC_0 hE) (Nat.le_of_ble_eq_true rfl) (zC_mono ?_ hyp)
        rintro _ h_8 ⟨r_8, rfl, hyp⟩
        refine ⟨r_8, rfl, ?_⟩
        exact z_iret dX9_tape_54 rfl ⟨_, rfl, hyp⟩
      · have hyp := hyp.2 c_6
        refine z_iconst dX9_tape_39 (r32d rfl) ?_
        exact z_iret dX9_tape_40 rfl ⟨_, rfl, hyp⟩
set_option maxRecDepth 20000 in
theorem bX9_tells_78 {E : zE} (hE : isC E) {bt : Nat} (hbt : isSu E bt) {d : Nat} {x3 x4 y5 y7 x9 : Int} {h : zH} {K : Int → zH → Prop} (hyp :
  (h 0 3 = (bt : Nat)) ∧
  (((h (bt + 5) 1) ≤ x9 →
    ((x3 ≠ 0 →
      zCJ E mX9_inLeastTerms d [zJ y5, zJ y7, zI 0] h (fun r_3 h_3 =>
        K r_3 h_3)) ∧
    (¬ (x3 ≠ 0) →
      zCJ E mX9_inLeastTerms d [zJ y5, zJ y7, zI 1] h (fun r_4 h_4 =>
        K r_4 h_4)))) ∧
  (¬ ((h (bt + 5) 1) ≤ x9) →
    (h 0 3 = (bt : Nat)) ∧
    zCJ E mX8_weightOf d [zR bt, zI x9, zR 76, zI x4] h (fun r_5 h_5 =>
      ∀ y_6 : Int, y_6 = w64 (y7 + r_5) →
      ∀ x_7 : Int, x_7 = w32 (x9 + 1) →
      zG E mX9_tells (d + 1) 78 [zR 0, zU, zU, zI x3, zI x4, zJ y5, zU, zJ y_6, zU, zI x_7] [] h_5 (qJ K))))) :
  zG E mX9_tells (d + 1) 78 [zR 0, zU, zU, zI x3, zI x4, zJ y5, zU, zJ y7, zU, zI x9] [] h (qJ K) := by
  refine z_iload dX9_tells_78 rfl ?_
  refine z_aload_n dX9_tells_80 rfl ?_
  obtain ⟨hdy, hyp⟩ := hyp
  refine gf_X9_27 (c2 := bt) dX9_tells_81 rfl (sC_0 hE) (cC_0 hE) hdy ?_
  refine gf_X9_111 (c2 := (bt + 5)) dX9_tells_84 rfl ((hbt.2.1)) (Nat.lt_of_le_of_lt (Nat.le_add_right bt 18) hbt.1) rfl ?_
  refine gf_X9_279 dX9_tells_87 rfl (((hbt.2.2.2.2.1).2.1)) (Nat.lt_of_le_of_lt (Nat.add_le_add_left (Nat.le_of_ble_eq_true rfl : 5 ≤ 18) bt) hbt.1) ?_
  refine z_icmp_ge (tgt := 119) dX9_tells_90 (by decide) (fun c_1 => ?_) (fun c_1 => ?_)
  · have hyp := hyp.1 c_1
    refine z_lload dX9_tells_119 rfl ?_
    refine z_lload dX9_tells_121 rfl ?_
    refine z_iload_n dX9_tells_123 rfl ?_
    refine z_if_ne (tgt := 131) dX9_tells_124 (by decide) (fun c_2 => ?_) (fun c_2 => ?_)
    · have hyp := hyp.1 c_2
      refine z_iconst dX9_tells_131 (r32d rfl) ?_
      refine cl_X9_324 dX9_tells_132 rfl (Nat.le_of_ble_eq_true rfl) (zC_mono ?_ hyp)
      rintro _ h_3 ⟨r_3, rfl, hyp⟩
      refine ⟨r_3, rfl, ?_⟩
      exact z_lret dX9_tells_135 rfl ⟨_, rfl, hyp⟩
    · have hyp := hyp.2 c_2
      refine z_iconst dX9_tells_127 (r32d rfl) ?_
      refine z_goto (tgt := 132) dX9_tells_128 (by decide) ?_
      refine cl_X9_324 dX9_tells_132 rfl (Nat.le_of_ble_eq_true rfl) (zC_mono ?_ hyp)
      rintro _ h_4 ⟨r_4, rfl, hyp⟩
      refine ⟨r_4, rfl, ?_⟩
      exact z_lret dX9_tells_135 rfl ⟨_, rfl, hyp⟩
  · have hyp := hyp.2 c_1
    refine z_lload dX9_tells_93 rfl ?_
    refine z_aload_n dX9_tells_95 rfl ?_
    obtain ⟨hdy, hyp⟩ := hyp
    refine gf_X9_27 (c2 := bt) dX9_tells_96 rfl (sC_0 hE) (cC_0 hE) hdy ?_
    refine z_iload dX9_tells_99 rfl ?_
    refine z_aload_n dX9_tells_101 rfl ?_
    refine gf_X9_64 (c2 := 76) dX9_tells_102 rfl (sC_0 hE) (cC_0 hE) rfl ?_
    refine z_iload dX9_tells_105 rfl ?_
    refine cl_X9_320 dX9_tells_107 rfl ((hbt.2.1)) (Nat.lt_of_le_of_lt (Nat.le_add_right bt 18) hbt.1) (Nat.le_of_ble_eq_true rfl) (zC_mono ?_ hyp)
    rintro _ h_5 ⟨r_5, rfl, hyp⟩
    refine ⟨r_5, rfl, ?_⟩
    refine z_ladd dX9_tells_110 ?_
    generalize ey_6 : w64 (y7 + r_5) = y_6
    have hyp := hyp y_6 ey_6.symm
    refine z_lstore dX9_tells_111 (by decide) rfl ?_
    refine z_iinc dX9_tells_113 rfl (by decide) rfl ?_
    generalize ex_7 : w32 (x9 + 1) = x_7
    have hyp := hyp x_7 ex_7.symm
    refine z_goto (tgt := 78) dX9_tells_116 (by decide) ?_
    exact hyp
set_option maxRecDepth 20000 in
theorem eX9_tells {E : zE} (hE : isC E) {bt : Nat} (hbt : isSu E bt) {d : Nat} {x1 x2 x3 : Int} {h : zH} {K : Int → zH → Prop} (hyp :
  (h 0 3 = (bt : Nat)) ∧
  zCI E mX9_isBeyond d [zI x1, zI 0, zI (w32 ((h (bt + 5) 1) - 1))] h (fun r_1 h_1 =>
    ((r_1 ≠ 0 →
      K (-1) h_1) ∧
    (¬ (r_1 ≠ 0) →
      zCI E mX9_isUnit d [zI x2] h_1 (fun r_3 h_3 =>
        ((r_3 = 0 →
          K (-1) h_3) ∧
        (¬ (r_3 = 0) →
          zCI E mX9_isBeyond d [zI x3, zI 0, zI 1] h_3 (fun r_5 h_5 =>
            ((r_5 = 0 →
              zCV E mX9_gather d [zR 0, zI (-1), zI (-1)] h_5 (fun h_7 =>
                zCI E mX9_placesOf d [zI x2, zI (h_7 0 8)] h_7 (fun r_8 h_8 =>
                  (h_8 0 3 = (bt : Nat)) ∧
                  zCJ E mX8_weightOf d [zR bt, zI x1, zR 76, zI r_8] h_8 (fun r_9 h_9 =>
                    zG E mX9_tells (d + 1) 78 [zR 0, zU, zU, zI x3, zI r_8, zJ r_9, zU, zJ 0, zU, zI 0] [] h_9 (qJ K))))) ∧
            (¬ (r_5 = 0) →
              K (-1) h_5)))))))))) :
  zCJ E mX9_tells (d + 1) [zR 0, zI x1, zI x2, zI x3] h K := by
  refine zC_in (L0 := [zR 0, zI x1, zI x2, zI x3, zU, zU, zU, zU, zU, zU]) pn_X9 rfl (Nat.le_of_ble_eq_true rfl) ?_
  refine z_iload_n dX9_tells_0 rfl ?_
  refine z_iconst dX9_tells_1 (r32d rfl) ?_
  refine z_aload_n dX9_tells_2 rfl ?_
  obtain ⟨hdy, hyp⟩ := hyp
  refine gf_X9_27 (c2 := bt) dX9_tells_3 rfl (sC_0 hE) (cC_0 hE) hdy ?_
  refine gf_X9_111 (c2 := (bt + 5)) dX9_tells_6 rfl ((hbt.2.1)) (Nat.lt_of_le_of_lt (Nat.le_add_right bt 18) hbt.1) rfl ?_
  refine gf_X9_279 dX9_tells_9 rfl (((hbt.2.2.2.2.1).2.1)) (Nat.lt_of_le_of_lt (Nat.add_le_add_left (Nat.le_of_ble_eq_true rfl : 5 ≤ 18) bt) hbt.1) ?_
  refine z_iconst dX9_tells_12 (r32d rfl) ?_
  refine z_isub dX9_tells_13 ?_
  refine cl_X9_154 dX9_tells_14 rfl (Nat.le_of_ble_eq_true rfl) (zC_mono ?_ hyp)
  rintro _ h_1 ⟨r_1, rfl, hyp⟩
  refine ⟨r_1, rfl, ?_⟩
  refine z_if_ne (tgt := 36) dX9_tells_17 (by decide) (fun c_2 => ?_) (fun c_2 => ?_)
  · have hyp := hyp.1 c_2
    refine z_ldc2 (x := (-1)) dX9_tells_36 rfl wk_X9_318 (by decide) (r64d rfl) ?_
    exact z_lret dX9_tells_39 rfl ⟨_, rfl, hyp⟩
  · have hyp := hyp.2 c_2
    refine z_iload_n dX9_tells_20 rfl ?_
    refine cl_X9_208 dX9_tells_21 rfl (Nat.le_of_ble_eq_true rfl) (zC_mono ?_ hyp)
    rintro _ h_3 ⟨r_3, rfl, hyp⟩
    refine ⟨r_3, rfl, ?_⟩
    refine z_if_eq (tgt := 36) dX9_tells_24 (by decide) (fun c_4 => ?_) (fun c_4 => ?_)
    · have hyp := hyp.1 c_4
      refine z_ldc2 (x := (-1)) dX9_tells_36 rfl wk_X9_318 (by decide) (r64d rfl) ?_
      exact z_lret dX9_tells_39 rfl ⟨_, rfl, hyp⟩
    · have hyp := hyp.2 c_4
      refine z_iload_n dX9_tells_27 rfl ?_
      refine z_iconst dX9_tells_28 (r32d rfl) ?_
      refine z_iconst dX9_tells_29 (r32d rfl) ?_
      refine cl_X9_154 dX9_tells_30 rfl (Nat.le_of_ble_eq_true rfl) (zC_mono ?_ hyp)
      rintro _ h_5 ⟨r_5, rfl, hyp⟩
      refine ⟨r_5, rfl, ?_⟩
      refine z_if_eq (tgt := 40) dX9_tells_33 (by decide) (fun c_6 => ?_) (fun c_6 => ?_)
      · have hyp := hyp.1 c_6
        refine z_aload_n dX9_tells_40 rfl ?_
        refine z_iconst dX9_tells_41 (r32d rfl) ?_
        refine z_iconst dX9_tells_42 (r32d rfl) ?_
        refine cl_X9_244 dX9_tells_43 rfl (sC_0 hE) (cC_0 hE) (Nat.le_of_ble_eq_true rfl) (zC_mono ?_ hyp)
        rintro _ h_7 ⟨rfl, hyp⟩
        refine ⟨rfl, ?_⟩
        refine z_iload_n dX9_tells_46 rfl ?_
        refine z_aload_n dX9_tells_47 rfl ?_
        refine gf_X9_47 dX9_tells_48 rfl (sC_0 hE) (cC_0 hE) ?_
        refine cl_X9_211 dX9_tells_51 rfl (Nat.le_of_ble_eq_true rfl) (zC_mono ?_ hyp)
        rintro _ h_8 ⟨r_8, rfl, hyp⟩
        refine ⟨r_8, rfl, ?_⟩
        refine z_istore dX9_tells_54 (by decide) rfl ?_
        refine z_aload_n dX9_tells_56 rfl ?_
        obtain ⟨hdy, hyp⟩ := hyp
        refine gf_X9_27 (c2 := bt) dX9_tells_57 rfl (sC_0 hE) (cC_0 hE) hdy ?_
        refine z_iload_n dX9_tells_60 rfl ?_
        refine z_aload_n dX9_tells_61 rfl ?_
        refine gf_X9_64 (c2 := 76) dX9_tells_62 rfl (sC_0 hE) (cC_0 hE) rfl ?_
        refine z_iload dX9_tells_65 rfl ?_
        refine cl_X9_320 dX9_tells_67 rfl ((hbt.2.1)) (Nat.lt_of_le_of_lt (Nat.le_add_right bt 18) hbt.1) (Nat.le_of_ble_eq_true rfl) (zC_mono ?_ hyp)
        rintro _ h_9 ⟨r_9, rfl, hyp⟩
        refine ⟨r_9, rfl, ?_⟩
        refine z_lstore dX9_tells_70 (by decide) rfl ?_
        refine z_lconst (x := 0) dX9_tells_72 (by decide) (r64d rfl) ?_
        refine z_lstore dX9_tells_73 (by decide) rfl ?_
        refine z_iconst dX9_tells_75 (r32d rfl) ?_
        refine z_istore dX9_tells_76 (by decide) rfl ?_
        exact z_forget [true, false, false, true, true, true, false, true, false, true] rfl hyp
      · have hyp := hyp.2 c_6
        refine z_ldc2 (x := (-1)) dX9_tells_36 rfl wk_X9_318 (by decide) (r64d rfl) ?_
        exact z_lret dX9_tells_39 rfl ⟨_, rfl, hyp⟩
set_option maxRecDepth 20000 in
theorem eX9_text {E : zE} (hE : isC E) {bs : Nat} (hbs : isSu E bs) {bt : Nat} (hbt : isSu E bt) {d : Nat} {x1 : Int} {h : zH} {K : Int → zH → Prop} (hyp :
  ((x1 < 0 →
    K (-2) h) ∧
  (¬ (x1 < 0) →
    ((x1 ≤ (h 0 1) →
      ∀ h_3 : zH, h_3 = hset h 0 1 0 →
      (h_3 0 4 = (bs : Nat)) ∧
      zCI E mX4_read d [zR 2, zR 1, zI x1, zR bs] h_3 (fun r_4 h_4 =>
        ((r_4 ≠ 0 →
          (h_4 0 3 = (bt : Nat)) ∧
          (h_4 0 4 = (bs : Nat)) ∧
          ∀ h_6 : zH, h_6 = hset h_4 0 3 (bs : Nat) →
          ∀ h_7 : zH, h_7 = hset h_6 0 4 (bt : Nat) →
          ∀ h_8 : zH, h_8 = hset h_7 46 5 0 →
          ∀ h_9 : zH, h_9 = hset h_8 0 6 (-1) →
          zCV E mX9_learnAnew d [zR 0] h_9 (fun h_10 =>
            K (h_10 2 4) h_10)) ∧
        (¬ (r_4 ≠ 0) →
          K (-1) h_4)))) ∧
    (¬ (x1 ≤ (h 0 1)) →
      K (-2) h))))) :
  zCI E mX9_text (d + 1) [zR 0, zI x1] h K := by
  refine zC_in (L0 := [zR 0, zI x1, zU]) pn_X9 rfl (Nat.le_of_ble_eq_true rfl) ?_
  refine z_iload_n dX9_text_0 rfl ?_
  refine z_if_lt (tgt := 12) dX9_text_1 (by decide) (fun c_1 => ?_) (fun c_1 => ?_)
  · have hyp := hyp.1 c_1
    refine z_bipush dX9_text_12 (r32d rfl) (by decide) ?_
    exact z_iret dX9_text_14 rfl ⟨_, rfl, hyp⟩
  · have hyp := hyp.2 c_1
    refine z_iload_n dX9_text_4 rfl ?_
    refine z_aload_n dX9_text_5 rfl ?_
    refine gf_X9_13 dX9_text_6 rfl (sC_0 hE) (cC_0 hE) ?_
    refine z_icmp_le (tgt := 15) dX9_text_9 (by decide) (fun c_2 => ?_) (fun c_2 => ?_)
    · have hyp := hyp.1 c_2
      refine z_aload_n dX9_text_15 rfl ?_
      refine z_iconst dX9_text_16 (r32d rfl) ?_
      refine pf_X9_13 dX9_text_17 rfl (sC_0 hE) (cC_0 hE) ?_
      generalize eh_3 : hset h 0 1 _ = h_3
      have hyp := hyp h_3 eh_3.symm
      refine z_aload_n dX9_text_20 rfl ?_
      refine gf_X9_20 (c2 := 2) dX9_text_21 rfl (sC_0 hE) (cC_0 hE) rfl ?_
      refine z_aload_n dX9_text_24 rfl ?_
      refine gf_X9_9 (c2 := 1) dX9_text_25 rfl (sC_0 hE) (cC_0 hE) rfl ?_
      refine z_iload_n dX9_text_28 rfl ?_
      refine z_aload_n dX9_text_29 rfl ?_
      obtain ⟨hdy, hyp⟩ := hyp
      refine gf_X9_31 (c2 := bs) dX9_text_30 rfl (sC_0 hE) (cC_0 hE) hdy ?_
      refine cl_X9_79 dX9_text_33 rfl (sC_2 hE) (cC_2 hE) (Nat.le_of_ble_eq_true rfl) (zC_mono ?_ hyp)
      rintro _ h_4 ⟨r_4, rfl, hyp⟩
      refine ⟨r_4, rfl, ?_⟩
      refine z_if_ne (tgt := 41) dX9_text_36 (by decide) (fun c_5 => ?_) (fun c_5 => ?_)
      · have hyp := hyp.1 c_5
        refine z_aload_n dX9_text_41 rfl ?_
        obtain ⟨hdy, hyp⟩ := hyp
        refine gf_X9_27 (c2 := bt) dX9_text_42 rfl (sC_0 hE) (cC_0 hE) hdy ?_
        refine z_astore_n dX9_text_45 rfl (by decide) rfl ?_
        refine z_aload_n dX9_text_46 rfl ?_
        refine z_aload_n dX9_text_47 rfl ?_
        obtain ⟨hdy, hyp⟩ := hyp
        refine gf_X9_31 (c2 := bs) dX9_text_48 rfl (sC_0 hE) (cC_0 hE) hdy ?_
        refine pf_X9_27 dX9_text_51 rfl (sC_0 hE) (cC_0 hE) (by clear hyp; have := hbs.1; rw [hE.2] at this; omega) ?_
        generalize eh_6 : hset h_4 0 3 _ = h_6
        have hyp := hyp h_6 eh_6.symm
        refine z_aload_n dX9_text_54 rfl ?_
        refine z_aload_n dX9_text_55 rfl ?_
        refine pf_X9_31 dX9_text_56 rfl (sC_0 hE) (cC_0 hE) (by clear hyp; have := hbt.1; rw [hE.2] at this; omega) ?_
        generalize eh_7 : hset h_6 0 4 _ = h_7
        have hyp := hyp h_7 eh_7.symm
        refine z_aload_n dX9_text_59 rfl ?_
        refine gf_X9_37 (c2 := 46) dX9_text_60 rfl (sC_0 hE) (cC_0 hE) rfl ?_
        refine z_iconst dX9_text_63 (r32d rfl) ?_
        refine pf_X9_83 dX9_text_64 rfl (sC_46 hE) (cC_46 hE) ?_
        generalize eh_8 : hset h_7 46 5 _ = h_8
        have hyp := hyp h_8 eh_8.symm
        refine z_aload_n dX9_text_67 rfl ?_
        refine z_iconst dX9_text_68 (r32d rfl) ?_
        refine pf_X9_41 dX9_text_69 rfl (sC_0 hE) (cC_0 hE) ?_
        generalize eh_9 : hset h_8 0 6 _ = h_9
        have hyp := hyp h_9 eh_9.symm
        refine z_aload_n dX9_text_72 rfl ?_
        refine cl_X9_86 dX9_text_73 rfl (sC_0 hE) (cC_0 hE) (Nat.le_of_ble_eq_true rfl) (zC_mono ?_ hyp)
        rintro _ h_10 ⟨rfl, hyp⟩
        refine ⟨rfl, ?_⟩
        refine z_aload_n dX9_text_76 rfl ?_
        refine gf_X9_20 (c2 := 2) dX9_text_77 rfl (sC_0 hE) (cC_0 hE) rfl ?_
        refine gf_X9_89 dX9_text_80 rfl (sC_2 hE) (cC_2 hE) ?_
        exact z_iret dX9_text_83 rfl ⟨_, rfl, hyp⟩
      · have hyp := hyp.2 c_5
        refine z_iconst dX9_text_39 (r32d rfl) ?_
        exact z_iret dX9_text_40 rfl ⟨_, rfl, hyp⟩
    · have hyp := hyp.2 c_2
      refine z_bipush dX9_text_12 (r32d rfl) (by decide) ?_
      exact z_iret dX9_text_14 rfl ⟨_, rfl, hyp⟩
set_option maxRecDepth 20000 in
theorem eX9_timesBy {E : zE} (hE : isC E) {d : Nat} {x0 x1 : Int} {h : zH} {K : Int → zH → Prop} (hyp :
  ((0 < x1 →
    ¬ x1 = 0 ∧
    ∀ x_2 : Int, x_2 = w32 (Int.tmod x0 x1) →
    (((w32 (2 * x_2)) ≤ x1 →
      ¬ x1 = 0 ∧
      K (w32 (Int.tdiv x0 x1)) h) ∧
    (¬ ((w32 (2 * x_2)) ≤ x1) →
      ¬ x1 = 0 ∧
      K (w32 ((w32 (Int.tdiv x0 x1)) + 1)) h))) ∧
  (¬ (0 < x1) →
    K 0 h))) :
  zCI E mX9_timesBy d [zI x0, zI x1] h K := by
  refine zC_in (L0 := [zI x0, zI x1, zU]) pn_X9 rfl (Nat.le_of_ble_eq_true rfl) ?_
  refine z_iload_n dX9_timesBy_0 rfl ?_
  refine z_if_gt (tgt := 6) dX9_timesBy_1 (by decide) (fun c_1 => ?_) (fun c_1 => ?_)
  · have hyp := hyp.1 c_1
    refine z_iload_n dX9_timesBy_6 rfl ?_
    refine z_iload_n dX9_timesBy_7 rfl ?_
    obtain ⟨hz, hyp⟩ := hyp
    refine z_irem hz dX9_timesBy_8 ?_
    generalize ex_2 : w32 (Int.tmod x0 x1) = x_2
    have hyp := hyp x_2 ex_2.symm
    refine z_istore_n dX9_timesBy_9 rfl (by decide) rfl ?_
    refine z_iconst dX9_timesBy_10 (r32d rfl) ?_
    refine z_iload_n dX9_timesBy_11 rfl ?_
    refine z_imul dX9_timesBy_12 ?_
    refine z_iload_n dX9_timesBy_13 rfl ?_
    refine z_icmp_le (tgt := 25) dX9_timesBy_14 (by decide) (fun c_3 => ?_) (fun c_3 => ?_)
    · have hyp := hyp.1 c_3
      refine z_iload_n dX9_timesBy_25 rfl ?_
      refine z_iload_n dX9_timesBy_26 rfl ?_
      obtain ⟨hz, hyp⟩ := hyp
      refine z_idiv hz dX9_timesBy_27 ?_
      exact z_iret dX9_timesBy_28 rfl ⟨_, rfl, hyp⟩
    · have hyp := hyp.2 c_3
      refine z_iload_n dX9_timesBy_17 rfl ?_
      refine z_iload_n dX9_timesBy_18 rfl ?_
      obtain ⟨hz, hyp⟩ := hyp
      refine z_idiv hz dX9_timesBy_19 ?_
      refine z_iconst dX9_timesBy_20 (r32d rfl) ?_
      refine z_iadd dX9_timesBy_21 ?_
      refine z_goto (tgt := 28) dX9_timesBy_22 (by decide) ?_
      exact z_iret dX9_timesBy_28 rfl ⟨_, rfl, hyp⟩
  · have hyp := hyp.2 c_1
    refine z_iconst dX9_timesBy_4 (r32d rfl) ?_
    exact z_iret dX9_timesBy_5 rfl ⟨_, rfl, hyp⟩
set_option maxRecDepth 20000 in
theorem eX9_unit {E : zE} (hE : isC E) {d : Nat} {x1 x2 x3 x4 : Int} {h : zH} {K : Int → zH → Prop} (hyp :
  zCI E mX9_unitsOf d [zI x1, zI x2, zI x3] h (fun r_1 h_1 =>
    ((r_1 = 0 →
      K (-1) h_1) ∧
    (¬ (r_1 = 0) →
      ((1000 < r_1 →
        K (-1) h_1) ∧
      (¬ (1000 < r_1) →
        zCI E mX9_isBeyond d [zI x4, zI 0, zI 2] h_1 (fun r_4 h_4 =>
          ((r_4 = 0 →
            ((x4 ≠ 2 →
              zCV E mX9_gather d [zR 0, zI (-1), zI (-1)] h_4 (fun h_7 =>
                zCI E mX7_bestUnit d [zR 76, zI x1, zI x2, zI x3, zI (h_7 0 8)] h_7 (fun r_8 h_8 =>
                  ((x4 ≠ 0 →
                    zCI E mX9_placesOf d [zI r_8, zI (h_8 0 8)] h_8 (fun r_10 h_10 =>
                      zCI E mX7_sumOfLumps d [zR 76, zI r_10] h_10 (fun r_11 h_11 =>
                        K r_11 h_11))) ∧
                  (¬ (x4 ≠ 0) →
                    K r_8 h_8))))) ∧
            (¬ (x4 ≠ 2) →
              K r_1 h_4))) ∧
          (¬ (r_4 = 0) →
            K (-1) h_4))))))))) :
  zCI E mX9_unit (d + 1) [zR 0, zI x1, zI x2, zI x3, zI x4] h K := by
  refine zC_in (L0 := [zR 0, zI x1, zI x2, zI x3, zI x4, zU, zU]) pn_X9 rfl (Nat.le_of_ble_eq_true rfl) ?_
  refine z_iload_n dX9_unit_0 rfl ?_
  refine z_iload_n dX9_unit_1 rfl ?_
  refine z_iload_n dX9_unit_2 rfl ?_
  refine cl_X9_286 dX9_unit_3 rfl (Nat.le_of_ble_eq_true rfl) (zC_mono ?_ hyp)
  rintro _ h_1 ⟨r_1, rfl, hyp⟩
  refine ⟨r_1, rfl, ?_⟩
  refine z_istore dX9_unit_6 (by decide) rfl ?_
  refine z_iload dX9_unit_8 rfl ?_
  refine z_if_eq (tgt := 31) dX9_unit_10 (by decide) (fun c_2 => ?_) (fun c_2 => ?_)
  · have hyp := hyp.1 c_2
    refine z_iconst dX9_unit_31 (r32d rfl) ?_
    exact z_iret dX9_unit_32 rfl ⟨_, rfl, hyp⟩
  · have hyp := hyp.2 c_2
    refine z_iload dX9_unit_13 rfl ?_
    refine z_sipush dX9_unit_15 (r32d rfl) (by decide) ?_
    refine z_icmp_gt (tgt := 31) dX9_unit_18 (by decide) (fun c_3 => ?_) (fun c_3 => ?_)
    · have hyp := hyp.1 c_3
      refine z_iconst dX9_unit_31 (r32d rfl) ?_
      exact z_iret dX9_unit_32 rfl ⟨_, rfl, hyp⟩
    · have hyp := hyp.2 c_3
      refine z_iload dX9_unit_21 rfl ?_
      refine z_iconst dX9_unit_23 (r32d rfl) ?_
      refine z_iconst dX9_unit_24 (r32d rfl) ?_
      refine cl_X9_154 dX9_unit_25 rfl (Nat.le_of_ble_eq_true rfl) (zC_mono ?_ hyp)
      rintro _ h_4 ⟨r_4, rfl, hyp⟩
      refine ⟨r_4, rfl, ?_⟩
      refine z_if_eq (tgt := 33) dX9_unit_28 (by decide) (fun c_5 => ?_) (fun c_5 => ?_)
      · have hyp := hyp.1 c_5
        refine z_iload dX9_unit_33 rfl ?_
        refine z_iconst dX9_unit_35 (r32d rfl) ?_
        refine z_icmp_ne (tgt := 42) dX9_unit_36 (by decide) (fun c_6 => ?_) (fun c_6 => ?_)
        · have hyp := hyp.1 c_6
          refine z_aload_n dX9_unit_42 rfl ?_
          refine z_iconst dX9_unit_43 (r32d rfl) ?_
          refine z_iconst dX9_unit_44 (r32d rfl) ?_
          refine cl_X9_244 dX9_unit_45 rfl (sC_0 hE) (cC_0 hE) (Nat.le_of_ble_eq_true rfl) (zC_mono ?_ hyp)
          rintro _ h_7 ⟨rfl, hyp⟩
          refine ⟨rfl, ?_⟩
          refine z_aload_n dX9_unit_48 rfl ?_
          refine gf_X9_64 (c2 := 76) dX9_unit_49 rfl (sC_0 hE) (cC_0 hE) rfl ?_
          refine z_iload_n dX9_unit_52 rfl ?_
          refine z_iload_n dX9_unit_53 rfl ?_
          refine z_iload_n dX9_unit_54 rfl ?_
          refine z_aload_n dX9_unit_55 rfl ?_
          refine gf_X9_47 dX9_unit_56 rfl (sC_0 hE) (cC_0 hE) ?_
          refine cl_X9_289 dX9_unit_59 rfl (sC_76 hE) (cC_76 hE) (Nat.le_of_ble_eq_true rfl) (zC_mono ?_ hyp)
          rintro _ h_8 ⟨r_8, rfl, hyp⟩
          refine ⟨r_8, rfl, ?_⟩
          refine z_istore dX9_unit_62 (by decide) rfl ?_
          refine z_iload dX9_unit_64 rfl ?_
          refine z_if_ne (tgt := 74) dX9_unit_66 (by decide) (fun c_9 => ?_) (fun c_9 => ?_)
          · have hyp := hyp.1 c_9
            refine z_aload_n dX9_unit_74 rfl ?_
            refine gf_X9_64 (c2 := 76) dX9_unit_75 rfl (sC_0 hE) (cC_0 hE) rfl ?_
            refine z_iload dX9_unit_78 rfl ?_
            refine z_aload_n dX9_unit_80 rfl ?_
            refine gf_X9_47 dX9_unit_81 rfl (sC_0 hE) (cC_0 hE) ?_
            refine cl_X9_211 dX9_unit_84 rfl (Nat.le_of_ble_eq_true rfl) (zC_mono ?_ hyp)
            rintro _ h_10 ⟨r_10, rfl, hyp⟩
            refine ⟨r_10, rfl, ?_⟩
            refine cl_X9_248 dX9_unit_87 rfl (sC_76 hE) (cC_76 hE) (Nat.le_of_ble_eq_true rfl) (zC_mono ?_ hyp)
            rintro _ h_11 ⟨r_11, rfl, hyp⟩
            refine ⟨r_11, rfl, ?_⟩
            exact z_iret dX9_unit_90 rfl ⟨_, rfl, hyp⟩
          · have hyp := hyp.2 c_9
            refine z_iload dX9_unit_69 rfl ?_
            refine z_goto (tgt := 90) dX9_unit_71 (by decide) ?_
            exact z_iret dX9_unit_90 rfl ⟨_, rfl, hyp⟩
        · have hyp := hyp.2 c_6
          refine z_iload dX9_unit_39 rfl ?_
          exact z_iret dX9_unit_41 rfl ⟨_, rfl, hyp⟩
      · have hyp := hyp.2 c_5
        refine z_iconst dX9_unit_31 (r32d rfl) ?_
        exact z_iret dX9_unit_32 rfl ⟨_, rfl, hyp⟩
set_option maxRecDepth 20000 in
theorem eX9_unitsOf {E : zE} (hE : isC E) {d : Nat} {x0 x1 x2 : Int} {h : zH} {K : Int → zH → Prop} (hyp :
  zCI E mX9_isUnit d [zI x0] h (fun r_1 h_1 =>
    ((r_1 = 0 →
      K 0 h_1) ∧
    (¬ (r_1 = 0) →
      zCI E mX9_isUnit d [zI x1] h_1 (fun r_3 h_3 =>
        ((r_3 = 0 →
          K 0 h_3) ∧
        (¬ (r_3 = 0) →
          ((x1 < x0 →
            K 0 h_3) ∧
          (¬ (x1 < x0) →
            ((x2 < 1 →
              K 0 h_3) ∧
            (¬ (x2 < 1) →
              ((x2 ≤ 9999 →
                ¬ x2 = 0 ∧
                K (w32 ((w32 (Int.tdiv (w32 (x1 - x0)) x2)) + 1)) h_3) ∧
              (¬ (x2 ≤ 9999) →
                K 0 h_3))))))))))))) :
  zCI E mX9_unitsOf (d + 1) [zI x0, zI x1, zI x2] h K := by
  refine zC_in (L0 := [zI x0, zI x1, zI x2]) pn_X9 rfl (Nat.le_of_ble_eq_true rfl) ?_
  refine z_iload_n dX9_unitsOf_0 rfl ?_
  refine cl_X9_208 dX9_unitsOf_1 rfl (Nat.le_of_ble_eq_true rfl) (zC_mono ?_ hyp)
  rintro _ h_1 ⟨r_1, rfl, hyp⟩
  refine ⟨r_1, rfl, ?_⟩
  refine z_if_eq (tgt := 31) dX9_unitsOf_4 (by decide) (fun c_2 => ?_) (fun c_2 => ?_)
  · have hyp := hyp.1 c_2
    refine z_iconst dX9_unitsOf_31 (r32d rfl) ?_
    exact z_iret dX9_unitsOf_32 rfl ⟨_, rfl, hyp⟩
  · have hyp := hyp.2 c_2
    refine z_iload_n dX9_unitsOf_7 rfl ?_
    refine cl_X9_208 dX9_unitsOf_8 rfl (Nat.le_of_ble_eq_true rfl) (zC_mono ?_ hyp)
    rintro _ h_3 ⟨r_3, rfl, hyp⟩
    refine ⟨r_3, rfl, ?_⟩
    refine z_if_eq (tgt := 31) dX9_unitsOf_11 (by decide) (fun c_4 => ?_) (fun c_4 => ?_)
    · have hyp := hyp.1 c_4
      refine z_iconst dX9_unitsOf_31 (r32d rfl) ?_
      exact z_iret dX9_unitsOf_32 rfl ⟨_, rfl, hyp⟩
    · have hyp := hyp.2 c_4
      refine z_iload_n dX9_unitsOf_14 rfl ?_
      refine z_iload_n dX9_unitsOf_15 rfl ?_
      refine z_icmp_gt (tgt := 31) dX9_unitsOf_16 (by decide) (fun c_5 => ?_) (fun c_5 => ?_)
      · have hyp := hyp.1 c_5
        refine z_iconst dX9_unitsOf_31 (r32d rfl) ?_
        exact z_iret dX9_unitsOf_32 rfl ⟨_, rfl, hyp⟩
      · have hyp := hyp.2 c_5
        refine z_iload_n dX9_unitsOf_19 rfl ?_
        refine z_iconst dX9_unitsOf_20 (r32d rfl) ?_
        refine z_icmp_lt (tgt := 31) dX9_unitsOf_21 (by decide) (fun c_6 => ?_) (fun c_6 => ?_)
        · have hyp := hyp.1 c_6
          refine z_iconst dX9_unitsOf_31 (r32d rfl) ?_
          exact z_iret dX9_unitsOf_32 rfl ⟨_, rfl, hyp⟩
        · have hyp := hyp.2 c_6
          refine z_iload_n dX9_unitsOf_24 rfl ?_
          refine z_sipush dX9_unitsOf_25 (r32d rfl) (by decide) ?_
          refine z_icmp_le (tgt := 33) dX9_unitsOf_28 (by decide) (fun c_7 => ?_) (fun c_7 => ?_)
          · have hyp := hyp.1 c_7
            refine z_iload_n dX9_unitsOf_33 rfl ?_
            refine z_iload_n dX9_unitsOf_34 rfl ?_
            refine z_isub dX9_unitsOf_35 ?_
            refine z_iload_n dX9_unitsOf_36 rfl ?_
            obtain ⟨hz, hyp⟩ := hyp
            refine z_idiv hz dX9_unitsOf_37 ?_
            refine z_iconst dX9_unitsOf_38 (r32d rfl) ?_
            refine z_iadd dX9_unitsOf_39 ?_
            exact z_iret dX9_unitsOf_40 rfl ⟨_, rfl, hyp⟩
          · have hyp := hyp.2 c_7
            refine z_iconst dX9_unitsOf_31 (r32d rfl) ?_
            exact z_iret dX9_unitsOf_32 rfl ⟨_, rfl, hyp⟩
set_option maxRecDepth 20000 in
theorem bX9_wander_51 {E : zE} (hE : isC E) {bt : Nat} (hbt : isSu E bt) {d : Nat} {x3 x4 x5 : Int} {h : zH} {K : Int → zH → Prop} (hyp :
  (((h 76 1) ≤ x5 →
    K x4 h) ∧
  (¬ ((h 76 1) ≤ x5) →
    ((0 : Int) ≤ x5 ∧ x5 < (8 : Int)) ∧
    zCI E mX9_timesBy d [zI (h 77 x5.toNat), zI x3] h (fun r_2 h_2 =>
      ((0 < r_2 →
        ((0 : Int) ≤ x5 ∧ x5 < (8 : Int)) ∧
        zCI E mX9_offBy d [zI (h_2 77 x5.toNat), zI x3] h_2 (fun r_4 h_4 =>
          (((h_4 0 8) = 0 →
            zG E mX9_wander (d + 1) 113 [zR 0, zU, zU, zI x3, zI x4, zI x5, zI r_2, zU] [zI 1, zI r_4] h_4 (qI K)) ∧
          (¬ ((h_4 0 8) = 0) →
            zG E mX9_wander (d + 1) 113 [zR 0, zU, zU, zI x3, zI x4, zI x5, zI r_2, zU] [zI 2, zI r_4] h_4 (qI K))))) ∧
      (¬ (0 < r_2) →
        ∀ x_6 : Int, x_6 = w32 (x5 + 1) →
        zG E mX9_wander (d + 1) 51 [zR 0, zU, zU, zI x3, zI x4, zI x_6, zU, zU] [] h_2 (qI K))))))) :
  zG E mX9_wander (d + 1) 51 [zR 0, zU, zU, zI x3, zI x4, zI x5, zU, zU] [] h (qI K) := by
  refine z_iload dX9_wander_51 rfl ?_
  refine z_aload_n dX9_wander_53 rfl ?_
  refine gf_X9_64 (c2 := 76) dX9_wander_54 rfl (sC_0 hE) (cC_0 hE) rfl ?_
  refine gf_X9_251 dX9_wander_57 rfl (sC_76 hE) (cC_76 hE) ?_
  refine z_icmp_ge (tgt := 139) dX9_wander_60 (by decide) (fun c_1 => ?_) (fun c_1 => ?_)
  · have hyp := hyp.1 c_1
    refine z_iload dX9_wander_139 rfl ?_
    exact z_iret dX9_wander_141 rfl ⟨_, rfl, hyp⟩
  · have hyp := hyp.2 c_1
    refine z_aload_n dX9_wander_63 rfl ?_
    refine gf_X9_64 (c2 := 76) dX9_wander_64 rfl (sC_0 hE) (cC_0 hE) rfl ?_
    refine gf_X9_280 (c2 := 77) dX9_wander_67 rfl (sC_76 hE) (cC_76 hE) rfl ?_
    refine z_iload dX9_wander_70 rfl ?_
    obtain ⟨⟨hi0, hi1⟩, hyp⟩ := hyp
    refine z_iaload dX9_wander_72 (sC_77 hE) (cC_77 hE) hi0 hi1 ?_
    refine z_iload_n dX9_wander_73 rfl ?_
    refine cl_X9_218 dX9_wander_74 rfl (Nat.le_of_ble_eq_true rfl) (zC_mono ?_ hyp)
    rintro _ h_2 ⟨r_2, rfl, hyp⟩
    refine ⟨r_2, rfl, ?_⟩
    refine z_istore dX9_wander_77 (by decide) rfl ?_
    refine z_iload dX9_wander_79 rfl ?_
    refine z_if_gt (tgt := 87) dX9_wander_81 (by decide) (fun c_3 => ?_) (fun c_3 => ?_)
    · have hyp := hyp.1 c_3
      refine z_aload_n dX9_wander_87 rfl ?_
      refine gf_X9_64 (c2 := 76) dX9_wander_88 rfl (sC_0 hE) (cC_0 hE) rfl ?_
      refine gf_X9_280 (c2 := 77) dX9_wander_91 rfl (sC_76 hE) (cC_76 hE) rfl ?_
      refine z_iload dX9_wander_94 rfl ?_
      obtain ⟨⟨hi0, hi1⟩, hyp⟩ := hyp
      refine z_iaload dX9_wander_96 (sC_77 hE) (cC_77 hE) hi0 hi1 ?_
      refine z_iload_n dX9_wander_97 rfl ?_
      refine cl_X9_215 dX9_wander_98 rfl (Nat.le_of_ble_eq_true rfl) (zC_mono ?_ hyp)
      rintro _ h_4 ⟨r_4, rfl, hyp⟩
      refine ⟨r_4, rfl, ?_⟩
      refine z_aload_n dX9_wander_101 rfl ?_
      refine gf_X9_47 dX9_wander_102 rfl (sC_0 hE) (cC_0 hE) ?_
      refine z_if_eq (tgt := 112) dX9_wander_105 (by decide) (fun c_5 => ?_) (fun c_5 => ?_)
      · have hyp := hyp.1 c_5
        refine z_iconst dX9_wander_112 (r32d rfl) ?_
        exact hyp
      · have hyp := hyp.2 c_5
        refine z_iconst dX9_wander_108 (r32d rfl) ?_
        refine z_goto (tgt := 113) dX9_wander_109 (by decide) ?_
        exact hyp
    · have hyp := hyp.2 c_3
      refine z_goto (tgt := 133) dX9_wander_84 (by decide) ?_
      refine z_iinc dX9_wander_133 rfl (by decide) rfl ?_
      generalize ex_6 : w32 (x5 + 1) = x_6
      have hyp := hyp x_6 ex_6.symm
      refine z_goto (tgt := 51) dX9_wander_136 (by decide) ?_
      exact z_forget [true, false, false, true, true, true, false, false] rfl hyp
set_option maxRecDepth 20000 in
theorem bX9_wander_113 {E : zE} (hE : isC E) {bt : Nat} (hbt : isSu E bt) {d : Nat} {x3 x4 x5 x6 s0 s1 : Int} {h : zH} {K : Int → zH → Prop} (hyp :
  ∀ x_1 : Int, x_1 = w32 (s1 * s0) →
  ¬ x6 = 0 ∧
  ∀ x_2 : Int, x_2 = max x4 (w32 (Int.tdiv (w32 ((w32 (x_1 + x6)) - 1)) x6)) →
  ∀ x_3 : Int, x_3 = w32 (x5 + 1) →
  zG E mX9_wander (d + 1) 51 [zR 0, zU, zU, zI x3, zI x_2, zI x_3, zU, zU] [] h (qI K)) :
  zG E mX9_wander (d + 1) 113 [zR 0, zU, zU, zI x3, zI x4, zI x5, zI x6, zU] [zI s0, zI s1] h (qI K) := by
  refine z_imul dX9_wander_113 ?_
  generalize ex_1 : w32 (s1 * s0) = x_1
  have hyp := hyp x_1 ex_1.symm
  refine z_istore dX9_wander_114 (by decide) rfl ?_
  refine z_iload dX9_wander_116 rfl ?_
  refine z_iload dX9_wander_118 rfl ?_
  refine z_iload dX9_wander_120 rfl ?_
  refine z_iadd dX9_wander_122 ?_
  refine z_iconst dX9_wander_123 (r32d rfl) ?_
  refine z_isub dX9_wander_124 ?_
  refine z_iload dX9_wander_125 rfl ?_
  obtain ⟨hz, hyp⟩ := hyp
  refine z_idiv hz dX9_wander_127 ?_
  refine cl_X9_281 dX9_wander_128 rfl (Nat.le_of_ble_eq_true rfl) ?_
  generalize ex_2 : max x4 (w32 (Int.tdiv (w32 ((w32 (x_1 + x6)) - 1)) x6)) = x_2
  have hyp := hyp x_2 ex_2.symm
  refine z_istore dX9_wander_131 (by decide) rfl ?_
  refine z_iinc dX9_wander_133 rfl (by decide) rfl ?_
  generalize ex_3 : w32 (x5 + 1) = x_3
  have hyp := hyp x_3 ex_3.symm
  refine z_goto (tgt := 51) dX9_wander_136 (by decide) ?_
  exact z_forget [true, false, false, true, true, true, false, false] rfl hyp
set_option maxRecDepth 20000 in
theorem eX9_wander {E : zE} (hE : isC E) {bt : Nat} (hbt : isSu E bt) {d : Nat} {x1 x2 : Int} {h : zH} {K : Int → zH → Prop} (hyp :
  zCI E mX9_isUnit d [zI x1] h (fun r_1 h_1 =>
    ((r_1 = 0 →
      K (-2) h_1) ∧
    (¬ (r_1 = 0) →
      (h_1 0 3 = (bt : Nat)) ∧
      zCI E mX9_isBeyond d [zI x2, zI (-1), zI (w32 ((h_1 (bt + 1) 1) - 1))] h_1 (fun r_3 h_3 =>
        ((r_3 = 0 →
          zCV E mX9_gather d [zR 0, zI x2, zI (-1)] h_3 (fun h_5 =>
            zCI E mX9_placesOf d [zI x1, zI (h_5 0 8)] h_5 (fun r_6 h_6 =>
              zG E mX9_wander (d + 1) 51 [zR 0, zU, zU, zI r_6, zI 0, zI 0, zU, zU] [] h_6 (qI K)))) ∧
        (¬ (r_3 = 0) →
          K (-2) h_3))))))) :
  zCI E mX9_wander (d + 1) [zR 0, zI x1, zI x2] h K := by
  refine zC_in (L0 := [zR 0, zI x1, zI x2, zU, zU, zU, zU, zU]) pn_X9 rfl (Nat.le_of_ble_eq_true rfl) ?_
  refine z_iload_n dX9_wander_0 rfl ?_
  refine cl_X9_208 dX9_wander_1 rfl (Nat.le_of_ble_eq_true rfl) (zC_mono ?_ hyp)
  rintro _ h_1 ⟨r_1, rfl, hyp⟩
  refine ⟨r_1, rfl, ?_⟩
  refine z_if_eq (tgt := 27) dX9_wander_4 (by decide) (fun c_2 => ?_) (fun c_2 => ?_)
  · have hyp := hyp.1 c_2
    refine z_bipush dX9_wander_27 (r32d rfl) (by decide) ?_
    exact z_iret dX9_wander_29 rfl ⟨_, rfl, hyp⟩
  · have hyp := hyp.2 c_2
    refine z_iload_n dX9_wander_7 rfl ?_
    refine z_iconst dX9_wander_8 (r32d rfl) ?_
    refine z_aload_n dX9_wander_9 rfl ?_
    obtain ⟨hdy, hyp⟩ := hyp
    refine gf_X9_27 (c2 := bt) dX9_wander_10 rfl (sC_0 hE) (cC_0 hE) hdy ?_
    refine gf_X9_98 (c2 := (bt + 1)) dX9_wander_13 rfl ((hbt.2.1)) (Nat.lt_of_le_of_lt (Nat.le_add_right bt 18) hbt.1) rfl ?_
    refine gf_X9_279 dX9_wander_16 rfl (((hbt.2.2.1).2.1)) (Nat.lt_of_le_of_lt (Nat.add_le_add_left (Nat.le_of_ble_eq_true rfl : 1 ≤ 18) bt) hbt.1) ?_
    refine z_iconst dX9_wander_19 (r32d rfl) ?_
    refine z_isub dX9_wander_20 ?_
    refine cl_X9_154 dX9_wander_21 rfl (Nat.le_of_ble_eq_true rfl) (zC_mono ?_ hyp)
    rintro _ h_3 ⟨r_3, rfl, hyp⟩
    refine ⟨r_3, rfl, ?_⟩
    refine z_if_eq (tgt := 30) dX9_wander_24 (by decide) (fun c_4 => ?_) (fun c_4 => ?_)
    · have hyp := hyp.1 c_4
      refine z_aload_n dX9_wander_30 rfl ?_
      refine z_iload_n dX9_wander_31 rfl ?_
      refine z_iconst dX9_wander_32 (r32d rfl) ?_
      refine cl_X9_244 dX9_wander_33 rfl (sC_0 hE) (cC_0 hE) (Nat.le_of_ble_eq_true rfl) (zC_mono ?_ hyp)
      rintro _ h_5 ⟨rfl, hyp⟩
      refine ⟨rfl, ?_⟩
      refine z_iload_n dX9_wander_36 rfl ?_
      refine z_aload_n dX9_wander_37 rfl ?_
      refine gf_X9_47 dX9_wander_38 rfl (sC_0 hE) (cC_0 hE) ?_
      refine cl_X9_211 dX9_wander_41 rfl (Nat.le_of_ble_eq_true rfl) (zC_mono ?_ hyp)
      rintro _ h_6 ⟨r_6, rfl, hyp⟩
      refine ⟨r_6, rfl, ?_⟩
      refine z_istore_n dX9_wander_44 rfl (by decide) rfl ?_
      refine z_iconst dX9_wander_45 (r32d rfl) ?_
      refine z_istore dX9_wander_46 (by decide) rfl ?_
      refine z_iconst dX9_wander_48 (r32d rfl) ?_
      refine z_istore dX9_wander_49 (by decide) rfl ?_
      exact z_forget [true, false, false, true, true, true, false, false] rfl hyp
    · have hyp := hyp.2 c_4
      refine z_bipush dX9_wander_27 (r32d rfl) (by decide) ?_
      exact z_iret dX9_wander_29 rfl ⟨_, rfl, hyp⟩
set_option maxRecDepth 20000 in
theorem eX9_well {E : zE} (hE : isC E) {bt : Nat} (hbt : isSu E bt) {d : Nat} {x1 : Int} {h : zH} {K : Int → zH → Prop} (hyp :
  zCI E mX0_isFitted d [zR 52, zI x1] h (fun r_1 h_1 =>
    ((r_1 = 0 →
      K (-1) h_1) ∧
    (¬ (r_1 = 0) →
      (h_1 0 3 = (bt : Nat)) ∧
      zCI E mX0_shapesAsWell d [zR 52, zI x1, zI (h_1 bt 16)] h_1 (fun r_3 h_3 =>
        K r_3 h_3))))) :
  zCI E mX9_well (d + 1) [zR 0, zI x1] h K := by
  refine zC_in (L0 := [zR 0, zI x1]) pn_X9 rfl (Nat.le_of_ble_eq_true rfl) ?_
  refine z_aload_n dX9_well_0 rfl ?_
  refine gf_X9_54 (c2 := 52) dX9_well_1 rfl (sC_0 hE) (cC_0 hE) rfl ?_
  refine z_iload_n dX9_well_4 rfl ?_
  refine cl_X9_194 dX9_well_5 rfl (sC_52 hE) (cC_52 hE) (Nat.le_of_ble_eq_true rfl) (zC_mono ?_ hyp)
  rintro _ h_1 ⟨r_1, rfl, hyp⟩
  refine ⟨r_1, rfl, ?_⟩
  refine z_if_eq (tgt := 29) dX9_well_8 (by decide) (fun c_2 => ?_) (fun c_2 => ?_)
  · have hyp := hyp.1 c_2
    refine z_iconst dX9_well_29 (r32d rfl) ?_
    exact z_iret dX9_well_30 rfl ⟨_, rfl, hyp⟩
  · have hyp := hyp.2 c_2
    refine z_aload_n dX9_well_11 rfl ?_
    refine gf_X9_54 (c2 := 52) dX9_well_12 rfl (sC_0 hE) (cC_0 hE) rfl ?_
    refine z_iload_n dX9_well_15 rfl ?_
    refine z_aload_n dX9_well_16 rfl ?_
    obtain ⟨hdy, hyp⟩ := hyp
    refine gf_X9_27 (c2 := bt) dX9_well_17 rfl (sC_0 hE) (cC_0 hE) hdy ?_
    refine gf_X9_197 dX9_well_20 rfl ((hbt.2.1)) (Nat.lt_of_le_of_lt (Nat.le_add_right bt 18) hbt.1) ?_
    refine cl_X9_200 dX9_well_23 rfl (sC_52 hE) (cC_52 hE) (Nat.le_of_ble_eq_true rfl) (zC_mono ?_ hyp)
    rintro _ h_3 ⟨r_3, rfl, hyp⟩
    refine ⟨r_3, rfl, ?_⟩
    refine z_goto (tgt := 30) dX9_well_26 (by decide) ?_
    exact z_iret dX9_well_30 rfl ⟨_, rfl, hyp⟩
set_option maxRecDepth 20000 in
theorem eX9_whole {E : zE} (hE : isC E) {d : Nat} {x1 x2 x3 : Int} {h : zH} {K : Int → zH → Prop} (hyp :
  zCI E mX9_isBeyond d [zI x1, zI 0, zI 999999] h (fun r_1 h_1 =>
    ((r_1 ≠ 0 →
      K (-1) h_1) ∧
    (¬ (r_1 ≠ 0) →
      zCI E mX9_isUnit d [zI x2] h_1 (fun r_3 h_3 =>
        ((r_3 ≠ 0 →
          zCI E mX9_placesOf d [zI x2, zI (h_3 0 8)] h_3 (fun r_5 h_5 =>
            ((x3 = 0) →
                zCI E mX9_offBy d [zI x1, zI r_5] h_5 (fun r_7 h_7 =>
                  K r_7 h_7)) ∧
            ((x3 = 1) →
                zCI E mX9_timesBy d [zI x1, zI r_5] h_5 (fun r_9 h_9 =>
                  K r_9 h_9)) ∧
            ((x3 ≠ 0 ∧ x3 ≠ 1) →
              K (-1) h_5))) ∧
        (¬ (r_3 ≠ 0) →
          K (-1) h_3))))))) :
  zCI E mX9_whole (d + 1) [zR 0, zI x1, zI x2, zI x3] h K := by
  refine zC_in (L0 := [zR 0, zI x1, zI x2, zI x3, zU]) pn_X9 rfl (Nat.le_of_ble_eq_true rfl) ?_
  refine z_iload_n dX9_whole_0 rfl ?_
  refine z_iconst dX9_whole_1 (r32d rfl) ?_
  refine z_ldc (x := 999999) dX9_whole_2 rfl wk_X9_207 (by decide) (r32d rfl) ?_
  refine cl_X9_154 dX9_whole_4 rfl (Nat.le_of_ble_eq_true rfl) (zC_mono ?_ hyp)
  rintro _ h_1 ⟨r_1, rfl, hyp⟩
  refine ⟨r_1, rfl, ?_⟩
  refine z_if_ne (tgt := 17) dX9_whole_7 (by decide) (fun c_2 => ?_) (fun c_2 => ?_)
  · have hyp := hyp.1 c_2
    refine z_iconst dX9_whole_17 (r32d rfl) ?_
    exact z_iret dX9_whole_18 rfl ⟨_, rfl, hyp⟩
  · have hyp := hyp.2 c_2
    refine z_iload_n dX9_whole_10 rfl ?_
    refine cl_X9_208 dX9_whole_11 rfl (Nat.le_of_ble_eq_true rfl) (zC_mono ?_ hyp)
    rintro _ h_3 ⟨r_3, rfl, hyp⟩
    refine ⟨r_3, rfl, ?_⟩
    refine z_if_ne (tgt := 19) dX9_whole_14 (by decide) (fun c_4 => ?_) (fun c_4 => ?_)
    · have hyp := hyp.1 c_4
      refine z_iload_n dX9_whole_19 rfl ?_
      refine z_aload_n dX9_whole_20 rfl ?_
      refine gf_X9_47 dX9_whole_21 rfl (sC_0 hE) (cC_0 hE) ?_
      refine cl_X9_211 dX9_whole_24 rfl (Nat.le_of_ble_eq_true rfl) (zC_mono ?_ hyp)
      rintro _ h_5 ⟨r_5, rfl, hyp⟩
      refine ⟨r_5, rfl, ?_⟩
      refine z_istore dX9_whole_27 (by decide) rfl ?_
      refine z_iload_n dX9_whole_29 rfl ?_
      have hgo : (x3 ≠ 0 ∧ x3 ≠ 1) → zG E mX9_whole (d + 1) 70 [zR 0, zI x1, zI x2, zI x3, zI r_5] [] h_5 (qI K) := by
        intro hcc
        have hyp := hyp.2.2 hcc
        refine z_iconst dX9_whole_70 (r32d rfl) ?_
        exact z_iret dX9_whole_71 rfl ⟨_, rfl, hyp⟩
      by_cases c_6 : x3 = 0
      · have hyp := hyp.1 c_6
        have hgo : zG E mX9_whole (d + 1) 56 [zR 0, zI x1, zI x2, zI x3, zI r_5] [] h_5 (qI K) := by
          refine z_iload_n dX9_whole_56 rfl ?_
          refine z_iload dX9_whole_57 rfl ?_
          refine cl_X9_215 dX9_whole_59 rfl (Nat.le_of_ble_eq_true rfl) (zC_mono ?_ hyp)
          rintro _ h_7 ⟨r_7, rfl, hyp⟩
          refine ⟨r_7, rfl, ?_⟩
          exact z_iret dX9_whole_62 rfl ⟨_, rfl, hyp⟩
        exact z_lsw (off := 26) (tgt := 56) dX9_whole_30 (by decide) (by rw [c_6] <;> rfl) (by decide) hgo
      by_cases c_8 : x3 = 1
      · have hyp := hyp.2.1 c_8
        have hgo : zG E mX9_whole (d + 1) 63 [zR 0, zI x1, zI x2, zI x3, zI r_5] [] h_5 (qI K) := by
          refine z_iload_n dX9_whole_63 rfl ?_
          refine z_iload dX9_whole_64 rfl ?_
          refine cl_X9_218 dX9_whole_66 rfl (Nat.le_of_ble_eq_true rfl) (zC_mono ?_ hyp)
          rintro _ h_9 ⟨r_9, rfl, hyp⟩
          refine ⟨r_9, rfl, ?_⟩
          exact z_iret dX9_whole_69 rfl ⟨_, rfl, hyp⟩
        exact z_lsw (off := 33) (tgt := 63) dX9_whole_30 (by decide) (by rw [c_8] <;> rfl) (by decide) hgo
      have z_10 : ¬ 0 = x3 := fun q => c_6 q.symm
      have z_11 : ¬ 1 = x3 := fun q => c_8 q.symm
      exact z_lsw (off := 40) (tgt := 70) dX9_whole_30 (by decide) (by simp [Op.lookupswitch.offset, z_10, z_11]) (by decide) (hgo ⟨c_6, c_8⟩)
    · have hyp := hyp.2 c_4
      refine z_iconst dX9_whole_17 (r32d rfl) ?_
      exact z_iret dX9_whole_18 rfl ⟨_, rfl, hyp⟩
