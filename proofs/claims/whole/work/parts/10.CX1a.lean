set_option maxRecDepth 20000 in
theorem bX1_advance_0 {E : zE} (hE : isC E) {d : Nat} {h : zH} {K : zH → Prop} (hyp :
  (((h 3 2) ≤ (h 3 3) →
    zG E mX1_advance (d + 1) 52 [zR 3, zU] [] h (qV K)) ∧
  (¬ ((h 3 2) ≤ (h 3 3)) →
    (h 3 1 = (1 : Nat)) ∧
    ((0 : Int) ≤ h 3 3 ∧ h 3 3 < (900 : Int)) ∧
    (((h 1 (h 3 3).toNat) = 32 →
      ∀ h_3 : zH, h_3 = hset h 3 3 (w32 ((h 3 3) + 1)) →
      zG E mX1_advance (d + 1) 0 [zR 3, zU] [] h_3 (qV K)) ∧
    (¬ ((h 1 (h 3 3).toNat) = 32) →
      (h 3 1 = (1 : Nat)) ∧
      ((0 : Int) ≤ h 3 3 ∧ h 3 3 < (900 : Int)) ∧
      (((h 1 (h 3 3).toNat) ≠ 10 →
        zG E mX1_advance (d + 1) 52 [zR 3, zU] [] h (qV K)) ∧
      (¬ ((h 1 (h 3 3).toNat) ≠ 10) →
        ∀ h_5 : zH, h_5 = hset h 3 3 (w32 ((h 3 3) + 1)) →
        zG E mX1_advance (d + 1) 0 [zR 3, zU] [] h_5 (qV K)))))))) :
  zG E mX1_advance (d + 1) 0 [zR 3, zU] [] h (qV K) := by
  refine z_aload_n dX1_advance_0 rfl ?_
  refine gf_X1_27 dX1_advance_1 rfl (sC_3 hE) (cC_3 hE) ?_
  refine z_aload_n dX1_advance_4 rfl ?_
  refine gf_X1_23 dX1_advance_5 rfl (sC_3 hE) (cC_3 hE) ?_
  refine z_icmp_ge (tgt := 52) dX1_advance_8 (by decide) (fun c_1 => ?_) (fun c_1 => ?_)
  · have hyp := hyp.1 c_1
    exact hyp
  · have hyp := hyp.2 c_1
    refine z_aload_n dX1_advance_11 rfl ?_
    obtain ⟨hdy, hyp⟩ := hyp
    refine gf_X1_19 (c2 := 1) dX1_advance_12 rfl (sC_3 hE) (cC_3 hE) hdy ?_
    refine z_aload_n dX1_advance_15 rfl ?_
    refine gf_X1_27 dX1_advance_16 rfl (sC_3 hE) (cC_3 hE) ?_
    obtain ⟨⟨hi0, hi1⟩, hyp⟩ := hyp
    refine z_caload dX1_advance_19 (sC_1 hE) (cC_1 hE) hi0 hi1 ?_
    refine z_bipush dX1_advance_20 (r32d rfl) (by decide) ?_
    refine z_icmp_eq (tgt := 39) dX1_advance_22 (by decide) (fun c_2 => ?_) (fun c_2 => ?_)
    · have hyp := hyp.1 c_2
      refine z_aload_n dX1_advance_39 rfl ?_
      refine z_dup dX1_advance_40 rfl ?_
      refine gf_X1_27 dX1_advance_41 rfl (sC_3 hE) (cC_3 hE) ?_
      refine z_iconst dX1_advance_44 (r32d rfl) ?_
      refine z_iadd dX1_advance_45 ?_
      refine pf_X1_27 dX1_advance_46 rfl (sC_3 hE) (cC_3 hE) ?_
      generalize eh_3 : hset h 3 3 _ = h_3
      have hyp := hyp h_3 eh_3.symm
      refine z_goto (tgt := 0) dX1_advance_49 (by decide) ?_
      exact hyp
    · have hyp := hyp.2 c_2
      refine z_aload_n dX1_advance_25 rfl ?_
      obtain ⟨hdy, hyp⟩ := hyp
      refine gf_X1_19 (c2 := 1) dX1_advance_26 rfl (sC_3 hE) (cC_3 hE) hdy ?_
      refine z_aload_n dX1_advance_29 rfl ?_
      refine gf_X1_27 dX1_advance_30 rfl (sC_3 hE) (cC_3 hE) ?_
      obtain ⟨⟨hi0, hi1⟩, hyp⟩ := hyp
      refine z_caload dX1_advance_33 (sC_1 hE) (cC_1 hE) hi0 hi1 ?_
      refine z_bipush dX1_advance_34 (r32d rfl) (by decide) ?_
      refine z_icmp_ne (tgt := 52) dX1_advance_36 (by decide) (fun c_4 => ?_) (fun c_4 => ?_)
      · have hyp := hyp.1 c_4
        exact hyp
      · have hyp := hyp.2 c_4
        refine z_aload_n dX1_advance_39 rfl ?_
        refine z_dup dX1_advance_40 rfl ?_
        refine gf_X1_27 dX1_advance_41 rfl (sC_3 hE) (cC_3 hE) ?_
        refine z_iconst dX1_advance_44 (r32d rfl) ?_
        refine z_iadd dX1_advance_45 ?_
        refine pf_X1_27 dX1_advance_46 rfl (sC_3 hE) (cC_3 hE) ?_
        generalize eh_5 : hset h 3 3 _ = h_5
        have hyp := hyp h_5 eh_5.symm
        refine z_goto (tgt := 0) dX1_advance_49 (by decide) ?_
        exact hyp
set_option maxRecDepth 20000 in
theorem bX1_advance_52 {E : zE} (hE : isC E) {d : Nat} {h : zH} {K : zH → Prop} (hyp :
  ∀ h_1 : zH, h_1 = hset h 3 5 (h 3 3) →
  ∀ h_2 : zH, h_2 = hset h_1 3 6 0 →
  (((h_2 3 3) < (h_2 3 2) →
    (h_2 3 1 = (1 : Nat)) ∧
    ((0 : Int) ≤ h_2 3 3 ∧ h_2 3 3 < (900 : Int)) ∧
    ∀ x_4 : Int, x_4 = h_2 1 (h_2 3 3).toNat →
    ((x_4 < 97 →
      zG E mX1_advance (d + 1) 111 [zR 3, zI x_4] [] h_2 (qV K)) ∧
    (¬ (x_4 < 97) →
      ((122 < x_4 →
        zG E mX1_advance (d + 1) 111 [zR 3, zI x_4] [] h_2 (qV K)) ∧
      (¬ (122 < x_4) →
        zCV E mX1_takeWord d [zR 3] h_2 (fun h_7 =>
          K h_7)))))) ∧
  (¬ ((h_2 3 3) < (h_2 3 2)) →
    ∀ h_8 : zH, h_8 = hset h_2 3 4 0 →
    K h_8))) :
  zG E mX1_advance (d + 1) 52 [zR 3, zU] [] h (qV K) := by
  refine z_aload_n dX1_advance_52 rfl ?_
  refine z_aload_n dX1_advance_53 rfl ?_
  refine gf_X1_27 dX1_advance_54 rfl (sC_3 hE) (cC_3 hE) ?_
  refine pf_X1_33 dX1_advance_57 rfl (sC_3 hE) (cC_3 hE) ?_
  generalize eh_1 : hset h 3 5 _ = h_1
  have hyp := hyp h_1 eh_1.symm
  refine z_aload_n dX1_advance_60 rfl ?_
  refine z_iconst dX1_advance_61 (r32d rfl) ?_
  refine pf_X1_36 dX1_advance_62 rfl (sC_3 hE) (cC_3 hE) ?_
  generalize eh_2 : hset h_1 3 6 _ = h_2
  have hyp := hyp h_2 eh_2.symm
  refine z_aload_n dX1_advance_65 rfl ?_
  refine gf_X1_27 dX1_advance_66 rfl (sC_3 hE) (cC_3 hE) ?_
  refine z_aload_n dX1_advance_69 rfl ?_
  refine gf_X1_23 dX1_advance_70 rfl (sC_3 hE) (cC_3 hE) ?_
  refine z_icmp_lt (tgt := 82) dX1_advance_73 (by decide) (fun c_3 => ?_) (fun c_3 => ?_)
  · have hyp := hyp.1 c_3
    refine z_aload_n dX1_advance_82 rfl ?_
    obtain ⟨hdy, hyp⟩ := hyp
    refine gf_X1_19 (c2 := 1) dX1_advance_83 rfl (sC_3 hE) (cC_3 hE) hdy ?_
    refine z_aload_n dX1_advance_86 rfl ?_
    refine gf_X1_27 dX1_advance_87 rfl (sC_3 hE) (cC_3 hE) ?_
    obtain ⟨⟨hi0, hi1⟩, hyp⟩ := hyp
    refine z_caload dX1_advance_90 (sC_1 hE) (cC_1 hE) hi0 hi1 ?_
    generalize ex_4 : h_2 1 (h_2 3 3).toNat = x_4
    have hyp := hyp x_4 ex_4.symm
    refine z_istore_n dX1_advance_91 rfl (by decide) rfl ?_
    refine z_iload_n dX1_advance_92 rfl ?_
    refine z_bipush dX1_advance_93 (r32d rfl) (by decide) ?_
    refine z_icmp_lt (tgt := 111) dX1_advance_95 (by decide) (fun c_5 => ?_) (fun c_5 => ?_)
    · have hyp := hyp.1 c_5
      exact hyp
    · have hyp := hyp.2 c_5
      refine z_iload_n dX1_advance_98 rfl ?_
      refine z_bipush dX1_advance_99 (r32d rfl) (by decide) ?_
      refine z_icmp_gt (tgt := 111) dX1_advance_101 (by decide) (fun c_6 => ?_) (fun c_6 => ?_)
      · have hyp := hyp.1 c_6
        exact hyp
      · have hyp := hyp.2 c_6
        refine z_aload_n dX1_advance_104 rfl ?_
        refine cl_X1_59 dX1_advance_105 rfl (sC_3 hE) (cC_3 hE) (Nat.le_of_ble_eq_true rfl) (zC_mono ?_ hyp)
        rintro _ h_7 ⟨rfl, hyp⟩
        refine ⟨rfl, ?_⟩
        refine z_goto (tgt := 145) dX1_advance_108 (by decide) ?_
        exact z_vret dX1_advance_145 rfl ⟨rfl, hyp⟩
  · have hyp := hyp.2 c_3
    refine z_aload_n dX1_advance_76 rfl ?_
    refine z_iconst dX1_advance_77 (r32d rfl) ?_
    refine pf_X1_30 dX1_advance_78 rfl (sC_3 hE) (cC_3 hE) ?_
    generalize eh_8 : hset h_2 3 4 _ = h_8
    have hyp := hyp h_8 eh_8.symm
    exact z_vret dX1_advance_81 rfl ⟨rfl, hyp⟩
set_option maxRecDepth 20000 in
theorem bX1_advance_111 {E : zE} (hE : isC E) {d : Nat} {x1 : Int} {h : zH} {K : zH → Prop} (hyp :
  ((x1 < 48 →
    ∀ h_2 : zH, h_2 = hset h 3 3 (w32 ((h 3 3) + 1)) →
    zCV E mX1_takeSign d [zR 3, zI x1] h_2 (fun h_3 =>
      K h_3)) ∧
  (¬ (x1 < 48) →
    ((57 < x1 →
      ∀ h_5 : zH, h_5 = hset h 3 3 (w32 ((h 3 3) + 1)) →
      zCV E mX1_takeSign d [zR 3, zI x1] h_5 (fun h_6 =>
        K h_6)) ∧
    (¬ (57 < x1) →
      zCV E mX1_takeNumber d [zR 3] h (fun h_7 =>
        K h_7)))))) :
  zG E mX1_advance (d + 1) 111 [zR 3, zI x1] [] h (qV K) := by
  refine z_iload_n dX1_advance_111 rfl ?_
  refine z_bipush dX1_advance_112 (r32d rfl) (by decide) ?_
  refine z_icmp_lt (tgt := 130) dX1_advance_114 (by decide) (fun c_1 => ?_) (fun c_1 => ?_)
  · have hyp := hyp.1 c_1
    refine z_aload_n dX1_advance_130 rfl ?_
    refine z_dup dX1_advance_131 rfl ?_
    refine gf_X1_27 dX1_advance_132 rfl (sC_3 hE) (cC_3 hE) ?_
    refine z_iconst dX1_advance_135 (r32d rfl) ?_
    refine z_iadd dX1_advance_136 ?_
    refine pf_X1_27 dX1_advance_137 rfl (sC_3 hE) (cC_3 hE) ?_
    generalize eh_2 : hset h 3 3 _ = h_2
    have hyp := hyp h_2 eh_2.symm
    refine z_aload_n dX1_advance_140 rfl ?_
    refine z_iload_n dX1_advance_141 rfl ?_
    refine cl_X1_65 dX1_advance_142 rfl (sC_3 hE) (cC_3 hE) (Nat.le_of_ble_eq_true rfl) (zC_mono ?_ hyp)
    rintro _ h_3 ⟨rfl, hyp⟩
    refine ⟨rfl, ?_⟩
    exact z_vret dX1_advance_145 rfl ⟨rfl, hyp⟩
  · have hyp := hyp.2 c_1
    refine z_iload_n dX1_advance_117 rfl ?_
    refine z_bipush dX1_advance_118 (r32d rfl) (by decide) ?_
    refine z_icmp_gt (tgt := 130) dX1_advance_120 (by decide) (fun c_4 => ?_) (fun c_4 => ?_)
    · have hyp := hyp.1 c_4
      refine z_aload_n dX1_advance_130 rfl ?_
      refine z_dup dX1_advance_131 rfl ?_
      refine gf_X1_27 dX1_advance_132 rfl (sC_3 hE) (cC_3 hE) ?_
      refine z_iconst dX1_advance_135 (r32d rfl) ?_
      refine z_iadd dX1_advance_136 ?_
      refine pf_X1_27 dX1_advance_137 rfl (sC_3 hE) (cC_3 hE) ?_
      generalize eh_5 : hset h 3 3 _ = h_5
      have hyp := hyp h_5 eh_5.symm
      refine z_aload_n dX1_advance_140 rfl ?_
      refine z_iload_n dX1_advance_141 rfl ?_
      refine cl_X1_65 dX1_advance_142 rfl (sC_3 hE) (cC_3 hE) (Nat.le_of_ble_eq_true rfl) (zC_mono ?_ hyp)
      rintro _ h_6 ⟨rfl, hyp⟩
      refine ⟨rfl, ?_⟩
      exact z_vret dX1_advance_145 rfl ⟨rfl, hyp⟩
    · have hyp := hyp.2 c_4
      refine z_aload_n dX1_advance_123 rfl ?_
      refine cl_X1_62 dX1_advance_124 rfl (sC_3 hE) (cC_3 hE) (Nat.le_of_ble_eq_true rfl) (zC_mono ?_ hyp)
      rintro _ h_7 ⟨rfl, hyp⟩
      refine ⟨rfl, ?_⟩
      refine z_goto (tgt := 145) dX1_advance_127 (by decide) ?_
      exact z_vret dX1_advance_145 rfl ⟨rfl, hyp⟩
set_option maxRecDepth 20000 in
theorem eX1_advance {E : zE} (hE : isC E) {d : Nat} {h : zH} {K : zH → Prop} (hyp :
  zG E mX1_advance (d + 1) 0 [zR 3, zU] [] h (qV K)) :
  zCV E mX1_advance (d + 1) [zR 3] h K := by
  refine zC_in (L0 := [zR 3, zU]) pn_X1 rfl (Nat.le_of_ble_eq_true rfl) ?_
  exact hyp
set_option maxRecDepth 20000 in
theorem eX1_begin {E : zE} (hE : isC E) {d : Nat} {x2 : Int} {h : zH} {K : zH → Prop} (hyp :
  ∀ h_1 : zH, h_1 = hset h 3 1 (1 : Nat) →
  ∀ h_2 : zH, h_2 = hset h_1 3 2 (min x2 900) →
  ∀ h_3 : zH, h_3 = hset h_2 3 3 0 →
  zCV E mX1_advance d [zR 3] h_3 (fun h_4 =>
    K h_4)) :
  zCV E mX1_begin (d + 1) [zR 3, zR 1, zI x2] h K := by
  refine zC_in (L0 := [zR 3, zR 1, zI x2]) pn_X1 rfl (Nat.le_of_ble_eq_true rfl) ?_
  refine z_aload_n dX1_begin_0 rfl ?_
  refine z_aload_n dX1_begin_1 rfl ?_
  refine pf_X1_19 dX1_begin_2 rfl (sC_3 hE) (cC_3 hE) (by decide) ?_
  generalize eh_1 : hset h 3 1 _ = h_1
  have hyp := hyp h_1 eh_1.symm
  refine z_aload_n dX1_begin_5 rfl ?_
  refine z_iload_n dX1_begin_6 rfl ?_
  refine z_aload_n dX1_begin_7 rfl ?_
  refine z_alen dX1_begin_8 (sC_1 hE) (by decide) (by decide) (by decide) (cC_1 hE) ?_
  refine cl_X1_50 dX1_begin_9 rfl (Nat.le_of_ble_eq_true rfl) ?_
  refine pf_X1_23 dX1_begin_12 rfl (sC_3 hE) (cC_3 hE) ?_
  generalize eh_2 : hset h_1 3 2 _ = h_2
  have hyp := hyp h_2 eh_2.symm
  refine z_aload_n dX1_begin_15 rfl ?_
  refine z_iconst dX1_begin_16 (r32d rfl) ?_
  refine pf_X1_27 dX1_begin_17 rfl (sC_3 hE) (cC_3 hE) ?_
  generalize eh_3 : hset h_2 3 3 _ = h_3
  have hyp := hyp h_3 eh_3.symm
  refine z_aload_n dX1_begin_20 rfl ?_
  refine cl_X1_56 dX1_begin_21 rfl (sC_3 hE) (cC_3 hE) (Nat.le_of_ble_eq_true rfl) (zC_mono ?_ hyp)
  rintro _ h_4 ⟨rfl, hyp⟩
  refine ⟨rfl, ?_⟩
  exact z_vret dX1_begin_24 rfl ⟨rfl, hyp⟩
set_option maxRecDepth 20000 in
theorem bX1_takeNumber_5 {E : zE} (hE : isC E) {d : Nat} {h : zH} {K : zH → Prop} (hyp :
  (((h 3 2) ≤ (h 3 3) →
    K h) ∧
  (¬ ((h 3 2) ≤ (h 3 3)) →
    (h 3 1 = (1 : Nat)) ∧
    ((0 : Int) ≤ h 3 3 ∧ h 3 3 < (900 : Int)) ∧
    (((h 1 (h 3 3).toNat) < 48 →
      K h) ∧
    (¬ ((h 1 (h 3 3).toNat) < 48) →
      (h 3 1 = (1 : Nat)) ∧
      ((0 : Int) ≤ h 3 3 ∧ h 3 3 < (900 : Int)) ∧
      ((57 < (h 1 (h 3 3).toNat) →
        K h) ∧
      (¬ (57 < (h 1 (h 3 3).toNat)) →
        (h 3 1 = (1 : Nat)) ∧
        ((0 : Int) ≤ h 3 3 ∧ h 3 3 < (900 : Int)) ∧
        ∀ h_4 : zH, h_4 = hset h 3 6 (w32 ((w32 ((h 3 6) * 10)) + (w32 ((h 1 (h 3 3).toNat) - 48)))) →
        (((h_4 3 6) ≤ 999999 →
          ∀ h_6 : zH, h_6 = hset h_4 3 3 (w32 ((h_4 3 3) + 1)) →
          zG E mX1_takeNumber d 5 [zR 3] [] h_6 (qV K)) ∧
        (¬ ((h_4 3 6) ≤ 999999) →
          ∀ h_7 : zH, h_7 = hset h_4 3 6 999999 →
          ∀ h_8 : zH, h_8 = hset h_7 3 3 (w32 ((h_7 3 3) + 1)) →
          zG E mX1_takeNumber d 5 [zR 3] [] h_8 (qV K)))))))))) :
  zG E mX1_takeNumber d 5 [zR 3] [] h (qV K) := by
  refine z_aload_n dX1_takeNumber_5 rfl ?_
  refine gf_X1_27 dX1_takeNumber_6 rfl (sC_3 hE) (cC_3 hE) ?_
  refine z_aload_n dX1_takeNumber_9 rfl ?_
  refine gf_X1_23 dX1_takeNumber_10 rfl (sC_3 hE) (cC_3 hE) ?_
  refine z_icmp_ge (tgt := 96) dX1_takeNumber_13 (by decide) (fun c_1 => ?_) (fun c_1 => ?_)
  · have hyp := hyp.1 c_1
    exact z_vret dX1_takeNumber_96 rfl ⟨rfl, hyp⟩
  · have hyp := hyp.2 c_1
    refine z_aload_n dX1_takeNumber_16 rfl ?_
    obtain ⟨hdy, hyp⟩ := hyp
    refine gf_X1_19 (c2 := 1) dX1_takeNumber_17 rfl (sC_3 hE) (cC_3 hE) hdy ?_
    refine z_aload_n dX1_takeNumber_20 rfl ?_
    refine gf_X1_27 dX1_takeNumber_21 rfl (sC_3 hE) (cC_3 hE) ?_
    obtain ⟨⟨hi0, hi1⟩, hyp⟩ := hyp
    refine z_caload dX1_takeNumber_24 (sC_1 hE) (cC_1 hE) hi0 hi1 ?_
    refine z_bipush dX1_takeNumber_25 (r32d rfl) (by decide) ?_
    refine z_icmp_lt (tgt := 96) dX1_takeNumber_27 (by decide) (fun c_2 => ?_) (fun c_2 => ?_)
    · have hyp := hyp.1 c_2
      exact z_vret dX1_takeNumber_96 rfl ⟨rfl, hyp⟩
    · have hyp := hyp.2 c_2
      refine z_aload_n dX1_takeNumber_30 rfl ?_
      obtain ⟨hdy, hyp⟩ := hyp
      refine gf_X1_19 (c2 := 1) dX1_takeNumber_31 rfl (sC_3 hE) (cC_3 hE) hdy ?_
      refine z_aload_n dX1_takeNumber_34 rfl ?_
      refine gf_X1_27 dX1_takeNumber_35 rfl (sC_3 hE) (cC_3 hE) ?_
      obtain ⟨⟨hi0, hi1⟩, hyp⟩ := hyp
      refine z_caload dX1_takeNumber_38 (sC_1 hE) (cC_1 hE) hi0 hi1 ?_
      refine z_bipush dX1_takeNumber_39 (r32d rfl) (by decide) ?_
      refine z_icmp_gt (tgt := 96) dX1_takeNumber_41 (by decide) (fun c_3 => ?_) (fun c_3 => ?_)
      · have hyp := hyp.1 c_3
        exact z_vret dX1_takeNumber_96 rfl ⟨rfl, hyp⟩
      · have hyp := hyp.2 c_3
        refine z_aload_n dX1_takeNumber_44 rfl ?_
        refine z_aload_n dX1_takeNumber_45 rfl ?_
        refine gf_X1_36 dX1_takeNumber_46 rfl (sC_3 hE) (cC_3 hE) ?_
        refine z_bipush dX1_takeNumber_49 (r32d rfl) (by decide) ?_
        refine z_imul dX1_takeNumber_51 ?_
        refine z_aload_n dX1_takeNumber_52 rfl ?_
        obtain ⟨hdy, hyp⟩ := hyp
        refine gf_X1_19 (c2 := 1) dX1_takeNumber_53 rfl (sC_3 hE) (cC_3 hE) hdy ?_
        refine z_aload_n dX1_takeNumber_56 rfl ?_
        refine gf_X1_27 dX1_takeNumber_57 rfl (sC_3 hE) (cC_3 hE) ?_
        obtain ⟨⟨hi0, hi1⟩, hyp⟩ := hyp
        refine z_caload dX1_takeNumber_60 (sC_1 hE) (cC_1 hE) hi0 hi1 ?_
        refine z_bipush dX1_takeNumber_61 (r32d rfl) (by decide) ?_
        refine z_isub dX1_takeNumber_63 ?_
        refine z_iadd dX1_takeNumber_64 ?_
        refine pf_X1_36 dX1_takeNumber_65 rfl (sC_3 hE) (cC_3 hE) ?_
        generalize eh_4 : hset h 3 6 _ = h_4
        have hyp := hyp h_4 eh_4.symm
        refine z_aload_n dX1_takeNumber_68 rfl ?_
        refine gf_X1_36 dX1_takeNumber_69 rfl (sC_3 hE) (cC_3 hE) ?_
        refine z_ldc (x := 999999) dX1_takeNumber_72 rfl wk_X1_69 (by decide) (r32d rfl) ?_
        refine z_icmp_le (tgt := 83) dX1_takeNumber_74 (by decide) (fun c_5 => ?_) (fun c_5 => ?_)
        · have hyp := hyp.1 c_5
          refine z_aload_n dX1_takeNumber_83 rfl ?_
          refine z_dup dX1_takeNumber_84 rfl ?_
          refine gf_X1_27 dX1_takeNumber_85 rfl (sC_3 hE) (cC_3 hE) ?_
          refine z_iconst dX1_takeNumber_88 (r32d rfl) ?_
          refine z_iadd dX1_takeNumber_89 ?_
          refine pf_X1_27 dX1_takeNumber_90 rfl (sC_3 hE) (cC_3 hE) ?_
          generalize eh_6 : hset h_4 3 3 _ = h_6
          have hyp := hyp h_6 eh_6.symm
          refine z_goto (tgt := 5) dX1_takeNumber_93 (by decide) ?_
          exact hyp
        · have hyp := hyp.2 c_5
          refine z_aload_n dX1_takeNumber_77 rfl ?_
          refine z_ldc (x := 999999) dX1_takeNumber_78 rfl wk_X1_69 (by decide) (r32d rfl) ?_
          refine pf_X1_36 dX1_takeNumber_80 rfl (sC_3 hE) (cC_3 hE) ?_
          generalize eh_7 : hset h_4 3 6 _ = h_7
          have hyp := hyp h_7 eh_7.symm
          refine z_aload_n dX1_takeNumber_83 rfl ?_
          refine z_dup dX1_takeNumber_84 rfl ?_
          refine gf_X1_27 dX1_takeNumber_85 rfl (sC_3 hE) (cC_3 hE) ?_
          refine z_iconst dX1_takeNumber_88 (r32d rfl) ?_
          refine z_iadd dX1_takeNumber_89 ?_
          refine pf_X1_27 dX1_takeNumber_90 rfl (sC_3 hE) (cC_3 hE) ?_
          generalize eh_8 : hset h_7 3 3 _ = h_8
          have hyp := hyp h_8 eh_8.symm
          refine z_goto (tgt := 5) dX1_takeNumber_93 (by decide) ?_
          exact hyp
set_option maxRecDepth 20000 in
theorem eX1_takeNumber {E : zE} (hE : isC E) {d : Nat} {h : zH} {K : zH → Prop} (hyp :
  ∀ h_1 : zH, h_1 = hset h 3 4 3 →
  zG E mX1_takeNumber d 5 [zR 3] [] h_1 (qV K)) :
  zCV E mX1_takeNumber d [zR 3] h K := by
  refine zC_in (L0 := [zR 3]) pn_X1 rfl (Nat.le_of_ble_eq_true rfl) ?_
  refine z_aload_n dX1_takeNumber_0 rfl ?_
  refine z_iconst dX1_takeNumber_1 (r32d rfl) ?_
  refine pf_X1_30 dX1_takeNumber_2 rfl (sC_3 hE) (cC_3 hE) ?_
  generalize eh_1 : hset h 3 4 _ = h_1
  have hyp := hyp h_1 eh_1.symm
  exact hyp
set_option maxRecDepth 20000 in
theorem bX1_takeSign_25 {E : zE} (hE : isC E) {d : Nat} {x1 s0 : Int} {h : zH} {K : zH → Prop} (hyp :
  ((x1 = 40) →
      ∀ h_2 : zH, h_2 = hset h 3 4 5 →
      zG E mX1_takeSign d 258 [zR 3, zU, zU] [] h_2 (qV K)) ∧
  ((x1 = 41) →
      ∀ h_4 : zH, h_4 = hset h 3 4 6 →
      zG E mX1_takeSign d 258 [zR 3, zU, zU] [] h_4 (qV K)) ∧
  ((x1 = 42) →
      ∀ h_6 : zH, h_6 = hset h 3 4 9 →
      zG E mX1_takeSign d 258 [zR 3, zU, zU] [] h_6 (qV K)) ∧
  ((x1 = 43) →
      ∀ h_8 : zH, h_8 = hset h 3 4 7 →
      zG E mX1_takeSign d 258 [zR 3, zU, zU] [] h_8 (qV K)) ∧
  ((x1 = 45) →
      ∀ h_10 : zH, h_10 = hset h 3 4 8 →
      zG E mX1_takeSign d 258 [zR 3, zU, zU] [] h_10 (qV K)) ∧
  ((x1 = 47) →
      ∀ h_12 : zH, h_12 = hset h 3 4 10 →
      zG E mX1_takeSign d 258 [zR 3, zU, zU] [] h_12 (qV K)) ∧
  ((x1 = 59) →
      ∀ h_14 : zH, h_14 = hset h 3 4 4 →
      zG E mX1_takeSign d 258 [zR 3, zU, zU] [] h_14 (qV K)) ∧
  ((x1 = 60) →
      ((s0 ≠ 61 →
        ((s0 ≠ 62 →
          ∀ h_18 : zH, h_18 = hset h 3 4 11 →
          zG E mX1_takeSign d 258 [zR 3, zU, zU] [] h_18 (qV K)) ∧
        (¬ (s0 ≠ 62) →
          ∀ h_19 : zH, h_19 = hset h 3 4 14 →
          zG E mX1_takeSign d 258 [zR 3, zU, zU] [] h_19 (qV K)))) ∧
      (¬ (s0 ≠ 61) →
        ∀ h_20 : zH, h_20 = hset h 3 4 12 →
        zG E mX1_takeSign d 258 [zR 3, zU, zU] [] h_20 (qV K)))) ∧
  ((x1 = 61) →
      ∀ h_22 : zH, h_22 = hset h 3 4 13 →
      zG E mX1_takeSign d 258 [zR 3, zU, zU] [] h_22 (qV K)) ∧
  ((x1 = 62) →
      ((s0 ≠ 61 →
        ∀ h_25 : zH, h_25 = hset h 3 4 16 →
        zG E mX1_takeSign d 258 [zR 3, zU, zU] [] h_25 (qV K)) ∧
      (¬ (s0 ≠ 61) →
        ∀ h_26 : zH, h_26 = hset h 3 4 15 →
        zG E mX1_takeSign d 258 [zR 3, zU, zU] [] h_26 (qV K)))) ∧
  ((x1 ≠ 40 ∧ x1 ≠ 41 ∧ x1 ≠ 42 ∧ x1 ≠ 43 ∧ x1 ≠ 45 ∧ x1 ≠ 47 ∧ x1 ≠ 59 ∧ x1 ≠ 60 ∧ x1 ≠ 61 ∧ x1 ≠ 62) →
    zG E mX1_takeSign d 253 [zR 3, zU, zU] [] h (qV K))) :
  zG E mX1_takeSign d 25 [zR 3, zI x1, zU] [zI s0] h (qV K) := by
  refine z_istore_n dX1_takeSign_25 rfl (by decide) rfl ?_
  refine z_iload_n dX1_takeSign_26 rfl ?_
  have hgo : (x1 ≠ 40 ∧ x1 ≠ 41 ∧ x1 ≠ 42 ∧ x1 ≠ 43 ∧ x1 ≠ 45 ∧ x1 ≠ 47 ∧ x1 ≠ 59 ∧ x1 ≠ 60 ∧ x1 ≠ 61 ∧ x1 ≠ 62) → zG E mX1_takeSign d 253 [zR 3, zI x1, zI s0] [] h (qV K) := by
    intro hcc
    have hyp := hyp.2.2.2.2.2.2.2.2.2.2 hcc
    exact z_forget [true, false, false] rfl hyp
  by_cases cr : x1 < 40 ∨ 62 < x1
  · exact z_tsOut (tgt := 253) dX1_takeSign_27 cr (by decide) (hgo ⟨tsne cr (by decide) (by decide), tsne cr (by decide) (by decide), tsne cr (by decide) (by decide), tsne cr (by decide) (by decide), tsne cr (by decide) (by decide), tsne cr (by decide) (by decide), tsne cr (by decide) (by decide), tsne cr (by decide) (by decide), tsne cr (by decide) (by decide), tsne cr (by decide) (by decide)⟩)
  by_cases c_1 : x1 = 40
  · have hyp := hyp.1 c_1
    have hgo : zG E mX1_takeSign d 140 [zR 3, zI x1, zI s0] [] h (qV K) := by
      refine z_aload_n dX1_takeSign_140 rfl ?_
      refine z_iconst dX1_takeSign_141 (r32d rfl) ?_
      refine pf_X1_30 dX1_takeSign_142 rfl (sC_3 hE) (cC_3 hE) ?_
      generalize eh_2 : hset h 3 4 _ = h_2
      have hyp := hyp h_2 eh_2.symm
      refine z_goto (tgt := 258) dX1_takeSign_145 (by decide) ?_
      exact z_forget [true, false, false] rfl hyp
    exact z_tsIn (i := 0) (tgt := 140) dX1_takeSign_27 (c_1.trans (by decide)) (by decide) rfl (by decide) hgo
  by_cases c_3 : x1 = 41
  · have hyp := hyp.2.1 c_3
    have hgo : zG E mX1_takeSign d 148 [zR 3, zI x1, zI s0] [] h (qV K) := by
      refine z_aload_n dX1_takeSign_148 rfl ?_
      refine z_bipush dX1_takeSign_149 (r32d rfl) (by decide) ?_
      refine pf_X1_30 dX1_takeSign_151 rfl (sC_3 hE) (cC_3 hE) ?_
      generalize eh_4 : hset h 3 4 _ = h_4
      have hyp := hyp h_4 eh_4.symm
      refine z_goto (tgt := 258) dX1_takeSign_154 (by decide) ?_
      exact z_forget [true, false, false] rfl hyp
    exact z_tsIn (i := 1) (tgt := 148) dX1_takeSign_27 (c_3.trans (by decide)) (by decide) rfl (by decide) hgo
  by_cases c_5 : x1 = 42
  · have hyp := hyp.2.2.1 c_5
    have hgo : zG E mX1_takeSign d 175 [zR 3, zI x1, zI s0] [] h (qV K) := by
      refine z_aload_n dX1_takeSign_175 rfl ?_
      refine z_bipush dX1_takeSign_176 (r32d rfl) (by decide) ?_
      refine pf_X1_30 dX1_takeSign_178 rfl (sC_3 hE) (cC_3 hE) ?_
      generalize eh_6 : hset h 3 4 _ = h_6
      have hyp := hyp h_6 eh_6.symm
      refine z_goto (tgt := 258) dX1_takeSign_181 (by decide) ?_
      exact z_forget [true, false, false] rfl hyp
    exact z_tsIn (i := 2) (tgt := 175) dX1_takeSign_27 (c_5.trans (by decide)) (by decide) rfl (by decide) hgo
  by_cases c_7 : x1 = 43
  · have hyp := hyp.2.2.2.1 c_7
    have hgo : zG E mX1_takeSign d 157 [zR 3, zI x1, zI s0] [] h (qV K) := by
      refine z_aload_n dX1_takeSign_157 rfl ?_
      refine z_bipush dX1_takeSign_158 (r32d rfl) (by decide) ?_
      refine pf_X1_30 dX1_takeSign_160 rfl (sC_3 hE) (cC_3 hE) ?_
      generalize eh_8 : hset h 3 4 _ = h_8
      have hyp := hyp h_8 eh_8.symm
      refine z_goto (tgt := 258) dX1_takeSign_163 (by decide) ?_
      exact z_forget [true, false, false] rfl hyp
    exact z_tsIn (i := 3) (tgt := 157) dX1_takeSign_27 (c_7.trans (by decide)) (by decide) rfl (by decide) hgo
  by_cases c_9 : x1 = 45
  · have hyp := hyp.2.2.2.2.1 c_9
    have hgo : zG E mX1_takeSign d 166 [zR 3, zI x1, zI s0] [] h (qV K) := by
      refine z_aload_n dX1_takeSign_166 rfl ?_
      refine z_bipush dX1_takeSign_167 (r32d rfl) (by decide) ?_
      refine pf_X1_30 dX1_takeSign_169 rfl (sC_3 hE) (cC_3 hE) ?_
      generalize eh_10 : hset h 3 4 _ = h_10
      have hyp := hyp h_10 eh_10.symm
      refine z_goto (tgt := 258) dX1_takeSign_172 (by decide) ?_
      exact z_forget [true, false, false] rfl hyp
    exact z_tsIn (i := 5) (tgt := 166) dX1_takeSign_27 (c_9.trans (by decide)) (by decide) rfl (by decide) hgo
  by_cases c_11 : x1 = 47
  · have hyp := hyp.2.2.2.2.2.1 c_11
    have hgo : zG E mX1_takeSign d 184 [zR 3, zI x1, zI s0] [] h (qV K) := by
      refine z_aload_n dX1_takeSign_184 rfl ?_
      refine z_bipush dX1_takeSign_185 (r32d rfl) (by decide) ?_
      refine pf_X1_30 dX1_takeSign_187 rfl (sC_3 hE) (cC_3 hE) ?_
      generalize eh_12 : hset h 3 4 _ = h_12
      have hyp := hyp h_12 eh_12.symm
      refine z_goto (tgt := 258) dX1_takeSign_190 (by decide) ?_
      exact z_forget [true, false, false] rfl hyp
    exact z_tsIn (i := 7) (tgt := 184) dX1_takeSign_27 (c_11.trans (by decide)) (by decide) rfl (by decide) hgo
  by_cases c_13 : x1 = 59
  · have hyp := hyp.2.2.2.2.2.2.1 c_13
    have hgo : zG E mX1_takeSign d 132 [zR 3, zI x1, zI s0] [] h (qV K) := by
      refine z_aload_n dX1_takeSign_132 rfl ?_
      refine z_iconst dX1_takeSign_133 (r32d rfl) ?_
      refine pf_X1_30 dX1_takeSign_134 rfl (sC_3 hE) (cC_3 hE) ?_
      generalize eh_14 : hset h 3 4 _ = h_14
      have hyp := hyp h_14 eh_14.symm
      refine z_goto (tgt := 258) dX1_takeSign_137 (by decide) ?_
      exact z_forget [true, false, false] rfl hyp
    exact z_tsIn (i := 19) (tgt := 132) dX1_takeSign_27 (c_13.trans (by decide)) (by decide) rfl (by decide) hgo
  by_cases c_15 : x1 = 60
  · have hyp := hyp.2.2.2.2.2.2.2.1 c_15
    have hgo : zG E mX1_takeSign d 202 [zR 3, zI x1, zI s0] [] h (qV K) := by
      refine z_aload_n dX1_takeSign_202 rfl ?_
      refine z_iload_n dX1_takeSign_203 rfl ?_
      refine z_bipush dX1_takeSign_204 (r32d rfl) (by decide) ?_
      refine z_icmp_ne (tgt := 214) dX1_takeSign_206 (by decide) (fun c_16 => ?_) (fun c_16 => ?_)
      · have hyp := hyp.1 c_16
        refine z_iload_n dX1_takeSign_214 rfl ?_
        refine z_bipush dX1_takeSign_215 (r32d rfl) (by decide) ?_
        refine z_icmp_ne (tgt := 225) dX1_takeSign_217 (by decide) (fun c_17 => ?_) (fun c_17 => ?_)
        · have hyp := hyp.1 c_17
          refine z_bipush dX1_takeSign_225 (r32d rfl) (by decide) ?_
          refine pf_X1_30 dX1_takeSign_227 rfl (sC_3 hE) (cC_3 hE) ?_
          generalize eh_18 : hset h 3 4 _ = h_18
          have hyp := hyp h_18 eh_18.symm
          refine z_goto (tgt := 258) dX1_takeSign_230 (by decide) ?_
          exact z_forget [true, false, false] rfl hyp
        · have hyp := hyp.2 c_17
          refine z_bipush dX1_takeSign_220 (r32d rfl) (by decide) ?_
          refine z_goto (tgt := 227) dX1_takeSign_222 (by decide) ?_
          refine pf_X1_30 dX1_takeSign_227 rfl (sC_3 hE) (cC_3 hE) ?_
          generalize eh_19 : hset h 3 4 _ = h_19
          have hyp := hyp h_19 eh_19.symm
          refine z_goto (tgt := 258) dX1_takeSign_230 (by decide) ?_
          exact z_forget [true, false, false] rfl hyp
      · have hyp := hyp.2 c_16
        refine z_bipush dX1_takeSign_209 (r32d rfl) (by decide) ?_
        refine z_goto (tgt := 227) dX1_takeSign_211 (by decide) ?_
        refine pf_X1_30 dX1_takeSign_227 rfl (sC_3 hE) (cC_3 hE) ?_
        generalize eh_20 : hset h 3 4 _ = h_20
        have hyp := hyp h_20 eh_20.symm
        refine z_goto (tgt := 258) dX1_takeSign_230 (by decide) ?_
        exact z_forget [true, false, false] rfl hyp
    exact z_tsIn (i := 20) (tgt := 202) dX1_takeSign_27 (c_15.trans (by decide)) (by decide) rfl (by decide) hgo
  by_cases c_21 : x1 = 61
  · have hyp := hyp.2.2.2.2.2.2.2.2.1 c_21
    have hgo : zG E mX1_takeSign d 193 [zR 3, zI x1, zI s0] [] h (qV K) := by
      refine z_aload_n dX1_takeSign_193 rfl ?_
      refine z_bipush dX1_takeSign_194 (r32d rfl) (by decide) ?_
      refine pf_X1_30 dX1_takeSign_196 rfl (sC_3 hE) (cC_3 hE) ?_
      generalize eh_22 : hset h 3 4 _ = h_22
      have hyp := hyp h_22 eh_22.symm
      refine z_goto (tgt := 258) dX1_takeSign_199 (by decide) ?_
      exact z_forget [true, false, false] rfl hyp
    exact z_tsIn (i := 21) (tgt := 193) dX1_takeSign_27 (c_21.trans (by decide)) (by decide) rfl (by decide) hgo
  by_cases c_23 : x1 = 62
  · have hyp := hyp.2.2.2.2.2.2.2.2.2.1 c_23
    have hgo : zG E mX1_takeSign d 233 [zR 3, zI x1, zI s0] [] h (qV K) := by
      refine z_aload_n dX1_takeSign_233 rfl ?_
      refine z_iload_n dX1_takeSign_234 rfl ?_
      refine z_bipush dX1_takeSign_235 (r32d rfl) (by decide) ?_
      refine z_icmp_ne (tgt := 245) dX1_takeSign_237 (by decide) (fun c_24 => ?_) (fun c_24 => ?_)
      · have hyp := hyp.1 c_24
        refine z_bipush dX1_takeSign_245 (r32d rfl) (by decide) ?_
        refine pf_X1_30 dX1_takeSign_247 rfl (sC_3 hE) (cC_3 hE) ?_
        generalize eh_25 : hset h 3 4 _ = h_25
        have hyp := hyp h_25 eh_25.symm
        refine z_goto (tgt := 258) dX1_takeSign_250 (by decide) ?_
        exact z_forget [true, false, false] rfl hyp
      · have hyp := hyp.2 c_24
        refine z_bipush dX1_takeSign_240 (r32d rfl) (by decide) ?_
        refine z_goto (tgt := 247) dX1_takeSign_242 (by decide) ?_
        refine pf_X1_30 dX1_takeSign_247 rfl (sC_3 hE) (cC_3 hE) ?_
        generalize eh_26 : hset h 3 4 _ = h_26
        have hyp := hyp h_26 eh_26.symm
        refine z_goto (tgt := 258) dX1_takeSign_250 (by decide) ?_
        exact z_forget [true, false, false] rfl hyp
    exact z_tsIn (i := 22) (tgt := 233) dX1_takeSign_27 (c_23.trans (by decide)) (by decide) rfl (by decide) hgo
  by_cases c_27 : x1 = 44
  · exact z_tsIn (i := 4) (tgt := 253) dX1_takeSign_27 (c_27.trans (by decide)) (by decide) rfl (by decide) (hgo (by rw [c_27]; decide))
  by_cases c_28 : x1 = 46
  · exact z_tsIn (i := 6) (tgt := 253) dX1_takeSign_27 (c_28.trans (by decide)) (by decide) rfl (by decide) (hgo (by rw [c_28]; decide))
  by_cases c_29 : x1 = 48
  · exact z_tsIn (i := 8) (tgt := 253) dX1_takeSign_27 (c_29.trans (by decide)) (by decide) rfl (by decide) (hgo (by rw [c_29]; decide))
  by_cases c_30 : x1 = 49
  · exact z_tsIn (i := 9) (tgt := 253) dX1_takeSign_27 (c_30.trans (by decide)) (by decide) rfl (by decide) (hgo (by rw [c_30]; decide))
  by_cases c_31 : x1 = 50
  · exact z_tsIn (i := 10) (tgt := 253) dX1_takeSign_27 (c_31.trans (by decide)) (by decide) rfl (by decide) (hgo (by rw [c_31]; decide))
  by_cases c_32 : x1 = 51
  · exact z_tsIn (i := 11) (tgt := 253) dX1_takeSign_27 (c_32.trans (by decide)) (by decide) rfl (by decide) (hgo (by rw [c_32]; decide))
  by_cases c_33 : x1 = 52
  · exact z_tsIn (i := 12) (tgt := 253) dX1_takeSign_27 (c_33.trans (by decide)) (by decide) rfl (by decide) (hgo (by rw [c_33]; decide))
  by_cases c_34 : x1 = 53
  · exact z_tsIn (i := 13) (tgt := 253) dX1_takeSign_27 (c_34.trans (by decide)) (by decide) rfl (by decide) (hgo (by rw [c_34]; decide))
  by_cases c_35 : x1 = 54
  · exact z_tsIn (i := 14) (tgt := 253) dX1_takeSign_27 (c_35.trans (by decide)) (by decide) rfl (by decide) (hgo (by rw [c_35]; decide))
  by_cases c_36 : x1 = 55
  · exact z_tsIn (i := 15) (tgt := 253) dX1_takeSign_27 (c_36.trans (by decide)) (by decide) rfl (by decide) (hgo (by rw [c_36]; decide))
  by_cases c_37 : x1 = 56
  · exact z_tsIn (i := 16) (tgt := 253) dX1_takeSign_27 (c_37.trans (by decide)) (by decide) rfl (by decide) (hgo (by rw [c_37]; decide))
  by_cases c_38 : x1 = 57
  · exact z_tsIn (i := 17) (tgt := 253) dX1_takeSign_27 (c_38.trans (by decide)) (by decide) rfl (by decide) (hgo (by rw [c_38]; decide))
  by_cases c_39 : x1 = 58
  · exact z_tsIn (i := 18) (tgt := 253) dX1_takeSign_27 (c_39.trans (by decide)) (by decide) rfl (by decide) (hgo (by rw [c_39]; decide))
  exact absurd (tsbs (tsbs (tsbs (tsbs (tsbs (tsbs (tsbs (tsbs (tsbs (tsbs (tsbs (tsbs (tsbs (tsbs (tsbs (tsbs (tsbs (tsbs (tsbs (tsbs (tsbs (tsbs (tsbs (tsb1 cr) c_1) c_3) c_5) c_7) c_27) c_9) c_28) c_11) c_29) c_30) c_31) c_32) c_33) c_34) c_35) c_36) c_37) c_38) c_39) c_13) c_15) c_21) c_23) (tsb2 cr)
set_option maxRecDepth 20000 in
theorem bX1_takeSign_253 {E : zE} (hE : isC E) {d : Nat} {h : zH} {K : zH → Prop} (hyp :
  ∀ h_1 : zH, h_1 = hset h 3 4 1 →
  zG E mX1_takeSign d 258 [zR 3, zU, zU] [] h_1 (qV K)) :
  zG E mX1_takeSign d 253 [zR 3, zU, zU] [] h (qV K) := by
  refine z_aload_n dX1_takeSign_253 rfl ?_
  refine z_iconst dX1_takeSign_254 (r32d rfl) ?_
  refine pf_X1_30 dX1_takeSign_255 rfl (sC_3 hE) (cC_3 hE) ?_
  generalize eh_1 : hset h 3 4 _ = h_1
  have hyp := hyp h_1 eh_1.symm
  exact hyp
set_option maxRecDepth 20000 in
theorem bX1_takeSign_258 {E : zE} (hE : isC E) {d : Nat} {h : zH} {K : zH → Prop} (hyp :
  (((h 3 4) = 12 →
    ∀ h_2 : zH, h_2 = hset h 3 3 (w32 ((h 3 3) + 1)) →
    K h_2) ∧
  (¬ ((h 3 4) = 12) →
    (((h 3 4) = 14 →
      ∀ h_4 : zH, h_4 = hset h 3 3 (w32 ((h 3 3) + 1)) →
      K h_4) ∧
    (¬ ((h 3 4) = 14) →
      (((h 3 4) ≠ 15 →
        K h) ∧
      (¬ ((h 3 4) ≠ 15) →
        ∀ h_6 : zH, h_6 = hset h 3 3 (w32 ((h 3 3) + 1)) →
        K h_6))))))) :
  zG E mX1_takeSign d 258 [zR 3, zU, zU] [] h (qV K) := by
  refine z_aload_n dX1_takeSign_258 rfl ?_
  refine gf_X1_30 dX1_takeSign_259 rfl (sC_3 hE) (cC_3 hE) ?_
  refine z_bipush dX1_takeSign_262 (r32d rfl) (by decide) ?_
  refine z_icmp_eq (tgt := 285) dX1_takeSign_264 (by decide) (fun c_1 => ?_) (fun c_1 => ?_)
  · have hyp := hyp.1 c_1
    refine z_aload_n dX1_takeSign_285 rfl ?_
    refine z_dup dX1_takeSign_286 rfl ?_
    refine gf_X1_27 dX1_takeSign_287 rfl (sC_3 hE) (cC_3 hE) ?_
    refine z_iconst dX1_takeSign_290 (r32d rfl) ?_
    refine z_iadd dX1_takeSign_291 ?_
    refine pf_X1_27 dX1_takeSign_292 rfl (sC_3 hE) (cC_3 hE) ?_
    generalize eh_2 : hset h 3 3 _ = h_2
    have hyp := hyp h_2 eh_2.symm
    exact z_vret dX1_takeSign_295 rfl ⟨rfl, hyp⟩
  · have hyp := hyp.2 c_1
    refine z_aload_n dX1_takeSign_267 rfl ?_
    refine gf_X1_30 dX1_takeSign_268 rfl (sC_3 hE) (cC_3 hE) ?_
    refine z_bipush dX1_takeSign_271 (r32d rfl) (by decide) ?_
    refine z_icmp_eq (tgt := 285) dX1_takeSign_273 (by decide) (fun c_3 => ?_) (fun c_3 => ?_)
    · have hyp := hyp.1 c_3
      refine z_aload_n dX1_takeSign_285 rfl ?_
      refine z_dup dX1_takeSign_286 rfl ?_
      refine gf_X1_27 dX1_takeSign_287 rfl (sC_3 hE) (cC_3 hE) ?_
      refine z_iconst dX1_takeSign_290 (r32d rfl) ?_
      refine z_iadd dX1_takeSign_291 ?_
      refine pf_X1_27 dX1_takeSign_292 rfl (sC_3 hE) (cC_3 hE) ?_
      generalize eh_4 : hset h 3 3 _ = h_4
      have hyp := hyp h_4 eh_4.symm
      exact z_vret dX1_takeSign_295 rfl ⟨rfl, hyp⟩
    · have hyp := hyp.2 c_3
      refine z_aload_n dX1_takeSign_276 rfl ?_
      refine gf_X1_30 dX1_takeSign_277 rfl (sC_3 hE) (cC_3 hE) ?_
      refine z_bipush dX1_takeSign_280 (r32d rfl) (by decide) ?_
      refine z_icmp_ne (tgt := 295) dX1_takeSign_282 (by decide) (fun c_5 => ?_) (fun c_5 => ?_)
      · have hyp := hyp.1 c_5
        exact z_vret dX1_takeSign_295 rfl ⟨rfl, hyp⟩
      · have hyp := hyp.2 c_5
        refine z_aload_n dX1_takeSign_285 rfl ?_
        refine z_dup dX1_takeSign_286 rfl ?_
        refine gf_X1_27 dX1_takeSign_287 rfl (sC_3 hE) (cC_3 hE) ?_
        refine z_iconst dX1_takeSign_290 (r32d rfl) ?_
        refine z_iadd dX1_takeSign_291 ?_
        refine pf_X1_27 dX1_takeSign_292 rfl (sC_3 hE) (cC_3 hE) ?_
        generalize eh_6 : hset h 3 3 _ = h_6
        have hyp := hyp h_6 eh_6.symm
        exact z_vret dX1_takeSign_295 rfl ⟨rfl, hyp⟩
set_option maxRecDepth 20000 in
theorem eX1_takeSign {E : zE} (hE : isC E) {d : Nat} {x1 : Int} {h : zH} {K : zH → Prop} (hyp :
  (((h 3 2) ≤ (h 3 3) →
    zG E mX1_takeSign d 25 [zR 3, zI x1, zU] [zI 32] h (qV K)) ∧
  (¬ ((h 3 2) ≤ (h 3 3)) →
    (h 3 1 = (1 : Nat)) ∧
    ((0 : Int) ≤ h 3 3 ∧ h 3 3 < (900 : Int)) ∧
    zG E mX1_takeSign d 25 [zR 3, zI x1, zU] [zI (h 1 (h 3 3).toNat)] h (qV K)))) :
  zCV E mX1_takeSign d [zR 3, zI x1] h K := by
  refine zC_in (L0 := [zR 3, zI x1, zU]) pn_X1 rfl (Nat.le_of_ble_eq_true rfl) ?_
  refine z_aload_n dX1_takeSign_0 rfl ?_
  refine gf_X1_27 dX1_takeSign_1 rfl (sC_3 hE) (cC_3 hE) ?_
  refine z_aload_n dX1_takeSign_4 rfl ?_
  refine gf_X1_23 dX1_takeSign_5 rfl (sC_3 hE) (cC_3 hE) ?_
  refine z_icmp_ge (tgt := 23) dX1_takeSign_8 (by decide) (fun c_1 => ?_) (fun c_1 => ?_)
  · have hyp := hyp.1 c_1
    refine z_bipush dX1_takeSign_23 (r32d rfl) (by decide) ?_
    exact hyp
  · have hyp := hyp.2 c_1
    refine z_aload_n dX1_takeSign_11 rfl ?_
    obtain ⟨hdy, hyp⟩ := hyp
    refine gf_X1_19 (c2 := 1) dX1_takeSign_12 rfl (sC_3 hE) (cC_3 hE) hdy ?_
    refine z_aload_n dX1_takeSign_15 rfl ?_
    refine gf_X1_27 dX1_takeSign_16 rfl (sC_3 hE) (cC_3 hE) ?_
    obtain ⟨⟨hi0, hi1⟩, hyp⟩ := hyp
    refine z_caload dX1_takeSign_19 (sC_1 hE) (cC_1 hE) hi0 hi1 ?_
    refine z_goto (tgt := 25) dX1_takeSign_20 (by decide) ?_
    exact hyp
set_option maxRecDepth 20000 in
theorem bX1_takeWord_4 {E : zE} (hE : isC E) {d : Nat} {x1 x2 : Int} {h : zH} {K : zH → Prop} (hyp :
  (((h 3 2) ≤ (h 3 3) →
    zG E mX1_takeWord d 89 [zR 3, zI x1, zI x2, zU] [] h (qV K)) ∧
  (¬ ((h 3 2) ≤ (h 3 3)) →
    (h 3 1 = (1 : Nat)) ∧
    ((0 : Int) ≤ h 3 3 ∧ h 3 3 < (900 : Int)) ∧
    (((h 1 (h 3 3).toNat) < 97 →
      zG E mX1_takeWord d 89 [zR 3, zI x1, zI x2, zU] [] h (qV K)) ∧
    (¬ ((h 1 (h 3 3).toNat) < 97) →
      (h 3 1 = (1 : Nat)) ∧
      ((0 : Int) ≤ h 3 3 ∧ h 3 3 < (900 : Int)) ∧
      ((122 < (h 1 (h 3 3).toNat) →
        zG E mX1_takeWord d 89 [zR 3, zI x1, zI x2, zU] [] h (qV K)) ∧
      (¬ (122 < (h 1 (h 3 3).toNat)) →
        ((6 ≤ x2 →
          ∀ x_5 : Int, x_5 = w32 (x2 + 1) →
          ∀ h_6 : zH, h_6 = hset h 3 3 (w32 ((h 3 3) + 1)) →
          zG E mX1_takeWord d 4 [zR 3, zI x1, zI x_5, zU] [] h_6 (qV K)) ∧
        (¬ (6 ≤ x2) →
          (h 3 1 = (1 : Nat)) ∧
          ((0 : Int) ≤ h 3 3 ∧ h 3 3 < (900 : Int)) ∧
          ∀ x_7 : Int, x_7 = zor x1 (zshl (w32 ((w32 ((h 1 (h 3 3).toNat) - 97)) + 1)) (w32 (25 - (w32 (5 * x2))))) →
          ∀ x_8 : Int, x_8 = w32 (x2 + 1) →
          ∀ h_9 : zH, h_9 = hset h 3 3 (w32 ((h 3 3) + 1)) →
          zG E mX1_takeWord d 4 [zR 3, zI x_7, zI x_8, zU] [] h_9 (qV K)))))))))) :
  zG E mX1_takeWord d 4 [zR 3, zI x1, zI x2, zU] [] h (qV K) := by
  refine z_aload_n dX1_takeWord_4 rfl ?_
  refine gf_X1_27 dX1_takeWord_5 rfl (sC_3 hE) (cC_3 hE) ?_
  refine z_aload_n dX1_takeWord_8 rfl ?_
  refine gf_X1_23 dX1_takeWord_9 rfl (sC_3 hE) (cC_3 hE) ?_
  refine z_icmp_ge (tgt := 89) dX1_takeWord_12 (by decide) (fun c_1 => ?_) (fun c_1 => ?_)
  · have hyp := hyp.1 c_1
    exact hyp
  · have hyp := hyp.2 c_1
    refine z_aload_n dX1_takeWord_15 rfl ?_
    obtain ⟨hdy, hyp⟩ := hyp
    refine gf_X1_19 (c2 := 1) dX1_takeWord_16 rfl (sC_3 hE) (cC_3 hE) hdy ?_
    refine z_aload_n dX1_takeWord_19 rfl ?_
    refine gf_X1_27 dX1_takeWord_20 rfl (sC_3 hE) (cC_3 hE) ?_
    obtain ⟨⟨hi0, hi1⟩, hyp⟩ := hyp
    refine z_caload dX1_takeWord_23 (sC_1 hE) (cC_1 hE) hi0 hi1 ?_
    refine z_bipush dX1_takeWord_24 (r32d rfl) (by decide) ?_
    refine z_icmp_lt (tgt := 89) dX1_takeWord_26 (by decide) (fun c_2 => ?_) (fun c_2 => ?_)
    · have hyp := hyp.1 c_2
      exact hyp
    · have hyp := hyp.2 c_2
      refine z_aload_n dX1_takeWord_29 rfl ?_
      obtain ⟨hdy, hyp⟩ := hyp
      refine gf_X1_19 (c2 := 1) dX1_takeWord_30 rfl (sC_3 hE) (cC_3 hE) hdy ?_
      refine z_aload_n dX1_takeWord_33 rfl ?_
      refine gf_X1_27 dX1_takeWord_34 rfl (sC_3 hE) (cC_3 hE) ?_
      obtain ⟨⟨hi0, hi1⟩, hyp⟩ := hyp
      refine z_caload dX1_takeWord_37 (sC_1 hE) (cC_1 hE) hi0 hi1 ?_
      refine z_bipush dX1_takeWord_38 (r32d rfl) (by decide) ?_
      refine z_icmp_gt (tgt := 89) dX1_takeWord_40 (by decide) (fun c_3 => ?_) (fun c_3 => ?_)
      · have hyp := hyp.1 c_3
        exact hyp
      · have hyp := hyp.2 c_3
        refine z_iload_n dX1_takeWord_43 rfl ?_
        refine z_bipush dX1_takeWord_44 (r32d rfl) (by decide) ?_
        refine z_icmp_ge (tgt := 73) dX1_takeWord_46 (by decide) (fun c_4 => ?_) (fun c_4 => ?_)
        · have hyp := hyp.1 c_4
          refine z_iinc dX1_takeWord_73 rfl (by decide) rfl ?_
          generalize ex_5 : w32 (x2 + 1) = x_5
          have hyp := hyp x_5 ex_5.symm
          refine z_aload_n dX1_takeWord_76 rfl ?_
          refine z_dup dX1_takeWord_77 rfl ?_
          refine gf_X1_27 dX1_takeWord_78 rfl (sC_3 hE) (cC_3 hE) ?_
          refine z_iconst dX1_takeWord_81 (r32d rfl) ?_
          refine z_iadd dX1_takeWord_82 ?_
          refine pf_X1_27 dX1_takeWord_83 rfl (sC_3 hE) (cC_3 hE) ?_
          generalize eh_6 : hset h 3 3 _ = h_6
          have hyp := hyp h_6 eh_6.symm
          refine z_goto (tgt := 4) dX1_takeWord_86 (by decide) ?_
          exact hyp
        · have hyp := hyp.2 c_4
          refine z_iload_n dX1_takeWord_49 rfl ?_
          refine z_aload_n dX1_takeWord_50 rfl ?_
          obtain ⟨hdy, hyp⟩ := hyp
          refine gf_X1_19 (c2 := 1) dX1_takeWord_51 rfl (sC_3 hE) (cC_3 hE) hdy ?_
          refine z_aload_n dX1_takeWord_54 rfl ?_
          refine gf_X1_27 dX1_takeWord_55 rfl (sC_3 hE) (cC_3 hE) ?_
          obtain ⟨⟨hi0, hi1⟩, hyp⟩ := hyp
          refine z_caload dX1_takeWord_58 (sC_1 hE) (cC_1 hE) hi0 hi1 ?_
          refine z_bipush dX1_takeWord_59 (r32d rfl) (by decide) ?_
          refine z_isub dX1_takeWord_61 ?_
          refine z_iconst dX1_takeWord_62 (r32d rfl) ?_
          refine z_iadd dX1_takeWord_63 ?_
          refine z_bipush dX1_takeWord_64 (r32d rfl) (by decide) ?_
          refine z_iconst dX1_takeWord_66 (r32d rfl) ?_
          refine z_iload_n dX1_takeWord_67 rfl ?_
          refine z_imul dX1_takeWord_68 ?_
          refine z_isub dX1_takeWord_69 ?_
          refine z_ishl dX1_takeWord_70 ?_
          refine z_ior dX1_takeWord_71 ?_
          generalize ex_7 : zor x1 (zshl (w32 ((w32 ((h 1 (h 3 3).toNat) - 97)) + 1)) (w32 (25 - (w32 (5 * x2))))) = x_7
          have hyp := hyp x_7 ex_7.symm
          refine z_istore_n dX1_takeWord_72 rfl (by decide) rfl ?_
          refine z_iinc dX1_takeWord_73 rfl (by decide) rfl ?_
          generalize ex_8 : w32 (x2 + 1) = x_8
          have hyp := hyp x_8 ex_8.symm
          refine z_aload_n dX1_takeWord_76 rfl ?_
          refine z_dup dX1_takeWord_77 rfl ?_
          refine gf_X1_27 dX1_takeWord_78 rfl (sC_3 hE) (cC_3 hE) ?_
          refine z_iconst dX1_takeWord_81 (r32d rfl) ?_
          refine z_iadd dX1_takeWord_82 ?_
          refine pf_X1_27 dX1_takeWord_83 rfl (sC_3 hE) (cC_3 hE) ?_
          generalize eh_9 : hset h 3 3 _ = h_9
          have hyp := hyp h_9 eh_9.symm
          refine z_goto (tgt := 4) dX1_takeWord_86 (by decide) ?_
          exact hyp
set_option maxRecDepth 20000 in
theorem bX1_takeWord_89 {E : zE} (hE : isC E) {d : Nat} {x1 x2 : Int} {h : zH} {K : zH → Prop} (hyp :
  ∀ h_1 : zH, h_1 = hset h 3 6 x1 →
  ((x2 ≤ 6 →
    ∀ h_3 : zH, h_3 = hset h_1 3 4 2 →
    zG E mX1_takeWord d 111 [zR 3, zI x1, zU, zI 0] [] h_3 (qV K)) ∧
  (¬ (x2 ≤ 6) →
    ∀ h_4 : zH, h_4 = hset h_1 3 4 1 →
    zG E mX1_takeWord d 111 [zR 3, zI x1, zU, zI 0] [] h_4 (qV K)))) :
  zG E mX1_takeWord d 89 [zR 3, zI x1, zI x2, zU] [] h (qV K) := by
  refine z_aload_n dX1_takeWord_89 rfl ?_
  refine z_iload_n dX1_takeWord_90 rfl ?_
  refine pf_X1_36 dX1_takeWord_91 rfl (sC_3 hE) (cC_3 hE) ?_
  generalize eh_1 : hset h 3 6 _ = h_1
  have hyp := hyp h_1 eh_1.symm
  refine z_aload_n dX1_takeWord_94 rfl ?_
  refine z_iload_n dX1_takeWord_95 rfl ?_
  refine z_bipush dX1_takeWord_96 (r32d rfl) (by decide) ?_
  refine z_icmp_le (tgt := 105) dX1_takeWord_98 (by decide) (fun c_2 => ?_) (fun c_2 => ?_)
  · have hyp := hyp.1 c_2
    refine z_iconst dX1_takeWord_105 (r32d rfl) ?_
    refine pf_X1_30 dX1_takeWord_106 rfl (sC_3 hE) (cC_3 hE) ?_
    generalize eh_3 : hset h_1 3 4 _ = h_3
    have hyp := hyp h_3 eh_3.symm
    refine z_iconst dX1_takeWord_109 (r32d rfl) ?_
    refine z_istore_n dX1_takeWord_110 rfl (by decide) rfl ?_
    exact z_forget [true, true, false, true] rfl hyp
  · have hyp := hyp.2 c_2
    refine z_iconst dX1_takeWord_101 (r32d rfl) ?_
    refine z_goto (tgt := 106) dX1_takeWord_102 (by decide) ?_
    refine pf_X1_30 dX1_takeWord_106 rfl (sC_3 hE) (cC_3 hE) ?_
    generalize eh_4 : hset h_1 3 4 _ = h_4
    have hyp := hyp h_4 eh_4.symm
    refine z_iconst dX1_takeWord_109 (r32d rfl) ?_
    refine z_istore_n dX1_takeWord_110 rfl (by decide) rfl ?_
    exact z_forget [true, true, false, true] rfl hyp
set_option maxRecDepth 20000 in
theorem bX1_takeWord_111 {E : zE} (hE : isC E) {d : Nat} {x1 x3 : Int} {h : zH} {K : zH → Prop} (hyp :
  ((21 ≤ x3 →
    K h) ∧
  (¬ (21 ≤ x3) →
    (((h 3 4) ≠ 2 →
      K h) ∧
    (¬ ((h 3 4) ≠ 2) →
      ((0 : Int) ≤ x3 ∧ x3 < (21 : Int)) ∧
      (((h 4 x3.toNat) ≠ x1 →
        ∀ x_4 : Int, x_4 = w32 (x3 + 1) →
        zG E mX1_takeWord d 111 [zR 3, zI x1, zU, zI x_4] [] h (qV K)) ∧
      (¬ ((h 4 x3.toNat) ≠ x1) →
        ∀ h_5 : zH, h_5 = hset h 3 4 (w32 (20 + x3)) →
        ∀ x_6 : Int, x_6 = w32 (x3 + 1) →
        zG E mX1_takeWord d 111 [zR 3, zI x1, zU, zI x_6] [] h_5 (qV K)))))))) :
  zG E mX1_takeWord d 111 [zR 3, zI x1, zU, zI x3] [] h (qV K) := by
  refine z_iload_n dX1_takeWord_111 rfl ?_
  refine z_aload_n dX1_takeWord_112 rfl ?_
  refine gf_X1_15 (c2 := 4) dX1_takeWord_113 rfl (sC_3 hE) (cC_3 hE) rfl ?_
  refine z_alen dX1_takeWord_116 (sC_4 hE) (by decide) (by decide) (by decide) (cC_4 hE) ?_
  refine z_icmp_ge (tgt := 152) dX1_takeWord_117 (by decide) (fun c_1 => ?_) (fun c_1 => ?_)
  · have hyp := hyp.1 c_1
    exact z_vret dX1_takeWord_152 rfl ⟨rfl, hyp⟩
  · have hyp := hyp.2 c_1
    refine z_aload_n dX1_takeWord_120 rfl ?_
    refine gf_X1_30 dX1_takeWord_121 rfl (sC_3 hE) (cC_3 hE) ?_
    refine z_iconst dX1_takeWord_124 (r32d rfl) ?_
    refine z_icmp_ne (tgt := 152) dX1_takeWord_125 (by decide) (fun c_2 => ?_) (fun c_2 => ?_)
    · have hyp := hyp.1 c_2
      exact z_vret dX1_takeWord_152 rfl ⟨rfl, hyp⟩
    · have hyp := hyp.2 c_2
      refine z_aload_n dX1_takeWord_128 rfl ?_
      refine gf_X1_15 (c2 := 4) dX1_takeWord_129 rfl (sC_3 hE) (cC_3 hE) rfl ?_
      refine z_iload_n dX1_takeWord_132 rfl ?_
      obtain ⟨⟨hi0, hi1⟩, hyp⟩ := hyp
      refine z_iaload dX1_takeWord_133 (sC_4 hE) (cC_4 hE) hi0 hi1 ?_
      refine z_iload_n dX1_takeWord_134 rfl ?_
      refine z_icmp_ne (tgt := 146) dX1_takeWord_135 (by decide) (fun c_3 => ?_) (fun c_3 => ?_)
      · have hyp := hyp.1 c_3
        refine z_iinc dX1_takeWord_146 rfl (by decide) rfl ?_
        generalize ex_4 : w32 (x3 + 1) = x_4
        have hyp := hyp x_4 ex_4.symm
        refine z_goto (tgt := 111) dX1_takeWord_149 (by decide) ?_
        exact hyp
      · have hyp := hyp.2 c_3
        refine z_aload_n dX1_takeWord_138 rfl ?_
        refine z_bipush dX1_takeWord_139 (r32d rfl) (by decide) ?_
        refine z_iload_n dX1_takeWord_141 rfl ?_
        refine z_iadd dX1_takeWord_142 ?_
        refine pf_X1_30 dX1_takeWord_143 rfl (sC_3 hE) (cC_3 hE) ?_
        generalize eh_5 : hset h 3 4 _ = h_5
        have hyp := hyp h_5 eh_5.symm
        refine z_iinc dX1_takeWord_146 rfl (by decide) rfl ?_
        generalize ex_6 : w32 (x3 + 1) = x_6
        have hyp := hyp x_6 ex_6.symm
        refine z_goto (tgt := 111) dX1_takeWord_149 (by decide) ?_
        exact hyp
set_option maxRecDepth 20000 in
theorem eX1_takeWord {E : zE} (hE : isC E) {d : Nat} {h : zH} {K : zH → Prop} (hyp :
  zG E mX1_takeWord d 4 [zR 3, zI 0, zI 0, zU] [] h (qV K)) :
  zCV E mX1_takeWord d [zR 3] h K := by
  refine zC_in (L0 := [zR 3, zU, zU, zU]) pn_X1 rfl (Nat.le_of_ble_eq_true rfl) ?_
  refine z_iconst dX1_takeWord_0 (r32d rfl) ?_
  refine z_istore_n dX1_takeWord_1 rfl (by decide) rfl ?_
  refine z_iconst dX1_takeWord_2 (r32d rfl) ?_
  refine z_istore_n dX1_takeWord_3 rfl (by decide) rfl ?_
  exact hyp
