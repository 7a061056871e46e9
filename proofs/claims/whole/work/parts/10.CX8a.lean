set_option maxRecDepth 20000 in
theorem eX8_clear {E : zE} (hE : isC E) {q : Nat} (hq : isSu E q) {d : Nat} {h : zH} {K : zH → Prop} (hyp :
  ∀ h_1 : zH, h_1 = hset h (q + 1) 1 0 →
  ∀ h_2 : zH, h_2 = hset h_1 (q + 3) 1 0 →
  ∀ h_3 : zH, h_3 = hset h_2 (q + 5) 1 0 →
  ∀ h_4 : zH, h_4 = hset h_3 (q + 7) 1 0 →
  ∀ h_5 : zH, h_5 = hset h_4 q 9 0 →
  ∀ h_6 : zH, h_6 = hset h_5 (q + 14) 4 0 →
  ∀ h_7 : zH, h_7 = hset h_6 q 11 0 →
  ∀ h_8 : zH, h_8 = hset h_7 q 12 0 →
  ∀ h_9 : zH, h_9 = hset h_8 q 13 0 →
  ∀ h_10 : zH, h_10 = hset h_9 q 14 4 →
  ∀ h_11 : zH, h_11 = hset h_10 q 15 6 →
  ∀ h_12 : zH, h_12 = hset h_11 q 16 300 →
  zCV E mJ7_fill_53178 d [zR (q + 10), zI 0] h_12 (fun h_13 =>
    K h_13)) :
  zCV E mX8_clear (d + 1) [zR q] h K := by
  refine zC_in (L0 := [zR q]) pn_X8 rfl (Nat.le_of_ble_eq_true rfl) ?_
  refine z_aload_n dX8_clear_0 rfl ?_
  refine gf_X8_14 (c2 := (q + 1)) dX8_clear_1 rfl ((hq.2.1)) (Nat.lt_of_le_of_lt (Nat.le_add_right q 18) hq.1) rfl ?_
  refine z_iconst dX8_clear_4 (r32d rfl) ?_
  refine pf_X8_75 dX8_clear_5 rfl (((hq.2.2.1).2.1)) (Nat.lt_of_le_of_lt (Nat.add_le_add_left (Nat.le_of_ble_eq_true rfl : 1 ≤ 18) q) hq.1) ?_
  generalize eh_1 : hset h (q + 1) 1 _ = h_1
  have hyp := hyp h_1 eh_1.symm
  refine z_aload_n dX8_clear_8 rfl ?_
  refine gf_X8_20 (c2 := (q + 3)) dX8_clear_9 rfl ((hq.2.1)) (Nat.lt_of_le_of_lt (Nat.le_add_right q 18) hq.1) rfl ?_
  refine z_iconst dX8_clear_12 (r32d rfl) ?_
  refine pf_X8_75 dX8_clear_13 rfl (((hq.2.2.2.1).2.1)) (Nat.lt_of_le_of_lt (Nat.add_le_add_left (Nat.le_of_ble_eq_true rfl : 3 ≤ 18) q) hq.1) ?_
  generalize eh_2 : hset h_1 (q + 3) 1 _ = h_2
  have hyp := hyp h_2 eh_2.symm
  refine z_aload_n dX8_clear_16 rfl ?_
  refine gf_X8_23 (c2 := (q + 5)) dX8_clear_17 rfl ((hq.2.1)) (Nat.lt_of_le_of_lt (Nat.le_add_right q 18) hq.1) rfl ?_
  refine z_iconst dX8_clear_20 (r32d rfl) ?_
  refine pf_X8_75 dX8_clear_21 rfl (((hq.2.2.2.2.1).2.1)) (Nat.lt_of_le_of_lt (Nat.add_le_add_left (Nat.le_of_ble_eq_true rfl : 5 ≤ 18) q) hq.1) ?_
  generalize eh_3 : hset h_2 (q + 5) 1 _ = h_3
  have hyp := hyp h_3 eh_3.symm
  refine z_aload_n dX8_clear_24 rfl ?_
  refine gf_X8_26 (c2 := (q + 7)) dX8_clear_25 rfl ((hq.2.1)) (Nat.lt_of_le_of_lt (Nat.le_add_right q 18) hq.1) rfl ?_
  refine z_iconst dX8_clear_28 (r32d rfl) ?_
  refine pf_X8_75 dX8_clear_29 rfl (((hq.2.2.2.2.2.1).2.1)) (Nat.lt_of_le_of_lt (Nat.add_le_add_left (Nat.le_of_ble_eq_true rfl : 7 ≤ 18) q) hq.1) ?_
  generalize eh_4 : hset h_3 (q + 7) 1 _ = h_4
  have hyp := hyp h_4 eh_4.symm
  refine z_aload_n dX8_clear_32 rfl ?_
  refine z_iconst dX8_clear_33 (r32d rfl) ?_
  refine pf_X8_45 dX8_clear_34 rfl ((hq.2.1)) (Nat.lt_of_le_of_lt (Nat.le_add_right q 18) hq.1) ?_
  generalize eh_5 : hset h_4 q 9 _ = h_5
  have hyp := hyp h_5 eh_5.symm
  refine z_aload_n dX8_clear_37 rfl ?_
  refine gf_X8_52 (c2 := (q + 14)) dX8_clear_38 rfl ((hq.2.1)) (Nat.lt_of_le_of_lt (Nat.le_add_right q 18) hq.1) rfl ?_
  refine z_iconst dX8_clear_41 (r32d rfl) ?_
  refine pf_X8_78 dX8_clear_42 rfl (((hq.2.2.2.2.2.2.2.2.2.2.2).2.1)) (Nat.lt_of_le_of_lt (Nat.add_le_add_left (Nat.le_of_ble_eq_true rfl : 14 ≤ 18) q) hq.1) ?_
  generalize eh_6 : hset h_5 (q + 14) 4 _ = h_6
  have hyp := hyp h_6 eh_6.symm
  refine z_aload_n dX8_clear_45 rfl ?_
  refine z_iconst dX8_clear_46 (r32d rfl) ?_
  refine pf_X8_56 dX8_clear_47 rfl ((hq.2.1)) (Nat.lt_of_le_of_lt (Nat.le_add_right q 18) hq.1) (Or.inl rfl) ?_
  generalize eh_7 : hset h_6 q 11 _ = h_7
  have hyp := hyp h_7 eh_7.symm
  refine z_aload_n dX8_clear_50 rfl ?_
  refine z_iconst dX8_clear_51 (r32d rfl) ?_
  refine pf_X8_60 dX8_clear_52 rfl ((hq.2.1)) (Nat.lt_of_le_of_lt (Nat.le_add_right q 18) hq.1) (Or.inl rfl) ?_
  generalize eh_8 : hset h_7 q 12 _ = h_8
  have hyp := hyp h_8 eh_8.symm
  refine z_aload_n dX8_clear_55 rfl ?_
  refine z_iconst dX8_clear_56 (r32d rfl) ?_
  refine pf_X8_63 dX8_clear_57 rfl ((hq.2.1)) (Nat.lt_of_le_of_lt (Nat.le_add_right q 18) hq.1) (Or.inl rfl) ?_
  generalize eh_9 : hset h_8 q 13 _ = h_9
  have hyp := hyp h_9 eh_9.symm
  refine z_aload_n dX8_clear_60 rfl ?_
  refine z_iconst dX8_clear_61 (r32d rfl) ?_
  refine pf_X8_66 dX8_clear_62 rfl ((hq.2.1)) (Nat.lt_of_le_of_lt (Nat.le_add_right q 18) hq.1) ?_
  generalize eh_10 : hset h_9 q 14 _ = h_10
  have hyp := hyp h_10 eh_10.symm
  refine z_aload_n dX8_clear_65 rfl ?_
  refine z_bipush dX8_clear_66 (r32d rfl) (by decide) ?_
  refine pf_X8_69 dX8_clear_68 rfl ((hq.2.1)) (Nat.lt_of_le_of_lt (Nat.le_add_right q 18) hq.1) ?_
  generalize eh_11 : hset h_10 q 15 _ = h_11
  have hyp := hyp h_11 eh_11.symm
  refine z_aload_n dX8_clear_71 rfl ?_
  refine z_sipush dX8_clear_72 (r32d rfl) (by decide) ?_
  refine pf_X8_72 dX8_clear_75 rfl ((hq.2.1)) (Nat.lt_of_le_of_lt (Nat.le_add_right q 18) hq.1) ?_
  generalize eh_12 : hset h_11 q 16 _ = h_12
  have hyp := hyp h_12 eh_12.symm
  refine z_aload_n dX8_clear_78 rfl ?_
  refine gf_X8_33 (c2 := (q + 10)) dX8_clear_79 rfl ((hq.2.1)) (Nat.lt_of_le_of_lt (Nat.le_add_right q 18) hq.1) rfl ?_
  refine z_iconst dX8_clear_82 (r32d rfl) ?_
  refine cl_X8_81 dX8_clear_83 rfl (Nat.le_of_ble_eq_true rfl) (zC_mono ?_ hyp)
  rintro _ h_13 ⟨rfl, hyp⟩
  refine ⟨rfl, ?_⟩
  exact z_vret dX8_clear_86 rfl ⟨rfl, hyp⟩
set_option maxRecDepth 20000 in
theorem eX8_hasRing {E : zE} (hE : isC E) {q : Nat} (hq : isSu E q) {d : Nat} {x1 : Int} {h : zH} {K : Int → zH → Prop} (hyp :
  ((x1 < 0 →
    K 0 h) ∧
  (¬ (x1 < 0) →
    (((h (q + 3) 1) ≤ x1 →
      K 0 h) ∧
    (¬ ((h (q + 3) 1) ≤ x1) →
      ((8 ≤ x1 →
        K 0 h) ∧
      (¬ (8 ≤ x1) →
        K 1 h))))))) :
  zCI E mX8_hasRing d [zR q, zI x1] h K := by
  refine zC_in (L0 := [zR q, zI x1]) pn_X8 rfl (Nat.le_of_ble_eq_true rfl) ?_
  refine z_iload_n dX8_hasRing_0 rfl ?_
  refine z_if_lt (tgt := 25) dX8_hasRing_1 (by decide) (fun c_1 => ?_) (fun c_1 => ?_)
  · have hyp := hyp.1 c_1
    refine z_iconst dX8_hasRing_25 (r32d rfl) ?_
    exact z_zret dX8_hasRing_26 rfl (Or.inl rfl) ⟨_, rfl, hyp⟩
  · have hyp := hyp.2 c_1
    refine z_iload_n dX8_hasRing_4 rfl ?_
    refine z_aload_n dX8_hasRing_5 rfl ?_
    refine gf_X8_20 (c2 := (q + 3)) dX8_hasRing_6 rfl ((hq.2.1)) (Nat.lt_of_le_of_lt (Nat.le_add_right q 18) hq.1) rfl ?_
    refine gf_X8_75 dX8_hasRing_9 rfl (((hq.2.2.2.1).2.1)) (Nat.lt_of_le_of_lt (Nat.add_le_add_left (Nat.le_of_ble_eq_true rfl : 3 ≤ 18) q) hq.1) ?_
    refine z_icmp_ge (tgt := 25) dX8_hasRing_12 (by decide) (fun c_2 => ?_) (fun c_2 => ?_)
    · have hyp := hyp.1 c_2
      refine z_iconst dX8_hasRing_25 (r32d rfl) ?_
      exact z_zret dX8_hasRing_26 rfl (Or.inl rfl) ⟨_, rfl, hyp⟩
    · have hyp := hyp.2 c_2
      refine z_iload_n dX8_hasRing_15 rfl ?_
      refine z_bipush dX8_hasRing_16 (r32d rfl) (by decide) ?_
      refine z_icmp_ge (tgt := 25) dX8_hasRing_18 (by decide) (fun c_3 => ?_) (fun c_3 => ?_)
      · have hyp := hyp.1 c_3
        refine z_iconst dX8_hasRing_25 (r32d rfl) ?_
        exact z_zret dX8_hasRing_26 rfl (Or.inl rfl) ⟨_, rfl, hyp⟩
      · have hyp := hyp.2 c_3
        refine z_iconst dX8_hasRing_21 (r32d rfl) ?_
        refine z_goto (tgt := 26) dX8_hasRing_22 (by decide) ?_
        exact z_zret dX8_hasRing_26 rfl (Or.inr rfl) ⟨_, rfl, hyp⟩
set_option maxRecDepth 20000 in
theorem eX8_hasStone {E : zE} (hE : isC E) {q : Nat} (hq : isSu E q) {d : Nat} {x1 x2 : Int} {h : zH} {K : Int → zH → Prop} (hyp :
  zCI E mX8_hasRing d [zR q, zI x1] h (fun r_1 h_1 =>
    ((r_1 = 0 →
      K 0 h_1) ∧
    (¬ (r_1 = 0) →
      ((x2 < 0 →
        K 0 h_1) ∧
      (¬ (x2 < 0) →
        ((0 : Int) ≤ x1 ∧ x1 < (8 : Int)) ∧
        (((h_1 (q + 10) x1.toNat) ≤ x2 →
          K 0 h_1) ∧
        (¬ ((h_1 (q + 10) x1.toNat) ≤ x2) →
          ((10 ≤ x2 →
            K 0 h_1) ∧
          (¬ (10 ≤ x2) →
            K 1 h_1)))))))))) :
  zCI E mX8_hasStone (d + 1) [zR q, zI x1, zI x2] h K := by
  refine zC_in (L0 := [zR q, zI x1, zI x2]) pn_X8 rfl (Nat.le_of_ble_eq_true rfl) ?_
  refine z_aload_n dX8_hasStone_0 rfl ?_
  refine z_iload_n dX8_hasStone_1 rfl ?_
  refine cl_X8_87 dX8_hasStone_2 rfl ((hq.2.1)) (Nat.lt_of_le_of_lt (Nat.le_add_right q 18) hq.1) (Nat.le_of_ble_eq_true rfl) (zC_mono ?_ hyp)
  rintro _ h_1 ⟨r_1, rfl, hyp⟩
  refine ⟨r_1, rfl, ?_⟩
  refine z_if_eq (tgt := 32) dX8_hasStone_5 (by decide) (fun c_2 => ?_) (fun c_2 => ?_)
  · have hyp := hyp.1 c_2
    refine z_iconst dX8_hasStone_32 (r32d rfl) ?_
    exact z_zret dX8_hasStone_33 rfl (Or.inl rfl) ⟨_, rfl, hyp⟩
  · have hyp := hyp.2 c_2
    refine z_iload_n dX8_hasStone_8 rfl ?_
    refine z_if_lt (tgt := 32) dX8_hasStone_9 (by decide) (fun c_3 => ?_) (fun c_3 => ?_)
    · have hyp := hyp.1 c_3
      refine z_iconst dX8_hasStone_32 (r32d rfl) ?_
      exact z_zret dX8_hasStone_33 rfl (Or.inl rfl) ⟨_, rfl, hyp⟩
    · have hyp := hyp.2 c_3
      refine z_iload_n dX8_hasStone_12 rfl ?_
      refine z_aload_n dX8_hasStone_13 rfl ?_
      refine gf_X8_33 (c2 := (q + 10)) dX8_hasStone_14 rfl ((hq.2.1)) (Nat.lt_of_le_of_lt (Nat.le_add_right q 18) hq.1) rfl ?_
      refine z_iload_n dX8_hasStone_17 rfl ?_
      obtain ⟨⟨hi0, hi1⟩, hyp⟩ := hyp
      refine z_iaload dX8_hasStone_18 ((hq.2.2.2.2.2.2.2.1)) (Nat.lt_of_le_of_lt (Nat.add_le_add_left (Nat.le_of_ble_eq_true rfl : 10 ≤ 18) q) hq.1) hi0 hi1 ?_
      refine z_icmp_ge (tgt := 32) dX8_hasStone_19 (by decide) (fun c_4 => ?_) (fun c_4 => ?_)
      · have hyp := hyp.1 c_4
        refine z_iconst dX8_hasStone_32 (r32d rfl) ?_
        exact z_zret dX8_hasStone_33 rfl (Or.inl rfl) ⟨_, rfl, hyp⟩
      · have hyp := hyp.2 c_4
        refine z_iload_n dX8_hasStone_22 rfl ?_
        refine z_bipush dX8_hasStone_23 (r32d rfl) (by decide) ?_
        refine z_icmp_ge (tgt := 32) dX8_hasStone_25 (by decide) (fun c_5 => ?_) (fun c_5 => ?_)
        · have hyp := hyp.1 c_5
          refine z_iconst dX8_hasStone_32 (r32d rfl) ?_
          exact z_zret dX8_hasStone_33 rfl (Or.inl rfl) ⟨_, rfl, hyp⟩
        · have hyp := hyp.2 c_5
          refine z_iconst dX8_hasStone_28 (r32d rfl) ?_
          refine z_goto (tgt := 33) dX8_hasStone_29 (by decide) ?_
          exact z_zret dX8_hasStone_33 rfl (Or.inr rfl) ⟨_, rfl, hyp⟩
set_option maxRecDepth 20000 in
theorem eX8_saidOf {E : zE} (hE : isC E) {q : Nat} (hq : isSu E q) {d : Nat} {x1 x2 : Int} {h : zH} {K : Int → zH → Prop} (hyp :
  ∀ x_1 : Int, x_1 = w32 ((w32 (x1 * 4)) + x2) →
  ((x_1 < 0 →
    K 0 h) ∧
  (¬ (x_1 < 0) →
    ((80 ≤ x_1 →
      K 0 h) ∧
    (¬ (80 ≤ x_1) →
      ((0 : Int) ≤ x_1 ∧ x_1 < (80 : Int)) ∧
      K (h (q + 13) x_1.toNat) h))))) :
  zCI E mX8_saidOf d [zR q, zI x1, zI x2] h K := by
  refine zC_in (L0 := [zR q, zI x1, zI x2, zU]) pn_X8 rfl (Nat.le_of_ble_eq_true rfl) ?_
  refine z_iload_n dX8_saidOf_0 rfl ?_
  refine z_iconst dX8_saidOf_1 (r32d rfl) ?_
  refine z_imul dX8_saidOf_2 ?_
  refine z_iload_n dX8_saidOf_3 rfl ?_
  refine z_iadd dX8_saidOf_4 ?_
  generalize ex_1 : w32 ((w32 (x1 * 4)) + x2) = x_1
  have hyp := hyp x_1 ex_1.symm
  refine z_istore_n dX8_saidOf_5 rfl (by decide) rfl ?_
  refine z_iload_n dX8_saidOf_6 rfl ?_
  refine z_if_lt (tgt := 28) dX8_saidOf_7 (by decide) (fun c_2 => ?_) (fun c_2 => ?_)
  · have hyp := hyp.1 c_2
    refine z_iconst dX8_saidOf_28 (r32d rfl) ?_
    exact z_iret dX8_saidOf_29 rfl ⟨_, rfl, hyp⟩
  · have hyp := hyp.2 c_2
    refine z_iload_n dX8_saidOf_10 rfl ?_
    refine z_aload_n dX8_saidOf_11 rfl ?_
    refine gf_X8_42 (c2 := (q + 13)) dX8_saidOf_12 rfl ((hq.2.1)) (Nat.lt_of_le_of_lt (Nat.le_add_right q 18) hq.1) rfl ?_
    refine z_alen dX8_saidOf_15 ((hq.2.2.2.2.2.2.2.2.2.2.1)) (by decide) (by decide) (by decide) (Nat.lt_of_le_of_lt (Nat.add_le_add_left (Nat.le_of_ble_eq_true rfl : 13 ≤ 18) q) hq.1) ?_
    refine z_icmp_ge (tgt := 28) dX8_saidOf_16 (by decide) (fun c_3 => ?_) (fun c_3 => ?_)
    · have hyp := hyp.1 c_3
      refine z_iconst dX8_saidOf_28 (r32d rfl) ?_
      exact z_iret dX8_saidOf_29 rfl ⟨_, rfl, hyp⟩
    · have hyp := hyp.2 c_3
      refine z_aload_n dX8_saidOf_19 rfl ?_
      refine gf_X8_42 (c2 := (q + 13)) dX8_saidOf_20 rfl ((hq.2.1)) (Nat.lt_of_le_of_lt (Nat.le_add_right q 18) hq.1) rfl ?_
      refine z_iload_n dX8_saidOf_23 rfl ?_
      obtain ⟨⟨hi0, hi1⟩, hyp⟩ := hyp
      refine z_iaload dX8_saidOf_24 ((hq.2.2.2.2.2.2.2.2.2.2.1)) (Nat.lt_of_le_of_lt (Nat.add_le_add_left (Nat.le_of_ble_eq_true rfl : 13 ≤ 18) q) hq.1) hi0 hi1 ?_
      refine z_goto (tgt := 29) dX8_saidOf_25 (by decide) ?_
      exact z_iret dX8_saidOf_29 rfl ⟨_, rfl, hyp⟩
set_option maxRecDepth 20000 in
theorem bX8_weightOf_39 {E : zE} (hE : isC E) {q : Nat} (hq : isSu E q) {r2 : Nat} (hr2 : isSi E r2) {d : Nat} {x3 x4 y5 x7 : Int} {h : zH} {K : Int → zH → Prop} (hyp :
  (((h r2 1) ≤ x7 →
    K y5 h) ∧
  (¬ ((h r2 1) ≤ x7) →
    zCI E mX7_binOf d [zR r2, zI x7, zI x3] h (fun r_2 h_2 =>
      ((0 : Int) ≤ w32 ((w32 (x4 + 1)) + r_2) ∧ w32 ((w32 (x4 + 1)) + r_2) < (35 : Int)) ∧
      ∀ y_3 : Int, y_3 = w64 (y5 * (h_2 (q + 12) (w32 ((w32 (x4 + 1)) + r_2)).toNat)) →
      ∀ x_4 : Int, x_4 = w32 (x7 + 1) →
      zG E mX8_weightOf (d + 1) 39 [zR q, zU, zR r2, zI x3, zI x4, zJ y_3, zU, zI x_4] [] h_2 (qJ K))))) :
  zG E mX8_weightOf (d + 1) 39 [zR q, zU, zR r2, zI x3, zI x4, zJ y5, zU, zI x7] [] h (qJ K) := by
  refine z_iload dX8_weightOf_39 rfl ?_
  refine z_aload_n dX8_weightOf_41 rfl ?_
  refine gf_X8_91 dX8_weightOf_42 rfl ((hr2.2.1)) (Nat.lt_of_le_of_lt (Nat.le_add_right r2 1) hr2.1) ?_
  refine z_icmp_ge (tgt := 77) dX8_weightOf_45 (by decide) (fun c_1 => ?_) (fun c_1 => ?_)
  · have hyp := hyp.1 c_1
    refine z_lload dX8_weightOf_77 rfl ?_
    exact z_lret dX8_weightOf_79 rfl ⟨_, rfl, hyp⟩
  · have hyp := hyp.2 c_1
    refine z_lload dX8_weightOf_48 rfl ?_
    refine z_aload_n dX8_weightOf_50 rfl ?_
    refine gf_X8_39 (c2 := (q + 12)) dX8_weightOf_51 rfl ((hq.2.1)) (Nat.lt_of_le_of_lt (Nat.le_add_right q 18) hq.1) rfl ?_
    refine z_iload dX8_weightOf_54 rfl ?_
    refine z_iconst dX8_weightOf_56 (r32d rfl) ?_
    refine z_iadd dX8_weightOf_57 ?_
    refine z_aload_n dX8_weightOf_58 rfl ?_
    refine z_iload dX8_weightOf_59 rfl ?_
    refine z_iload_n dX8_weightOf_61 rfl ?_
    refine cl_X8_94 dX8_weightOf_62 rfl ((hr2.2.1)) (Nat.lt_of_le_of_lt (Nat.le_add_right r2 1) hr2.1) (Nat.le_of_ble_eq_true rfl) (zC_mono ?_ hyp)
    rintro _ h_2 ⟨r_2, rfl, hyp⟩
    refine ⟨r_2, rfl, ?_⟩
    refine z_iadd dX8_weightOf_65 ?_
    obtain ⟨⟨hi0, hi1⟩, hyp⟩ := hyp
    refine z_iaload dX8_weightOf_66 ((hq.2.2.2.2.2.2.2.2.2.1)) (Nat.lt_of_le_of_lt (Nat.add_le_add_left (Nat.le_of_ble_eq_true rfl : 12 ≤ 18) q) hq.1) hi0 hi1 ?_
    refine z_i2l dX8_weightOf_67 ?_
    refine z_lmul dX8_weightOf_68 ?_
    generalize ey_3 : w64 (y5 * (h_2 (q + 12) (w32 ((w32 (x4 + 1)) + r_2)).toNat)) = y_3
    have hyp := hyp y_3 ey_3.symm
    refine z_lstore dX8_weightOf_69 (by decide) rfl ?_
    refine z_iinc dX8_weightOf_71 rfl (by decide) rfl ?_
    generalize ex_4 : w32 (x7 + 1) = x_4
    have hyp := hyp x_4 ex_4.symm
    refine z_goto (tgt := 39) dX8_weightOf_74 (by decide) ?_
    exact hyp
set_option maxRecDepth 20000 in
theorem eX8_weightOf {E : zE} (hE : isC E) {q : Nat} (hq : isSu E q) {r2 : Nat} (hr2 : isSi E r2) {d : Nat} {x1 x3 : Int} {h : zH} {K : Int → zH → Prop} (hyp :
  ∀ x_1 : Int, x_1 = w32 (x1 * 7) →
  ((x_1 < 0 →
    K 0 h) ∧
  (¬ (x_1 < 0) →
    (((w32 (x_1 + 7)) ≤ 35 →
      ((0 : Int) ≤ x_1 ∧ x_1 < (35 : Int)) ∧
      ∀ y_4 : Int, y_4 = h (q + 12) x_1.toNat →
      zG E mX8_weightOf (d + 1) 39 [zR q, zU, zR r2, zI x3, zI x_1, zJ y_4, zU, zI 0] [] h (qJ K)) ∧
    (¬ ((w32 (x_1 + 7)) ≤ 35) →
      K 0 h))))) :
  zCJ E mX8_weightOf (d + 1) [zR q, zI x1, zR r2, zI x3] h K := by
  refine zC_in (L0 := [zR q, zI x1, zR r2, zI x3, zU, zU, zU, zU]) pn_X8 rfl (Nat.le_of_ble_eq_true rfl) ?_
  refine z_iload_n dX8_weightOf_0 rfl ?_
  refine z_bipush dX8_weightOf_1 (r32d rfl) (by decide) ?_
  refine z_imul dX8_weightOf_3 ?_
  generalize ex_1 : w32 (x1 * 7) = x_1
  have hyp := hyp x_1 ex_1.symm
  refine z_istore dX8_weightOf_4 (by decide) rfl ?_
  refine z_iload dX8_weightOf_6 rfl ?_
  refine z_if_lt (tgt := 24) dX8_weightOf_8 (by decide) (fun c_2 => ?_) (fun c_2 => ?_)
  · have hyp := hyp.1 c_2
    refine z_lconst (x := 0) dX8_weightOf_24 (by decide) (r64d rfl) ?_
    exact z_lret dX8_weightOf_25 rfl ⟨_, rfl, hyp⟩
  · have hyp := hyp.2 c_2
    refine z_iload dX8_weightOf_11 rfl ?_
    refine z_bipush dX8_weightOf_13 (r32d rfl) (by decide) ?_
    refine z_iadd dX8_weightOf_15 ?_
    refine z_aload_n dX8_weightOf_16 rfl ?_
    refine gf_X8_39 (c2 := (q + 12)) dX8_weightOf_17 rfl ((hq.2.1)) (Nat.lt_of_le_of_lt (Nat.le_add_right q 18) hq.1) rfl ?_
    refine z_alen dX8_weightOf_20 ((hq.2.2.2.2.2.2.2.2.2.1)) (by decide) (by decide) (by decide) (Nat.lt_of_le_of_lt (Nat.add_le_add_left (Nat.le_of_ble_eq_true rfl : 12 ≤ 18) q) hq.1) ?_
    refine z_icmp_le (tgt := 26) dX8_weightOf_21 (by decide) (fun c_3 => ?_) (fun c_3 => ?_)
    · have hyp := hyp.1 c_3
      refine z_aload_n dX8_weightOf_26 rfl ?_
      refine gf_X8_39 (c2 := (q + 12)) dX8_weightOf_27 rfl ((hq.2.1)) (Nat.lt_of_le_of_lt (Nat.le_add_right q 18) hq.1) rfl ?_
      refine z_iload dX8_weightOf_30 rfl ?_
      obtain ⟨⟨hi0, hi1⟩, hyp⟩ := hyp
      refine z_iaload dX8_weightOf_32 ((hq.2.2.2.2.2.2.2.2.2.1)) (Nat.lt_of_le_of_lt (Nat.add_le_add_left (Nat.le_of_ble_eq_true rfl : 12 ≤ 18) q) hq.1) hi0 hi1 ?_
      refine z_i2l dX8_weightOf_33 ?_
      generalize ey_4 : h (q + 12) x_1.toNat = y_4
      have hyp := hyp y_4 ey_4.symm
      refine z_lstore dX8_weightOf_34 (by decide) rfl ?_
      refine z_iconst dX8_weightOf_36 (r32d rfl) ?_
      refine z_istore dX8_weightOf_37 (by decide) rfl ?_
      exact z_forget [true, false, true, true, true, true, false, true] rfl hyp
    · have hyp := hyp.2 c_3
      refine z_lconst (x := 0) dX8_weightOf_24 (by decide) (r64d rfl) ?_
      exact z_lret dX8_weightOf_25 rfl ⟨_, rfl, hyp⟩
