set_option maxRecDepth 20000 in
theorem bX7_bestUnit_18 {E : zE} (hE : isC E) {q : Nat} (hq : isSi E q) {d : Nat} {x1 x3 x4 x5 x6 x7 x8 : Int} {h : zH} {K : Int → zH → Prop} (hyp :
  ((x7 ≤ x8 →
    K x5 h) ∧
  (¬ (x7 ≤ x8) →
    ∀ x_2 : Int, x_2 = w32 (x1 + (w32 (x8 * x3))) →
    zCI E mX9_placesOf d [zI x_2, zI x4] h (fun r_3 h_3 =>
      zCI E mX7_sumOfLumps d [zR q, zI r_3] h_3 (fun r_4 h_4 =>
        ((x6 ≤ r_4 →
          ∀ x_6 : Int, x_6 = w32 (x8 + 1) →
          zG E mX7_bestUnit (d + 1) 18 [zR q, zI x1, zU, zI x3, zI x4, zI x5, zI x6, zI x7, zI x_6, zU, zU] [] h_4 (qI K)) ∧
        (¬ (x6 ≤ r_4) →
          ∀ x_7 : Int, x_7 = w32 (x8 + 1) →
          zG E mX7_bestUnit (d + 1) 18 [zR q, zI x1, zU, zI x3, zI x4, zI x_2, zI r_4, zI x7, zI x_7, zU, zU] [] h_4 (qI K)))))))) :
  zG E mX7_bestUnit (d + 1) 18 [zR q, zI x1, zU, zI x3, zI x4, zI x5, zI x6, zI x7, zI x8, zU, zU] [] h (qI K) := by
  refine z_iload dX7_bestUnit_18 rfl ?_
  refine z_iload dX7_bestUnit_20 rfl ?_
  refine z_icmp_ge (tgt := 67) dX7_bestUnit_22 (by decide) (fun c_1 => ?_) (fun c_1 => ?_)
  · have hyp := hyp.1 c_1
    refine z_iload dX7_bestUnit_67 rfl ?_
    exact z_iret dX7_bestUnit_69 rfl ⟨_, rfl, hyp⟩
  · have hyp := hyp.2 c_1
    refine z_iload_n dX7_bestUnit_25 rfl ?_
    refine z_iload dX7_bestUnit_26 rfl ?_
    refine z_iload_n dX7_bestUnit_28 rfl ?_
    refine z_imul dX7_bestUnit_29 ?_
    refine z_iadd dX7_bestUnit_30 ?_
    generalize ex_2 : w32 (x1 + (w32 (x8 * x3))) = x_2
    have hyp := hyp x_2 ex_2.symm
    refine z_istore dX7_bestUnit_31 (by decide) rfl ?_
    refine z_aload_n dX7_bestUnit_33 rfl ?_
    refine z_iload dX7_bestUnit_34 rfl ?_
    refine z_iload dX7_bestUnit_36 rfl ?_
    refine cl_X7_35 dX7_bestUnit_38 rfl (Nat.le_of_ble_eq_true rfl) (zC_mono ?_ hyp)
    rintro _ h_3 ⟨r_3, rfl, hyp⟩
    refine ⟨r_3, rfl, ?_⟩
    refine cl_X7_39 dX7_bestUnit_41 rfl ((hq.2.1)) (Nat.lt_of_le_of_lt (Nat.le_add_right q 1) hq.1) (Nat.le_of_ble_eq_true rfl) (zC_mono ?_ hyp)
    rintro _ h_4 ⟨r_4, rfl, hyp⟩
    refine ⟨r_4, rfl, ?_⟩
    refine z_istore dX7_bestUnit_44 (by decide) rfl ?_
    refine z_iload dX7_bestUnit_46 rfl ?_
    refine z_iload dX7_bestUnit_48 rfl ?_
    refine z_icmp_ge (tgt := 61) dX7_bestUnit_50 (by decide) (fun c_5 => ?_) (fun c_5 => ?_)
    · have hyp := hyp.1 c_5
      refine z_iinc dX7_bestUnit_61 rfl (by decide) rfl ?_
      generalize ex_6 : w32 (x8 + 1) = x_6
      have hyp := hyp x_6 ex_6.symm
      refine z_goto (tgt := 18) dX7_bestUnit_64 (by decide) ?_
      exact z_forget [true, true, false, true, true, true, true, true, true, false, false] rfl hyp
    · have hyp := hyp.2 c_5
      refine z_iload dX7_bestUnit_53 rfl ?_
      refine z_istore dX7_bestUnit_55 (by decide) rfl ?_
      refine z_iload dX7_bestUnit_57 rfl ?_
      refine z_istore dX7_bestUnit_59 (by decide) rfl ?_
      refine z_iinc dX7_bestUnit_61 rfl (by decide) rfl ?_
      generalize ex_7 : w32 (x8 + 1) = x_7
      have hyp := hyp x_7 ex_7.symm
      refine z_goto (tgt := 18) dX7_bestUnit_64 (by decide) ?_
      exact z_forget [true, true, false, true, true, true, true, true, true, false, false] rfl hyp
set_option maxRecDepth 20000 in
theorem eX7_bestUnit {E : zE} (hE : isC E) {q : Nat} (hq : isSi E q) {d : Nat} {x1 x2 x3 x4 : Int} {h : zH} {K : Int → zH → Prop} (hyp :
  zCI E mX9_unitsOf d [zI x1, zI x2, zI x3] h (fun r_1 h_1 =>
    zG E mX7_bestUnit (d + 1) 18 [zR q, zI x1, zU, zI x3, zI x4, zI x1, zI 2147483647, zI r_1, zI 0, zU, zU] [] h_1 (qI K))) :
  zCI E mX7_bestUnit (d + 1) [zR q, zI x1, zI x2, zI x3, zI x4] h K := by
  refine zC_in (L0 := [zR q, zI x1, zI x2, zI x3, zI x4, zU, zU, zU, zU, zU, zU]) pn_X7 rfl (Nat.le_of_ble_eq_true rfl) ?_
  refine z_iload_n dX7_bestUnit_0 rfl ?_
  refine z_istore dX7_bestUnit_1 (by decide) rfl ?_
  refine z_ldc (x := 2147483647) dX7_bestUnit_3 rfl wk_X7_30 (by decide) (r32d rfl) ?_
  refine z_istore dX7_bestUnit_5 (by decide) rfl ?_
  refine z_iload_n dX7_bestUnit_7 rfl ?_
  refine z_iload_n dX7_bestUnit_8 rfl ?_
  refine z_iload_n dX7_bestUnit_9 rfl ?_
  refine cl_X7_31 dX7_bestUnit_10 rfl (Nat.le_of_ble_eq_true rfl) (zC_mono ?_ hyp)
  rintro _ h_1 ⟨r_1, rfl, hyp⟩
  refine ⟨r_1, rfl, ?_⟩
  refine z_istore dX7_bestUnit_13 (by decide) rfl ?_
  refine z_iconst dX7_bestUnit_15 (r32d rfl) ?_
  refine z_istore dX7_bestUnit_16 (by decide) rfl ?_
  exact z_forget [true, true, false, true, true, true, true, true, true, false, false] rfl hyp
set_option maxRecDepth 20000 in
theorem eX7_binOf {E : zE} (hE : isC E) {q : Nat} (hq : isSi E q) {d : Nat} {x1 x2 : Int} {h : zH} {K : Int → zH → Prop} (hyp :
  ((x1 < 0 →
    K 0 h) ∧
  (¬ (x1 < 0) →
    ((8 ≤ x1 →
      K 0 h) ∧
    (¬ (8 ≤ x1) →
      ((0 < x2 →
        ((0 : Int) ≤ x1 ∧ x1 < (8 : Int)) ∧
        zCI E mX9_offBy d [zI (h (q + 1) x1.toNat), zI x2] h (fun r_4 h_4 =>
          ¬ x2 = 0 ∧
          K (min (w32 (Int.tdiv (w32 (12 * r_4)) x2)) 5) h_4)) ∧
      (¬ (0 < x2) →
        K 0 h))))))) :
  zCI E mX7_binOf (d + 1) [zR q, zI x1, zI x2] h K := by
  refine zC_in (L0 := [zR q, zI x1, zI x2]) pn_X7 rfl (Nat.le_of_ble_eq_true rfl) ?_
  refine z_iload_n dX7_binOf_0 rfl ?_
  refine z_if_lt (tgt := 14) dX7_binOf_1 (by decide) (fun c_1 => ?_) (fun c_1 => ?_)
  · have hyp := hyp.1 c_1
    refine z_iconst dX7_binOf_14 (r32d rfl) ?_
    exact z_iret dX7_binOf_15 rfl ⟨_, rfl, hyp⟩
  · have hyp := hyp.2 c_1
    refine z_iload_n dX7_binOf_4 rfl ?_
    refine z_bipush dX7_binOf_5 (r32d rfl) (by decide) ?_
    refine z_icmp_ge (tgt := 14) dX7_binOf_7 (by decide) (fun c_2 => ?_) (fun c_2 => ?_)
    · have hyp := hyp.1 c_2
      refine z_iconst dX7_binOf_14 (r32d rfl) ?_
      exact z_iret dX7_binOf_15 rfl ⟨_, rfl, hyp⟩
    · have hyp := hyp.2 c_2
      refine z_iload_n dX7_binOf_10 rfl ?_
      refine z_if_gt (tgt := 16) dX7_binOf_11 (by decide) (fun c_3 => ?_) (fun c_3 => ?_)
      · have hyp := hyp.1 c_3
        refine z_bipush dX7_binOf_16 (r32d rfl) (by decide) ?_
        refine z_aload_n dX7_binOf_18 rfl ?_
        refine gf_X7_9 (c2 := (q + 1)) dX7_binOf_19 rfl ((hq.2.1)) (Nat.lt_of_le_of_lt (Nat.le_add_right q 1) hq.1) rfl ?_
        refine z_iload_n dX7_binOf_22 rfl ?_
        obtain ⟨⟨hi0, hi1⟩, hyp⟩ := hyp
        refine z_iaload dX7_binOf_23 ((hq.2.2)) (Nat.lt_of_le_of_lt (Nat.add_le_add_left (Nat.le_of_ble_eq_true rfl : 1 ≤ 1) q) hq.1) hi0 hi1 ?_
        refine z_iload_n dX7_binOf_24 rfl ?_
        refine cl_X7_19 dX7_binOf_25 rfl (Nat.le_of_ble_eq_true rfl) (zC_mono ?_ hyp)
        rintro _ h_4 ⟨r_4, rfl, hyp⟩
        refine ⟨r_4, rfl, ?_⟩
        refine z_imul dX7_binOf_28 ?_
        refine z_iload_n dX7_binOf_29 rfl ?_
        obtain ⟨hz, hyp⟩ := hyp
        refine z_idiv hz dX7_binOf_30 ?_
        refine z_iconst dX7_binOf_31 (r32d rfl) ?_
        refine cl_X7_23 dX7_binOf_32 rfl (Nat.le_of_ble_eq_true rfl) ?_
        exact z_iret dX7_binOf_35 rfl ⟨_, rfl, hyp⟩
      · have hyp := hyp.2 c_3
        refine z_iconst dX7_binOf_14 (r32d rfl) ?_
        exact z_iret dX7_binOf_15 rfl ⟨_, rfl, hyp⟩
set_option maxRecDepth 20000 in
theorem eX7_lumpsOfBestUnit {E : zE} (hE : isC E) {q : Nat} (hq : isSi E q) {d : Nat} {x1 x2 x3 x4 : Int} {h : zH} {K : Int → zH → Prop} (hyp :
  zCI E mX7_bestUnit d [zR q, zI x1, zI x2, zI x3, zI x4] h (fun r_1 h_1 =>
    zCI E mX9_placesOf d [zI r_1, zI x4] h_1 (fun r_2 h_2 =>
      zCI E mX7_sumOfLumps d [zR q, zI r_2] h_2 (fun r_3 h_3 =>
        K r_3 h_3)))) :
  zCI E mX7_lumpsOfBestUnit (d + 1) [zR q, zI x1, zI x2, zI x3, zI x4] h K := by
  refine zC_in (L0 := [zR q, zI x1, zI x2, zI x3, zI x4]) pn_X7 rfl (Nat.le_of_ble_eq_true rfl) ?_
  refine z_aload_n dX7_lumpsOfBestUnit_0 rfl ?_
  refine z_aload_n dX7_lumpsOfBestUnit_1 rfl ?_
  refine z_iload_n dX7_lumpsOfBestUnit_2 rfl ?_
  refine z_iload_n dX7_lumpsOfBestUnit_3 rfl ?_
  refine z_iload_n dX7_lumpsOfBestUnit_4 rfl ?_
  refine z_iload dX7_lumpsOfBestUnit_5 rfl ?_
  refine cl_X7_43 dX7_lumpsOfBestUnit_7 rfl ((hq.2.1)) (Nat.lt_of_le_of_lt (Nat.le_add_right q 1) hq.1) (Nat.le_of_ble_eq_true rfl) (zC_mono ?_ hyp)
  rintro _ h_1 ⟨r_1, rfl, hyp⟩
  refine ⟨r_1, rfl, ?_⟩
  refine z_iload dX7_lumpsOfBestUnit_10 rfl ?_
  refine cl_X7_35 dX7_lumpsOfBestUnit_12 rfl (Nat.le_of_ble_eq_true rfl) (zC_mono ?_ hyp)
  rintro _ h_2 ⟨r_2, rfl, hyp⟩
  refine ⟨r_2, rfl, ?_⟩
  refine cl_X7_39 dX7_lumpsOfBestUnit_15 rfl ((hq.2.1)) (Nat.lt_of_le_of_lt (Nat.le_add_right q 1) hq.1) (Nat.le_of_ble_eq_true rfl) (zC_mono ?_ hyp)
  rintro _ h_3 ⟨r_3, rfl, hyp⟩
  refine ⟨r_3, rfl, ?_⟩
  exact z_iret dX7_lumpsOfBestUnit_18 rfl ⟨_, rfl, hyp⟩
set_option maxRecDepth 20000 in
theorem eX7_put {E : zE} (hE : isC E) {q : Nat} (hq : isSi E q) {d : Nat} {x1 : Int} {h : zH} {K : zH → Prop} (hyp :
  ((8 ≤ (h q 1) →
    K h) ∧
  (¬ (8 ≤ (h q 1)) →
    ((0 : Int) ≤ h q 1 ∧ h q 1 < (8 : Int)) ∧
    ∀ h_2 : zH, h_2 = hset h (q + 1) ((h q 1).toNat) x1 →
    ∀ h_3 : zH, h_3 = hset h_2 q 1 (w32 ((h_2 q 1) + 1)) →
    K h_3))) :
  zCV E mX7_put d [zR q, zI x1] h K := by
  refine zC_in (L0 := [zR q, zI x1]) pn_X7 rfl (Nat.le_of_ble_eq_true rfl) ?_
  refine z_aload_n dX7_put_0 rfl ?_
  refine gf_X7_15 dX7_put_1 rfl ((hq.2.1)) (Nat.lt_of_le_of_lt (Nat.le_add_right q 1) hq.1) ?_
  refine z_bipush dX7_put_4 (r32d rfl) (by decide) ?_
  refine z_icmp_ge (tgt := 29) dX7_put_6 (by decide) (fun c_1 => ?_) (fun c_1 => ?_)
  · have hyp := hyp.1 c_1
    exact z_vret dX7_put_29 rfl ⟨rfl, hyp⟩
  · have hyp := hyp.2 c_1
    refine z_aload_n dX7_put_9 rfl ?_
    refine gf_X7_9 (c2 := (q + 1)) dX7_put_10 rfl ((hq.2.1)) (Nat.lt_of_le_of_lt (Nat.le_add_right q 1) hq.1) rfl ?_
    refine z_aload_n dX7_put_13 rfl ?_
    refine gf_X7_15 dX7_put_14 rfl ((hq.2.1)) (Nat.lt_of_le_of_lt (Nat.le_add_right q 1) hq.1) ?_
    refine z_iload_n dX7_put_17 rfl ?_
    obtain ⟨⟨hi0, hi1⟩, hyp⟩ := hyp
    refine z_iastore dX7_put_18 ((hq.2.2)) (Nat.lt_of_le_of_lt (Nat.add_le_add_left (Nat.le_of_ble_eq_true rfl : 1 ≤ 1) q) hq.1) hi0 hi1 ?_
    generalize eh_2 : hset h (q + 1) _ x1 = h_2
    have hyp := hyp h_2 eh_2.symm
    refine z_aload_n dX7_put_19 rfl ?_
    refine z_dup dX7_put_20 rfl ?_
    refine gf_X7_15 dX7_put_21 rfl ((hq.2.1)) (Nat.lt_of_le_of_lt (Nat.le_add_right q 1) hq.1) ?_
    refine z_iconst dX7_put_24 (r32d rfl) ?_
    refine z_iadd dX7_put_25 ?_
    refine pf_X7_15 dX7_put_26 rfl ((hq.2.1)) (Nat.lt_of_le_of_lt (Nat.le_add_right q 1) hq.1) ?_
    generalize eh_3 : hset h_2 q 1 _ = h_3
    have hyp := hyp h_3 eh_3.symm
    exact z_vret dX7_put_29 rfl ⟨rfl, hyp⟩
set_option maxRecDepth 20000 in
theorem bX7_sumOfLumps_4 {E : zE} (hE : isC E) {q : Nat} (hq : isSi E q) {d : Nat} {x1 x2 x3 : Int} {h : zH} {K : Int → zH → Prop} (hyp :
  (((h q 1) ≤ x3 →
    K x2 h) ∧
  (¬ ((h q 1) ≤ x3) →
    ((x1 ≤ 0 →
      K x2 h) ∧
    (¬ (x1 ≤ 0) →
      ((0 : Int) ≤ x3 ∧ x3 < (8 : Int)) ∧
      zCI E mX9_offBy d [zI (h (q + 1) x3.toNat), zI x1] h (fun r_3 h_3 =>
        ¬ x1 = 0 ∧
        ∀ x_4 : Int, x_4 = w32 (x2 + (w32 (Int.tdiv (w32 (4000 * r_3)) x1))) →
        ∀ x_5 : Int, x_5 = w32 (x3 + 1) →
        zG E mX7_sumOfLumps (d + 1) 4 [zR q, zI x1, zI x_4, zI x_5] [] h_3 (qI K))))))) :
  zG E mX7_sumOfLumps (d + 1) 4 [zR q, zI x1, zI x2, zI x3] [] h (qI K) := by
  refine z_iload_n dX7_sumOfLumps_4 rfl ?_
  refine z_aload_n dX7_sumOfLumps_5 rfl ?_
  refine gf_X7_15 dX7_sumOfLumps_6 rfl ((hq.2.1)) (Nat.lt_of_le_of_lt (Nat.le_add_right q 1) hq.1) ?_
  refine z_icmp_ge (tgt := 41) dX7_sumOfLumps_9 (by decide) (fun c_1 => ?_) (fun c_1 => ?_)
  · have hyp := hyp.1 c_1
    refine z_iload_n dX7_sumOfLumps_41 rfl ?_
    exact z_iret dX7_sumOfLumps_42 rfl ⟨_, rfl, hyp⟩
  · have hyp := hyp.2 c_1
    refine z_iload_n dX7_sumOfLumps_12 rfl ?_
    refine z_if_le (tgt := 41) dX7_sumOfLumps_13 (by decide) (fun c_2 => ?_) (fun c_2 => ?_)
    · have hyp := hyp.1 c_2
      refine z_iload_n dX7_sumOfLumps_41 rfl ?_
      exact z_iret dX7_sumOfLumps_42 rfl ⟨_, rfl, hyp⟩
    · have hyp := hyp.2 c_2
      refine z_iload_n dX7_sumOfLumps_16 rfl ?_
      refine z_sipush dX7_sumOfLumps_17 (r32d rfl) (by decide) ?_
      refine z_aload_n dX7_sumOfLumps_20 rfl ?_
      refine gf_X7_9 (c2 := (q + 1)) dX7_sumOfLumps_21 rfl ((hq.2.1)) (Nat.lt_of_le_of_lt (Nat.le_add_right q 1) hq.1) rfl ?_
      refine z_iload_n dX7_sumOfLumps_24 rfl ?_
      obtain ⟨⟨hi0, hi1⟩, hyp⟩ := hyp
      refine z_iaload dX7_sumOfLumps_25 ((hq.2.2)) (Nat.lt_of_le_of_lt (Nat.add_le_add_left (Nat.le_of_ble_eq_true rfl : 1 ≤ 1) q) hq.1) hi0 hi1 ?_
      refine z_iload_n dX7_sumOfLumps_26 rfl ?_
      refine cl_X7_19 dX7_sumOfLumps_27 rfl (Nat.le_of_ble_eq_true rfl) (zC_mono ?_ hyp)
      rintro _ h_3 ⟨r_3, rfl, hyp⟩
      refine ⟨r_3, rfl, ?_⟩
      refine z_imul dX7_sumOfLumps_30 ?_
      refine z_iload_n dX7_sumOfLumps_31 rfl ?_
      obtain ⟨hz, hyp⟩ := hyp
      refine z_idiv hz dX7_sumOfLumps_32 ?_
      refine z_iadd dX7_sumOfLumps_33 ?_
      generalize ex_4 : w32 (x2 + (w32 (Int.tdiv (w32 (4000 * r_3)) x1))) = x_4
      have hyp := hyp x_4 ex_4.symm
      refine z_istore_n dX7_sumOfLumps_34 rfl (by decide) rfl ?_
      refine z_iinc dX7_sumOfLumps_35 rfl (by decide) rfl ?_
      generalize ex_5 : w32 (x3 + 1) = x_5
      have hyp := hyp x_5 ex_5.symm
      refine z_goto (tgt := 4) dX7_sumOfLumps_38 (by decide) ?_
      exact hyp
set_option maxRecDepth 20000 in
theorem eX7_sumOfLumps {E : zE} (hE : isC E) {q : Nat} (hq : isSi E q) {d : Nat} {x1 : Int} {h : zH} {K : Int → zH → Prop} (hyp :
  zG E mX7_sumOfLumps (d + 1) 4 [zR q, zI x1, zI 0, zI 0] [] h (qI K)) :
  zCI E mX7_sumOfLumps (d + 1) [zR q, zI x1] h K := by
  refine zC_in (L0 := [zR q, zI x1, zU, zU]) pn_X7 rfl (Nat.le_of_ble_eq_true rfl) ?_
  refine z_iconst dX7_sumOfLumps_0 (r32d rfl) ?_
  refine z_istore_n dX7_sumOfLumps_1 rfl (by decide) rfl ?_
  refine z_iconst dX7_sumOfLumps_2 (r32d rfl) ?_
  refine z_istore_n dX7_sumOfLumps_3 rfl (by decide) rfl ?_
  exact hyp
