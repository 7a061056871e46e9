set_option maxRecDepth 20000 in
theorem bX2_find_2 {E : zE} (hE : isC E) {q nq : Nat} (hq : isNm E q nq) {d : Nat} {x1 x2 : Int} {h : zH} {K : Int → zH → Prop} (hyp :
  (((h q 1) ≤ x2 →
    K (-1) h) ∧
  (¬ ((h q 1) ≤ x2) →
    (((nq : Int) ≤ x2 →
      K (-1) h) ∧
    (¬ ((nq : Int) ≤ x2) →
      ((0 : Int) ≤ x2 ∧ x2 < (nq : Int)) ∧
      (((h (q + 1) x2.toNat) ≠ x1 →
        ∀ x_4 : Int, x_4 = w32 (x2 + 1) →
        zG E mX2_find d 2 [zR q, zI x1, zI x_4] [] h (qI K)) ∧
      (¬ ((h (q + 1) x2.toNat) ≠ x1) →
        K x2 h))))))) :
  zG E mX2_find d 2 [zR q, zI x1, zI x2] [] h (qI K) := by
  refine z_iload_n dX2_find_2 rfl ?_
  refine z_aload_n dX2_find_3 rfl ?_
  refine gf_X2_9 dX2_find_4 rfl ((hq.2.1)) (Nat.lt_of_le_of_lt (Nat.le_add_right q 1) hq.1) ?_
  refine z_icmp_ge (tgt := 37) dX2_find_7 (by decide) (fun c_1 => ?_) (fun c_1 => ?_)
  · have hyp := hyp.1 c_1
    refine z_iconst dX2_find_37 (r32d rfl) ?_
    exact z_iret dX2_find_38 rfl ⟨_, rfl, hyp⟩
  · have hyp := hyp.2 c_1
    refine z_iload_n dX2_find_10 rfl ?_
    refine z_aload_n dX2_find_11 rfl ?_
    refine gf_X2_21 (c2 := (q + 1)) dX2_find_12 rfl ((hq.2.1)) (Nat.lt_of_le_of_lt (Nat.le_add_right q 1) hq.1) rfl ?_
    refine z_alen dX2_find_15 ((hq.2.2.1)) (by decide) (by decide) (Nat.lt_of_le_of_lt hq.2.2.2 (by decide)) (Nat.lt_of_le_of_lt (Nat.add_le_add_left (Nat.le_of_ble_eq_true rfl : 1 ≤ 1) q) hq.1) ?_
    refine z_icmp_ge (tgt := 37) dX2_find_16 (by decide) (fun c_2 => ?_) (fun c_2 => ?_)
    · have hyp := hyp.1 c_2
      refine z_iconst dX2_find_37 (r32d rfl) ?_
      exact z_iret dX2_find_38 rfl ⟨_, rfl, hyp⟩
    · have hyp := hyp.2 c_2
      refine z_aload_n dX2_find_19 rfl ?_
      refine gf_X2_21 (c2 := (q + 1)) dX2_find_20 rfl ((hq.2.1)) (Nat.lt_of_le_of_lt (Nat.le_add_right q 1) hq.1) rfl ?_
      refine z_iload_n dX2_find_23 rfl ?_
      obtain ⟨⟨hi0, hi1⟩, hyp⟩ := hyp
      refine z_iaload dX2_find_24 ((hq.2.2.1)) (Nat.lt_of_le_of_lt (Nat.add_le_add_left (Nat.le_of_ble_eq_true rfl : 1 ≤ 1) q) hq.1) hi0 hi1 ?_
      refine z_iload_n dX2_find_25 rfl ?_
      refine z_icmp_ne (tgt := 31) dX2_find_26 (by decide) (fun c_3 => ?_) (fun c_3 => ?_)
      · have hyp := hyp.1 c_3
        refine z_iinc dX2_find_31 rfl (by decide) rfl ?_
        generalize ex_4 : w32 (x2 + 1) = x_4
        have hyp := hyp x_4 ex_4.symm
        refine z_goto (tgt := 2) dX2_find_34 (by decide) ?_
        exact hyp
      · have hyp := hyp.2 c_3
        refine z_iload_n dX2_find_29 rfl ?_
        exact z_iret dX2_find_30 rfl ⟨_, rfl, hyp⟩
set_option maxRecDepth 20000 in
theorem eX2_find {E : zE} (hE : isC E) {q nq : Nat} (hq : isNm E q nq) {d : Nat} {x1 : Int} {h : zH} {K : Int → zH → Prop} (hyp :
  zG E mX2_find d 2 [zR q, zI x1, zI 0] [] h (qI K)) :
  zCI E mX2_find d [zR q, zI x1] h K := by
  refine zC_in (L0 := [zR q, zI x1, zU]) pn_X2 rfl (Nat.le_of_ble_eq_true rfl) ?_
  refine z_iconst dX2_find_0 (r32d rfl) ?_
  refine z_istore_n dX2_find_1 rfl (by decide) rfl ?_
  exact hyp
set_option maxRecDepth 20000 in
theorem eX2_isFull {E : zE} (hE : isC E) {q nq : Nat} (hq : isNm E q nq) {d : Nat} {h : zH} {K : Int → zH → Prop} (hyp :
  (((h q 1) < (nq : Int) →
    K 0 h) ∧
  (¬ ((h q 1) < (nq : Int)) →
    K 1 h))) :
  zCI E mX2_isFull d [zR q] h K := by
  refine zC_in (L0 := [zR q]) pn_X2 rfl (Nat.le_of_ble_eq_true rfl) ?_
  refine z_aload_n dX2_isFull_0 rfl ?_
  refine gf_X2_9 dX2_isFull_1 rfl ((hq.2.1)) (Nat.lt_of_le_of_lt (Nat.le_add_right q 1) hq.1) ?_
  refine z_aload_n dX2_isFull_4 rfl ?_
  refine gf_X2_21 (c2 := (q + 1)) dX2_isFull_5 rfl ((hq.2.1)) (Nat.lt_of_le_of_lt (Nat.le_add_right q 1) hq.1) rfl ?_
  refine z_alen dX2_isFull_8 ((hq.2.2.1)) (by decide) (by decide) (Nat.lt_of_le_of_lt hq.2.2.2 (by decide)) (Nat.lt_of_le_of_lt (Nat.add_le_add_left (Nat.le_of_ble_eq_true rfl : 1 ≤ 1) q) hq.1) ?_
  refine z_icmp_lt (tgt := 16) dX2_isFull_9 (by decide) (fun c_1 => ?_) (fun c_1 => ?_)
  · have hyp := hyp.1 c_1
    refine z_iconst dX2_isFull_16 (r32d rfl) ?_
    exact z_zret dX2_isFull_17 rfl (Or.inl rfl) ⟨_, rfl, hyp⟩
  · have hyp := hyp.2 c_1
    refine z_iconst dX2_isFull_12 (r32d rfl) ?_
    refine z_goto (tgt := 17) dX2_isFull_13 (by decide) ?_
    exact z_zret dX2_isFull_17 rfl (Or.inr rfl) ⟨_, rfl, hyp⟩
set_option maxRecDepth 20000 in
theorem eX2_put {E : zE} (hE : isC E) {q nq : Nat} (hq : isNm E q nq) {d : Nat} {x1 : Int} {h : zH} {K : Int → zH → Prop} (hyp :
  zCI E mX2_isFull d [zR q] h (fun r_1 h_1 =>
    ((r_1 = 0 →
      ((0 : Int) ≤ h_1 q 1 ∧ h_1 q 1 < (nq : Int)) ∧
      ∀ h_3 : zH, h_3 = hset h_1 (q + 1) ((h_1 q 1).toNat) x1 →
      ∀ h_4 : zH, h_4 = hset h_3 q 1 (w32 ((h_3 q 1) + 1)) →
      K (w32 ((h_4 q 1) - 1)) h_4) ∧
    (¬ (r_1 = 0) →
      K (-1) h_1)))) :
  zCI E mX2_put (d + 1) [zR q, zI x1] h K := by
  refine zC_in (L0 := [zR q, zI x1]) pn_X2 rfl (Nat.le_of_ble_eq_true rfl) ?_
  refine z_aload_n dX2_put_0 rfl ?_
  refine cl_X2_25 dX2_put_1 rfl ((hq.2.1)) (Nat.lt_of_le_of_lt (Nat.le_add_right q 1) hq.1) (Nat.le_of_ble_eq_true rfl) (zC_mono ?_ hyp)
  rintro _ h_1 ⟨r_1, rfl, hyp⟩
  refine ⟨r_1, rfl, ?_⟩
  refine z_if_eq (tgt := 9) dX2_put_4 (by decide) (fun c_2 => ?_) (fun c_2 => ?_)
  · have hyp := hyp.1 c_2
    refine z_aload_n dX2_put_9 rfl ?_
    refine gf_X2_21 (c2 := (q + 1)) dX2_put_10 rfl ((hq.2.1)) (Nat.lt_of_le_of_lt (Nat.le_add_right q 1) hq.1) rfl ?_
    refine z_aload_n dX2_put_13 rfl ?_
    refine gf_X2_9 dX2_put_14 rfl ((hq.2.1)) (Nat.lt_of_le_of_lt (Nat.le_add_right q 1) hq.1) ?_
    refine z_iload_n dX2_put_17 rfl ?_
    obtain ⟨⟨hi0, hi1⟩, hyp⟩ := hyp
    refine z_iastore dX2_put_18 ((hq.2.2.1)) (Nat.lt_of_le_of_lt (Nat.add_le_add_left (Nat.le_of_ble_eq_true rfl : 1 ≤ 1) q) hq.1) hi0 hi1 ?_
    generalize eh_3 : hset h_1 (q + 1) _ x1 = h_3
    have hyp := hyp h_3 eh_3.symm
    refine z_aload_n dX2_put_19 rfl ?_
    refine z_dup dX2_put_20 rfl ?_
    refine gf_X2_9 dX2_put_21 rfl ((hq.2.1)) (Nat.lt_of_le_of_lt (Nat.le_add_right q 1) hq.1) ?_
    refine z_iconst dX2_put_24 (r32d rfl) ?_
    refine z_iadd dX2_put_25 ?_
    refine pf_X2_9 dX2_put_26 rfl ((hq.2.1)) (Nat.lt_of_le_of_lt (Nat.le_add_right q 1) hq.1) ?_
    generalize eh_4 : hset h_3 q 1 _ = h_4
    have hyp := hyp h_4 eh_4.symm
    refine z_aload_n dX2_put_29 rfl ?_
    refine gf_X2_9 dX2_put_30 rfl ((hq.2.1)) (Nat.lt_of_le_of_lt (Nat.le_add_right q 1) hq.1) ?_
    refine z_iconst dX2_put_33 (r32d rfl) ?_
    refine z_isub dX2_put_34 ?_
    exact z_iret dX2_put_35 rfl ⟨_, rfl, hyp⟩
  · have hyp := hyp.2 c_2
    refine z_iconst dX2_put_7 (r32d rfl) ?_
    exact z_iret dX2_put_8 rfl ⟨_, rfl, hyp⟩
