set_option maxRecDepth 20000 in
theorem bJ7_fill_53178_5 {E : zE}  {a0 na0 : Nat} (ha0 : zsh E a0 = (20, na0) ∧ a0 < zN E ∧ na0 < 2147483648) {d : Nat} {x1 x2 x3 : Int} {h : zH} {K : zH → Prop} (hyp :
  ((x3 ≤ x2 →
    K h) ∧
  (¬ (x3 ≤ x2) →
    ((0 : Int) ≤ x2 ∧ x2 < (na0 : Int)) ∧
    ∀ h_2 : zH, h_2 = hset h a0 (x2.toNat) x1 →
    ∀ x_3 : Int, x_3 = w32 (x2 + 1) →
    zG E mJ7_fill_53178 d 5 [zR a0, zI x1, zI x_3, zI x3] [] h_2 (qV K)))) :
  zG E mJ7_fill_53178 d 5 [zR a0, zI x1, zI x2, zI x3] [] h (qV K) := by
  refine z_iload_n dJ7_fill_53178_5 rfl ?_
  refine z_iload_n dJ7_fill_53178_6 rfl ?_
  refine z_icmp_ge (tgt := 20) dJ7_fill_53178_7 (by decide) (fun c_1 => ?_) (fun c_1 => ?_)
  · have hyp := hyp.1 c_1
    exact z_vret dJ7_fill_53178_20 rfl ⟨rfl, hyp⟩
  · have hyp := hyp.2 c_1
    refine z_aload_n dJ7_fill_53178_10 rfl ?_
    refine z_iload_n dJ7_fill_53178_11 rfl ?_
    refine z_iload_n dJ7_fill_53178_12 rfl ?_
    obtain ⟨⟨hi0, hi1⟩, hyp⟩ := hyp
    refine z_iastore dJ7_fill_53178_13 (ha0.1) (ha0.2.1) hi0 hi1 ?_
    generalize eh_2 : hset h a0 _ x1 = h_2
    have hyp := hyp h_2 eh_2.symm
    refine z_iinc dJ7_fill_53178_14 rfl (by decide) rfl ?_
    generalize ex_3 : w32 (x2 + 1) = x_3
    have hyp := hyp x_3 ex_3.symm
    refine z_goto (tgt := 5) dJ7_fill_53178_17 (by decide) ?_
    exact hyp
set_option maxRecDepth 20000 in
theorem eJ7_fill_53178 {E : zE}  {a0 na0 : Nat} (ha0 : zsh E a0 = (20, na0) ∧ a0 < zN E ∧ na0 < 2147483648) {d : Nat} {x1 : Int} {h : zH} {K : zH → Prop} (hyp :
  ∀ x_1 : Int, x_1 = (na0 : Int) →
  zG E mJ7_fill_53178 d 5 [zR a0, zI x1, zI 0, zI x_1] [] h (qV K)) :
  zCV E mJ7_fill_53178 d [zR a0, zI x1] h K := by
  refine zC_in (L0 := [zR a0, zI x1, zU, zU]) pn_J7 rfl (Nat.le_of_ble_eq_true rfl) ?_
  refine z_iconst dJ7_fill_53178_0 (r32d rfl) ?_
  refine z_istore_n dJ7_fill_53178_1 rfl (by decide) rfl ?_
  refine z_aload_n dJ7_fill_53178_2 rfl ?_
  refine z_alen dJ7_fill_53178_3 (ha0.1) (by decide) (by decide) ha0.2.2 (ha0.2.1) ?_
  generalize ex_1 : (na0 : Int) = x_1
  have hyp := hyp x_1 ex_1.symm
  refine z_istore_n dJ7_fill_53178_4 rfl (by decide) rfl ?_
  exact hyp
set_option maxRecDepth 20000 in
theorem bJ7_fill_d0a16_6 {E : zE}  {a0 na0 : Nat} (ha0 : zsh E a0 = (23, na0) ∧ a0 < zN E ∧ na0 < 2147483648) {d : Nat} {y1 x3 x4 : Int} {h : zH} {K : zH → Prop} (hyp :
  ((x4 ≤ x3 →
    K h) ∧
  (¬ (x4 ≤ x3) →
    ((0 : Int) ≤ x3 ∧ x3 < (na0 : Int)) ∧
    ∀ h_2 : zH, h_2 = hset h a0 (x3.toNat) y1 →
    ∀ x_3 : Int, x_3 = w32 (x3 + 1) →
    zG E mJ7_fill_d0a16 d 6 [zR a0, zJ y1, zU, zI x_3, zI x4] [] h_2 (qV K)))) :
  zG E mJ7_fill_d0a16 d 6 [zR a0, zJ y1, zU, zI x3, zI x4] [] h (qV K) := by
  refine z_iload_n dJ7_fill_d0a16_6 rfl ?_
  refine z_iload dJ7_fill_d0a16_7 rfl ?_
  refine z_icmp_ge (tgt := 22) dJ7_fill_d0a16_9 (by decide) (fun c_1 => ?_) (fun c_1 => ?_)
  · have hyp := hyp.1 c_1
    exact z_vret dJ7_fill_d0a16_22 rfl ⟨rfl, hyp⟩
  · have hyp := hyp.2 c_1
    refine z_aload_n dJ7_fill_d0a16_12 rfl ?_
    refine z_iload_n dJ7_fill_d0a16_13 rfl ?_
    refine z_lload_n dJ7_fill_d0a16_14 rfl ?_
    obtain ⟨⟨hi0, hi1⟩, hyp⟩ := hyp
    refine z_lastore dJ7_fill_d0a16_15 (ha0.1) (ha0.2.1) hi0 hi1 ?_
    generalize eh_2 : hset h a0 _ y1 = h_2
    have hyp := hyp h_2 eh_2.symm
    refine z_iinc dJ7_fill_d0a16_16 rfl (by decide) rfl ?_
    generalize ex_3 : w32 (x3 + 1) = x_3
    have hyp := hyp x_3 ex_3.symm
    refine z_goto (tgt := 6) dJ7_fill_d0a16_19 (by decide) ?_
    exact hyp
set_option maxRecDepth 20000 in
theorem eJ7_fill_d0a16 {E : zE}  {a0 na0 : Nat} (ha0 : zsh E a0 = (23, na0) ∧ a0 < zN E ∧ na0 < 2147483648) {d : Nat} {y1 : Int} {h : zH} {K : zH → Prop} (hyp :
  ∀ x_1 : Int, x_1 = (na0 : Int) →
  zG E mJ7_fill_d0a16 d 6 [zR a0, zJ y1, zU, zI 0, zI x_1] [] h (qV K)) :
  zCV E mJ7_fill_d0a16 d [zR a0, zJ y1] h K := by
  refine zC_in (L0 := [zR a0, zJ y1, zU, zU, zU]) pn_J7 rfl (Nat.le_of_ble_eq_true rfl) ?_
  refine z_iconst dJ7_fill_d0a16_0 (r32d rfl) ?_
  refine z_istore_n dJ7_fill_d0a16_1 rfl (by decide) rfl ?_
  refine z_aload_n dJ7_fill_d0a16_2 rfl ?_
  refine z_alen dJ7_fill_d0a16_3 (ha0.1) (by decide) (by decide) ha0.2.2 (ha0.2.1) ?_
  generalize ex_1 : (na0 : Int) = x_1
  have hyp := hyp x_1 ex_1.symm
  refine z_istore dJ7_fill_d0a16_4 (by decide) rfl ?_
  exact hyp
