set_option maxRecDepth 20000 in
theorem bX0_awayBy_12 {E : zE} (hE : isC E) {q : Nat} (hq : isFi E q) {d : Nat} {x1 x2 x3 x4 s0 : Int} {h : zH} {K : Int → zH → Prop} (hyp :
  ∀ x_1 : Int, x_1 = w32 (Int.tmod x2 4) →
  ((x2 = 0 →
    zG E mX0_awayBy (d + 1) 126 [zR q, zI x1, zI x2, zU, zU, zU, zU, zI x3, zI x4] [] h (qJ K)) ∧
  (¬ (x2 = 0) →
    ((x_1 ≠ 0 →
      zG E mX0_awayBy (d + 1) 39 [zR q, zI x1, zI x2, zI x3, zI x4, zI s0, zI x_1, zI x3, zI x4] [] h (qJ K)) ∧
    (¬ (x_1 ≠ 0) →
      ((0 < x3 →
        zG E mX0_awayBy (d + 1) 49 [zR q, zI x1, zI x2, zI x3, zU, zI s0, zU, zU, zI x4] [] h (qJ K)) ∧
      (¬ (0 < x3) →
        zG E mX0_awayBy (d + 1) 39 [zR q, zI x1, zI x2, zI x3, zI x4, zI s0, zI x_1, zI x3, zI x4] [] h (qJ K)))))))) :
  zG E mX0_awayBy (d + 1) 12 [zR q, zI x1, zI x2, zI x3, zI x4, zU, zU, zU, zU] [zI s0] h (qJ K) := by
  refine z_istore dX0_awayBy_12 (by decide) rfl ?_
  refine z_iload_n dX0_awayBy_14 rfl ?_
  refine z_iconst dX0_awayBy_15 (r32d rfl) ?_
  refine z_irem (by decide) dX0_awayBy_16 ?_
  generalize ex_1 : w32 (Int.tmod x2 4) = x_1
  have hyp := hyp x_1 ex_1.symm
  refine z_istore dX0_awayBy_17 (by decide) rfl ?_
  refine z_iload_n dX0_awayBy_19 rfl ?_
  refine z_istore dX0_awayBy_20 (by decide) rfl ?_
  refine z_iload dX0_awayBy_22 rfl ?_
  refine z_istore dX0_awayBy_24 (by decide) rfl ?_
  refine z_iload_n dX0_awayBy_26 rfl ?_
  refine z_if_eq (tgt := 126) dX0_awayBy_27 (by decide) (fun c_2 => ?_) (fun c_2 => ?_)
  · have hyp := hyp.1 c_2
    exact z_forget [true, true, true, false, false, false, false, true, true] rfl hyp
  · have hyp := hyp.2 c_2
    refine z_iload dX0_awayBy_30 rfl ?_
    refine z_if_ne (tgt := 39) dX0_awayBy_32 (by decide) (fun c_3 => ?_) (fun c_3 => ?_)
    · have hyp := hyp.1 c_3
      exact hyp
    · have hyp := hyp.2 c_3
      refine z_iload_n dX0_awayBy_35 rfl ?_
      refine z_if_gt (tgt := 49) dX0_awayBy_36 (by decide) (fun c_4 => ?_) (fun c_4 => ?_)
      · have hyp := hyp.1 c_4
        exact z_forget [true, true, true, true, false, true, false, false, true] rfl hyp
      · have hyp := hyp.2 c_4
        exact hyp
set_option maxRecDepth 20000 in
theorem bX0_awayBy_39 {E : zE} (hE : isC E) {q : Nat} (hq : isFi E q) {d : Nat} {x1 x2 x3 x4 x5 x6 x7 x8 : Int} {h : zH} {K : Int → zH → Prop} (hyp :
  ((x6 ≠ 2 →
    ((x6 ≠ 1 →
      zG E mX0_awayBy (d + 1) 83 [zR q, zI x1, zI x2, zU, zI x4, zI x5, zI x6, zI x7, zU] [] h (qJ K)) ∧
    (¬ (x6 ≠ 1) →
      ((0 < x4 →
        zG E mX0_awayBy (d + 1) 94 [zR q, zI x1, zI x2, zU, zI x4, zI x5, zU, zI x7, zU] [] h (qJ K)) ∧
      (¬ (0 < x4) →
        zG E mX0_awayBy (d + 1) 83 [zR q, zI x1, zI x2, zU, zI x4, zI x5, zI x6, zI x7, zU] [] h (qJ K)))))) ∧
  (¬ (x6 ≠ 2) →
    ((0 ≤ x3 →
      ((x6 ≠ 1 →
        zG E mX0_awayBy (d + 1) 83 [zR q, zI x1, zI x2, zU, zI x4, zI x5, zI x6, zI x7, zU] [] h (qJ K)) ∧
      (¬ (x6 ≠ 1) →
        ((0 < x4 →
          zG E mX0_awayBy (d + 1) 94 [zR q, zI x1, zI x2, zU, zI x4, zI x5, zU, zI x7, zU] [] h (qJ K)) ∧
        (¬ (0 < x4) →
          zG E mX0_awayBy (d + 1) 83 [zR q, zI x1, zI x2, zU, zI x4, zI x5, zI x6, zI x7, zU] [] h (qJ K)))))) ∧
    (¬ (0 ≤ x3) →
      zG E mX0_awayBy (d + 1) 49 [zR q, zI x1, zI x2, zI x3, zU, zI x5, zU, zU, zI x8] [] h (qJ K)))))) :
  zG E mX0_awayBy (d + 1) 39 [zR q, zI x1, zI x2, zI x3, zI x4, zI x5, zI x6, zI x7, zI x8] [] h (qJ K) := by
  refine z_iload dX0_awayBy_39 rfl ?_
  refine z_iconst dX0_awayBy_41 (r32d rfl) ?_
  refine z_icmp_ne (tgt := 72) dX0_awayBy_42 (by decide) (fun c_1 => ?_) (fun c_1 => ?_)
  · have hyp := hyp.1 c_1
    refine z_iload dX0_awayBy_72 rfl ?_
    refine z_iconst dX0_awayBy_74 (r32d rfl) ?_
    refine z_icmp_ne (tgt := 83) dX0_awayBy_75 (by decide) (fun c_2 => ?_) (fun c_2 => ?_)
    · have hyp := hyp.1 c_2
      exact z_forget [true, true, true, false, true, true, true, true, false] rfl hyp
    · have hyp := hyp.2 c_2
      refine z_iload dX0_awayBy_78 rfl ?_
      refine z_if_gt (tgt := 94) dX0_awayBy_80 (by decide) (fun c_3 => ?_) (fun c_3 => ?_)
      · have hyp := hyp.1 c_3
        exact z_forget [true, true, true, false, true, true, false, true, false] rfl hyp
      · have hyp := hyp.2 c_3
        exact z_forget [true, true, true, false, true, true, true, true, false] rfl hyp
  · have hyp := hyp.2 c_1
    refine z_iload_n dX0_awayBy_45 rfl ?_
    refine z_if_ge (tgt := 72) dX0_awayBy_46 (by decide) (fun c_4 => ?_) (fun c_4 => ?_)
    · have hyp := hyp.1 c_4
      refine z_iload dX0_awayBy_72 rfl ?_
      refine z_iconst dX0_awayBy_74 (r32d rfl) ?_
      refine z_icmp_ne (tgt := 83) dX0_awayBy_75 (by decide) (fun c_5 => ?_) (fun c_5 => ?_)
      · have hyp := hyp.1 c_5
        exact z_forget [true, true, true, false, true, true, true, true, false] rfl hyp
      · have hyp := hyp.2 c_5
        refine z_iload dX0_awayBy_78 rfl ?_
        refine z_if_gt (tgt := 94) dX0_awayBy_80 (by decide) (fun c_6 => ?_) (fun c_6 => ?_)
        · have hyp := hyp.1 c_6
          exact z_forget [true, true, true, false, true, true, false, true, false] rfl hyp
        · have hyp := hyp.2 c_6
          exact z_forget [true, true, true, false, true, true, true, true, false] rfl hyp
    · have hyp := hyp.2 c_4
      exact z_forget [true, true, true, true, false, true, false, false, true] rfl hyp
set_option maxRecDepth 20000 in
theorem bX0_awayBy_49 {E : zE} (hE : isC E) {q : Nat} (hq : isFi E q) {d : Nat} {x1 x2 x3 x5 x8 : Int} {h : zH} {K : Int → zH → Prop} (hyp :
  ((x5 = 0 →
    ∀ x_2 : Int, x_2 = w32 (Int.tdiv (w32 (x3 * 3)) 4) →
    zG E mX0_awayBy (d + 1) 126 [zR q, zI x1, zI x2, zU, zU, zU, zU, zI x_2, zI x8] [] h (qJ K)) ∧
  (¬ (x5 = 0) →
    ∀ x_3 : Int, x_3 = w32 (Int.tdiv (w32 (x3 * 4)) 3) →
    zG E mX0_awayBy (d + 1) 126 [zR q, zI x1, zI x2, zU, zU, zU, zU, zI x_3, zI x8] [] h (qJ K)))) :
  zG E mX0_awayBy (d + 1) 49 [zR q, zI x1, zI x2, zI x3, zU, zI x5, zU, zU, zI x8] [] h (qJ K) := by
  refine z_iload dX0_awayBy_49 rfl ?_
  refine z_if_eq (tgt := 62) dX0_awayBy_51 (by decide) (fun c_1 => ?_) (fun c_1 => ?_)
  · have hyp := hyp.1 c_1
    refine z_iload_n dX0_awayBy_62 rfl ?_
    refine z_iconst dX0_awayBy_63 (r32d rfl) ?_
    refine z_imul dX0_awayBy_64 ?_
    refine z_iconst dX0_awayBy_65 (r32d rfl) ?_
    refine z_idiv (by decide) dX0_awayBy_66 ?_
    generalize ex_2 : w32 (Int.tdiv (w32 (x3 * 3)) 4) = x_2
    have hyp := hyp x_2 ex_2.symm
    refine z_istore dX0_awayBy_67 (by decide) rfl ?_
    refine z_goto (tgt := 126) dX0_awayBy_69 (by decide) ?_
    exact z_forget [true, true, true, false, false, false, false, true, true] rfl hyp
  · have hyp := hyp.2 c_1
    refine z_iload_n dX0_awayBy_54 rfl ?_
    refine z_iconst dX0_awayBy_55 (r32d rfl) ?_
    refine z_imul dX0_awayBy_56 ?_
    refine z_iconst dX0_awayBy_57 (r32d rfl) ?_
    refine z_idiv (by decide) dX0_awayBy_58 ?_
    refine z_goto (tgt := 67) dX0_awayBy_59 (by decide) ?_
    generalize ex_3 : w32 (Int.tdiv (w32 (x3 * 4)) 3) = x_3
    have hyp := hyp x_3 ex_3.symm
    refine z_istore dX0_awayBy_67 (by decide) rfl ?_
    refine z_goto (tgt := 126) dX0_awayBy_69 (by decide) ?_
    exact z_forget [true, true, true, false, false, false, false, true, true] rfl hyp
set_option maxRecDepth 20000 in
theorem bX0_awayBy_83 {E : zE} (hE : isC E) {q : Nat} (hq : isFi E q) {d : Nat} {x1 x2 x4 x5 x6 x7 : Int} {h : zH} {K : Int → zH → Prop} (hyp :
  ((x6 ≠ 3 →
    ((0 : Int) ≤ x1 ∧ x1 < (120 : Int)) ∧
    K (h (q + 11) x1.toNat) h) ∧
  (¬ (x6 ≠ 3) →
    ((0 ≤ x4 →
      ((0 : Int) ≤ x1 ∧ x1 < (120 : Int)) ∧
      K (h (q + 11) x1.toNat) h) ∧
    (¬ (0 ≤ x4) →
      zG E mX0_awayBy (d + 1) 94 [zR q, zI x1, zI x2, zU, zI x4, zI x5, zU, zI x7, zU] [] h (qJ K)))))) :
  zG E mX0_awayBy (d + 1) 83 [zR q, zI x1, zI x2, zU, zI x4, zI x5, zI x6, zI x7, zU] [] h (qJ K) := by
  refine z_iload dX0_awayBy_83 rfl ?_
  refine z_iconst dX0_awayBy_85 (r32d rfl) ?_
  refine z_icmp_ne (tgt := 119) dX0_awayBy_86 (by decide) (fun c_1 => ?_) (fun c_1 => ?_)
  · have hyp := hyp.1 c_1
    refine z_aload_n dX0_awayBy_119 rfl ?_
    refine gf_X0_42 (c2 := (q + 11)) dX0_awayBy_120 rfl ((hq.2.1)) (Nat.lt_of_le_of_lt (Nat.le_add_right q 11) hq.1) rfl ?_
    refine z_iload_n dX0_awayBy_123 rfl ?_
    obtain ⟨⟨hi0, hi1⟩, hyp⟩ := hyp
    refine z_laload dX0_awayBy_124 ((hq.2.2.2.2.2.2.2.2.2.2.2.2)) (Nat.lt_of_le_of_lt (Nat.add_le_add_left (Nat.le_of_ble_eq_true rfl : 11 ≤ 11) q) hq.1) hi0 hi1 ?_
    exact z_lret dX0_awayBy_125 rfl ⟨_, rfl, hyp⟩
  · have hyp := hyp.2 c_1
    refine z_iload dX0_awayBy_89 rfl ?_
    refine z_if_ge (tgt := 119) dX0_awayBy_91 (by decide) (fun c_2 => ?_) (fun c_2 => ?_)
    · have hyp := hyp.1 c_2
      refine z_aload_n dX0_awayBy_119 rfl ?_
      refine gf_X0_42 (c2 := (q + 11)) dX0_awayBy_120 rfl ((hq.2.1)) (Nat.lt_of_le_of_lt (Nat.le_add_right q 11) hq.1) rfl ?_
      refine z_iload_n dX0_awayBy_123 rfl ?_
      obtain ⟨⟨hi0, hi1⟩, hyp⟩ := hyp
      refine z_laload dX0_awayBy_124 ((hq.2.2.2.2.2.2.2.2.2.2.2.2)) (Nat.lt_of_le_of_lt (Nat.add_le_add_left (Nat.le_of_ble_eq_true rfl : 11 ≤ 11) q) hq.1) hi0 hi1 ?_
      exact z_lret dX0_awayBy_125 rfl ⟨_, rfl, hyp⟩
    · have hyp := hyp.2 c_2
      exact z_forget [true, true, true, false, true, true, false, true, false] rfl hyp
set_option maxRecDepth 20000 in
theorem bX0_awayBy_94 {E : zE} (hE : isC E) {q : Nat} (hq : isFi E q) {d : Nat} {x1 x2 x4 x5 x7 : Int} {h : zH} {K : Int → zH → Prop} (hyp :
  ((x5 = 0 →
    ∀ x_2 : Int, x_2 = w32 (Int.tdiv (w32 (x4 * 3)) 4) →
    zG E mX0_awayBy (d + 1) 126 [zR q, zI x1, zI x2, zU, zU, zU, zU, zI x7, zI x_2] [] h (qJ K)) ∧
  (¬ (x5 = 0) →
    ∀ x_3 : Int, x_3 = w32 (Int.tdiv (w32 (x4 * 4)) 3) →
    zG E mX0_awayBy (d + 1) 126 [zR q, zI x1, zI x2, zU, zU, zU, zU, zI x7, zI x_3] [] h (qJ K)))) :
  zG E mX0_awayBy (d + 1) 94 [zR q, zI x1, zI x2, zU, zI x4, zI x5, zU, zI x7, zU] [] h (qJ K) := by
  refine z_iload dX0_awayBy_94 rfl ?_
  refine z_if_eq (tgt := 108) dX0_awayBy_96 (by decide) (fun c_1 => ?_) (fun c_1 => ?_)
  · have hyp := hyp.1 c_1
    refine z_iload dX0_awayBy_108 rfl ?_
    refine z_iconst dX0_awayBy_110 (r32d rfl) ?_
    refine z_imul dX0_awayBy_111 ?_
    refine z_iconst dX0_awayBy_112 (r32d rfl) ?_
    refine z_idiv (by decide) dX0_awayBy_113 ?_
    generalize ex_2 : w32 (Int.tdiv (w32 (x4 * 3)) 4) = x_2
    have hyp := hyp x_2 ex_2.symm
    refine z_istore dX0_awayBy_114 (by decide) rfl ?_
    refine z_goto (tgt := 126) dX0_awayBy_116 (by decide) ?_
    exact z_forget [true, true, true, false, false, false, false, true, true] rfl hyp
  · have hyp := hyp.2 c_1
    refine z_iload dX0_awayBy_99 rfl ?_
    refine z_iconst dX0_awayBy_101 (r32d rfl) ?_
    refine z_imul dX0_awayBy_102 ?_
    refine z_iconst dX0_awayBy_103 (r32d rfl) ?_
    refine z_idiv (by decide) dX0_awayBy_104 ?_
    refine z_goto (tgt := 114) dX0_awayBy_105 (by decide) ?_
    generalize ex_3 : w32 (Int.tdiv (w32 (x4 * 4)) 3) = x_3
    have hyp := hyp x_3 ex_3.symm
    refine z_istore dX0_awayBy_114 (by decide) rfl ?_
    refine z_goto (tgt := 126) dX0_awayBy_116 (by decide) ?_
    exact z_forget [true, true, true, false, false, false, false, true, true] rfl hyp
set_option maxRecDepth 20000 in
theorem bX0_awayBy_126 {E : zE} (hE : isC E) {q : Nat} (hq : isFi E q) {d : Nat} {x1 x2 x7 x8 : Int} {h : zH} {K : Int → zH → Prop} (hyp :
  ((0 : Int) ≤ w32 ((w32 (x2 * 10)) + x1) ∧ w32 ((w32 (x2 * 10)) + x1) < (120 : Int)) ∧
  zCJ E mX9_rootOf d [zJ (w64 (10000 * (w32 ((w32 (x7 * x7)) + (w32 (x8 * x8)))))), zJ (h (q + 11) (w32 ((w32 (x2 * 10)) + x1)).toNat)] h (fun r_1 h_1 =>
    K r_1 h_1)) :
  zG E mX0_awayBy (d + 1) 126 [zR q, zI x1, zI x2, zU, zU, zU, zU, zI x7, zI x8] [] h (qJ K) := by
  refine z_ldc2 (x := 10000) dX0_awayBy_126 rfl wk_X0_140 (by decide) (r64d rfl) ?_
  refine z_iload dX0_awayBy_129 rfl ?_
  refine z_iload dX0_awayBy_131 rfl ?_
  refine z_imul dX0_awayBy_133 ?_
  refine z_iload dX0_awayBy_134 rfl ?_
  refine z_iload dX0_awayBy_136 rfl ?_
  refine z_imul dX0_awayBy_138 ?_
  refine z_iadd dX0_awayBy_139 ?_
  refine z_i2l dX0_awayBy_140 ?_
  refine z_lmul dX0_awayBy_141 ?_
  refine z_aload_n dX0_awayBy_142 rfl ?_
  refine gf_X0_42 (c2 := (q + 11)) dX0_awayBy_143 rfl ((hq.2.1)) (Nat.lt_of_le_of_lt (Nat.le_add_right q 11) hq.1) rfl ?_
  refine z_iload_n dX0_awayBy_146 rfl ?_
  refine z_bipush dX0_awayBy_147 (r32d rfl) (by decide) ?_
  refine z_imul dX0_awayBy_149 ?_
  refine z_iload_n dX0_awayBy_150 rfl ?_
  refine z_iadd dX0_awayBy_151 ?_
  obtain ⟨⟨hi0, hi1⟩, hyp⟩ := hyp
  refine z_laload dX0_awayBy_152 ((hq.2.2.2.2.2.2.2.2.2.2.2.2)) (Nat.lt_of_le_of_lt (Nat.add_le_add_left (Nat.le_of_ble_eq_true rfl : 11 ≤ 11) q) hq.1) hi0 hi1 ?_
  refine cl_X0_142 dX0_awayBy_153 rfl (Nat.le_of_ble_eq_true rfl) (zC_mono ?_ hyp)
  rintro _ h_1 ⟨r_1, rfl, hyp⟩
  refine ⟨r_1, rfl, ?_⟩
  exact z_lret dX0_awayBy_156 rfl ⟨_, rfl, hyp⟩
set_option maxRecDepth 20000 in
theorem eX0_awayBy {E : zE} (hE : isC E) {q : Nat} (hq : isFi E q) {d : Nat} {x1 x2 x3 x4 : Int} {h : zH} {K : Int → zH → Prop} (hyp :
  (((w32 (Int.tdiv x2 4)) ≠ 1 →
    zG E mX0_awayBy (d + 1) 12 [zR q, zI x1, zI x2, zI x3, zI x4, zU, zU, zU, zU] [zI 0] h (qJ K)) ∧
  (¬ ((w32 (Int.tdiv x2 4)) ≠ 1) →
    zG E mX0_awayBy (d + 1) 12 [zR q, zI x1, zI x2, zI x3, zI x4, zU, zU, zU, zU] [zI 1] h (qJ K)))) :
  zCJ E mX0_awayBy (d + 1) [zR q, zI x1, zI x2, zI x3, zI x4] h K := by
  refine zC_in (L0 := [zR q, zI x1, zI x2, zI x3, zI x4, zU, zU, zU, zU]) pn_X0 rfl (Nat.le_of_ble_eq_true rfl) ?_
  refine z_iload_n dX0_awayBy_0 rfl ?_
  refine z_iconst dX0_awayBy_1 (r32d rfl) ?_
  refine z_idiv (by decide) dX0_awayBy_2 ?_
  refine z_iconst dX0_awayBy_3 (r32d rfl) ?_
  refine z_icmp_ne (tgt := 11) dX0_awayBy_4 (by decide) (fun c_1 => ?_) (fun c_1 => ?_)
  · have hyp := hyp.1 c_1
    refine z_iconst dX0_awayBy_11 (r32d rfl) ?_
    exact hyp
  · have hyp := hyp.2 c_1
    refine z_iconst dX0_awayBy_7 (r32d rfl) ?_
    refine z_goto (tgt := 12) dX0_awayBy_8 (by decide) ?_
    exact hyp
set_option maxRecDepth 20000 in
theorem eX0_bestShape {E : zE} (hE : isC E) {q : Nat} (hq : isFi E q) {d : Nat} {x1 : Int} {h : zH} {K : Int → zH → Prop} (hyp :
  zCI E mX0_isFitted d [zR q, zI x1] h (fun r_1 h_1 =>
    ((r_1 ≠ 0 →
      zCV E mX0_workOut d [zR q, zI x1] h_1 (fun h_3 =>
        ((0 : Int) ≤ x1 ∧ x1 < (8 : Int)) ∧
        K (h_3 (q + 6) x1.toNat) h_3)) ∧
    (¬ (r_1 ≠ 0) →
      K (-1) h_1)))) :
  zCI E mX0_bestShape (d + 1) [zR q, zI x1] h K := by
  refine zC_in (L0 := [zR q, zI x1]) pn_X0 rfl (Nat.le_of_ble_eq_true rfl) ?_
  refine z_aload_n dX0_bestShape_0 rfl ?_
  refine z_iload_n dX0_bestShape_1 rfl ?_
  refine cl_X0_90 dX0_bestShape_2 rfl ((hq.2.1)) (Nat.lt_of_le_of_lt (Nat.le_add_right q 11) hq.1) (Nat.le_of_ble_eq_true rfl) (zC_mono ?_ hyp)
  rintro _ h_1 ⟨r_1, rfl, hyp⟩
  refine ⟨r_1, rfl, ?_⟩
  refine z_if_ne (tgt := 10) dX0_bestShape_5 (by decide) (fun c_2 => ?_) (fun c_2 => ?_)
  · have hyp := hyp.1 c_2
    refine z_aload_n dX0_bestShape_10 rfl ?_
    refine z_iload_n dX0_bestShape_11 rfl ?_
    refine cl_X0_96 dX0_bestShape_12 rfl ((hq.2.1)) (Nat.lt_of_le_of_lt (Nat.le_add_right q 11) hq.1) (Nat.le_of_ble_eq_true rfl) (zC_mono ?_ hyp)
    rintro _ h_3 ⟨rfl, hyp⟩
    refine ⟨rfl, ?_⟩
    refine z_aload_n dX0_bestShape_15 rfl ?_
    refine gf_X0_27 (c2 := (q + 6)) dX0_bestShape_16 rfl ((hq.2.1)) (Nat.lt_of_le_of_lt (Nat.le_add_right q 11) hq.1) rfl ?_
    refine z_iload_n dX0_bestShape_19 rfl ?_
    obtain ⟨⟨hi0, hi1⟩, hyp⟩ := hyp
    refine z_iaload dX0_bestShape_20 ((hq.2.2.2.2.2.2.2.1)) (Nat.lt_of_le_of_lt (Nat.add_le_add_left (Nat.le_of_ble_eq_true rfl : 6 ≤ 11) q) hq.1) hi0 hi1 ?_
    exact z_iret dX0_bestShape_21 rfl ⟨_, rfl, hyp⟩
  · have hyp := hyp.2 c_2
    refine z_iconst dX0_bestShape_8 (r32d rfl) ?_
    exact z_iret dX0_bestShape_9 rfl ⟨_, rfl, hyp⟩
set_option maxRecDepth 20000 in
theorem eX0_bestSize {E : zE} (hE : isC E) {q : Nat} (hq : isFi E q) {d : Nat} {x1 : Int} {h : zH} {K : Int → zH → Prop} (hyp :
  zCI E mX0_isFitted d [zR q, zI x1] h (fun r_1 h_1 =>
    ((r_1 ≠ 0 →
      zCV E mX0_workOut d [zR q, zI x1] h_1 (fun h_3 =>
        ((0 : Int) ≤ x1 ∧ x1 < (8 : Int)) ∧
        ((0 : Int) ≤ w32 ((w32 (x1 * 12)) + (h_3 (q + 6) x1.toNat)) ∧ w32 ((w32 (x1 * 12)) + (h_3 (q + 6) x1.toNat)) < (96 : Int)) ∧
        K (h_3 (q + 7) (w32 ((w32 (x1 * 12)) + (h_3 (q + 6) x1.toNat))).toNat) h_3)) ∧
    (¬ (r_1 ≠ 0) →
      K (-1) h_1)))) :
  zCI E mX0_bestSize (d + 1) [zR q, zI x1] h K := by
  refine zC_in (L0 := [zR q, zI x1]) pn_X0 rfl (Nat.le_of_ble_eq_true rfl) ?_
  refine z_aload_n dX0_bestSize_0 rfl ?_
  refine z_iload_n dX0_bestSize_1 rfl ?_
  refine cl_X0_90 dX0_bestSize_2 rfl ((hq.2.1)) (Nat.lt_of_le_of_lt (Nat.le_add_right q 11) hq.1) (Nat.le_of_ble_eq_true rfl) (zC_mono ?_ hyp)
  rintro _ h_1 ⟨r_1, rfl, hyp⟩
  refine ⟨r_1, rfl, ?_⟩
  refine z_if_ne (tgt := 10) dX0_bestSize_5 (by decide) (fun c_2 => ?_) (fun c_2 => ?_)
  · have hyp := hyp.1 c_2
    refine z_aload_n dX0_bestSize_10 rfl ?_
    refine z_iload_n dX0_bestSize_11 rfl ?_
    refine cl_X0_96 dX0_bestSize_12 rfl ((hq.2.1)) (Nat.lt_of_le_of_lt (Nat.le_add_right q 11) hq.1) (Nat.le_of_ble_eq_true rfl) (zC_mono ?_ hyp)
    rintro _ h_3 ⟨rfl, hyp⟩
    refine ⟨rfl, ?_⟩
    refine z_aload_n dX0_bestSize_15 rfl ?_
    refine gf_X0_30 (c2 := (q + 7)) dX0_bestSize_16 rfl ((hq.2.1)) (Nat.lt_of_le_of_lt (Nat.le_add_right q 11) hq.1) rfl ?_
    refine z_iload_n dX0_bestSize_19 rfl ?_
    refine z_bipush dX0_bestSize_20 (r32d rfl) (by decide) ?_
    refine z_imul dX0_bestSize_22 ?_
    refine z_aload_n dX0_bestSize_23 rfl ?_
    refine gf_X0_27 (c2 := (q + 6)) dX0_bestSize_24 rfl ((hq.2.1)) (Nat.lt_of_le_of_lt (Nat.le_add_right q 11) hq.1) rfl ?_
    refine z_iload_n dX0_bestSize_27 rfl ?_
    obtain ⟨⟨hi0, hi1⟩, hyp⟩ := hyp
    refine z_iaload dX0_bestSize_28 ((hq.2.2.2.2.2.2.2.1)) (Nat.lt_of_le_of_lt (Nat.add_le_add_left (Nat.le_of_ble_eq_true rfl : 6 ≤ 11) q) hq.1) hi0 hi1 ?_
    refine z_iadd dX0_bestSize_29 ?_
    obtain ⟨⟨hi0, hi1⟩, hyp⟩ := hyp
    refine z_iaload dX0_bestSize_30 ((hq.2.2.2.2.2.2.2.2.1)) (Nat.lt_of_le_of_lt (Nat.add_le_add_left (Nat.le_of_ble_eq_true rfl : 7 ≤ 11) q) hq.1) hi0 hi1 ?_
    exact z_iret dX0_bestSize_31 rfl ⟨_, rfl, hyp⟩
  · have hyp := hyp.2 c_2
    refine z_iconst dX0_bestSize_8 (r32d rfl) ?_
    exact z_iret dX0_bestSize_9 rfl ⟨_, rfl, hyp⟩
set_option maxRecDepth 20000 in
theorem bX0_edgeOfSpan_14 {E : zE} (hE : isC E) {q : Nat} (hq : isFi E q) {d : Nat} {x1 x3 x4 x5 x6 : Int} {h : zH} {K : Int → zH → Prop} (hyp :
  ((12 ≤ x6 →
    K x5 h) ∧
  (¬ (12 ≤ x6) →
    (((zand (zshr x4 x6) 1) ≠ 0 →
      ((0 : Int) ≤ w32 ((w32 (x1 * 12)) + x6) ∧ w32 ((w32 (x1 * 12)) + x6) < (96 : Int)) ∧
      ∀ x_3 : Int, x_3 = h (q + 7) (w32 ((w32 (x1 * 12)) + x6)).toNat →
      ((x5 = (-1) →
        ∀ x_5 : Int, x_5 = w32 (x6 + 1) →
        zG E mX0_edgeOfSpan (d + 1) 14 [zR q, zI x1, zU, zI x3, zI x4, zI x_3, zI x_5, zU] [] h (qI K)) ∧
      (¬ (x5 = (-1)) →
        ((x3 = 0 →
          ((x5 ≤ x_3 →
            ∀ x_8 : Int, x_8 = w32 (x6 + 1) →
            zG E mX0_edgeOfSpan (d + 1) 14 [zR q, zI x1, zU, zI x3, zI x4, zI x5, zI x_8, zU] [] h (qI K)) ∧
          (¬ (x5 ≤ x_3) →
            ∀ x_9 : Int, x_9 = w32 (x6 + 1) →
            zG E mX0_edgeOfSpan (d + 1) 14 [zR q, zI x1, zU, zI x3, zI x4, zI x_3, zI x_9, zU] [] h (qI K)))) ∧
        (¬ (x3 = 0) →
          ((x_3 ≤ x5 →
            ∀ x_11 : Int, x_11 = w32 (x6 + 1) →
            zG E mX0_edgeOfSpan (d + 1) 14 [zR q, zI x1, zU, zI x3, zI x4, zI x5, zI x_11, zU] [] h (qI K)) ∧
          (¬ (x_3 ≤ x5) →
            ∀ x_12 : Int, x_12 = w32 (x6 + 1) →
            zG E mX0_edgeOfSpan (d + 1) 14 [zR q, zI x1, zU, zI x3, zI x4, zI x_3, zI x_12, zU] [] h (qI K)))))))) ∧
    (¬ ((zand (zshr x4 x6) 1) ≠ 0) →
      ∀ x_13 : Int, x_13 = w32 (x6 + 1) →
      zG E mX0_edgeOfSpan (d + 1) 14 [zR q, zI x1, zU, zI x3, zI x4, zI x5, zI x_13, zU] [] h (qI K)))))) :
  zG E mX0_edgeOfSpan (d + 1) 14 [zR q, zI x1, zU, zI x3, zI x4, zI x5, zI x6, zU] [] h (qI K) := by
  refine z_iload dX0_edgeOfSpan_14 rfl ?_
  refine z_bipush dX0_edgeOfSpan_16 (r32d rfl) (by decide) ?_
  refine z_icmp_ge (tgt := 85) dX0_edgeOfSpan_18 (by decide) (fun c_1 => ?_) (fun c_1 => ?_)
  · have hyp := hyp.1 c_1
    refine z_iload dX0_edgeOfSpan_85 rfl ?_
    exact z_iret dX0_edgeOfSpan_87 rfl ⟨_, rfl, hyp⟩
  · have hyp := hyp.2 c_1
    refine z_iload dX0_edgeOfSpan_21 rfl ?_
    refine z_iload dX0_edgeOfSpan_23 rfl ?_
    refine z_ishr dX0_edgeOfSpan_25 ?_
    refine z_iconst dX0_edgeOfSpan_26 (r32d rfl) ?_
    refine z_iand dX0_edgeOfSpan_27 ?_
    refine z_if_ne (tgt := 34) dX0_edgeOfSpan_28 (by decide) (fun c_2 => ?_) (fun c_2 => ?_)
    · have hyp := hyp.1 c_2
      refine z_aload_n dX0_edgeOfSpan_34 rfl ?_
      refine gf_X0_30 (c2 := (q + 7)) dX0_edgeOfSpan_35 rfl ((hq.2.1)) (Nat.lt_of_le_of_lt (Nat.le_add_right q 11) hq.1) rfl ?_
      refine z_iload_n dX0_edgeOfSpan_38 rfl ?_
      refine z_bipush dX0_edgeOfSpan_39 (r32d rfl) (by decide) ?_
      refine z_imul dX0_edgeOfSpan_41 ?_
      refine z_iload dX0_edgeOfSpan_42 rfl ?_
      refine z_iadd dX0_edgeOfSpan_44 ?_
      obtain ⟨⟨hi0, hi1⟩, hyp⟩ := hyp
      refine z_iaload dX0_edgeOfSpan_45 ((hq.2.2.2.2.2.2.2.2.1)) (Nat.lt_of_le_of_lt (Nat.add_le_add_left (Nat.le_of_ble_eq_true rfl : 7 ≤ 11) q) hq.1) hi0 hi1 ?_
      generalize ex_3 : h (q + 7) (w32 ((w32 (x1 * 12)) + x6)).toNat = x_3
      have hyp := hyp x_3 ex_3.symm
      refine z_istore dX0_edgeOfSpan_46 (by decide) rfl ?_
      refine z_iload dX0_edgeOfSpan_48 rfl ?_
      refine z_iconst dX0_edgeOfSpan_50 (r32d rfl) ?_
      refine z_icmp_eq (tgt := 75) dX0_edgeOfSpan_51 (by decide) (fun c_4 => ?_) (fun c_4 => ?_)
      · have hyp := hyp.1 c_4
        refine z_iload dX0_edgeOfSpan_75 rfl ?_
        refine z_istore dX0_edgeOfSpan_77 (by decide) rfl ?_
        refine z_iinc dX0_edgeOfSpan_79 rfl (by decide) rfl ?_
        generalize ex_5 : w32 (x6 + 1) = x_5
        have hyp := hyp x_5 ex_5.symm
        refine z_goto (tgt := 14) dX0_edgeOfSpan_82 (by decide) ?_
        exact z_forget [true, true, false, true, true, true, true, false] rfl hyp
      · have hyp := hyp.2 c_4
        refine z_iload_n dX0_edgeOfSpan_54 rfl ?_
        refine z_if_eq (tgt := 68) dX0_edgeOfSpan_55 (by decide) (fun c_6 => ?_) (fun c_6 => ?_)
        · have hyp := hyp.1 c_6
          refine z_iload dX0_edgeOfSpan_68 rfl ?_
          refine z_iload dX0_edgeOfSpan_70 rfl ?_
          refine z_icmp_ge (tgt := 79) dX0_edgeOfSpan_72 (by decide) (fun c_7 => ?_) (fun c_7 => ?_)
          · have hyp := hyp.1 c_7
            refine z_iinc dX0_edgeOfSpan_79 rfl (by decide) rfl ?_
            generalize ex_8 : w32 (x6 + 1) = x_8
            have hyp := hyp x_8 ex_8.symm
            refine z_goto (tgt := 14) dX0_edgeOfSpan_82 (by decide) ?_
            exact z_forget [true, true, false, true, true, true, true, false] rfl hyp
          · have hyp := hyp.2 c_7
            refine z_iload dX0_edgeOfSpan_75 rfl ?_
            refine z_istore dX0_edgeOfSpan_77 (by decide) rfl ?_
            refine z_iinc dX0_edgeOfSpan_79 rfl (by decide) rfl ?_
            generalize ex_9 : w32 (x6 + 1) = x_9
            have hyp := hyp x_9 ex_9.symm
            refine z_goto (tgt := 14) dX0_edgeOfSpan_82 (by decide) ?_
            exact z_forget [true, true, false, true, true, true, true, false] rfl hyp
        · have hyp := hyp.2 c_6
          refine z_iload dX0_edgeOfSpan_58 rfl ?_
          refine z_iload dX0_edgeOfSpan_60 rfl ?_
          refine z_icmp_le (tgt := 79) dX0_edgeOfSpan_62 (by decide) (fun c_10 => ?_) (fun c_10 => ?_)
          · have hyp := hyp.1 c_10
            refine z_iinc dX0_edgeOfSpan_79 rfl (by decide) rfl ?_
            generalize ex_11 : w32 (x6 + 1) = x_11
            have hyp := hyp x_11 ex_11.symm
            refine z_goto (tgt := 14) dX0_edgeOfSpan_82 (by decide) ?_
            exact z_forget [true, true, false, true, true, true, true, false] rfl hyp
          · have hyp := hyp.2 c_10
            refine z_goto (tgt := 75) dX0_edgeOfSpan_65 (by decide) ?_
            refine z_iload dX0_edgeOfSpan_75 rfl ?_
            refine z_istore dX0_edgeOfSpan_77 (by decide) rfl ?_
            refine z_iinc dX0_edgeOfSpan_79 rfl (by decide) rfl ?_
            generalize ex_12 : w32 (x6 + 1) = x_12
            have hyp := hyp x_12 ex_12.symm
            refine z_goto (tgt := 14) dX0_edgeOfSpan_82 (by decide) ?_
            exact z_forget [true, true, false, true, true, true, true, false] rfl hyp
    · have hyp := hyp.2 c_2
      refine z_goto (tgt := 79) dX0_edgeOfSpan_31 (by decide) ?_
      refine z_iinc dX0_edgeOfSpan_79 rfl (by decide) rfl ?_
      generalize ex_13 : w32 (x6 + 1) = x_13
      have hyp := hyp x_13 ex_13.symm
      refine z_goto (tgt := 14) dX0_edgeOfSpan_82 (by decide) ?_
      exact hyp
set_option maxRecDepth 20000 in
theorem eX0_edgeOfSpan {E : zE} (hE : isC E) {q : Nat} (hq : isFi E q) {d : Nat} {x1 x2 x3 : Int} {h : zH} {K : Int → zH → Prop} (hyp :
  zCI E mX0_shapesAsWell d [zR q, zI x1, zI x2] h (fun r_1 h_1 =>
    zG E mX0_edgeOfSpan (d + 1) 14 [zR q, zI x1, zU, zI x3, zI r_1, zI (-1), zI 0, zU] [] h_1 (qI K))) :
  zCI E mX0_edgeOfSpan (d + 1) [zR q, zI x1, zI x2, zI x3] h K := by
  refine zC_in (L0 := [zR q, zI x1, zI x2, zI x3, zU, zU, zU, zU]) pn_X0 rfl (Nat.le_of_ble_eq_true rfl) ?_
  refine z_aload_n dX0_edgeOfSpan_0 rfl ?_
  refine z_iload_n dX0_edgeOfSpan_1 rfl ?_
  refine z_iload_n dX0_edgeOfSpan_2 rfl ?_
  refine cl_X0_107 dX0_edgeOfSpan_3 rfl ((hq.2.1)) (Nat.lt_of_le_of_lt (Nat.le_add_right q 11) hq.1) (Nat.le_of_ble_eq_true rfl) (zC_mono ?_ hyp)
  rintro _ h_1 ⟨r_1, rfl, hyp⟩
  refine ⟨r_1, rfl, ?_⟩
  refine z_istore dX0_edgeOfSpan_6 (by decide) rfl ?_
  refine z_iconst dX0_edgeOfSpan_8 (r32d rfl) ?_
  refine z_istore dX0_edgeOfSpan_9 (by decide) rfl ?_
  refine z_iconst dX0_edgeOfSpan_11 (r32d rfl) ?_
  refine z_istore dX0_edgeOfSpan_12 (by decide) rfl ?_
  exact z_forget [true, true, false, true, true, true, true, false] rfl hyp
set_option maxRecDepth 20000 in
theorem eX0_fitAt {E : zE} (hE : isC E) {q : Nat} (hq : isFi E q) {d : Nat} {x1 x2 : Int} {h : zH} {K : Int → zH → Prop} (hyp :
  zCI E mX0_isFitted d [zR q, zI x1] h (fun r_1 h_1 =>
    ((r_1 = 0 →
      K (-1) h_1) ∧
    (¬ (r_1 = 0) →
      zCI E mX9_isShape d [zI x2] h_1 (fun r_3 h_3 =>
        ((r_3 ≠ 0 →
          zCV E mX0_workOut d [zR q, zI x1] h_3 (fun h_5 =>
            K (w32 ((w32 (x1 * 12)) + x2)) h_5)) ∧
        (¬ (r_3 ≠ 0) →
          K (-1) h_3))))))) :
  zCI E mX0_fitAt (d + 1) [zR q, zI x1, zI x2] h K := by
  refine zC_in (L0 := [zR q, zI x1, zI x2]) pn_X0 rfl (Nat.le_of_ble_eq_true rfl) ?_
  refine z_aload_n dX0_fitAt_0 rfl ?_
  refine z_iload_n dX0_fitAt_1 rfl ?_
  refine cl_X0_90 dX0_fitAt_2 rfl ((hq.2.1)) (Nat.lt_of_le_of_lt (Nat.le_add_right q 11) hq.1) (Nat.le_of_ble_eq_true rfl) (zC_mono ?_ hyp)
  rintro _ h_1 ⟨r_1, rfl, hyp⟩
  refine ⟨r_1, rfl, ?_⟩
  refine z_if_eq (tgt := 15) dX0_fitAt_5 (by decide) (fun c_2 => ?_) (fun c_2 => ?_)
  · have hyp := hyp.1 c_2
    refine z_iconst dX0_fitAt_15 (r32d rfl) ?_
    exact z_iret dX0_fitAt_16 rfl ⟨_, rfl, hyp⟩
  · have hyp := hyp.2 c_2
    refine z_iload_n dX0_fitAt_8 rfl ?_
    refine cl_X0_93 dX0_fitAt_9 rfl (Nat.le_of_ble_eq_true rfl) (zC_mono ?_ hyp)
    rintro _ h_3 ⟨r_3, rfl, hyp⟩
    refine ⟨r_3, rfl, ?_⟩
    refine z_if_ne (tgt := 17) dX0_fitAt_12 (by decide) (fun c_4 => ?_) (fun c_4 => ?_)
    · have hyp := hyp.1 c_4
      refine z_aload_n dX0_fitAt_17 rfl ?_
      refine z_iload_n dX0_fitAt_18 rfl ?_
      refine cl_X0_96 dX0_fitAt_19 rfl ((hq.2.1)) (Nat.lt_of_le_of_lt (Nat.le_add_right q 11) hq.1) (Nat.le_of_ble_eq_true rfl) (zC_mono ?_ hyp)
      rintro _ h_5 ⟨rfl, hyp⟩
      refine ⟨rfl, ?_⟩
      refine z_iload_n dX0_fitAt_22 rfl ?_
      refine z_bipush dX0_fitAt_23 (r32d rfl) (by decide) ?_
      refine z_imul dX0_fitAt_25 ?_
      refine z_iload_n dX0_fitAt_26 rfl ?_
      refine z_iadd dX0_fitAt_27 ?_
      exact z_iret dX0_fitAt_28 rfl ⟨_, rfl, hyp⟩
    · have hyp := hyp.2 c_4
      refine z_iconst dX0_fitAt_15 (r32d rfl) ?_
      exact z_iret dX0_fitAt_16 rfl ⟨_, rfl, hyp⟩
set_option maxRecDepth 20000 in
theorem bX0_fittedRings_4 {E : zE} (hE : isC E) {q : Nat} (hq : isFi E q) {d : Nat} {x1 x2 : Int} {h : zH} {K : Int → zH → Prop} (hyp :
  ((8 ≤ x2 →
    K x1 h) ∧
  (¬ (8 ≤ x2) →
    zCI E mX0_isFitted d [zR q, zI x2] h (fun r_2 h_2 =>
      ((r_2 = 0 →
        ∀ x_4 : Int, x_4 = w32 (x2 + 1) →
        zG E mX0_fittedRings (d + 1) 4 [zR q, zI x1, zI x_4] [] h_2 (qI K)) ∧
      (¬ (r_2 = 0) →
        ∀ x_5 : Int, x_5 = w32 (x1 + 1) →
        ∀ x_6 : Int, x_6 = w32 (x2 + 1) →
        zG E mX0_fittedRings (d + 1) 4 [zR q, zI x_5, zI x_6] [] h_2 (qI K))))))) :
  zG E mX0_fittedRings (d + 1) 4 [zR q, zI x1, zI x2] [] h (qI K) := by
  refine z_iload_n dX0_fittedRings_4 rfl ?_
  refine z_bipush dX0_fittedRings_5 (r32d rfl) (by decide) ?_
  refine z_icmp_ge (tgt := 27) dX0_fittedRings_7 (by decide) (fun c_1 => ?_) (fun c_1 => ?_)
  · have hyp := hyp.1 c_1
    refine z_iload_n dX0_fittedRings_27 rfl ?_
    exact z_iret dX0_fittedRings_28 rfl ⟨_, rfl, hyp⟩
  · have hyp := hyp.2 c_1
    refine z_aload_n dX0_fittedRings_10 rfl ?_
    refine z_iload_n dX0_fittedRings_11 rfl ?_
    refine cl_X0_90 dX0_fittedRings_12 rfl ((hq.2.1)) (Nat.lt_of_le_of_lt (Nat.le_add_right q 11) hq.1) (Nat.le_of_ble_eq_true rfl) (zC_mono ?_ hyp)
    rintro _ h_2 ⟨r_2, rfl, hyp⟩
    refine ⟨r_2, rfl, ?_⟩
    refine z_if_eq (tgt := 21) dX0_fittedRings_15 (by decide) (fun c_3 => ?_) (fun c_3 => ?_)
    · have hyp := hyp.1 c_3
      refine z_iinc dX0_fittedRings_21 rfl (by decide) rfl ?_
      generalize ex_4 : w32 (x2 + 1) = x_4
      have hyp := hyp x_4 ex_4.symm
      refine z_goto (tgt := 4) dX0_fittedRings_24 (by decide) ?_
      exact hyp
    · have hyp := hyp.2 c_3
      refine z_iinc dX0_fittedRings_18 rfl (by decide) rfl ?_
      generalize ex_5 : w32 (x1 + 1) = x_5
      have hyp := hyp x_5 ex_5.symm
      refine z_iinc dX0_fittedRings_21 rfl (by decide) rfl ?_
      generalize ex_6 : w32 (x2 + 1) = x_6
      have hyp := hyp x_6 ex_6.symm
      refine z_goto (tgt := 4) dX0_fittedRings_24 (by decide) ?_
      exact hyp
set_option maxRecDepth 20000 in
theorem eX0_fittedRings {E : zE} (hE : isC E) {q : Nat} (hq : isFi E q) {d : Nat} {h : zH} {K : Int → zH → Prop} (hyp :
  zG E mX0_fittedRings (d + 1) 4 [zR q, zI 0, zI 0] [] h (qI K)) :
  zCI E mX0_fittedRings (d + 1) [zR q] h K := by
  refine zC_in (L0 := [zR q, zU, zU]) pn_X0 rfl (Nat.le_of_ble_eq_true rfl) ?_
  refine z_iconst dX0_fittedRings_0 (r32d rfl) ?_
  refine z_istore_n dX0_fittedRings_1 rfl (by decide) rfl ?_
  refine z_iconst dX0_fittedRings_2 (r32d rfl) ?_
  refine z_istore_n dX0_fittedRings_3 rfl (by decide) rfl ?_
  exact hyp
set_option maxRecDepth 20000 in
theorem bX0_isAs_19 {E : zE} (hE : isC E) {q : Nat} (hq : isFi E q) {r1 : Nat} (hr1 : isFi E r1) {d : Nat} {x2 x3 : Int} {h : zH} {K : Int → zH → Prop} (hyp :
  ((0 : Int) ≤ x2 ∧ x2 < (8 : Int)) ∧
  (((h (q + 2) x2.toNat) ≤ x3 →
    K 1 h) ∧
  (¬ ((h (q + 2) x2.toNat) ≤ x3) →
    ((10 ≤ x3 →
      K 1 h) ∧
    (¬ (10 ≤ x3) →
      ∀ x_3 : Int, x_3 = w32 ((w32 (x2 * 10)) + x3) →
      ((0 : Int) ≤ x_3 ∧ x_3 < (80 : Int)) ∧
      ((0 : Int) ≤ x_3 ∧ x_3 < (80 : Int)) ∧
      (((h (q + 3) x_3.toNat) ≠ (h (r1 + 3) x_3.toNat) →
        K 0 h) ∧
      (¬ ((h (q + 3) x_3.toNat) ≠ (h (r1 + 3) x_3.toNat)) →
        ((0 : Int) ≤ x_3 ∧ x_3 < (80 : Int)) ∧
        ((0 : Int) ≤ x_3 ∧ x_3 < (80 : Int)) ∧
        (((h (q + 4) x_3.toNat) = (h (r1 + 4) x_3.toNat) →
          ∀ x_6 : Int, x_6 = w32 (x3 + 1) →
          zG E mX0_isAs d 19 [zR q, zR r1, zI x2, zI x_6, zU] [] h (qI K)) ∧
        (¬ ((h (q + 4) x_3.toNat) = (h (r1 + 4) x_3.toNat)) →
          K 0 h))))))))) :
  zG E mX0_isAs d 19 [zR q, zR r1, zI x2, zI x3, zU] [] h (qI K) := by
  refine z_iload_n dX0_isAs_19 rfl ?_
  refine z_aload_n dX0_isAs_20 rfl ?_
  refine gf_X0_15 (c2 := (q + 2)) dX0_isAs_21 rfl ((hq.2.1)) (Nat.lt_of_le_of_lt (Nat.le_add_right q 11) hq.1) rfl ?_
  refine z_iload_n dX0_isAs_24 rfl ?_
  obtain ⟨⟨hi0, hi1⟩, hyp⟩ := hyp
  refine z_iaload dX0_isAs_25 ((hq.2.2.2.1)) (Nat.lt_of_le_of_lt (Nat.add_le_add_left (Nat.le_of_ble_eq_true rfl : 2 ≤ 11) q) hq.1) hi0 hi1 ?_
  refine z_icmp_ge (tgt := 85) dX0_isAs_26 (by decide) (fun c_1 => ?_) (fun c_1 => ?_)
  · have hyp := hyp.1 c_1
    refine z_iconst dX0_isAs_85 (r32d rfl) ?_
    exact z_zret dX0_isAs_86 rfl (Or.inr rfl) ⟨_, rfl, hyp⟩
  · have hyp := hyp.2 c_1
    refine z_iload_n dX0_isAs_29 rfl ?_
    refine z_bipush dX0_isAs_30 (r32d rfl) (by decide) ?_
    refine z_icmp_ge (tgt := 85) dX0_isAs_32 (by decide) (fun c_2 => ?_) (fun c_2 => ?_)
    · have hyp := hyp.1 c_2
      refine z_iconst dX0_isAs_85 (r32d rfl) ?_
      exact z_zret dX0_isAs_86 rfl (Or.inr rfl) ⟨_, rfl, hyp⟩
    · have hyp := hyp.2 c_2
      refine z_iload_n dX0_isAs_35 rfl ?_
      refine z_bipush dX0_isAs_36 (r32d rfl) (by decide) ?_
      refine z_imul dX0_isAs_38 ?_
      refine z_iload_n dX0_isAs_39 rfl ?_
      refine z_iadd dX0_isAs_40 ?_
      generalize ex_3 : w32 ((w32 (x2 * 10)) + x3) = x_3
      have hyp := hyp x_3 ex_3.symm
      refine z_istore dX0_isAs_41 (by decide) rfl ?_
      refine z_aload_n dX0_isAs_43 rfl ?_
      refine gf_X0_18 (c2 := (q + 3)) dX0_isAs_44 rfl ((hq.2.1)) (Nat.lt_of_le_of_lt (Nat.le_add_right q 11) hq.1) rfl ?_
      refine z_iload dX0_isAs_47 rfl ?_
      obtain ⟨⟨hi0, hi1⟩, hyp⟩ := hyp
      refine z_iaload dX0_isAs_49 ((hq.2.2.2.2.1)) (Nat.lt_of_le_of_lt (Nat.add_le_add_left (Nat.le_of_ble_eq_true rfl : 3 ≤ 11) q) hq.1) hi0 hi1 ?_
      refine z_aload_n dX0_isAs_50 rfl ?_
      refine gf_X0_18 (c2 := (r1 + 3)) dX0_isAs_51 rfl ((hr1.2.1)) (Nat.lt_of_le_of_lt (Nat.le_add_right r1 11) hr1.1) rfl ?_
      refine z_iload dX0_isAs_54 rfl ?_
      obtain ⟨⟨hi0, hi1⟩, hyp⟩ := hyp
      refine z_iaload dX0_isAs_56 ((hr1.2.2.2.2.1)) (Nat.lt_of_le_of_lt (Nat.add_le_add_left (Nat.le_of_ble_eq_true rfl : 3 ≤ 11) r1) hr1.1) hi0 hi1 ?_
      refine z_icmp_ne (tgt := 77) dX0_isAs_57 (by decide) (fun c_4 => ?_) (fun c_4 => ?_)
      · have hyp := hyp.1 c_4
        refine z_iconst dX0_isAs_77 (r32d rfl) ?_
        exact z_zret dX0_isAs_78 rfl (Or.inl rfl) ⟨_, rfl, hyp⟩
      · have hyp := hyp.2 c_4
        refine z_aload_n dX0_isAs_60 rfl ?_
        refine gf_X0_21 (c2 := (q + 4)) dX0_isAs_61 rfl ((hq.2.1)) (Nat.lt_of_le_of_lt (Nat.le_add_right q 11) hq.1) rfl ?_
        refine z_iload dX0_isAs_64 rfl ?_
        obtain ⟨⟨hi0, hi1⟩, hyp⟩ := hyp
        refine z_iaload dX0_isAs_66 ((hq.2.2.2.2.2.1)) (Nat.lt_of_le_of_lt (Nat.add_le_add_left (Nat.le_of_ble_eq_true rfl : 4 ≤ 11) q) hq.1) hi0 hi1 ?_
        refine z_aload_n dX0_isAs_67 rfl ?_
        refine gf_X0_21 (c2 := (r1 + 4)) dX0_isAs_68 rfl ((hr1.2.1)) (Nat.lt_of_le_of_lt (Nat.le_add_right r1 11) hr1.1) rfl ?_
        refine z_iload dX0_isAs_71 rfl ?_
        obtain ⟨⟨hi0, hi1⟩, hyp⟩ := hyp
        refine z_iaload dX0_isAs_73 ((hr1.2.2.2.2.2.1)) (Nat.lt_of_le_of_lt (Nat.add_le_add_left (Nat.le_of_ble_eq_true rfl : 4 ≤ 11) r1) hr1.1) hi0 hi1 ?_
        refine z_icmp_eq (tgt := 79) dX0_isAs_74 (by decide) (fun c_5 => ?_) (fun c_5 => ?_)
        · have hyp := hyp.1 c_5
          refine z_iinc dX0_isAs_79 rfl (by decide) rfl ?_
          generalize ex_6 : w32 (x3 + 1) = x_6
          have hyp := hyp x_6 ex_6.symm
          refine z_goto (tgt := 19) dX0_isAs_82 (by decide) ?_
          exact z_forget [true, true, true, true, false] rfl hyp
        · have hyp := hyp.2 c_5
          refine z_iconst dX0_isAs_77 (r32d rfl) ?_
          exact z_zret dX0_isAs_78 rfl (Or.inl rfl) ⟨_, rfl, hyp⟩
set_option maxRecDepth 20000 in
theorem eX0_isAs {E : zE} (hE : isC E) {q : Nat} (hq : isFi E q) {r1 : Nat} (hr1 : isFi E r1) {d : Nat} {x2 : Int} {h : zH} {K : Int → zH → Prop} (hyp :
  ((0 : Int) ≤ x2 ∧ x2 < (8 : Int)) ∧
  ((0 : Int) ≤ x2 ∧ x2 < (8 : Int)) ∧
  (((h (q + 2) x2.toNat) = (h (r1 + 2) x2.toNat) →
    zG E mX0_isAs d 19 [zR q, zR r1, zI x2, zI 0, zU] [] h (qI K)) ∧
  (¬ ((h (q + 2) x2.toNat) = (h (r1 + 2) x2.toNat)) →
    K 0 h))) :
  zCI E mX0_isAs d [zR q, zR r1, zI x2] h K := by
  refine zC_in (L0 := [zR q, zR r1, zI x2, zU, zU]) pn_X0 rfl (Nat.le_of_ble_eq_true rfl) ?_
  refine z_aload_n dX0_isAs_0 rfl ?_
  refine gf_X0_15 (c2 := (q + 2)) dX0_isAs_1 rfl ((hq.2.1)) (Nat.lt_of_le_of_lt (Nat.le_add_right q 11) hq.1) rfl ?_
  refine z_iload_n dX0_isAs_4 rfl ?_
  obtain ⟨⟨hi0, hi1⟩, hyp⟩ := hyp
  refine z_iaload dX0_isAs_5 ((hq.2.2.2.1)) (Nat.lt_of_le_of_lt (Nat.add_le_add_left (Nat.le_of_ble_eq_true rfl : 2 ≤ 11) q) hq.1) hi0 hi1 ?_
  refine z_aload_n dX0_isAs_6 rfl ?_
  refine gf_X0_15 (c2 := (r1 + 2)) dX0_isAs_7 rfl ((hr1.2.1)) (Nat.lt_of_le_of_lt (Nat.le_add_right r1 11) hr1.1) rfl ?_
  refine z_iload_n dX0_isAs_10 rfl ?_
  obtain ⟨⟨hi0, hi1⟩, hyp⟩ := hyp
  refine z_iaload dX0_isAs_11 ((hr1.2.2.2.1)) (Nat.lt_of_le_of_lt (Nat.add_le_add_left (Nat.le_of_ble_eq_true rfl : 2 ≤ 11) r1) hr1.1) hi0 hi1 ?_
  refine z_icmp_eq (tgt := 17) dX0_isAs_12 (by decide) (fun c_1 => ?_) (fun c_1 => ?_)
  · have hyp := hyp.1 c_1
    refine z_iconst dX0_isAs_17 (r32d rfl) ?_
    refine z_istore_n dX0_isAs_18 rfl (by decide) rfl ?_
    exact hyp
  · have hyp := hyp.2 c_1
    refine z_iconst dX0_isAs_15 (r32d rfl) ?_
    exact z_zret dX0_isAs_16 rfl (Or.inl rfl) ⟨_, rfl, hyp⟩
set_option maxRecDepth 20000 in
theorem eX0_isFitted {E : zE} (hE : isC E) {q : Nat} (hq : isFi E q) {d : Nat} {x1 : Int} {h : zH} {K : Int → zH → Prop} (hyp :
  ((x1 < 0 →
    K 0 h) ∧
  (¬ (x1 < 0) →
    ((8 ≤ x1 →
      K 0 h) ∧
    (¬ (8 ≤ x1) →
      ((0 : Int) ≤ x1 ∧ x1 < (8 : Int)) ∧
      (((h (q + 2) x1.toNat) < 3 →
        K 0 h) ∧
      (¬ ((h (q + 2) x1.toNat) < 3) →
        K 1 h))))))) :
  zCI E mX0_isFitted d [zR q, zI x1] h K := by
  refine zC_in (L0 := [zR q, zI x1]) pn_X0 rfl (Nat.le_of_ble_eq_true rfl) ?_
  refine z_iload_n dX0_isFitted_0 rfl ?_
  refine z_if_lt (tgt := 24) dX0_isFitted_1 (by decide) (fun c_1 => ?_) (fun c_1 => ?_)
  · have hyp := hyp.1 c_1
    refine z_iconst dX0_isFitted_24 (r32d rfl) ?_
    exact z_zret dX0_isFitted_25 rfl (Or.inl rfl) ⟨_, rfl, hyp⟩
  · have hyp := hyp.2 c_1
    refine z_iload_n dX0_isFitted_4 rfl ?_
    refine z_bipush dX0_isFitted_5 (r32d rfl) (by decide) ?_
    refine z_icmp_ge (tgt := 24) dX0_isFitted_7 (by decide) (fun c_2 => ?_) (fun c_2 => ?_)
    · have hyp := hyp.1 c_2
      refine z_iconst dX0_isFitted_24 (r32d rfl) ?_
      exact z_zret dX0_isFitted_25 rfl (Or.inl rfl) ⟨_, rfl, hyp⟩
    · have hyp := hyp.2 c_2
      refine z_aload_n dX0_isFitted_10 rfl ?_
      refine gf_X0_15 (c2 := (q + 2)) dX0_isFitted_11 rfl ((hq.2.1)) (Nat.lt_of_le_of_lt (Nat.le_add_right q 11) hq.1) rfl ?_
      refine z_iload_n dX0_isFitted_14 rfl ?_
      obtain ⟨⟨hi0, hi1⟩, hyp⟩ := hyp
      refine z_iaload dX0_isFitted_15 ((hq.2.2.2.1)) (Nat.lt_of_le_of_lt (Nat.add_le_add_left (Nat.le_of_ble_eq_true rfl : 2 ≤ 11) q) hq.1) hi0 hi1 ?_
      refine z_iconst dX0_isFitted_16 (r32d rfl) ?_
      refine z_icmp_lt (tgt := 24) dX0_isFitted_17 (by decide) (fun c_3 => ?_) (fun c_3 => ?_)
      · have hyp := hyp.1 c_3
        refine z_iconst dX0_isFitted_24 (r32d rfl) ?_
        exact z_zret dX0_isFitted_25 rfl (Or.inl rfl) ⟨_, rfl, hyp⟩
      · have hyp := hyp.2 c_3
        refine z_iconst dX0_isFitted_20 (r32d rfl) ?_
        refine z_goto (tgt := 25) dX0_isFitted_21 (by decide) ?_
        exact z_zret dX0_isFitted_25 rfl (Or.inr rfl) ⟨_, rfl, hyp⟩
set_option maxRecDepth 20000 in
theorem bX0_learn_22 {E : zE} (hE : isC E) {q : Nat} (hq : isFi E q) {r1 : Nat} (hr1 : isSu E r1) {d : Nat} {x3 x4 : Int} {h : zH} {K : zH → Prop} (hyp :
  ∀ h_1 : zH, h_1 = hset h q 11 (h r1 14) →
  ∀ h_2 : zH, h_2 = hset h_1 q 12 (h_1 r1 15) →
  zCV E mJ7_fill_53178 d [zR (q + 5), zI 0] h_2 (fun h_3 =>
    zG E mX0_learn (d + 1) 46 [zR q, zR r1, zR 46, zI x3, zI x4, zU] [] h_3 (qV K))) :
  zG E mX0_learn (d + 1) 22 [zR q, zR r1, zR 46, zI x3, zI x4, zU] [] h (qV K) := by
  refine z_aload_n dX0_learn_22 rfl ?_
  refine z_aload_n dX0_learn_23 rfl ?_
  refine gf_X0_53 dX0_learn_24 rfl ((hr1.2.1)) (Nat.lt_of_le_of_lt (Nat.le_add_right r1 18) hr1.1) ?_
  refine pf_X0_46 dX0_learn_27 rfl ((hq.2.1)) (Nat.lt_of_le_of_lt (Nat.le_add_right q 11) hq.1) ?_
  generalize eh_1 : hset h q 11 _ = h_1
  have hyp := hyp h_1 eh_1.symm
  refine z_aload_n dX0_learn_30 rfl ?_
  refine z_aload_n dX0_learn_31 rfl ?_
  refine gf_X0_56 dX0_learn_32 rfl ((hr1.2.1)) (Nat.lt_of_le_of_lt (Nat.le_add_right r1 18) hr1.1) ?_
  refine pf_X0_50 dX0_learn_35 rfl ((hq.2.1)) (Nat.lt_of_le_of_lt (Nat.le_add_right q 11) hq.1) ?_
  generalize eh_2 : hset h_1 q 12 _ = h_2
  have hyp := hyp h_2 eh_2.symm
  refine z_aload_n dX0_learn_38 rfl ?_
  refine gf_X0_24 (c2 := (q + 5)) dX0_learn_39 rfl ((hq.2.1)) (Nat.lt_of_le_of_lt (Nat.le_add_right q 11) hq.1) rfl ?_
  refine z_iconst dX0_learn_42 (r32d rfl) ?_
  refine cl_X0_57 dX0_learn_43 rfl (Nat.le_of_ble_eq_true rfl) (zC_mono ?_ hyp)
  rintro _ h_3 ⟨rfl, hyp⟩
  refine ⟨rfl, ?_⟩
  exact hyp
set_option maxRecDepth 20000 in
theorem bX0_learn_46 {E : zE} (hE : isC E) {q : Nat} (hq : isFi E q) {r1 : Nat} (hr1 : isSu E r1) {d : Nat} {x3 x4 : Int} {h : zH} {K : zH → Prop} (hyp :
  ∀ h_1 : zH, h_1 = hcopy h (r1 + 11) (q + 1) 480 →
  zCV E mX3_bring d [zR 46, zR (q + 1), zI x3] h_1 (fun h_2 =>
    zG E mX0_learn (d + 1) 76 [zR q, zR r1, zU, zU, zI x4, zI 0] [] h_2 (qV K))) :
  zG E mX0_learn (d + 1) 46 [zR q, zR r1, zR 46, zI x3, zI x4, zU] [] h (qV K) := by
  refine z_aload_n dX0_learn_46 rfl ?_
  refine gf_X0_63 (c2 := (r1 + 11)) dX0_learn_47 rfl ((hr1.2.1)) (Nat.lt_of_le_of_lt (Nat.le_add_right r1 18) hr1.1) rfl ?_
  refine z_iconst dX0_learn_50 (r32d rfl) ?_
  refine z_aload_n dX0_learn_51 rfl ?_
  refine gf_X0_9 (c2 := (q + 1)) dX0_learn_52 rfl ((hq.2.1)) (Nat.lt_of_le_of_lt (Nat.le_add_right q 11) hq.1) rfl ?_
  refine z_iconst dX0_learn_55 (r32d rfl) ?_
  refine z_aload_n dX0_learn_56 rfl ?_
  refine gf_X0_9 (c2 := (q + 1)) dX0_learn_57 rfl ((hq.2.1)) (Nat.lt_of_le_of_lt (Nat.le_add_right q 11) hq.1) rfl ?_
  refine z_alen dX0_learn_60 ((hq.2.2.1)) (by decide) (by decide) (by decide) (Nat.lt_of_le_of_lt (Nat.add_le_add_left (Nat.le_of_ble_eq_true rfl : 1 ≤ 11) q) hq.1) ?_
  refine z_copyi (n := 480) dX0_learn_61 rfl ((hr1.2.2.2.2.2.2.2.2.1)) (Nat.lt_of_le_of_lt (Nat.add_le_add_left (Nat.le_of_ble_eq_true rfl : 11 ≤ 18) r1) hr1.1) ((hq.2.2.1)) (Nat.lt_of_le_of_lt (Nat.add_le_add_left (Nat.le_of_ble_eq_true rfl : 1 ≤ 11) q) hq.1) rfl (by decide) (by decide) (by decide) (Nat.le_of_ble_eq_true rfl) ?_
  generalize eh_1 : hcopy h _ _ _ = h_1
  have hyp := hyp h_1 eh_1.symm
  refine z_aload_n dX0_learn_64 rfl ?_
  refine z_aload_n dX0_learn_65 rfl ?_
  refine gf_X0_9 (c2 := (q + 1)) dX0_learn_66 rfl ((hq.2.1)) (Nat.lt_of_le_of_lt (Nat.le_add_right q 11) hq.1) rfl ?_
  refine z_iload_n dX0_learn_69 rfl ?_
  refine cl_X0_70 dX0_learn_70 rfl (sC_46 hE) (cC_46 hE) (Nat.le_of_ble_eq_true rfl) (zC_mono ?_ hyp)
  rintro _ h_2 ⟨rfl, hyp⟩
  refine ⟨rfl, ?_⟩
  refine z_iconst dX0_learn_73 (r32d rfl) ?_
  refine z_istore dX0_learn_74 (by decide) rfl ?_
  exact z_forget [true, true, false, false, true, true] rfl hyp
set_option maxRecDepth 20000 in
theorem bX0_learn_76 {E : zE} (hE : isC E) {q : Nat} (hq : isFi E q) {r1 : Nat} (hr1 : isSu E r1) {d : Nat} {x4 x5 : Int} {h : zH} {K : zH → Prop} (hyp :
  ((8 ≤ x5 →
    K h) ∧
  (¬ (8 ≤ x5) →
    zCI E mX8_hasRing d [zR r1, zI x5] h (fun r_2 h_2 =>
      ((r_2 = 0 →
        zCV E mX0_setUp d [zR q, zI x5, zI 0, zI x4] h_2 (fun h_4 =>
          ∀ x_5 : Int, x_5 = w32 (x5 + 1) →
          zG E mX0_learn (d + 1) 76 [zR q, zR r1, zU, zU, zI x4, zI x_5] [] h_4 (qV K))) ∧
      (¬ (r_2 = 0) →
        ((0 : Int) ≤ x5 ∧ x5 < (8 : Int)) ∧
        zCV E mX0_setUp d [zR q, zI x5, zI (h_2 (r1 + 10) x5.toNat), zI x4] h_2 (fun h_6 =>
          ∀ x_7 : Int, x_7 = w32 (x5 + 1) →
          zG E mX0_learn (d + 1) 76 [zR q, zR r1, zU, zU, zI x4, zI x_7] [] h_6 (qV K)))))))) :
  zG E mX0_learn (d + 1) 76 [zR q, zR r1, zU, zU, zI x4, zI x5] [] h (qV K) := by
  refine z_iload dX0_learn_76 rfl ?_
  refine z_bipush dX0_learn_78 (r32d rfl) (by decide) ?_
  refine z_icmp_ge (tgt := 117) dX0_learn_80 (by decide) (fun c_1 => ?_) (fun c_1 => ?_)
  · have hyp := hyp.1 c_1
    exact z_vret dX0_learn_117 rfl ⟨rfl, hyp⟩
  · have hyp := hyp.2 c_1
    refine z_aload_n dX0_learn_83 rfl ?_
    refine z_iload dX0_learn_84 rfl ?_
    refine z_aload_n dX0_learn_86 rfl ?_
    refine z_iload dX0_learn_87 rfl ?_
    refine cl_X0_75 dX0_learn_89 rfl ((hr1.2.1)) (Nat.lt_of_le_of_lt (Nat.le_add_right r1 18) hr1.1) (Nat.le_of_ble_eq_true rfl) (zC_mono ?_ hyp)
    rintro _ h_2 ⟨r_2, rfl, hyp⟩
    refine ⟨r_2, rfl, ?_⟩
    refine z_if_eq (tgt := 105) dX0_learn_92 (by decide) (fun c_3 => ?_) (fun c_3 => ?_)
    · have hyp := hyp.1 c_3
      refine z_iconst dX0_learn_105 (r32d rfl) ?_
      refine z_iload dX0_learn_106 rfl ?_
      refine cl_X0_82 dX0_learn_108 rfl ((hq.2.1)) (Nat.lt_of_le_of_lt (Nat.le_add_right q 11) hq.1) (Nat.le_of_ble_eq_true rfl) (zC_mono ?_ hyp)
      rintro _ h_4 ⟨rfl, hyp⟩
      refine ⟨rfl, ?_⟩
      refine z_iinc dX0_learn_111 rfl (by decide) rfl ?_
      generalize ex_5 : w32 (x5 + 1) = x_5
      have hyp := hyp x_5 ex_5.symm
      refine z_goto (tgt := 76) dX0_learn_114 (by decide) ?_
      exact hyp
    · have hyp := hyp.2 c_3
      refine z_aload_n dX0_learn_95 rfl ?_
      refine gf_X0_79 (c2 := (r1 + 10)) dX0_learn_96 rfl ((hr1.2.1)) (Nat.lt_of_le_of_lt (Nat.le_add_right r1 18) hr1.1) rfl ?_
      refine z_iload dX0_learn_99 rfl ?_
      obtain ⟨⟨hi0, hi1⟩, hyp⟩ := hyp
      refine z_iaload dX0_learn_101 ((hr1.2.2.2.2.2.2.2.1)) (Nat.lt_of_le_of_lt (Nat.add_le_add_left (Nat.le_of_ble_eq_true rfl : 10 ≤ 18) r1) hr1.1) hi0 hi1 ?_
      refine z_goto (tgt := 106) dX0_learn_102 (by decide) ?_
      refine z_iload dX0_learn_106 rfl ?_
      refine cl_X0_82 dX0_learn_108 rfl ((hq.2.1)) (Nat.lt_of_le_of_lt (Nat.le_add_right q 11) hq.1) (Nat.le_of_ble_eq_true rfl) (zC_mono ?_ hyp)
      rintro _ h_6 ⟨rfl, hyp⟩
      refine ⟨rfl, ?_⟩
      refine z_iinc dX0_learn_111 rfl (by decide) rfl ?_
      generalize ex_7 : w32 (x5 + 1) = x_7
      have hyp := hyp x_7 ex_7.symm
      refine z_goto (tgt := 76) dX0_learn_114 (by decide) ?_
      exact hyp
set_option maxRecDepth 20000 in
theorem eX0_learn {E : zE} (hE : isC E) {q : Nat} (hq : isFi E q) {r1 : Nat} (hr1 : isSu E r1) {d : Nat} {x3 x4 : Int} {h : zH} {K : zH → Prop} (hyp :
  (((h q 11) ≠ (h r1 14) →
    zG E mX0_learn (d + 1) 22 [zR q, zR r1, zR 46, zI x3, zI x4, zU] [] h (qV K)) ∧
  (¬ ((h q 11) ≠ (h r1 14)) →
    (((h q 12) = (h r1 15) →
      zG E mX0_learn (d + 1) 46 [zR q, zR r1, zR 46, zI x3, zI x4, zU] [] h (qV K)) ∧
    (¬ ((h q 12) = (h r1 15)) →
      zG E mX0_learn (d + 1) 22 [zR q, zR r1, zR 46, zI x3, zI x4, zU] [] h (qV K)))))) :
  zCV E mX0_learn (d + 1) [zR q, zR r1, zR 46, zI x3, zI x4] h K := by
  refine zC_in (L0 := [zR q, zR r1, zR 46, zI x3, zI x4, zU]) pn_X0 rfl (Nat.le_of_ble_eq_true rfl) ?_
  refine z_aload_n dX0_learn_0 rfl ?_
  refine gf_X0_46 dX0_learn_1 rfl ((hq.2.1)) (Nat.lt_of_le_of_lt (Nat.le_add_right q 11) hq.1) ?_
  refine z_aload_n dX0_learn_4 rfl ?_
  refine gf_X0_53 dX0_learn_5 rfl ((hr1.2.1)) (Nat.lt_of_le_of_lt (Nat.le_add_right r1 18) hr1.1) ?_
  refine z_icmp_ne (tgt := 22) dX0_learn_8 (by decide) (fun c_1 => ?_) (fun c_1 => ?_)
  · have hyp := hyp.1 c_1
    exact hyp
  · have hyp := hyp.2 c_1
    refine z_aload_n dX0_learn_11 rfl ?_
    refine gf_X0_50 dX0_learn_12 rfl ((hq.2.1)) (Nat.lt_of_le_of_lt (Nat.le_add_right q 11) hq.1) ?_
    refine z_aload_n dX0_learn_15 rfl ?_
    refine gf_X0_56 dX0_learn_16 rfl ((hr1.2.1)) (Nat.lt_of_le_of_lt (Nat.le_add_right r1 18) hr1.1) ?_
    refine z_icmp_eq (tgt := 46) dX0_learn_19 (by decide) (fun c_2 => ?_) (fun c_2 => ?_)
    · have hyp := hyp.1 c_2
      exact hyp
    · have hyp := hyp.2 c_2
      exact hyp
set_option maxRecDepth 20000 in
theorem bX0_meanOf_13 {E : zE} (hE : isC E) {q : Nat} (hq : isFi E q) {a1 : Nat} (ha1 : zsh E a1 = (20, 80) ∧ a1 < zN E) {d : Nat} {x2 x3 x4 x5 : Int} {h : zH} {K : Int → zH → Prop} (hyp :
  ((x3 ≤ x5 →
    ((x3 ≤ 0 →
      K 0 h) ∧
    (¬ (x3 ≤ 0) →
      0 < x3 ∧
      K (x4 / x3) h))) ∧
  (¬ (x3 ≤ x5) →
    ((10 ≤ x5 →
      ((x3 ≤ 0 →
        K 0 h) ∧
      (¬ (x3 ≤ 0) →
        0 < x3 ∧
        K (x4 / x3) h))) ∧
    (¬ (10 ≤ x5) →
      ((0 : Int) ≤ w32 ((w32 (x2 * 10)) + x5) ∧ w32 ((w32 (x2 * 10)) + x5) < (80 : Int)) ∧
      ∀ x_5 : Int, x_5 = w32 (x4 + (h a1 (w32 ((w32 (x2 * 10)) + x5)).toNat)) →
      ∀ x_6 : Int, x_6 = w32 (x5 + 1) →
      zG E mX0_meanOf d 13 [zU, zR a1, zI x2, zI x3, zI x_5, zI x_6] [] h (qI K)))))) :
  zG E mX0_meanOf d 13 [zU, zR a1, zI x2, zI x3, zI x4, zI x5] [] h (qI K) := by
  refine z_iload dX0_meanOf_13 rfl ?_
  refine z_iload_n dX0_meanOf_15 rfl ?_
  refine z_icmp_ge (tgt := 46) dX0_meanOf_16 (by decide) (fun c_1 => ?_) (fun c_1 => ?_)
  · have hyp := hyp.1 c_1
    refine z_iload_n dX0_meanOf_46 rfl ?_
    refine z_if_le (tgt := 59) dX0_meanOf_47 (by decide) (fun c_2 => ?_) (fun c_2 => ?_)
    · have hyp := hyp.1 c_2
      refine z_iconst dX0_meanOf_59 (r32d rfl) ?_
      exact z_iret dX0_meanOf_60 rfl ⟨_, rfl, hyp⟩
    · have hyp := hyp.2 c_2
      refine z_iload dX0_meanOf_50 rfl ?_
      refine z_iload_n dX0_meanOf_52 rfl ?_
      obtain ⟨hz, hyp⟩ := hyp
      refine cl_X0_124 dX0_meanOf_53 rfl hz (Nat.le_of_ble_eq_true rfl) ?_
      refine z_goto (tgt := 60) dX0_meanOf_56 (by decide) ?_
      exact z_iret dX0_meanOf_60 rfl ⟨_, rfl, hyp⟩
  · have hyp := hyp.2 c_1
    refine z_iload dX0_meanOf_19 rfl ?_
    refine z_bipush dX0_meanOf_21 (r32d rfl) (by decide) ?_
    refine z_icmp_ge (tgt := 46) dX0_meanOf_23 (by decide) (fun c_3 => ?_) (fun c_3 => ?_)
    · have hyp := hyp.1 c_3
      refine z_iload_n dX0_meanOf_46 rfl ?_
      refine z_if_le (tgt := 59) dX0_meanOf_47 (by decide) (fun c_4 => ?_) (fun c_4 => ?_)
      · have hyp := hyp.1 c_4
        refine z_iconst dX0_meanOf_59 (r32d rfl) ?_
        exact z_iret dX0_meanOf_60 rfl ⟨_, rfl, hyp⟩
      · have hyp := hyp.2 c_4
        refine z_iload dX0_meanOf_50 rfl ?_
        refine z_iload_n dX0_meanOf_52 rfl ?_
        obtain ⟨hz, hyp⟩ := hyp
        refine cl_X0_124 dX0_meanOf_53 rfl hz (Nat.le_of_ble_eq_true rfl) ?_
        refine z_goto (tgt := 60) dX0_meanOf_56 (by decide) ?_
        exact z_iret dX0_meanOf_60 rfl ⟨_, rfl, hyp⟩
    · have hyp := hyp.2 c_3
      refine z_iload dX0_meanOf_26 rfl ?_
      refine z_aload_n dX0_meanOf_28 rfl ?_
      refine z_iload_n dX0_meanOf_29 rfl ?_
      refine z_bipush dX0_meanOf_30 (r32d rfl) (by decide) ?_
      refine z_imul dX0_meanOf_32 ?_
      refine z_iload dX0_meanOf_33 rfl ?_
      refine z_iadd dX0_meanOf_35 ?_
      obtain ⟨⟨hi0, hi1⟩, hyp⟩ := hyp
      refine z_iaload dX0_meanOf_36 (ha1.1) (ha1.2) hi0 hi1 ?_
      refine z_iadd dX0_meanOf_37 ?_
      generalize ex_5 : w32 (x4 + (h a1 (w32 ((w32 (x2 * 10)) + x5)).toNat)) = x_5
      have hyp := hyp x_5 ex_5.symm
      refine z_istore dX0_meanOf_38 (by decide) rfl ?_
      refine z_iinc dX0_meanOf_40 rfl (by decide) rfl ?_
      generalize ex_6 : w32 (x5 + 1) = x_6
      have hyp := hyp x_6 ex_6.symm
      refine z_goto (tgt := 13) dX0_meanOf_43 (by decide) ?_
      exact hyp
set_option maxRecDepth 20000 in
theorem eX0_meanOf {E : zE} (hE : isC E) {q : Nat} (hq : isFi E q) {a1 : Nat} (ha1 : zsh E a1 = (20, 80) ∧ a1 < zN E) {d : Nat} {x2 : Int} {h : zH} {K : Int → zH → Prop} (hyp :
  ((0 : Int) ≤ x2 ∧ x2 < (8 : Int)) ∧
  ∀ x_1 : Int, x_1 = h (q + 2) x2.toNat →
  zG E mX0_meanOf d 13 [zU, zR a1, zI x2, zI x_1, zI 0, zI 0] [] h (qI K)) :
  zCI E mX0_meanOf d [zR q, zR a1, zI x2] h K := by
  refine zC_in (L0 := [zR q, zR a1, zI x2, zU, zU, zU]) pn_X0 rfl (Nat.le_of_ble_eq_true rfl) ?_
  refine z_aload_n dX0_meanOf_0 rfl ?_
  refine gf_X0_15 (c2 := (q + 2)) dX0_meanOf_1 rfl ((hq.2.1)) (Nat.lt_of_le_of_lt (Nat.le_add_right q 11) hq.1) rfl ?_
  refine z_iload_n dX0_meanOf_4 rfl ?_
  obtain ⟨⟨hi0, hi1⟩, hyp⟩ := hyp
  refine z_iaload dX0_meanOf_5 ((hq.2.2.2.1)) (Nat.lt_of_le_of_lt (Nat.add_le_add_left (Nat.le_of_ble_eq_true rfl : 2 ≤ 11) q) hq.1) hi0 hi1 ?_
  generalize ex_1 : h (q + 2) x2.toNat = x_1
  have hyp := hyp x_1 ex_1.symm
  refine z_istore_n dX0_meanOf_6 rfl (by decide) rfl ?_
  refine z_iconst dX0_meanOf_7 (r32d rfl) ?_
  refine z_istore dX0_meanOf_8 (by decide) rfl ?_
  refine z_iconst dX0_meanOf_10 (r32d rfl) ?_
  refine z_istore dX0_meanOf_11 (by decide) rfl ?_
  exact z_forget [false, true, true, true, true, true] rfl hyp
set_option maxRecDepth 20000 in
theorem bX0_setUp_22 {E : zE} (hE : isC E) {q : Nat} (hq : isFi E q) {d : Nat} {x1 x2 x3 x4 x5 x6 x7 : Int} {h : zH} {K : zH → Prop} (hyp :
  ((x2 ≤ x7 →
    zG E mX0_setUp (d + 1) 206 [zR q, zI x1, zU, zU, zU, zI x5, zI x6, zU, zU, zU, zU, zU] [] h (qV K)) ∧
  (¬ (x2 ≤ x7) →
    ((10 ≤ x7 →
      zG E mX0_setUp (d + 1) 206 [zR q, zI x1, zU, zU, zU, zI x5, zI x6, zU, zU, zU, zU, zU] [] h (qV K)) ∧
    (¬ (10 ≤ x7) →
      zCI E mX9_stoneAt d [zI x1, zI x7] h (fun r_3 h_3 =>
        ((0 : Int) ≤ w32 (r_3 + 5) ∧ w32 (r_3 + 5) < (480 : Int)) ∧
        (((h_3 (q + 1) (w32 (r_3 + 5)).toNat) ≠ 0 →
          ∀ x_5 : Int, x_5 = w32 (x7 + 1) →
          zG E mX0_setUp (d + 1) 22 [zR q, zI x1, zI x2, zI x3, zI x4, zI x5, zI x6, zI x_5, zU, zU, zU, zU] [] h_3 (qV K)) ∧
        (¬ ((h_3 (q + 1) (w32 (r_3 + 5)).toNat) ≠ 0) →
          (((zand x3 1) = 0 →
            zG E mX0_setUp (d + 1) 76 [zR q, zI x1, zI x2, zI x3, zI x4, zI x5, zI x6, zI x7, zI r_3, zU, zU, zU] [] h_3 (qV K)) ∧
          (¬ ((zand x3 1) = 0) →
            ((0 : Int) ≤ w32 (r_3 + 4) ∧ w32 (r_3 + 4) < (480 : Int)) ∧
            (((h_3 (q + 1) (w32 (r_3 + 4)).toNat) = 0 →
              zG E mX0_setUp (d + 1) 76 [zR q, zI x1, zI x2, zI x3, zI x4, zI x5, zI x6, zI x7, zI r_3, zU, zU, zU] [] h_3 (qV K)) ∧
            (¬ ((h_3 (q + 1) (w32 (r_3 + 4)).toNat) = 0) →
              ∀ x_8 : Int, x_8 = w32 (x7 + 1) →
              zG E mX0_setUp (d + 1) 22 [zR q, zI x1, zI x2, zI x3, zI x4, zI x5, zI x6, zI x_8, zU, zU, zU, zU] [] h_3 (qV K))))))))))))) :
  zG E mX0_setUp (d + 1) 22 [zR q, zI x1, zI x2, zI x3, zI x4, zI x5, zI x6, zI x7, zU, zU, zU, zU] [] h (qV K) := by
  refine z_iload dX0_setUp_22 rfl ?_
  refine z_iload_n dX0_setUp_24 rfl ?_
  refine z_icmp_ge (tgt := 206) dX0_setUp_25 (by decide) (fun c_1 => ?_) (fun c_1 => ?_)
  · have hyp := hyp.1 c_1
    exact z_forget [true, true, false, false, false, true, true, false, false, false, false, false] rfl hyp
  · have hyp := hyp.2 c_1
    refine z_iload dX0_setUp_28 rfl ?_
    refine z_bipush dX0_setUp_30 (r32d rfl) (by decide) ?_
    refine z_icmp_ge (tgt := 206) dX0_setUp_32 (by decide) (fun c_2 => ?_) (fun c_2 => ?_)
    · have hyp := hyp.1 c_2
      exact z_forget [true, true, false, false, false, true, true, false, false, false, false, false] rfl hyp
    · have hyp := hyp.2 c_2
      refine z_iload_n dX0_setUp_35 rfl ?_
      refine z_iload dX0_setUp_36 rfl ?_
      refine cl_X0_86 dX0_setUp_38 rfl (Nat.le_of_ble_eq_true rfl) (zC_mono ?_ hyp)
      rintro _ h_3 ⟨r_3, rfl, hyp⟩
      refine ⟨r_3, rfl, ?_⟩
      refine z_istore dX0_setUp_41 (by decide) rfl ?_
      refine z_aload_n dX0_setUp_43 rfl ?_
      refine gf_X0_9 (c2 := (q + 1)) dX0_setUp_44 rfl ((hq.2.1)) (Nat.lt_of_le_of_lt (Nat.le_add_right q 11) hq.1) rfl ?_
      refine z_iload dX0_setUp_47 rfl ?_
      refine z_iconst dX0_setUp_49 (r32d rfl) ?_
      refine z_iadd dX0_setUp_50 ?_
      obtain ⟨⟨hi0, hi1⟩, hyp⟩ := hyp
      refine z_iaload dX0_setUp_51 ((hq.2.2.1)) (Nat.lt_of_le_of_lt (Nat.add_le_add_left (Nat.le_of_ble_eq_true rfl : 1 ≤ 11) q) hq.1) hi0 hi1 ?_
      refine z_if_ne (tgt := 200) dX0_setUp_52 (by decide) (fun c_4 => ?_) (fun c_4 => ?_)
      · have hyp := hyp.1 c_4
        refine z_iinc dX0_setUp_200 rfl (by decide) rfl ?_
        generalize ex_5 : w32 (x7 + 1) = x_5
        have hyp := hyp x_5 ex_5.symm
        refine z_goto (tgt := 22) dX0_setUp_203 (by decide) ?_
        exact z_forget [true, true, true, true, true, true, true, true, false, false, false, false] rfl hyp
      · have hyp := hyp.2 c_4
        refine z_iload_n dX0_setUp_55 rfl ?_
        refine z_iconst dX0_setUp_56 (r32d rfl) ?_
        refine z_iand dX0_setUp_57 ?_
        refine z_if_eq (tgt := 76) dX0_setUp_58 (by decide) (fun c_6 => ?_) (fun c_6 => ?_)
        · have hyp := hyp.1 c_6
          exact hyp
        · have hyp := hyp.2 c_6
          refine z_aload_n dX0_setUp_61 rfl ?_
          refine gf_X0_9 (c2 := (q + 1)) dX0_setUp_62 rfl ((hq.2.1)) (Nat.lt_of_le_of_lt (Nat.le_add_right q 11) hq.1) rfl ?_
          refine z_iload dX0_setUp_65 rfl ?_
          refine z_iconst dX0_setUp_67 (r32d rfl) ?_
          refine z_iadd dX0_setUp_68 ?_
          obtain ⟨⟨hi0, hi1⟩, hyp⟩ := hyp
          refine z_iaload dX0_setUp_69 ((hq.2.2.1)) (Nat.lt_of_le_of_lt (Nat.add_le_add_left (Nat.le_of_ble_eq_true rfl : 1 ≤ 11) q) hq.1) hi0 hi1 ?_
          refine z_if_eq (tgt := 76) dX0_setUp_70 (by decide) (fun c_7 => ?_) (fun c_7 => ?_)
          · have hyp := hyp.1 c_7
            exact hyp
          · have hyp := hyp.2 c_7
            refine z_goto (tgt := 200) dX0_setUp_73 (by decide) ?_
            refine z_iinc dX0_setUp_200 rfl (by decide) rfl ?_
            generalize ex_8 : w32 (x7 + 1) = x_8
            have hyp := hyp x_8 ex_8.symm
            refine z_goto (tgt := 22) dX0_setUp_203 (by decide) ?_
            exact z_forget [true, true, true, true, true, true, true, true, false, false, false, false] rfl hyp
set_option maxRecDepth 20000 in
theorem bX0_setUp_76 {E : zE} (hE : isC E) {q : Nat} (hq : isFi E q) {d : Nat} {x1 x2 x3 x4 x5 x6 x7 x8 : Int} {h : zH} {K : zH → Prop} (hyp :
  ((0 : Int) ≤ w32 (x8 + 0) ∧ w32 (x8 + 0) < (480 : Int)) ∧
  ((x4 = 0 →
    zG E mX0_setUp (d + 1) 103 [zR q, zI x1, zI x2, zI x3, zI x4, zI x5, zI x6, zI x7, zI x8, zU, zU, zU] [zI 0, zI (h (q + 1) (w32 (x8 + 0)).toNat)] h (qV K)) ∧
  (¬ (x4 = 0) →
    ((0 : Int) ≤ w32 (x8 + 2) ∧ w32 (x8 + 2) < (480 : Int)) ∧
    zG E mX0_setUp (d + 1) 103 [zR q, zI x1, zI x2, zI x3, zI x4, zI x5, zI x6, zI x7, zI x8, zU, zU, zU] [zI (h (q + 1) (w32 (x8 + 2)).toNat), zI (h (q + 1) (w32 (x8 + 0)).toNat)] h (qV K)))) :
  zG E mX0_setUp (d + 1) 76 [zR q, zI x1, zI x2, zI x3, zI x4, zI x5, zI x6, zI x7, zI x8, zU, zU, zU] [] h (qV K) := by
  refine z_aload_n dX0_setUp_76 rfl ?_
  refine gf_X0_9 (c2 := (q + 1)) dX0_setUp_77 rfl ((hq.2.1)) (Nat.lt_of_le_of_lt (Nat.le_add_right q 11) hq.1) rfl ?_
  refine z_iload dX0_setUp_80 rfl ?_
  refine z_iconst dX0_setUp_82 (r32d rfl) ?_
  refine z_iadd dX0_setUp_83 ?_
  obtain ⟨⟨hi0, hi1⟩, hyp⟩ := hyp
  refine z_iaload dX0_setUp_84 ((hq.2.2.1)) (Nat.lt_of_le_of_lt (Nat.add_le_add_left (Nat.le_of_ble_eq_true rfl : 1 ≤ 11) q) hq.1) hi0 hi1 ?_
  refine z_iload dX0_setUp_85 rfl ?_
  refine z_if_eq (tgt := 102) dX0_setUp_87 (by decide) (fun c_1 => ?_) (fun c_1 => ?_)
  · have hyp := hyp.1 c_1
    refine z_iconst dX0_setUp_102 (r32d rfl) ?_
    exact hyp
  · have hyp := hyp.2 c_1
    refine z_aload_n dX0_setUp_90 rfl ?_
    refine gf_X0_9 (c2 := (q + 1)) dX0_setUp_91 rfl ((hq.2.1)) (Nat.lt_of_le_of_lt (Nat.le_add_right q 11) hq.1) rfl ?_
    refine z_iload dX0_setUp_94 rfl ?_
    refine z_iconst dX0_setUp_96 (r32d rfl) ?_
    refine z_iadd dX0_setUp_97 ?_
    obtain ⟨⟨hi0, hi1⟩, hyp⟩ := hyp
    refine z_iaload dX0_setUp_98 ((hq.2.2.1)) (Nat.lt_of_le_of_lt (Nat.add_le_add_left (Nat.le_of_ble_eq_true rfl : 1 ≤ 11) q) hq.1) hi0 hi1 ?_
    refine z_goto (tgt := 103) dX0_setUp_99 (by decide) ?_
    exact hyp
set_option maxRecDepth 20000 in
theorem bX0_setUp_103 {E : zE} (hE : isC E) {q : Nat} (hq : isFi E q) {d : Nat} {x1 x2 x3 x4 x5 x6 x7 x8 s0 s1 : Int} {h : zH} {K : zH → Prop} (hyp :
  ∀ x_1 : Int, x_1 = w32 (s1 + s0) →
  ((0 : Int) ≤ w32 (x8 + 1) ∧ w32 (x8 + 1) < (480 : Int)) ∧
  ((x4 = 0 →
    zG E mX0_setUp (d + 1) 133 [zR q, zI x1, zI x2, zI x3, zI x4, zI x5, zI x6, zI x7, zU, zI x_1, zU, zU] [zI 0, zI (h (q + 1) (w32 (x8 + 1)).toNat)] h (qV K)) ∧
  (¬ (x4 = 0) →
    ((0 : Int) ≤ w32 (x8 + 3) ∧ w32 (x8 + 3) < (480 : Int)) ∧
    zG E mX0_setUp (d + 1) 133 [zR q, zI x1, zI x2, zI x3, zI x4, zI x5, zI x6, zI x7, zU, zI x_1, zU, zU] [zI (h (q + 1) (w32 (x8 + 3)).toNat), zI (h (q + 1) (w32 (x8 + 1)).toNat)] h (qV K)))) :
  zG E mX0_setUp (d + 1) 103 [zR q, zI x1, zI x2, zI x3, zI x4, zI x5, zI x6, zI x7, zI x8, zU, zU, zU] [zI s0, zI s1] h (qV K) := by
  refine z_iadd dX0_setUp_103 ?_
  generalize ex_1 : w32 (s1 + s0) = x_1
  have hyp := hyp x_1 ex_1.symm
  refine z_istore dX0_setUp_104 (by decide) rfl ?_
  refine z_aload_n dX0_setUp_106 rfl ?_
  refine gf_X0_9 (c2 := (q + 1)) dX0_setUp_107 rfl ((hq.2.1)) (Nat.lt_of_le_of_lt (Nat.le_add_right q 11) hq.1) rfl ?_
  refine z_iload dX0_setUp_110 rfl ?_
  refine z_iconst dX0_setUp_112 (r32d rfl) ?_
  refine z_iadd dX0_setUp_113 ?_
  obtain ⟨⟨hi0, hi1⟩, hyp⟩ := hyp
  refine z_iaload dX0_setUp_114 ((hq.2.2.1)) (Nat.lt_of_le_of_lt (Nat.add_le_add_left (Nat.le_of_ble_eq_true rfl : 1 ≤ 11) q) hq.1) hi0 hi1 ?_
  refine z_iload dX0_setUp_115 rfl ?_
  refine z_if_eq (tgt := 132) dX0_setUp_117 (by decide) (fun c_2 => ?_) (fun c_2 => ?_)
  · have hyp := hyp.1 c_2
    refine z_iconst dX0_setUp_132 (r32d rfl) ?_
    exact z_forget [true, true, true, true, true, true, true, true, false, true, false, false] rfl hyp
  · have hyp := hyp.2 c_2
    refine z_aload_n dX0_setUp_120 rfl ?_
    refine gf_X0_9 (c2 := (q + 1)) dX0_setUp_121 rfl ((hq.2.1)) (Nat.lt_of_le_of_lt (Nat.le_add_right q 11) hq.1) rfl ?_
    refine z_iload dX0_setUp_124 rfl ?_
    refine z_iconst dX0_setUp_126 (r32d rfl) ?_
    refine z_iadd dX0_setUp_127 ?_
    obtain ⟨⟨hi0, hi1⟩, hyp⟩ := hyp
    refine z_iaload dX0_setUp_128 ((hq.2.2.1)) (Nat.lt_of_le_of_lt (Nat.add_le_add_left (Nat.le_of_ble_eq_true rfl : 1 ≤ 11) q) hq.1) hi0 hi1 ?_
    refine z_goto (tgt := 133) dX0_setUp_129 (by decide) ?_
    exact z_forget [true, true, true, true, true, true, true, true, false, true, false, false] rfl hyp
set_option maxRecDepth 20000 in
theorem bX0_setUp_133 {E : zE} (hE : isC E) {q : Nat} (hq : isFi E q) {d : Nat} {x1 x2 x3 x4 x5 x6 x7 x9 s0 s1 : Int} {h : zH} {K : zH → Prop} (hyp :
  ∀ x_1 : Int, x_1 = w32 (s1 + s0) →
  ∀ x_2 : Int, x_2 = w32 ((w32 (x1 * 10)) + x6) →
  ((0 : Int) ≤ x_2 ∧ x_2 < (80 : Int)) ∧
  (((h (q + 3) x_2.toNat) ≠ x9 →
    zG E mX0_setUp (d + 1) 176 [zR q, zI x1, zI x2, zI x3, zI x4, zU, zI x6, zI x7, zU, zI x9, zI x_1, zI x_2] [zI 1, zI x5] h (qV K)) ∧
  (¬ ((h (q + 3) x_2.toNat) ≠ x9) →
    ((0 : Int) ≤ x_2 ∧ x_2 < (80 : Int)) ∧
    (((h (q + 4) x_2.toNat) = x_1 →
      zG E mX0_setUp (d + 1) 176 [zR q, zI x1, zI x2, zI x3, zI x4, zU, zI x6, zI x7, zU, zI x9, zI x_1, zI x_2] [zI 0, zI x5] h (qV K)) ∧
    (¬ ((h (q + 4) x_2.toNat) = x_1) →
      zG E mX0_setUp (d + 1) 176 [zR q, zI x1, zI x2, zI x3, zI x4, zU, zI x6, zI x7, zU, zI x9, zI x_1, zI x_2] [zI 1, zI x5] h (qV K)))))) :
  zG E mX0_setUp (d + 1) 133 [zR q, zI x1, zI x2, zI x3, zI x4, zI x5, zI x6, zI x7, zU, zI x9, zU, zU] [zI s0, zI s1] h (qV K) := by
  refine z_iadd dX0_setUp_133 ?_
  generalize ex_1 : w32 (s1 + s0) = x_1
  have hyp := hyp x_1 ex_1.symm
  refine z_istore dX0_setUp_134 (by decide) rfl ?_
  refine z_iload_n dX0_setUp_136 rfl ?_
  refine z_bipush dX0_setUp_137 (r32d rfl) (by decide) ?_
  refine z_imul dX0_setUp_139 ?_
  refine z_iload dX0_setUp_140 rfl ?_
  refine z_iadd dX0_setUp_142 ?_
  generalize ex_2 : w32 ((w32 (x1 * 10)) + x6) = x_2
  have hyp := hyp x_2 ex_2.symm
  refine z_istore dX0_setUp_143 (by decide) rfl ?_
  refine z_iload dX0_setUp_145 rfl ?_
  refine z_aload_n dX0_setUp_147 rfl ?_
  refine gf_X0_18 (c2 := (q + 3)) dX0_setUp_148 rfl ((hq.2.1)) (Nat.lt_of_le_of_lt (Nat.le_add_right q 11) hq.1) rfl ?_
  refine z_iload dX0_setUp_151 rfl ?_
  obtain ⟨⟨hi0, hi1⟩, hyp⟩ := hyp
  refine z_iaload dX0_setUp_153 ((hq.2.2.2.2.1)) (Nat.lt_of_le_of_lt (Nat.add_le_add_left (Nat.le_of_ble_eq_true rfl : 3 ≤ 11) q) hq.1) hi0 hi1 ?_
  refine z_iload dX0_setUp_154 rfl ?_
  refine z_icmp_ne (tgt := 171) dX0_setUp_156 (by decide) (fun c_3 => ?_) (fun c_3 => ?_)
  · have hyp := hyp.1 c_3
    refine z_iconst dX0_setUp_171 (r32d rfl) ?_
    refine z_goto (tgt := 176) dX0_setUp_172 (by decide) ?_
    exact z_forget [true, true, true, true, true, false, true, true, false, true, true, true] rfl hyp
  · have hyp := hyp.2 c_3
    refine z_aload_n dX0_setUp_159 rfl ?_
    refine gf_X0_21 (c2 := (q + 4)) dX0_setUp_160 rfl ((hq.2.1)) (Nat.lt_of_le_of_lt (Nat.le_add_right q 11) hq.1) rfl ?_
    refine z_iload dX0_setUp_163 rfl ?_
    obtain ⟨⟨hi0, hi1⟩, hyp⟩ := hyp
    refine z_iaload dX0_setUp_165 ((hq.2.2.2.2.2.1)) (Nat.lt_of_le_of_lt (Nat.add_le_add_left (Nat.le_of_ble_eq_true rfl : 4 ≤ 11) q) hq.1) hi0 hi1 ?_
    refine z_iload dX0_setUp_166 rfl ?_
    refine z_icmp_eq (tgt := 175) dX0_setUp_168 (by decide) (fun c_4 => ?_) (fun c_4 => ?_)
    · have hyp := hyp.1 c_4
      refine z_iconst dX0_setUp_175 (r32d rfl) ?_
      exact z_forget [true, true, true, true, true, false, true, true, false, true, true, true] rfl hyp
    · have hyp := hyp.2 c_4
      refine z_iconst dX0_setUp_171 (r32d rfl) ?_
      refine z_goto (tgt := 176) dX0_setUp_172 (by decide) ?_
      exact z_forget [true, true, true, true, true, false, true, true, false, true, true, true] rfl hyp
set_option maxRecDepth 20000 in
theorem bX0_setUp_176 {E : zE} (hE : isC E) {q : Nat} (hq : isFi E q) {d : Nat} {x1 x2 x3 x4 x6 x7 x9 x10 x11 s0 s1 : Int} {h : zH} {K : zH → Prop} (hyp :
  ∀ x_1 : Int, x_1 = zor s1 s0 →
  ((0 : Int) ≤ x11 ∧ x11 < (80 : Int)) ∧
  ∀ h_2 : zH, h_2 = hset h (q + 3) (x11.toNat) x9 →
  ((0 : Int) ≤ x11 ∧ x11 < (80 : Int)) ∧
  ∀ h_3 : zH, h_3 = hset h_2 (q + 4) (x11.toNat) x10 →
  ∀ x_4 : Int, x_4 = w32 (x6 + 1) →
  ∀ x_5 : Int, x_5 = w32 (x7 + 1) →
  zG E mX0_setUp (d + 1) 22 [zR q, zI x1, zI x2, zI x3, zI x4, zI x_1, zI x_4, zI x_5, zU, zU, zU, zU] [] h_3 (qV K)) :
  zG E mX0_setUp (d + 1) 176 [zR q, zI x1, zI x2, zI x3, zI x4, zU, zI x6, zI x7, zU, zI x9, zI x10, zI x11] [zI s0, zI s1] h (qV K) := by
  refine z_ior dX0_setUp_176 ?_
  generalize ex_1 : zor s1 s0 = x_1
  have hyp := hyp x_1 ex_1.symm
  refine z_istore dX0_setUp_177 (by decide) rfl ?_
  refine z_aload_n dX0_setUp_179 rfl ?_
  refine gf_X0_18 (c2 := (q + 3)) dX0_setUp_180 rfl ((hq.2.1)) (Nat.lt_of_le_of_lt (Nat.le_add_right q 11) hq.1) rfl ?_
  refine z_iload dX0_setUp_183 rfl ?_
  refine z_iload dX0_setUp_185 rfl ?_
  obtain ⟨⟨hi0, hi1⟩, hyp⟩ := hyp
  refine z_iastore dX0_setUp_187 ((hq.2.2.2.2.1)) (Nat.lt_of_le_of_lt (Nat.add_le_add_left (Nat.le_of_ble_eq_true rfl : 3 ≤ 11) q) hq.1) hi0 hi1 ?_
  generalize eh_2 : hset h (q + 3) _ x9 = h_2
  have hyp := hyp h_2 eh_2.symm
  refine z_aload_n dX0_setUp_188 rfl ?_
  refine gf_X0_21 (c2 := (q + 4)) dX0_setUp_189 rfl ((hq.2.1)) (Nat.lt_of_le_of_lt (Nat.le_add_right q 11) hq.1) rfl ?_
  refine z_iload dX0_setUp_192 rfl ?_
  refine z_iload dX0_setUp_194 rfl ?_
  obtain ⟨⟨hi0, hi1⟩, hyp⟩ := hyp
  refine z_iastore dX0_setUp_196 ((hq.2.2.2.2.2.1)) (Nat.lt_of_le_of_lt (Nat.add_le_add_left (Nat.le_of_ble_eq_true rfl : 4 ≤ 11) q) hq.1) hi0 hi1 ?_
  generalize eh_3 : hset h_2 (q + 4) _ x10 = h_3
  have hyp := hyp h_3 eh_3.symm
  refine z_iinc dX0_setUp_197 rfl (by decide) rfl ?_
  generalize ex_4 : w32 (x6 + 1) = x_4
  have hyp := hyp x_4 ex_4.symm
  refine z_iinc dX0_setUp_200 rfl (by decide) rfl ?_
  generalize ex_5 : w32 (x7 + 1) = x_5
  have hyp := hyp x_5 ex_5.symm
  refine z_goto (tgt := 22) dX0_setUp_203 (by decide) ?_
  exact z_forget [true, true, true, true, true, true, true, true, false, false, false, false] rfl hyp
set_option maxRecDepth 20000 in
theorem bX0_setUp_206 {E : zE} (hE : isC E) {q : Nat} (hq : isFi E q) {d : Nat} {x1 x5 x6 : Int} {h : zH} {K : zH → Prop} (hyp :
  ((x5 ≠ 0 →
    ((0 : Int) ≤ x1 ∧ x1 < (8 : Int)) ∧
    ∀ h_2 : zH, h_2 = hset h (q + 5) (x1.toNat) 0 →
    ((0 : Int) ≤ x1 ∧ x1 < (8 : Int)) ∧
    ∀ h_3 : zH, h_3 = hset h_2 (q + 2) (x1.toNat) x6 →
    K h_3) ∧
  (¬ (x5 ≠ 0) →
    ((0 : Int) ≤ x1 ∧ x1 < (8 : Int)) ∧
    ((x6 = (h (q + 2) x1.toNat) →
      ((0 : Int) ≤ x1 ∧ x1 < (8 : Int)) ∧
      ∀ h_5 : zH, h_5 = hset h (q + 2) (x1.toNat) x6 →
      K h_5) ∧
    (¬ (x6 = (h (q + 2) x1.toNat)) →
      ((0 : Int) ≤ x1 ∧ x1 < (8 : Int)) ∧
      ∀ h_6 : zH, h_6 = hset h (q + 5) (x1.toNat) 0 →
      ((0 : Int) ≤ x1 ∧ x1 < (8 : Int)) ∧
      ∀ h_7 : zH, h_7 = hset h_6 (q + 2) (x1.toNat) x6 →
      K h_7))))) :
  zG E mX0_setUp (d + 1) 206 [zR q, zI x1, zU, zU, zU, zI x5, zI x6, zU, zU, zU, zU, zU] [] h (qV K) := by
  refine z_iload dX0_setUp_206 rfl ?_
  refine z_if_ne (tgt := 222) dX0_setUp_208 (by decide) (fun c_1 => ?_) (fun c_1 => ?_)
  · have hyp := hyp.1 c_1
    refine z_aload_n dX0_setUp_222 rfl ?_
    refine gf_X0_24 (c2 := (q + 5)) dX0_setUp_223 rfl ((hq.2.1)) (Nat.lt_of_le_of_lt (Nat.le_add_right q 11) hq.1) rfl ?_
    refine z_iload_n dX0_setUp_226 rfl ?_
    refine z_iconst dX0_setUp_227 (r32d rfl) ?_
    obtain ⟨⟨hi0, hi1⟩, hyp⟩ := hyp
    refine z_iastore dX0_setUp_228 ((hq.2.2.2.2.2.2.1)) (Nat.lt_of_le_of_lt (Nat.add_le_add_left (Nat.le_of_ble_eq_true rfl : 5 ≤ 11) q) hq.1) hi0 hi1 ?_
    generalize eh_2 : hset h (q + 5) _ 0 = h_2
    have hyp := hyp h_2 eh_2.symm
    refine z_aload_n dX0_setUp_229 rfl ?_
    refine gf_X0_15 (c2 := (q + 2)) dX0_setUp_230 rfl ((hq.2.1)) (Nat.lt_of_le_of_lt (Nat.le_add_right q 11) hq.1) rfl ?_
    refine z_iload_n dX0_setUp_233 rfl ?_
    refine z_iload dX0_setUp_234 rfl ?_
    obtain ⟨⟨hi0, hi1⟩, hyp⟩ := hyp
    refine z_iastore dX0_setUp_236 ((hq.2.2.2.1)) (Nat.lt_of_le_of_lt (Nat.add_le_add_left (Nat.le_of_ble_eq_true rfl : 2 ≤ 11) q) hq.1) hi0 hi1 ?_
    generalize eh_3 : hset h_2 (q + 2) _ x6 = h_3
    have hyp := hyp h_3 eh_3.symm
    exact z_vret dX0_setUp_237 rfl ⟨rfl, hyp⟩
  · have hyp := hyp.2 c_1
    refine z_iload dX0_setUp_211 rfl ?_
    refine z_aload_n dX0_setUp_213 rfl ?_
    refine gf_X0_15 (c2 := (q + 2)) dX0_setUp_214 rfl ((hq.2.1)) (Nat.lt_of_le_of_lt (Nat.le_add_right q 11) hq.1) rfl ?_
    refine z_iload_n dX0_setUp_217 rfl ?_
    obtain ⟨⟨hi0, hi1⟩, hyp⟩ := hyp
    refine z_iaload dX0_setUp_218 ((hq.2.2.2.1)) (Nat.lt_of_le_of_lt (Nat.add_le_add_left (Nat.le_of_ble_eq_true rfl : 2 ≤ 11) q) hq.1) hi0 hi1 ?_
    refine z_icmp_eq (tgt := 229) dX0_setUp_219 (by decide) (fun c_4 => ?_) (fun c_4 => ?_)
    · have hyp := hyp.1 c_4
      refine z_aload_n dX0_setUp_229 rfl ?_
      refine gf_X0_15 (c2 := (q + 2)) dX0_setUp_230 rfl ((hq.2.1)) (Nat.lt_of_le_of_lt (Nat.le_add_right q 11) hq.1) rfl ?_
      refine z_iload_n dX0_setUp_233 rfl ?_
      refine z_iload dX0_setUp_234 rfl ?_
      obtain ⟨⟨hi0, hi1⟩, hyp⟩ := hyp
      refine z_iastore dX0_setUp_236 ((hq.2.2.2.1)) (Nat.lt_of_le_of_lt (Nat.add_le_add_left (Nat.le_of_ble_eq_true rfl : 2 ≤ 11) q) hq.1) hi0 hi1 ?_
      generalize eh_5 : hset h (q + 2) _ x6 = h_5
      have hyp := hyp h_5 eh_5.symm
      exact z_vret dX0_setUp_237 rfl ⟨rfl, hyp⟩
    · have hyp := hyp.2 c_4
      refine z_aload_n dX0_setUp_222 rfl ?_
      refine gf_X0_24 (c2 := (q + 5)) dX0_setUp_223 rfl ((hq.2.1)) (Nat.lt_of_le_of_lt (Nat.le_add_right q 11) hq.1) rfl ?_
      refine z_iload_n dX0_setUp_226 rfl ?_
      refine z_iconst dX0_setUp_227 (r32d rfl) ?_
      obtain ⟨⟨hi0, hi1⟩, hyp⟩ := hyp
      refine z_iastore dX0_setUp_228 ((hq.2.2.2.2.2.2.1)) (Nat.lt_of_le_of_lt (Nat.add_le_add_left (Nat.le_of_ble_eq_true rfl : 5 ≤ 11) q) hq.1) hi0 hi1 ?_
      generalize eh_6 : hset h (q + 5) _ 0 = h_6
      have hyp := hyp h_6 eh_6.symm
      refine z_aload_n dX0_setUp_229 rfl ?_
      refine gf_X0_15 (c2 := (q + 2)) dX0_setUp_230 rfl ((hq.2.1)) (Nat.lt_of_le_of_lt (Nat.le_add_right q 11) hq.1) rfl ?_
      refine z_iload_n dX0_setUp_233 rfl ?_
      refine z_iload dX0_setUp_234 rfl ?_
      obtain ⟨⟨hi0, hi1⟩, hyp⟩ := hyp
      refine z_iastore dX0_setUp_236 ((hq.2.2.2.1)) (Nat.lt_of_le_of_lt (Nat.add_le_add_left (Nat.le_of_ble_eq_true rfl : 2 ≤ 11) q) hq.1) hi0 hi1 ?_
      generalize eh_7 : hset h_6 (q + 2) _ x6 = h_7
      have hyp := hyp h_7 eh_7.symm
      exact z_vret dX0_setUp_237 rfl ⟨rfl, hyp⟩
set_option maxRecDepth 20000 in
theorem eX0_setUp {E : zE} (hE : isC E) {q : Nat} (hq : isFi E q) {d : Nat} {x1 x2 x3 : Int} {h : zH} {K : zH → Prop} (hyp :
  (((zand x3 2) = 0 →
    zG E mX0_setUp (d + 1) 22 [zR q, zI x1, zI x2, zI x3, zI 0, zI 0, zI 0, zI 0, zU, zU, zU, zU] [] h (qV K)) ∧
  (¬ ((zand x3 2) = 0) →
    zG E mX0_setUp (d + 1) 22 [zR q, zI x1, zI x2, zI x3, zI 1, zI 0, zI 0, zI 0, zU, zU, zU, zU] [] h (qV K)))) :
  zCV E mX0_setUp (d + 1) [zR q, zI x1, zI x2, zI x3] h K := by
  refine zC_in (L0 := [zR q, zI x1, zI x2, zI x3, zU, zU, zU, zU, zU, zU, zU, zU]) pn_X0 rfl (Nat.le_of_ble_eq_true rfl) ?_
  refine z_iload_n dX0_setUp_0 rfl ?_
  refine z_iconst dX0_setUp_1 (r32d rfl) ?_
  refine z_iand dX0_setUp_2 ?_
  refine z_if_eq (tgt := 10) dX0_setUp_3 (by decide) (fun c_1 => ?_) (fun c_1 => ?_)
  · have hyp := hyp.1 c_1
    refine z_iconst dX0_setUp_10 (r32d rfl) ?_
    refine z_istore dX0_setUp_11 (by decide) rfl ?_
    refine z_iconst dX0_setUp_13 (r32d rfl) ?_
    refine z_istore dX0_setUp_14 (by decide) rfl ?_
    refine z_iconst dX0_setUp_16 (r32d rfl) ?_
    refine z_istore dX0_setUp_17 (by decide) rfl ?_
    refine z_iconst dX0_setUp_19 (r32d rfl) ?_
    refine z_istore dX0_setUp_20 (by decide) rfl ?_
    exact hyp
  · have hyp := hyp.2 c_1
    refine z_iconst dX0_setUp_6 (r32d rfl) ?_
    refine z_goto (tgt := 11) dX0_setUp_7 (by decide) ?_
    refine z_istore dX0_setUp_11 (by decide) rfl ?_
    refine z_iconst dX0_setUp_13 (r32d rfl) ?_
    refine z_istore dX0_setUp_14 (by decide) rfl ?_
    refine z_iconst dX0_setUp_16 (r32d rfl) ?_
    refine z_istore dX0_setUp_17 (by decide) rfl ?_
    refine z_iconst dX0_setUp_19 (r32d rfl) ?_
    refine z_istore dX0_setUp_20 (by decide) rfl ?_
    exact hyp
set_option maxRecDepth 20000 in
theorem bX0_shapeLeastOff_17 {E : zE} (hE : isC E) {q : Nat} (hq : isFi E q) {d : Nat} {x1 x3 x4 x5 x6 x7 : Int} {h : zH} {K : Int → zH → Prop} (hyp :
  ((12 ≤ x7 →
    K x5 h) ∧
  (¬ (12 ≤ x7) →
    (((zand (zshr x4 x7) 1) ≠ 0 →
      ((0 : Int) ≤ w32 ((w32 (x1 * 12)) + x7) ∧ w32 ((w32 (x1 * 12)) + x7) < (96 : Int)) ∧
      zCI E mX9_offBy d [zI (h (q + 7) (w32 ((w32 (x1 * 12)) + x7)).toNat), zI x3] h (fun r_3 h_3 =>
        ((x5 = (-1) →
          ∀ x_5 : Int, x_5 = w32 (x7 + 1) →
          zG E mX0_shapeLeastOff (d + 1) 17 [zR q, zI x1, zU, zI x3, zI x4, zI x7, zI r_3, zI x_5, zU] [] h_3 (qI K)) ∧
        (¬ (x5 = (-1)) →
          ((x6 ≤ r_3 →
            ∀ x_7 : Int, x_7 = w32 (x7 + 1) →
            zG E mX0_shapeLeastOff (d + 1) 17 [zR q, zI x1, zU, zI x3, zI x4, zI x5, zI x6, zI x_7, zU] [] h_3 (qI K)) ∧
          (¬ (x6 ≤ r_3) →
            ∀ x_8 : Int, x_8 = w32 (x7 + 1) →
            zG E mX0_shapeLeastOff (d + 1) 17 [zR q, zI x1, zU, zI x3, zI x4, zI x7, zI r_3, zI x_8, zU] [] h_3 (qI K))))))) ∧
    (¬ ((zand (zshr x4 x7) 1) ≠ 0) →
      ∀ x_9 : Int, x_9 = w32 (x7 + 1) →
      zG E mX0_shapeLeastOff (d + 1) 17 [zR q, zI x1, zU, zI x3, zI x4, zI x5, zI x6, zI x_9, zU] [] h (qI K)))))) :
  zG E mX0_shapeLeastOff (d + 1) 17 [zR q, zI x1, zU, zI x3, zI x4, zI x5, zI x6, zI x7, zU] [] h (qI K) := by
  refine z_iload dX0_shapeLeastOff_17 rfl ?_
  refine z_bipush dX0_shapeLeastOff_19 (r32d rfl) (by decide) ?_
  refine z_icmp_ge (tgt := 82) dX0_shapeLeastOff_21 (by decide) (fun c_1 => ?_) (fun c_1 => ?_)
  · have hyp := hyp.1 c_1
    refine z_iload dX0_shapeLeastOff_82 rfl ?_
    exact z_iret dX0_shapeLeastOff_84 rfl ⟨_, rfl, hyp⟩
  · have hyp := hyp.2 c_1
    refine z_iload dX0_shapeLeastOff_24 rfl ?_
    refine z_iload dX0_shapeLeastOff_26 rfl ?_
    refine z_ishr dX0_shapeLeastOff_28 ?_
    refine z_iconst dX0_shapeLeastOff_29 (r32d rfl) ?_
    refine z_iand dX0_shapeLeastOff_30 ?_
    refine z_if_ne (tgt := 37) dX0_shapeLeastOff_31 (by decide) (fun c_2 => ?_) (fun c_2 => ?_)
    · have hyp := hyp.1 c_2
      refine z_aload_n dX0_shapeLeastOff_37 rfl ?_
      refine gf_X0_30 (c2 := (q + 7)) dX0_shapeLeastOff_38 rfl ((hq.2.1)) (Nat.lt_of_le_of_lt (Nat.le_add_right q 11) hq.1) rfl ?_
      refine z_iload_n dX0_shapeLeastOff_41 rfl ?_
      refine z_bipush dX0_shapeLeastOff_42 (r32d rfl) (by decide) ?_
      refine z_imul dX0_shapeLeastOff_44 ?_
      refine z_iload dX0_shapeLeastOff_45 rfl ?_
      refine z_iadd dX0_shapeLeastOff_47 ?_
      obtain ⟨⟨hi0, hi1⟩, hyp⟩ := hyp
      refine z_iaload dX0_shapeLeastOff_48 ((hq.2.2.2.2.2.2.2.2.1)) (Nat.lt_of_le_of_lt (Nat.add_le_add_left (Nat.le_of_ble_eq_true rfl : 7 ≤ 11) q) hq.1) hi0 hi1 ?_
      refine z_iload_n dX0_shapeLeastOff_49 rfl ?_
      refine cl_X0_110 dX0_shapeLeastOff_50 rfl (Nat.le_of_ble_eq_true rfl) (zC_mono ?_ hyp)
      rintro _ h_3 ⟨r_3, rfl, hyp⟩
      refine ⟨r_3, rfl, ?_⟩
      refine z_istore dX0_shapeLeastOff_53 (by decide) rfl ?_
      refine z_iload dX0_shapeLeastOff_55 rfl ?_
      refine z_iconst dX0_shapeLeastOff_57 (r32d rfl) ?_
      refine z_icmp_eq (tgt := 68) dX0_shapeLeastOff_58 (by decide) (fun c_4 => ?_) (fun c_4 => ?_)
      · have hyp := hyp.1 c_4
        refine z_iload dX0_shapeLeastOff_68 rfl ?_
        refine z_istore dX0_shapeLeastOff_70 (by decide) rfl ?_
        refine z_iload dX0_shapeLeastOff_72 rfl ?_
        refine z_istore dX0_shapeLeastOff_74 (by decide) rfl ?_
        refine z_iinc dX0_shapeLeastOff_76 rfl (by decide) rfl ?_
        generalize ex_5 : w32 (x7 + 1) = x_5
        have hyp := hyp x_5 ex_5.symm
        refine z_goto (tgt := 17) dX0_shapeLeastOff_79 (by decide) ?_
        exact z_forget [true, true, false, true, true, true, true, true, false] rfl hyp
      · have hyp := hyp.2 c_4
        refine z_iload dX0_shapeLeastOff_61 rfl ?_
        refine z_iload dX0_shapeLeastOff_63 rfl ?_
        refine z_icmp_ge (tgt := 76) dX0_shapeLeastOff_65 (by decide) (fun c_6 => ?_) (fun c_6 => ?_)
        · have hyp := hyp.1 c_6
          refine z_iinc dX0_shapeLeastOff_76 rfl (by decide) rfl ?_
          generalize ex_7 : w32 (x7 + 1) = x_7
          have hyp := hyp x_7 ex_7.symm
          refine z_goto (tgt := 17) dX0_shapeLeastOff_79 (by decide) ?_
          exact z_forget [true, true, false, true, true, true, true, true, false] rfl hyp
        · have hyp := hyp.2 c_6
          refine z_iload dX0_shapeLeastOff_68 rfl ?_
          refine z_istore dX0_shapeLeastOff_70 (by decide) rfl ?_
          refine z_iload dX0_shapeLeastOff_72 rfl ?_
          refine z_istore dX0_shapeLeastOff_74 (by decide) rfl ?_
          refine z_iinc dX0_shapeLeastOff_76 rfl (by decide) rfl ?_
          generalize ex_8 : w32 (x7 + 1) = x_8
          have hyp := hyp x_8 ex_8.symm
          refine z_goto (tgt := 17) dX0_shapeLeastOff_79 (by decide) ?_
          exact z_forget [true, true, false, true, true, true, true, true, false] rfl hyp
    · have hyp := hyp.2 c_2
      refine z_goto (tgt := 76) dX0_shapeLeastOff_34 (by decide) ?_
      refine z_iinc dX0_shapeLeastOff_76 rfl (by decide) rfl ?_
      generalize ex_9 : w32 (x7 + 1) = x_9
      have hyp := hyp x_9 ex_9.symm
      refine z_goto (tgt := 17) dX0_shapeLeastOff_79 (by decide) ?_
      exact hyp
set_option maxRecDepth 20000 in
theorem eX0_shapeLeastOff {E : zE} (hE : isC E) {q : Nat} (hq : isFi E q) {d : Nat} {x1 x2 x3 : Int} {h : zH} {K : Int → zH → Prop} (hyp :
  zCI E mX0_shapesAsWell d [zR q, zI x1, zI x2] h (fun r_1 h_1 =>
    zG E mX0_shapeLeastOff (d + 1) 17 [zR q, zI x1, zU, zI x3, zI r_1, zI (-1), zI 0, zI 0, zU] [] h_1 (qI K))) :
  zCI E mX0_shapeLeastOff (d + 1) [zR q, zI x1, zI x2, zI x3] h K := by
  refine zC_in (L0 := [zR q, zI x1, zI x2, zI x3, zU, zU, zU, zU, zU]) pn_X0 rfl (Nat.le_of_ble_eq_true rfl) ?_
  refine z_aload_n dX0_shapeLeastOff_0 rfl ?_
  refine z_iload_n dX0_shapeLeastOff_1 rfl ?_
  refine z_iload_n dX0_shapeLeastOff_2 rfl ?_
  refine cl_X0_107 dX0_shapeLeastOff_3 rfl ((hq.2.1)) (Nat.lt_of_le_of_lt (Nat.le_add_right q 11) hq.1) (Nat.le_of_ble_eq_true rfl) (zC_mono ?_ hyp)
  rintro _ h_1 ⟨r_1, rfl, hyp⟩
  refine ⟨r_1, rfl, ?_⟩
  refine z_istore dX0_shapeLeastOff_6 (by decide) rfl ?_
  refine z_iconst dX0_shapeLeastOff_8 (r32d rfl) ?_
  refine z_istore dX0_shapeLeastOff_9 (by decide) rfl ?_
  refine z_iconst dX0_shapeLeastOff_11 (r32d rfl) ?_
  refine z_istore dX0_shapeLeastOff_12 (by decide) rfl ?_
  refine z_iconst dX0_shapeLeastOff_14 (r32d rfl) ?_
  refine z_istore dX0_shapeLeastOff_15 (by decide) rfl ?_
  exact z_forget [true, true, false, true, true, true, true, true, false] rfl hyp
set_option maxRecDepth 20000 in
theorem bX0_shapesAsWell_17 {E : zE} (hE : isC E) {q : Nat} (hq : isFi E q) {d : Nat} {x1 x2 x3 x4 x5 : Int} {h : zH} {K : Int → zH → Prop} (hyp :
  ((12 ≤ x5 →
    K x3 h) ∧
  (¬ (12 ≤ x5) →
    ((x4 = (-1) →
      K x3 h) ∧
    (¬ (x4 = (-1)) →
      zCI E mX9_isShape d [zI x5] h (fun r_3 h_3 =>
        ((r_3 = 0 →
          ∀ x_5 : Int, x_5 = w32 (x5 + 1) →
          zG E mX0_shapesAsWell (d + 1) 17 [zR q, zI x1, zI x2, zI x3, zI x4, zI x_5] [] h_3 (qI K)) ∧
        (¬ (r_3 = 0) →
          ((0 : Int) ≤ w32 ((w32 (x1 * 12)) + x5) ∧ w32 ((w32 (x1 * 12)) + x5) < (96 : Int)) ∧
          ((0 : Int) ≤ x4 ∧ x4 < (96 : Int)) ∧
          (((w32 ((h_3 (q + 8) x4.toNat) + x2)) < (h_3 (q + 8) (w32 ((w32 (x1 * 12)) + x5)).toNat) →
            ∀ x_7 : Int, x_7 = w32 (x5 + 1) →
            zG E mX0_shapesAsWell (d + 1) 17 [zR q, zI x1, zI x2, zI x3, zI x4, zI x_7] [] h_3 (qI K)) ∧
          (¬ ((w32 ((h_3 (q + 8) x4.toNat) + x2)) < (h_3 (q + 8) (w32 ((w32 (x1 * 12)) + x5)).toNat)) →
            ∀ x_8 : Int, x_8 = zor x3 (zshl 1 x5) →
            ∀ x_9 : Int, x_9 = w32 (x5 + 1) →
            zG E mX0_shapesAsWell (d + 1) 17 [zR q, zI x1, zI x2, zI x_8, zI x4, zI x_9] [] h_3 (qI K))))))))))) :
  zG E mX0_shapesAsWell (d + 1) 17 [zR q, zI x1, zI x2, zI x3, zI x4, zI x5] [] h (qI K) := by
  refine z_iload dX0_shapesAsWell_17 rfl ?_
  refine z_bipush dX0_shapesAsWell_19 (r32d rfl) (by decide) ?_
  refine z_icmp_ge (tgt := 75) dX0_shapesAsWell_21 (by decide) (fun c_1 => ?_) (fun c_1 => ?_)
  · have hyp := hyp.1 c_1
    refine z_iload_n dX0_shapesAsWell_75 rfl ?_
    exact z_iret dX0_shapesAsWell_76 rfl ⟨_, rfl, hyp⟩
  · have hyp := hyp.2 c_1
    refine z_iload dX0_shapesAsWell_24 rfl ?_
    refine z_iconst dX0_shapesAsWell_26 (r32d rfl) ?_
    refine z_icmp_eq (tgt := 75) dX0_shapesAsWell_27 (by decide) (fun c_2 => ?_) (fun c_2 => ?_)
    · have hyp := hyp.1 c_2
      refine z_iload_n dX0_shapesAsWell_75 rfl ?_
      exact z_iret dX0_shapesAsWell_76 rfl ⟨_, rfl, hyp⟩
    · have hyp := hyp.2 c_2
      refine z_iload dX0_shapesAsWell_30 rfl ?_
      refine cl_X0_93 dX0_shapesAsWell_32 rfl (Nat.le_of_ble_eq_true rfl) (zC_mono ?_ hyp)
      rintro _ h_3 ⟨r_3, rfl, hyp⟩
      refine ⟨r_3, rfl, ?_⟩
      refine z_if_eq (tgt := 69) dX0_shapesAsWell_35 (by decide) (fun c_4 => ?_) (fun c_4 => ?_)
      · have hyp := hyp.1 c_4
        refine z_iinc dX0_shapesAsWell_69 rfl (by decide) rfl ?_
        generalize ex_5 : w32 (x5 + 1) = x_5
        have hyp := hyp x_5 ex_5.symm
        refine z_goto (tgt := 17) dX0_shapesAsWell_72 (by decide) ?_
        exact hyp
      · have hyp := hyp.2 c_4
        refine z_aload_n dX0_shapesAsWell_38 rfl ?_
        refine gf_X0_33 (c2 := (q + 8)) dX0_shapesAsWell_39 rfl ((hq.2.1)) (Nat.lt_of_le_of_lt (Nat.le_add_right q 11) hq.1) rfl ?_
        refine z_iload_n dX0_shapesAsWell_42 rfl ?_
        refine z_bipush dX0_shapesAsWell_43 (r32d rfl) (by decide) ?_
        refine z_imul dX0_shapesAsWell_45 ?_
        refine z_iload dX0_shapesAsWell_46 rfl ?_
        refine z_iadd dX0_shapesAsWell_48 ?_
        obtain ⟨⟨hi0, hi1⟩, hyp⟩ := hyp
        refine z_iaload dX0_shapesAsWell_49 ((hq.2.2.2.2.2.2.2.2.2.1)) (Nat.lt_of_le_of_lt (Nat.add_le_add_left (Nat.le_of_ble_eq_true rfl : 8 ≤ 11) q) hq.1) hi0 hi1 ?_
        refine z_aload_n dX0_shapesAsWell_50 rfl ?_
        refine gf_X0_33 (c2 := (q + 8)) dX0_shapesAsWell_51 rfl ((hq.2.1)) (Nat.lt_of_le_of_lt (Nat.le_add_right q 11) hq.1) rfl ?_
        refine z_iload dX0_shapesAsWell_54 rfl ?_
        obtain ⟨⟨hi0, hi1⟩, hyp⟩ := hyp
        refine z_iaload dX0_shapesAsWell_56 ((hq.2.2.2.2.2.2.2.2.2.1)) (Nat.lt_of_le_of_lt (Nat.add_le_add_left (Nat.le_of_ble_eq_true rfl : 8 ≤ 11) q) hq.1) hi0 hi1 ?_
        refine z_iload_n dX0_shapesAsWell_57 rfl ?_
        refine z_iadd dX0_shapesAsWell_58 ?_
        refine z_icmp_gt (tgt := 69) dX0_shapesAsWell_59 (by decide) (fun c_6 => ?_) (fun c_6 => ?_)
        · have hyp := hyp.1 c_6
          refine z_iinc dX0_shapesAsWell_69 rfl (by decide) rfl ?_
          generalize ex_7 : w32 (x5 + 1) = x_7
          have hyp := hyp x_7 ex_7.symm
          refine z_goto (tgt := 17) dX0_shapesAsWell_72 (by decide) ?_
          exact hyp
        · have hyp := hyp.2 c_6
          refine z_iload_n dX0_shapesAsWell_62 rfl ?_
          refine z_iconst dX0_shapesAsWell_63 (r32d rfl) ?_
          refine z_iload dX0_shapesAsWell_64 rfl ?_
          refine z_ishl dX0_shapesAsWell_66 ?_
          refine z_ior dX0_shapesAsWell_67 ?_
          generalize ex_8 : zor x3 (zshl 1 x5) = x_8
          have hyp := hyp x_8 ex_8.symm
          refine z_istore_n dX0_shapesAsWell_68 rfl (by decide) rfl ?_
          refine z_iinc dX0_shapesAsWell_69 rfl (by decide) rfl ?_
          generalize ex_9 : w32 (x5 + 1) = x_9
          have hyp := hyp x_9 ex_9.symm
          refine z_goto (tgt := 17) dX0_shapesAsWell_72 (by decide) ?_
          exact hyp
set_option maxRecDepth 20000 in
theorem eX0_shapesAsWell {E : zE} (hE : isC E) {q : Nat} (hq : isFi E q) {d : Nat} {x1 x2 : Int} {h : zH} {K : Int → zH → Prop} (hyp :
  zCI E mX0_bestShape d [zR q, zI x1] h (fun r_1 h_1 =>
    zCI E mX0_fitAt d [zR q, zI x1, zI r_1] h_1 (fun r_2 h_2 =>
      zG E mX0_shapesAsWell (d + 1) 17 [zR q, zI x1, zI x2, zI 0, zI r_2, zI 0] [] h_2 (qI K)))) :
  zCI E mX0_shapesAsWell (d + 1) [zR q, zI x1, zI x2] h K := by
  refine zC_in (L0 := [zR q, zI x1, zI x2, zU, zU, zU]) pn_X0 rfl (Nat.le_of_ble_eq_true rfl) ?_
  refine z_iconst dX0_shapesAsWell_0 (r32d rfl) ?_
  refine z_istore_n dX0_shapesAsWell_1 rfl (by decide) rfl ?_
  refine z_aload_n dX0_shapesAsWell_2 rfl ?_
  refine z_iload_n dX0_shapesAsWell_3 rfl ?_
  refine z_aload_n dX0_shapesAsWell_4 rfl ?_
  refine z_iload_n dX0_shapesAsWell_5 rfl ?_
  refine cl_X0_100 dX0_shapesAsWell_6 rfl ((hq.2.1)) (Nat.lt_of_le_of_lt (Nat.le_add_right q 11) hq.1) (Nat.le_of_ble_eq_true rfl) (zC_mono ?_ hyp)
  rintro _ h_1 ⟨r_1, rfl, hyp⟩
  refine ⟨r_1, rfl, ?_⟩
  refine cl_X0_104 dX0_shapesAsWell_9 rfl ((hq.2.1)) (Nat.lt_of_le_of_lt (Nat.le_add_right q 11) hq.1) (Nat.le_of_ble_eq_true rfl) (zC_mono ?_ hyp)
  rintro _ h_2 ⟨r_2, rfl, hyp⟩
  refine ⟨r_2, rfl, ?_⟩
  refine z_istore dX0_shapesAsWell_12 (by decide) rfl ?_
  refine z_iconst dX0_shapesAsWell_14 (r32d rfl) ?_
  refine z_istore dX0_shapesAsWell_15 (by decide) rfl ?_
  exact hyp
set_option maxRecDepth 20000 in
theorem bX0_tryMiddle_32 {E : zE} (hE : isC E) {q : Nat} (hq : isFi E q) {d : Nat} {x1 x2 x3 x4 x5 y6 x8 : Int} {h : zH} {K : zH → Prop} (hyp :
  ((x5 ≤ x8 →
    ¬ x5 = 0 ∧
    ∀ x_2 : Int, x_2 = w32 (w64 (Int.tdiv y6 x5)) →
    zG E mX0_tryMiddle (d + 1) 124 [zR q, zI x1, zI x2, zI x3, zI x4, zI x5, zU, zU, zI x_2, zI 0, zI 0] [] h (qV K)) ∧
  (¬ (x5 ≤ x8) →
    ∀ x_3 : Int, x_3 = w32 ((w32 (x1 * 10)) + x8) →
    ((0 : Int) ≤ x_3 ∧ x_3 < (80 : Int)) ∧
    ((0 : Int) ≤ x_3 ∧ x_3 < (80 : Int)) ∧
    zCJ E mX0_awayBy d [zR q, zI x8, zI x2, zI (w32 ((h (q + 3) x_3.toNat) - x3)), zI (w32 ((h (q + 4) x_3.toNat) - x4))] h (fun r_4 h_4 =>
      ((0 : Int) ≤ w32 ((w32 (x2 * 10)) + x8) ∧ w32 ((w32 (x2 * 10)) + x8) < (120 : Int)) ∧
      ∀ h_5 : zH, h_5 = hset h_4 (q + 11) ((w32 ((w32 (x2 * 10)) + x8)).toNat) r_4 →
      ((0 : Int) ≤ w32 ((w32 (x2 * 10)) + x8) ∧ w32 ((w32 (x2 * 10)) + x8) < (120 : Int)) ∧
      ∀ y_6 : Int, y_6 = w64 (y6 + (h_5 (q + 11) (w32 ((w32 (x2 * 10)) + x8)).toNat)) →
      ∀ x_7 : Int, x_7 = w32 (x8 + 1) →
      zG E mX0_tryMiddle (d + 1) 32 [zR q, zI x1, zI x2, zI x3, zI x4, zI x5, zJ y_6, zU, zI x_7, zU, zU] [] h_5 (qV K))))) :
  zG E mX0_tryMiddle (d + 1) 32 [zR q, zI x1, zI x2, zI x3, zI x4, zI x5, zJ y6, zU, zI x8, zU, zU] [] h (qV K) := by
  refine z_iload dX0_tryMiddle_32 rfl ?_
  refine z_iload dX0_tryMiddle_34 rfl ?_
  refine z_icmp_ge (tgt := 109) dX0_tryMiddle_36 (by decide) (fun c_1 => ?_) (fun c_1 => ?_)
  · have hyp := hyp.1 c_1
    refine z_lload dX0_tryMiddle_109 rfl ?_
    refine z_iload dX0_tryMiddle_111 rfl ?_
    refine z_i2l dX0_tryMiddle_113 ?_
    obtain ⟨hz, hyp⟩ := hyp
    refine z_ldiv hz dX0_tryMiddle_114 ?_
    refine z_l2i dX0_tryMiddle_115 ?_
    generalize ex_2 : w32 (w64 (Int.tdiv y6 x5)) = x_2
    have hyp := hyp x_2 ex_2.symm
    refine z_istore dX0_tryMiddle_116 (by decide) rfl ?_
    refine z_iconst dX0_tryMiddle_118 (r32d rfl) ?_
    refine z_istore dX0_tryMiddle_119 (by decide) rfl ?_
    refine z_iconst dX0_tryMiddle_121 (r32d rfl) ?_
    refine z_istore dX0_tryMiddle_122 (by decide) rfl ?_
    exact z_forget [true, true, true, true, true, true, false, false, true, true, true] rfl hyp
  · have hyp := hyp.2 c_1
    refine z_iload_n dX0_tryMiddle_39 rfl ?_
    refine z_bipush dX0_tryMiddle_40 (r32d rfl) (by decide) ?_
    refine z_imul dX0_tryMiddle_42 ?_
    refine z_iload dX0_tryMiddle_43 rfl ?_
    refine z_iadd dX0_tryMiddle_45 ?_
    generalize ex_3 : w32 ((w32 (x1 * 10)) + x8) = x_3
    have hyp := hyp x_3 ex_3.symm
    refine z_istore dX0_tryMiddle_46 (by decide) rfl ?_
    refine z_aload_n dX0_tryMiddle_48 rfl ?_
    refine gf_X0_42 (c2 := (q + 11)) dX0_tryMiddle_49 rfl ((hq.2.1)) (Nat.lt_of_le_of_lt (Nat.le_add_right q 11) hq.1) rfl ?_
    refine z_iload_n dX0_tryMiddle_52 rfl ?_
    refine z_bipush dX0_tryMiddle_53 (r32d rfl) (by decide) ?_
    refine z_imul dX0_tryMiddle_55 ?_
    refine z_iload dX0_tryMiddle_56 rfl ?_
    refine z_iadd dX0_tryMiddle_58 ?_
    refine z_aload_n dX0_tryMiddle_59 rfl ?_
    refine z_iload dX0_tryMiddle_60 rfl ?_
    refine z_iload_n dX0_tryMiddle_62 rfl ?_
    refine z_aload_n dX0_tryMiddle_63 rfl ?_
    refine gf_X0_18 (c2 := (q + 3)) dX0_tryMiddle_64 rfl ((hq.2.1)) (Nat.lt_of_le_of_lt (Nat.le_add_right q 11) hq.1) rfl ?_
    refine z_iload dX0_tryMiddle_67 rfl ?_
    obtain ⟨⟨hi0, hi1⟩, hyp⟩ := hyp
    refine z_iaload dX0_tryMiddle_69 ((hq.2.2.2.2.1)) (Nat.lt_of_le_of_lt (Nat.add_le_add_left (Nat.le_of_ble_eq_true rfl : 3 ≤ 11) q) hq.1) hi0 hi1 ?_
    refine z_iload_n dX0_tryMiddle_70 rfl ?_
    refine z_isub dX0_tryMiddle_71 ?_
    refine z_aload_n dX0_tryMiddle_72 rfl ?_
    refine gf_X0_21 (c2 := (q + 4)) dX0_tryMiddle_73 rfl ((hq.2.1)) (Nat.lt_of_le_of_lt (Nat.le_add_right q 11) hq.1) rfl ?_
    refine z_iload dX0_tryMiddle_76 rfl ?_
    obtain ⟨⟨hi0, hi1⟩, hyp⟩ := hyp
    refine z_iaload dX0_tryMiddle_78 ((hq.2.2.2.2.2.1)) (Nat.lt_of_le_of_lt (Nat.add_le_add_left (Nat.le_of_ble_eq_true rfl : 4 ≤ 11) q) hq.1) hi0 hi1 ?_
    refine z_iload dX0_tryMiddle_79 rfl ?_
    refine z_isub dX0_tryMiddle_81 ?_
    refine cl_X0_132 dX0_tryMiddle_82 rfl ((hq.2.1)) (Nat.lt_of_le_of_lt (Nat.le_add_right q 11) hq.1) (Nat.le_of_ble_eq_true rfl) (zC_mono ?_ hyp)
    rintro _ h_4 ⟨r_4, rfl, hyp⟩
    refine ⟨r_4, rfl, ?_⟩
    obtain ⟨⟨hi0, hi1⟩, hyp⟩ := hyp
    refine z_lastore dX0_tryMiddle_85 ((hq.2.2.2.2.2.2.2.2.2.2.2.2)) (Nat.lt_of_le_of_lt (Nat.add_le_add_left (Nat.le_of_ble_eq_true rfl : 11 ≤ 11) q) hq.1) hi0 hi1 ?_
    generalize eh_5 : hset h_4 (q + 11) _ r_4 = h_5
    have hyp := hyp h_5 eh_5.symm
    refine z_lload dX0_tryMiddle_86 rfl ?_
    refine z_aload_n dX0_tryMiddle_88 rfl ?_
    refine gf_X0_42 (c2 := (q + 11)) dX0_tryMiddle_89 rfl ((hq.2.1)) (Nat.lt_of_le_of_lt (Nat.le_add_right q 11) hq.1) rfl ?_
    refine z_iload_n dX0_tryMiddle_92 rfl ?_
    refine z_bipush dX0_tryMiddle_93 (r32d rfl) (by decide) ?_
    refine z_imul dX0_tryMiddle_95 ?_
    refine z_iload dX0_tryMiddle_96 rfl ?_
    refine z_iadd dX0_tryMiddle_98 ?_
    obtain ⟨⟨hi0, hi1⟩, hyp⟩ := hyp
    refine z_laload dX0_tryMiddle_99 ((hq.2.2.2.2.2.2.2.2.2.2.2.2)) (Nat.lt_of_le_of_lt (Nat.add_le_add_left (Nat.le_of_ble_eq_true rfl : 11 ≤ 11) q) hq.1) hi0 hi1 ?_
    refine z_ladd dX0_tryMiddle_100 ?_
    generalize ey_6 : w64 (y6 + (h_5 (q + 11) (w32 ((w32 (x2 * 10)) + x8)).toNat)) = y_6
    have hyp := hyp y_6 ey_6.symm
    refine z_lstore dX0_tryMiddle_101 (by decide) rfl ?_
    refine z_iinc dX0_tryMiddle_103 rfl (by decide) rfl ?_
    generalize ex_7 : w32 (x8 + 1) = x_7
    have hyp := hyp x_7 ex_7.symm
    refine z_goto (tgt := 32) dX0_tryMiddle_106 (by decide) ?_
    exact z_forget [true, true, true, true, true, true, true, false, true, false, false] rfl hyp
set_option maxRecDepth 20000 in
theorem bX0_tryMiddle_124 {E : zE} (hE : isC E) {q : Nat} (hq : isFi E q) {d : Nat} {x1 x2 x3 x4 x5 x8 x9 x10 : Int} {h : zH} {K : zH → Prop} (hyp :
  ((x5 ≤ x10 →
    ∀ x_2 : Int, x_2 = w32 ((w32 (x1 * 12)) + x2) →
    ((0 : Int) ≤ x_2 ∧ x_2 < (96 : Int)) ∧
    (((h (q + 8) x_2.toNat) ≤ x9 →
      K h) ∧
    (¬ ((h (q + 8) x_2.toNat) ≤ x9) →
      ((0 : Int) ≤ x_2 ∧ x_2 < (96 : Int)) ∧
      ∀ h_4 : zH, h_4 = hset h (q + 8) (x_2.toNat) x9 →
      ((0 : Int) ≤ x_2 ∧ x_2 < (96 : Int)) ∧
      ∀ h_5 : zH, h_5 = hset h_4 (q + 7) (x_2.toNat) (w32 (2 * x8)) →
      ((0 : Int) ≤ x_2 ∧ x_2 < (96 : Int)) ∧
      ∀ h_6 : zH, h_6 = hset h_5 (q + 9) (x_2.toNat) x3 →
      ((0 : Int) ≤ x_2 ∧ x_2 < (96 : Int)) ∧
      ∀ h_7 : zH, h_7 = hset h_6 (q + 10) (x_2.toNat) x4 →
      K h_7))) ∧
  (¬ (x5 ≤ x10) →
    ((0 : Int) ≤ w32 ((w32 (x2 * 10)) + x10) ∧ w32 ((w32 (x2 * 10)) + x10) < (120 : Int)) ∧
    ∀ x_8 : Int, x_8 = w32 (x9 + (w32 (zabsJ (w64 ((h (q + 11) (w32 ((w32 (x2 * 10)) + x10)).toNat) - x8))))) →
    ∀ x_9 : Int, x_9 = w32 (x10 + 1) →
    zG E mX0_tryMiddle (d + 1) 124 [zR q, zI x1, zI x2, zI x3, zI x4, zI x5, zU, zU, zI x8, zI x_8, zI x_9] [] h (qV K)))) :
  zG E mX0_tryMiddle (d + 1) 124 [zR q, zI x1, zI x2, zI x3, zI x4, zI x5, zU, zU, zI x8, zI x9, zI x10] [] h (qV K) := by
  refine z_iload dX0_tryMiddle_124 rfl ?_
  refine z_iload dX0_tryMiddle_126 rfl ?_
  refine z_icmp_ge (tgt := 162) dX0_tryMiddle_128 (by decide) (fun c_1 => ?_) (fun c_1 => ?_)
  · have hyp := hyp.1 c_1
    refine z_iload_n dX0_tryMiddle_162 rfl ?_
    refine z_bipush dX0_tryMiddle_163 (r32d rfl) (by decide) ?_
    refine z_imul dX0_tryMiddle_165 ?_
    refine z_iload_n dX0_tryMiddle_166 rfl ?_
    refine z_iadd dX0_tryMiddle_167 ?_
    generalize ex_2 : w32 ((w32 (x1 * 12)) + x2) = x_2
    have hyp := hyp x_2 ex_2.symm
    refine z_istore dX0_tryMiddle_168 (by decide) rfl ?_
    refine z_iload dX0_tryMiddle_170 rfl ?_
    refine z_aload_n dX0_tryMiddle_172 rfl ?_
    refine gf_X0_33 (c2 := (q + 8)) dX0_tryMiddle_173 rfl ((hq.2.1)) (Nat.lt_of_le_of_lt (Nat.le_add_right q 11) hq.1) rfl ?_
    refine z_iload dX0_tryMiddle_176 rfl ?_
    obtain ⟨⟨hi0, hi1⟩, hyp⟩ := hyp
    refine z_iaload dX0_tryMiddle_178 ((hq.2.2.2.2.2.2.2.2.2.1)) (Nat.lt_of_le_of_lt (Nat.add_le_add_left (Nat.le_of_ble_eq_true rfl : 8 ≤ 11) q) hq.1) hi0 hi1 ?_
    refine z_icmp_ge (tgt := 219) dX0_tryMiddle_179 (by decide) (fun c_3 => ?_) (fun c_3 => ?_)
    · have hyp := hyp.1 c_3
      exact z_vret dX0_tryMiddle_219 rfl ⟨rfl, hyp⟩
    · have hyp := hyp.2 c_3
      refine z_aload_n dX0_tryMiddle_182 rfl ?_
      refine gf_X0_33 (c2 := (q + 8)) dX0_tryMiddle_183 rfl ((hq.2.1)) (Nat.lt_of_le_of_lt (Nat.le_add_right q 11) hq.1) rfl ?_
      refine z_iload dX0_tryMiddle_186 rfl ?_
      refine z_iload dX0_tryMiddle_188 rfl ?_
      obtain ⟨⟨hi0, hi1⟩, hyp⟩ := hyp
      refine z_iastore dX0_tryMiddle_190 ((hq.2.2.2.2.2.2.2.2.2.1)) (Nat.lt_of_le_of_lt (Nat.add_le_add_left (Nat.le_of_ble_eq_true rfl : 8 ≤ 11) q) hq.1) hi0 hi1 ?_
      generalize eh_4 : hset h (q + 8) _ x9 = h_4
      have hyp := hyp h_4 eh_4.symm
      refine z_aload_n dX0_tryMiddle_191 rfl ?_
      refine gf_X0_30 (c2 := (q + 7)) dX0_tryMiddle_192 rfl ((hq.2.1)) (Nat.lt_of_le_of_lt (Nat.le_add_right q 11) hq.1) rfl ?_
      refine z_iload dX0_tryMiddle_195 rfl ?_
      refine z_iconst dX0_tryMiddle_197 (r32d rfl) ?_
      refine z_iload dX0_tryMiddle_198 rfl ?_
      refine z_imul dX0_tryMiddle_200 ?_
      obtain ⟨⟨hi0, hi1⟩, hyp⟩ := hyp
      refine z_iastore dX0_tryMiddle_201 ((hq.2.2.2.2.2.2.2.2.1)) (Nat.lt_of_le_of_lt (Nat.add_le_add_left (Nat.le_of_ble_eq_true rfl : 7 ≤ 11) q) hq.1) hi0 hi1 ?_
      generalize eh_5 : hset h_4 (q + 7) _ (w32 (2 * x8)) = h_5
      have hyp := hyp h_5 eh_5.symm
      refine z_aload_n dX0_tryMiddle_202 rfl ?_
      refine gf_X0_36 (c2 := (q + 9)) dX0_tryMiddle_203 rfl ((hq.2.1)) (Nat.lt_of_le_of_lt (Nat.le_add_right q 11) hq.1) rfl ?_
      refine z_iload dX0_tryMiddle_206 rfl ?_
      refine z_iload_n dX0_tryMiddle_208 rfl ?_
      obtain ⟨⟨hi0, hi1⟩, hyp⟩ := hyp
      refine z_iastore dX0_tryMiddle_209 ((hq.2.2.2.2.2.2.2.2.2.2.1)) (Nat.lt_of_le_of_lt (Nat.add_le_add_left (Nat.le_of_ble_eq_true rfl : 9 ≤ 11) q) hq.1) hi0 hi1 ?_
      generalize eh_6 : hset h_5 (q + 9) _ x3 = h_6
      have hyp := hyp h_6 eh_6.symm
      refine z_aload_n dX0_tryMiddle_210 rfl ?_
      refine gf_X0_39 (c2 := (q + 10)) dX0_tryMiddle_211 rfl ((hq.2.1)) (Nat.lt_of_le_of_lt (Nat.le_add_right q 11) hq.1) rfl ?_
      refine z_iload dX0_tryMiddle_214 rfl ?_
      refine z_iload dX0_tryMiddle_216 rfl ?_
      obtain ⟨⟨hi0, hi1⟩, hyp⟩ := hyp
      refine z_iastore dX0_tryMiddle_218 ((hq.2.2.2.2.2.2.2.2.2.2.2.1)) (Nat.lt_of_le_of_lt (Nat.add_le_add_left (Nat.le_of_ble_eq_true rfl : 10 ≤ 11) q) hq.1) hi0 hi1 ?_
      generalize eh_7 : hset h_6 (q + 10) _ x4 = h_7
      have hyp := hyp h_7 eh_7.symm
      exact z_vret dX0_tryMiddle_219 rfl ⟨rfl, hyp⟩
  · have hyp := hyp.2 c_1
    refine z_iload dX0_tryMiddle_131 rfl ?_
    refine z_aload_n dX0_tryMiddle_133 rfl ?_
    refine gf_X0_42 (c2 := (q + 11)) dX0_tryMiddle_134 rfl ((hq.2.1)) (Nat.lt_of_le_of_lt (Nat.le_add_right q 11) hq.1) rfl ?_
    refine z_iload_n dX0_tryMiddle_137 rfl ?_
    refine z_bipush dX0_tryMiddle_138 (r32d rfl) (by decide) ?_
    refine z_imul dX0_tryMiddle_140 ?_
    refine z_iload dX0_tryMiddle_141 rfl ?_
    refine z_iadd dX0_tryMiddle_143 ?_
    obtain ⟨⟨hi0, hi1⟩, hyp⟩ := hyp
    refine z_laload dX0_tryMiddle_144 ((hq.2.2.2.2.2.2.2.2.2.2.2.2)) (Nat.lt_of_le_of_lt (Nat.add_le_add_left (Nat.le_of_ble_eq_true rfl : 11 ≤ 11) q) hq.1) hi0 hi1 ?_
    refine z_iload dX0_tryMiddle_145 rfl ?_
    refine z_i2l dX0_tryMiddle_147 ?_
    refine z_lsub dX0_tryMiddle_148 ?_
    refine cl_X0_136 dX0_tryMiddle_149 rfl (Nat.le_of_ble_eq_true rfl) ?_
    refine z_l2i dX0_tryMiddle_152 ?_
    refine z_iadd dX0_tryMiddle_153 ?_
    generalize ex_8 : w32 (x9 + (w32 (zabsJ (w64 ((h (q + 11) (w32 ((w32 (x2 * 10)) + x10)).toNat) - x8))))) = x_8
    have hyp := hyp x_8 ex_8.symm
    refine z_istore dX0_tryMiddle_154 (by decide) rfl ?_
    refine z_iinc dX0_tryMiddle_156 rfl (by decide) rfl ?_
    generalize ex_9 : w32 (x10 + 1) = x_9
    have hyp := hyp x_9 ex_9.symm
    refine z_goto (tgt := 124) dX0_tryMiddle_159 (by decide) ?_
    exact hyp
set_option maxRecDepth 20000 in
theorem eX0_tryMiddle {E : zE} (hE : isC E) {q : Nat} (hq : isFi E q) {d : Nat} {x1 x2 x3 x4 : Int} {h : zH} {K : zH → Prop} (hyp :
  ((0 : Int) ≤ x1 ∧ x1 < (8 : Int)) ∧
  ∀ x_1 : Int, x_1 = min (h (q + 2) x1.toNat) 10 →
  ((x_1 ≤ 0 →
    K h) ∧
  (¬ (x_1 ≤ 0) →
    zCI E mX9_isShape d [zI x2] h (fun r_3 h_3 =>
      ((r_3 ≠ 0 →
        zG E mX0_tryMiddle (d + 1) 32 [zR q, zI x1, zI x2, zI x3, zI x4, zI x_1, zJ 0, zU, zI 0, zU, zU] [] h_3 (qV K)) ∧
      (¬ (r_3 ≠ 0) →
        K h_3)))))) :
  zCV E mX0_tryMiddle (d + 1) [zR q, zI x1, zI x2, zI x3, zI x4] h K := by
  refine zC_in (L0 := [zR q, zI x1, zI x2, zI x3, zI x4, zU, zU, zU, zU, zU, zU]) pn_X0 rfl (Nat.le_of_ble_eq_true rfl) ?_
  refine z_aload_n dX0_tryMiddle_0 rfl ?_
  refine gf_X0_15 (c2 := (q + 2)) dX0_tryMiddle_1 rfl ((hq.2.1)) (Nat.lt_of_le_of_lt (Nat.le_add_right q 11) hq.1) rfl ?_
  refine z_iload_n dX0_tryMiddle_4 rfl ?_
  obtain ⟨⟨hi0, hi1⟩, hyp⟩ := hyp
  refine z_iaload dX0_tryMiddle_5 ((hq.2.2.2.1)) (Nat.lt_of_le_of_lt (Nat.add_le_add_left (Nat.le_of_ble_eq_true rfl : 2 ≤ 11) q) hq.1) hi0 hi1 ?_
  refine z_bipush dX0_tryMiddle_6 (r32d rfl) (by decide) ?_
  refine cl_X0_129 dX0_tryMiddle_8 rfl (Nat.le_of_ble_eq_true rfl) ?_
  generalize ex_1 : min (h (q + 2) x1.toNat) 10 = x_1
  have hyp := hyp x_1 ex_1.symm
  refine z_istore dX0_tryMiddle_11 (by decide) rfl ?_
  refine z_iload dX0_tryMiddle_13 rfl ?_
  refine z_if_le (tgt := 25) dX0_tryMiddle_15 (by decide) (fun c_2 => ?_) (fun c_2 => ?_)
  · have hyp := hyp.1 c_2
    exact z_vret dX0_tryMiddle_25 rfl ⟨rfl, hyp⟩
  · have hyp := hyp.2 c_2
    refine z_iload_n dX0_tryMiddle_18 rfl ?_
    refine cl_X0_93 dX0_tryMiddle_19 rfl (Nat.le_of_ble_eq_true rfl) (zC_mono ?_ hyp)
    rintro _ h_3 ⟨r_3, rfl, hyp⟩
    refine ⟨r_3, rfl, ?_⟩
    refine z_if_ne (tgt := 26) dX0_tryMiddle_22 (by decide) (fun c_4 => ?_) (fun c_4 => ?_)
    · have hyp := hyp.1 c_4
      refine z_lconst (x := 0) dX0_tryMiddle_26 (by decide) (r64d rfl) ?_
      refine z_lstore dX0_tryMiddle_27 (by decide) rfl ?_
      refine z_iconst dX0_tryMiddle_29 (r32d rfl) ?_
      refine z_istore dX0_tryMiddle_30 (by decide) rfl ?_
      exact hyp
    · have hyp := hyp.2 c_4
      exact z_vret dX0_tryMiddle_25 rfl ⟨rfl, hyp⟩
set_option maxRecDepth 20000 in
theorem bX0_workOut_19 {E : zE} (hE : isC E) {q : Nat} (hq : isFi E q) {d : Nat} {x1 x2 : Int} {h : zH} {K : zH → Prop} (hyp :
  ((12 ≤ x2 →
    zCI E mX0_meanOf d [zR q, zR (q + 3), zI x1] h (fun r_2 h_2 =>
      zCI E mX0_meanOf d [zR q, zR (q + 4), zI x1] h_2 (fun r_3 h_3 =>
        ∀ x_4 : Int, x_4 = w32 (-(h_3 q 11)) →
        zG E mX0_workOut (d + 1) 71 [zR q, zI x1, zI r_2, zI r_3, zI x_4, zU, zU] [] h_3 (qV K)))) ∧
  (¬ (12 ≤ x2) →
    ((0 : Int) ≤ w32 ((w32 (x1 * 12)) + x2) ∧ w32 ((w32 (x1 * 12)) + x2) < (96 : Int)) ∧
    ∀ h_5 : zH, h_5 = hset h (q + 8) ((w32 ((w32 (x1 * 12)) + x2)).toNat) 2147483647 →
    ∀ x_6 : Int, x_6 = w32 (x2 + 1) →
    zG E mX0_workOut (d + 1) 19 [zR q, zI x1, zI x_6, zU, zU, zU, zU] [] h_5 (qV K)))) :
  zG E mX0_workOut (d + 1) 19 [zR q, zI x1, zI x2, zU, zU, zU, zU] [] h (qV K) := by
  refine z_iload_n dX0_workOut_19 rfl ?_
  refine z_bipush dX0_workOut_20 (r32d rfl) (by decide) ?_
  refine z_icmp_ge (tgt := 44) dX0_workOut_22 (by decide) (fun c_1 => ?_) (fun c_1 => ?_)
  · have hyp := hyp.1 c_1
    refine z_aload_n dX0_workOut_44 rfl ?_
    refine z_aload_n dX0_workOut_45 rfl ?_
    refine gf_X0_18 (c2 := (q + 3)) dX0_workOut_46 rfl ((hq.2.1)) (Nat.lt_of_le_of_lt (Nat.le_add_right q 11) hq.1) rfl ?_
    refine z_iload_n dX0_workOut_49 rfl ?_
    refine cl_X0_116 dX0_workOut_50 rfl ((hq.2.1)) (Nat.lt_of_le_of_lt (Nat.le_add_right q 11) hq.1) (Nat.le_of_ble_eq_true rfl) (zC_mono ?_ hyp)
    rintro _ h_2 ⟨r_2, rfl, hyp⟩
    refine ⟨r_2, rfl, ?_⟩
    refine z_istore_n dX0_workOut_53 rfl (by decide) rfl ?_
    refine z_aload_n dX0_workOut_54 rfl ?_
    refine z_aload_n dX0_workOut_55 rfl ?_
    refine gf_X0_21 (c2 := (q + 4)) dX0_workOut_56 rfl ((hq.2.1)) (Nat.lt_of_le_of_lt (Nat.le_add_right q 11) hq.1) rfl ?_
    refine z_iload_n dX0_workOut_59 rfl ?_
    refine cl_X0_116 dX0_workOut_60 rfl ((hq.2.1)) (Nat.lt_of_le_of_lt (Nat.le_add_right q 11) hq.1) (Nat.le_of_ble_eq_true rfl) (zC_mono ?_ hyp)
    rintro _ h_3 ⟨r_3, rfl, hyp⟩
    refine ⟨r_3, rfl, ?_⟩
    refine z_istore_n dX0_workOut_63 rfl (by decide) rfl ?_
    refine z_aload_n dX0_workOut_64 rfl ?_
    refine gf_X0_46 dX0_workOut_65 rfl ((hq.2.1)) (Nat.lt_of_le_of_lt (Nat.le_add_right q 11) hq.1) ?_
    refine z_ineg dX0_workOut_68 ?_
    generalize ex_4 : w32 (-(h_3 q 11)) = x_4
    have hyp := hyp x_4 ex_4.symm
    refine z_istore dX0_workOut_69 (by decide) rfl ?_
    exact hyp
  · have hyp := hyp.2 c_1
    refine z_aload_n dX0_workOut_25 rfl ?_
    refine gf_X0_33 (c2 := (q + 8)) dX0_workOut_26 rfl ((hq.2.1)) (Nat.lt_of_le_of_lt (Nat.le_add_right q 11) hq.1) rfl ?_
    refine z_iload_n dX0_workOut_29 rfl ?_
    refine z_bipush dX0_workOut_30 (r32d rfl) (by decide) ?_
    refine z_imul dX0_workOut_32 ?_
    refine z_iload_n dX0_workOut_33 rfl ?_
    refine z_iadd dX0_workOut_34 ?_
    refine z_ldc (x := 2147483647) dX0_workOut_35 rfl wk_X0_115 (by decide) (r32d rfl) ?_
    obtain ⟨⟨hi0, hi1⟩, hyp⟩ := hyp
    refine z_iastore dX0_workOut_37 ((hq.2.2.2.2.2.2.2.2.2.1)) (Nat.lt_of_le_of_lt (Nat.add_le_add_left (Nat.le_of_ble_eq_true rfl : 8 ≤ 11) q) hq.1) hi0 hi1 ?_
    generalize eh_5 : hset h (q + 8) _ 2147483647 = h_5
    have hyp := hyp h_5 eh_5.symm
    refine z_iinc dX0_workOut_38 rfl (by decide) rfl ?_
    generalize ex_6 : w32 (x2 + 1) = x_6
    have hyp := hyp x_6 ex_6.symm
    refine z_goto (tgt := 19) dX0_workOut_41 (by decide) ?_
    exact hyp
set_option maxRecDepth 20000 in
theorem bX0_workOut_71 {E : zE} (hE : isC E) {q : Nat} (hq : isFi E q) {d : Nat} {x1 x2 x3 x4 : Int} {h : zH} {K : zH → Prop} (hyp :
  (((h q 11) < x4 →
    ((0 : Int) ≤ x1 ∧ x1 < (8 : Int)) ∧
    ∀ h_2 : zH, h_2 = hset h (q + 6) (x1.toNat) 0 →
    zG E mX0_workOut (d + 1) 159 [zR q, zI x1, zU, zU, zI 4, zU, zU] [] h_2 (qV K)) ∧
  (¬ ((h q 11) < x4) →
    ∀ x_3 : Int, x_3 = w32 (-(h q 11)) →
    zG E mX0_workOut (d + 1) 87 [zR q, zI x1, zI x2, zI x3, zI x4, zI x_3, zU] [] h (qV K)))) :
  zG E mX0_workOut (d + 1) 71 [zR q, zI x1, zI x2, zI x3, zI x4, zU, zU] [] h (qV K) := by
  refine z_iload dX0_workOut_71 rfl ?_
  refine z_aload_n dX0_workOut_73 rfl ?_
  refine gf_X0_46 dX0_workOut_74 rfl ((hq.2.1)) (Nat.lt_of_le_of_lt (Nat.le_add_right q 11) hq.1) ?_
  refine z_icmp_gt (tgt := 149) dX0_workOut_77 (by decide) (fun c_1 => ?_) (fun c_1 => ?_)
  · have hyp := hyp.1 c_1
    refine z_aload_n dX0_workOut_149 rfl ?_
    refine gf_X0_27 (c2 := (q + 6)) dX0_workOut_150 rfl ((hq.2.1)) (Nat.lt_of_le_of_lt (Nat.le_add_right q 11) hq.1) rfl ?_
    refine z_iload_n dX0_workOut_153 rfl ?_
    refine z_iconst dX0_workOut_154 (r32d rfl) ?_
    obtain ⟨⟨hi0, hi1⟩, hyp⟩ := hyp
    refine z_iastore dX0_workOut_155 ((hq.2.2.2.2.2.2.2.1)) (Nat.lt_of_le_of_lt (Nat.add_le_add_left (Nat.le_of_ble_eq_true rfl : 6 ≤ 11) q) hq.1) hi0 hi1 ?_
    generalize eh_2 : hset h (q + 6) _ 0 = h_2
    have hyp := hyp h_2 eh_2.symm
    refine z_iconst dX0_workOut_156 (r32d rfl) ?_
    refine z_istore dX0_workOut_157 (by decide) rfl ?_
    exact z_forget [true, true, false, false, true, false, false] rfl hyp
  · have hyp := hyp.2 c_1
    refine z_aload_n dX0_workOut_80 rfl ?_
    refine gf_X0_46 dX0_workOut_81 rfl ((hq.2.1)) (Nat.lt_of_le_of_lt (Nat.le_add_right q 11) hq.1) ?_
    refine z_ineg dX0_workOut_84 ?_
    generalize ex_3 : w32 (-(h q 11)) = x_3
    have hyp := hyp x_3 ex_3.symm
    refine z_istore dX0_workOut_85 (by decide) rfl ?_
    exact hyp
set_option maxRecDepth 20000 in
theorem bX0_workOut_87 {E : zE} (hE : isC E) {q : Nat} (hq : isFi E q) {d : Nat} {x1 x2 x3 x4 x5 : Int} {h : zH} {K : zH → Prop} (hyp :
  (((h q 11) < x5 →
    ∀ x_2 : Int, x_2 = w32 (x4 + 1) →
    zG E mX0_workOut (d + 1) 71 [zR q, zI x1, zI x2, zI x3, zI x_2, zU, zU] [] h (qV K)) ∧
  (¬ ((h q 11) < x5) →
    zG E mX0_workOut (d + 1) 99 [zR q, zI x1, zI x2, zI x3, zI x4, zI x5, zI 0] [] h (qV K)))) :
  zG E mX0_workOut (d + 1) 87 [zR q, zI x1, zI x2, zI x3, zI x4, zI x5, zU] [] h (qV K) := by
  refine z_iload dX0_workOut_87 rfl ?_
  refine z_aload_n dX0_workOut_89 rfl ?_
  refine gf_X0_46 dX0_workOut_90 rfl ((hq.2.1)) (Nat.lt_of_le_of_lt (Nat.le_add_right q 11) hq.1) ?_
  refine z_icmp_gt (tgt := 143) dX0_workOut_93 (by decide) (fun c_1 => ?_) (fun c_1 => ?_)
  · have hyp := hyp.1 c_1
    refine z_iinc dX0_workOut_143 rfl (by decide) rfl ?_
    generalize ex_2 : w32 (x4 + 1) = x_2
    have hyp := hyp x_2 ex_2.symm
    refine z_goto (tgt := 71) dX0_workOut_146 (by decide) ?_
    exact z_forget [true, true, true, true, true, false, false] rfl hyp
  · have hyp := hyp.2 c_1
    refine z_iconst dX0_workOut_96 (r32d rfl) ?_
    refine z_istore dX0_workOut_97 (by decide) rfl ?_
    exact hyp
set_option maxRecDepth 20000 in
theorem bX0_workOut_99 {E : zE} (hE : isC E) {q : Nat} (hq : isFi E q) {d : Nat} {x1 x2 x3 x4 x5 x6 : Int} {h : zH} {K : zH → Prop} (hyp :
  ((12 ≤ x6 →
    ∀ x_2 : Int, x_2 = w32 (x5 + 1) →
    zG E mX0_workOut (d + 1) 87 [zR q, zI x1, zI x2, zI x3, zI x4, zI x_2, zU] [] h (qV K)) ∧
  (¬ (12 ≤ x6) →
    zCV E mX0_tryMiddle d [zR q, zI x1, zI x6, zI (w32 (x2 + (w32 (x4 * (h q 12))))), zI (w32 (x3 + (w32 (x5 * (h q 12)))))] h (fun h_3 =>
      ∀ x_4 : Int, x_4 = w32 (x6 + 1) →
      zG E mX0_workOut (d + 1) 99 [zR q, zI x1, zI x2, zI x3, zI x4, zI x5, zI x_4] [] h_3 (qV K))))) :
  zG E mX0_workOut (d + 1) 99 [zR q, zI x1, zI x2, zI x3, zI x4, zI x5, zI x6] [] h (qV K) := by
  refine z_iload dX0_workOut_99 rfl ?_
  refine z_bipush dX0_workOut_101 (r32d rfl) (by decide) ?_
  refine z_icmp_ge (tgt := 137) dX0_workOut_103 (by decide) (fun c_1 => ?_) (fun c_1 => ?_)
  · have hyp := hyp.1 c_1
    refine z_iinc dX0_workOut_137 rfl (by decide) rfl ?_
    generalize ex_2 : w32 (x5 + 1) = x_2
    have hyp := hyp x_2 ex_2.symm
    refine z_goto (tgt := 87) dX0_workOut_140 (by decide) ?_
    exact z_forget [true, true, true, true, true, true, false] rfl hyp
  · have hyp := hyp.2 c_1
    refine z_aload_n dX0_workOut_106 rfl ?_
    refine z_iload_n dX0_workOut_107 rfl ?_
    refine z_iload dX0_workOut_108 rfl ?_
    refine z_iload_n dX0_workOut_110 rfl ?_
    refine z_iload dX0_workOut_111 rfl ?_
    refine z_aload_n dX0_workOut_113 rfl ?_
    refine gf_X0_50 dX0_workOut_114 rfl ((hq.2.1)) (Nat.lt_of_le_of_lt (Nat.le_add_right q 11) hq.1) ?_
    refine z_imul dX0_workOut_117 ?_
    refine z_iadd dX0_workOut_118 ?_
    refine z_iload_n dX0_workOut_119 rfl ?_
    refine z_iload dX0_workOut_120 rfl ?_
    refine z_aload_n dX0_workOut_122 rfl ?_
    refine gf_X0_50 dX0_workOut_123 rfl ((hq.2.1)) (Nat.lt_of_le_of_lt (Nat.le_add_right q 11) hq.1) ?_
    refine z_imul dX0_workOut_126 ?_
    refine z_iadd dX0_workOut_127 ?_
    refine cl_X0_120 dX0_workOut_128 rfl ((hq.2.1)) (Nat.lt_of_le_of_lt (Nat.le_add_right q 11) hq.1) (Nat.le_of_ble_eq_true rfl) (zC_mono ?_ hyp)
    rintro _ h_3 ⟨rfl, hyp⟩
    refine ⟨rfl, ?_⟩
    refine z_iinc dX0_workOut_131 rfl (by decide) rfl ?_
    generalize ex_4 : w32 (x6 + 1) = x_4
    have hyp := hyp x_4 ex_4.symm
    refine z_goto (tgt := 99) dX0_workOut_134 (by decide) ?_
    exact hyp
set_option maxRecDepth 20000 in
theorem bX0_workOut_159 {E : zE} (hE : isC E) {q : Nat} (hq : isFi E q) {d : Nat} {x1 x4 : Int} {h : zH} {K : zH → Prop} (hyp :
  ((12 ≤ x4 →
    K h) ∧
  (¬ (12 ≤ x4) →
    ((0 : Int) ≤ w32 ((w32 (x1 * 12)) + x4) ∧ w32 ((w32 (x1 * 12)) + x4) < (96 : Int)) ∧
    ((0 : Int) ≤ x1 ∧ x1 < (8 : Int)) ∧
    ((0 : Int) ≤ w32 ((w32 (x1 * 12)) + (h (q + 6) x1.toNat)) ∧ w32 ((w32 (x1 * 12)) + (h (q + 6) x1.toNat)) < (96 : Int)) ∧
    (((h (q + 8) (w32 ((w32 (x1 * 12)) + (h (q + 6) x1.toNat))).toNat) ≤ (h (q + 8) (w32 ((w32 (x1 * 12)) + x4)).toNat) →
      ∀ x_3 : Int, x_3 = w32 (x4 + 1) →
      zG E mX0_workOut (d + 1) 159 [zR q, zI x1, zU, zU, zI x_3, zU, zU] [] h (qV K)) ∧
    (¬ ((h (q + 8) (w32 ((w32 (x1 * 12)) + (h (q + 6) x1.toNat))).toNat) ≤ (h (q + 8) (w32 ((w32 (x1 * 12)) + x4)).toNat)) →
      ((0 : Int) ≤ x1 ∧ x1 < (8 : Int)) ∧
      ∀ h_4 : zH, h_4 = hset h (q + 6) (x1.toNat) x4 →
      ∀ x_5 : Int, x_5 = w32 (x4 + 1) →
      zG E mX0_workOut (d + 1) 159 [zR q, zI x1, zU, zU, zI x_5, zU, zU] [] h_4 (qV K)))))) :
  zG E mX0_workOut (d + 1) 159 [zR q, zI x1, zU, zU, zI x4, zU, zU] [] h (qV K) := by
  refine z_iload dX0_workOut_159 rfl ?_
  refine z_bipush dX0_workOut_161 (r32d rfl) (by decide) ?_
  refine z_icmp_ge (tgt := 211) dX0_workOut_163 (by decide) (fun c_1 => ?_) (fun c_1 => ?_)
  · have hyp := hyp.1 c_1
    exact z_vret dX0_workOut_211 rfl ⟨rfl, hyp⟩
  · have hyp := hyp.2 c_1
    refine z_aload_n dX0_workOut_166 rfl ?_
    refine gf_X0_33 (c2 := (q + 8)) dX0_workOut_167 rfl ((hq.2.1)) (Nat.lt_of_le_of_lt (Nat.le_add_right q 11) hq.1) rfl ?_
    refine z_iload_n dX0_workOut_170 rfl ?_
    refine z_bipush dX0_workOut_171 (r32d rfl) (by decide) ?_
    refine z_imul dX0_workOut_173 ?_
    refine z_iload dX0_workOut_174 rfl ?_
    refine z_iadd dX0_workOut_176 ?_
    obtain ⟨⟨hi0, hi1⟩, hyp⟩ := hyp
    refine z_iaload dX0_workOut_177 ((hq.2.2.2.2.2.2.2.2.2.1)) (Nat.lt_of_le_of_lt (Nat.add_le_add_left (Nat.le_of_ble_eq_true rfl : 8 ≤ 11) q) hq.1) hi0 hi1 ?_
    refine z_aload_n dX0_workOut_178 rfl ?_
    refine gf_X0_33 (c2 := (q + 8)) dX0_workOut_179 rfl ((hq.2.1)) (Nat.lt_of_le_of_lt (Nat.le_add_right q 11) hq.1) rfl ?_
    refine z_iload_n dX0_workOut_182 rfl ?_
    refine z_bipush dX0_workOut_183 (r32d rfl) (by decide) ?_
    refine z_imul dX0_workOut_185 ?_
    refine z_aload_n dX0_workOut_186 rfl ?_
    refine gf_X0_27 (c2 := (q + 6)) dX0_workOut_187 rfl ((hq.2.1)) (Nat.lt_of_le_of_lt (Nat.le_add_right q 11) hq.1) rfl ?_
    refine z_iload_n dX0_workOut_190 rfl ?_
    obtain ⟨⟨hi0, hi1⟩, hyp⟩ := hyp
    refine z_iaload dX0_workOut_191 ((hq.2.2.2.2.2.2.2.1)) (Nat.lt_of_le_of_lt (Nat.add_le_add_left (Nat.le_of_ble_eq_true rfl : 6 ≤ 11) q) hq.1) hi0 hi1 ?_
    refine z_iadd dX0_workOut_192 ?_
    obtain ⟨⟨hi0, hi1⟩, hyp⟩ := hyp
    refine z_iaload dX0_workOut_193 ((hq.2.2.2.2.2.2.2.2.2.1)) (Nat.lt_of_le_of_lt (Nat.add_le_add_left (Nat.le_of_ble_eq_true rfl : 8 ≤ 11) q) hq.1) hi0 hi1 ?_
    refine z_icmp_ge (tgt := 205) dX0_workOut_194 (by decide) (fun c_2 => ?_) (fun c_2 => ?_)
    · have hyp := hyp.1 c_2
      refine z_iinc dX0_workOut_205 rfl (by decide) rfl ?_
      generalize ex_3 : w32 (x4 + 1) = x_3
      have hyp := hyp x_3 ex_3.symm
      refine z_goto (tgt := 159) dX0_workOut_208 (by decide) ?_
      exact hyp
    · have hyp := hyp.2 c_2
      refine z_aload_n dX0_workOut_197 rfl ?_
      refine gf_X0_27 (c2 := (q + 6)) dX0_workOut_198 rfl ((hq.2.1)) (Nat.lt_of_le_of_lt (Nat.le_add_right q 11) hq.1) rfl ?_
      refine z_iload_n dX0_workOut_201 rfl ?_
      refine z_iload dX0_workOut_202 rfl ?_
      obtain ⟨⟨hi0, hi1⟩, hyp⟩ := hyp
      refine z_iastore dX0_workOut_204 ((hq.2.2.2.2.2.2.2.1)) (Nat.lt_of_le_of_lt (Nat.add_le_add_left (Nat.le_of_ble_eq_true rfl : 6 ≤ 11) q) hq.1) hi0 hi1 ?_
      generalize eh_4 : hset h (q + 6) _ x4 = h_4
      have hyp := hyp h_4 eh_4.symm
      refine z_iinc dX0_workOut_205 rfl (by decide) rfl ?_
      generalize ex_5 : w32 (x4 + 1) = x_5
      have hyp := hyp x_5 ex_5.symm
      refine z_goto (tgt := 159) dX0_workOut_208 (by decide) ?_
      exact hyp
set_option maxRecDepth 20000 in
theorem eX0_workOut {E : zE} (hE : isC E) {q : Nat} (hq : isFi E q) {d : Nat} {x1 : Int} {h : zH} {K : zH → Prop} (hyp :
  ((0 : Int) ≤ x1 ∧ x1 < (8 : Int)) ∧
  (((h (q + 5) x1.toNat) = 0 →
    ((0 : Int) ≤ x1 ∧ x1 < (8 : Int)) ∧
    ∀ h_2 : zH, h_2 = hset h (q + 5) (x1.toNat) 1 →
    zG E mX0_workOut (d + 1) 19 [zR q, zI x1, zI 0, zU, zU, zU, zU] [] h_2 (qV K)) ∧
  (¬ ((h (q + 5) x1.toNat) = 0) →
    K h))) :
  zCV E mX0_workOut (d + 1) [zR q, zI x1] h K := by
  refine zC_in (L0 := [zR q, zI x1, zU, zU, zU, zU, zU]) pn_X0 rfl (Nat.le_of_ble_eq_true rfl) ?_
  refine z_aload_n dX0_workOut_0 rfl ?_
  refine gf_X0_24 (c2 := (q + 5)) dX0_workOut_1 rfl ((hq.2.1)) (Nat.lt_of_le_of_lt (Nat.le_add_right q 11) hq.1) rfl ?_
  refine z_iload_n dX0_workOut_4 rfl ?_
  obtain ⟨⟨hi0, hi1⟩, hyp⟩ := hyp
  refine z_iaload dX0_workOut_5 ((hq.2.2.2.2.2.2.1)) (Nat.lt_of_le_of_lt (Nat.add_le_add_left (Nat.le_of_ble_eq_true rfl : 5 ≤ 11) q) hq.1) hi0 hi1 ?_
  refine z_if_eq (tgt := 10) dX0_workOut_6 (by decide) (fun c_1 => ?_) (fun c_1 => ?_)
  · have hyp := hyp.1 c_1
    refine z_aload_n dX0_workOut_10 rfl ?_
    refine gf_X0_24 (c2 := (q + 5)) dX0_workOut_11 rfl ((hq.2.1)) (Nat.lt_of_le_of_lt (Nat.le_add_right q 11) hq.1) rfl ?_
    refine z_iload_n dX0_workOut_14 rfl ?_
    refine z_iconst dX0_workOut_15 (r32d rfl) ?_
    obtain ⟨⟨hi0, hi1⟩, hyp⟩ := hyp
    refine z_iastore dX0_workOut_16 ((hq.2.2.2.2.2.2.1)) (Nat.lt_of_le_of_lt (Nat.add_le_add_left (Nat.le_of_ble_eq_true rfl : 5 ≤ 11) q) hq.1) hi0 hi1 ?_
    generalize eh_2 : hset h (q + 5) _ 1 = h_2
    have hyp := hyp h_2 eh_2.symm
    refine z_iconst dX0_workOut_17 (r32d rfl) ?_
    refine z_istore_n dX0_workOut_18 rfl (by decide) rfl ?_
    exact hyp
  · have hyp := hyp.2 c_1
    exact z_vret dX0_workOut_9 rfl ⟨rfl, hyp⟩
