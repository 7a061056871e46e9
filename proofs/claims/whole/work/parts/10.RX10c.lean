set_option maxRecDepth 20000 in
theorem bX10_tries_6 {E : zE} (hE : isR E) {d : Nat} {x1 x2 x3 x4 x5 x6 : Int} {h : zH} {K : zH → Prop} (hyp :
  (((h 0 68) ≤ x6 →
    ¬ (h 0 68) = 0 ∧
    ∀ x_2 : Int, x_2 = w32 (Int.tdiv x5 (h 0 68)) →
    zG E mX10_tries (d + 1) 66 [zR 0, zI x1, zI x2, zU, zU, zU, zI x_2, zI 0, zI 0] [] h (qV K)) ∧
  (¬ ((h 0 68) ≤ x6) →
    zCI E mX10_awayFrom d [zR 0, zI x6, zI x1, zI x2, zI x3, zI x4] h (fun r_3 h_3 =>
      ((0 : Int) ≤ x6 ∧ x6 < (10 : Int)) ∧
      ∀ h_4 : zH, h_4 = hset h_3 32 (x6.toNat) r_3 →
      ((0 : Int) ≤ x6 ∧ x6 < (10 : Int)) ∧
      ∀ x_5 : Int, x_5 = w32 (x5 + (h_4 32 x6.toNat)) →
      ∀ x_6 : Int, x_6 = w32 (x6 + 1) →
      zG E mX10_tries (d + 1) 6 [zR 0, zI x1, zI x2, zI x3, zI x4, zI x_5, zI x_6, zU, zU] [] h_4 (qV K))))) :
  zG E mX10_tries (d + 1) 6 [zR 0, zI x1, zI x2, zI x3, zI x4, zI x5, zI x6, zU, zU] [] h (qV K) := by
  refine z_iload dX10_tries_6 rfl ?_
  refine z_aload_n dX10_tries_8 rfl ?_
  refine gf_X10_385 dX10_tries_9 rfl (sR_0 hE) (cR_0 hE) ?_
  refine z_icmp_ge (tgt := 51) dX10_tries_12 (by decide) (fun c_1 => ?_) (fun c_1 => ?_)
  · have hyp := hyp.1 c_1
    refine z_iload dX10_tries_51 rfl ?_
    refine z_aload_n dX10_tries_53 rfl ?_
    refine gf_X10_385 dX10_tries_54 rfl (sR_0 hE) (cR_0 hE) ?_
    obtain ⟨hz, hyp⟩ := hyp
    refine z_idiv hz dX10_tries_57 ?_
    generalize ex_2 : w32 (Int.tdiv x5 (h 0 68)) = x_2
    have hyp := hyp x_2 ex_2.symm
    refine z_istore dX10_tries_58 (by decide) rfl ?_
    refine z_iconst dX10_tries_60 (r32d rfl) ?_
    refine z_istore dX10_tries_61 (by decide) rfl ?_
    refine z_iconst dX10_tries_63 (r32d rfl) ?_
    refine z_istore dX10_tries_64 (by decide) rfl ?_
    exact z_forget [true, true, true, false, false, false, true, true, true] rfl hyp
  · have hyp := hyp.2 c_1
    refine z_aload_n dX10_tries_15 rfl ?_
    refine gf_X10_122 (c2 := 32) dX10_tries_16 rfl (sR_0 hE) (cR_0 hE) rfl ?_
    refine z_iload dX10_tries_19 rfl ?_
    refine z_aload_n dX10_tries_21 rfl ?_
    refine z_iload dX10_tries_22 rfl ?_
    refine z_iload_n dX10_tries_24 rfl ?_
    refine z_iload_n dX10_tries_25 rfl ?_
    refine z_iload_n dX10_tries_26 rfl ?_
    refine z_iload dX10_tries_27 rfl ?_
    refine cl_X10_414 dX10_tries_29 rfl (sR_0 hE) (cR_0 hE) (Nat.le_of_ble_eq_true rfl) (zC_mono ?_ hyp)
    rintro _ h_3 ⟨r_3, rfl, hyp⟩
    refine ⟨r_3, rfl, ?_⟩
    obtain ⟨⟨hi0, hi1⟩, hyp⟩ := hyp
    refine z_iastore dX10_tries_32 (sR_32 hE) (cR_32 hE) hi0 hi1 ?_
    generalize eh_4 : hset h_3 32 _ r_3 = h_4
    have hyp := hyp h_4 eh_4.symm
    refine z_iload dX10_tries_33 rfl ?_
    refine z_aload_n dX10_tries_35 rfl ?_
    refine gf_X10_122 (c2 := 32) dX10_tries_36 rfl (sR_0 hE) (cR_0 hE) rfl ?_
    refine z_iload dX10_tries_39 rfl ?_
    obtain ⟨⟨hi0, hi1⟩, hyp⟩ := hyp
    refine z_iaload dX10_tries_41 (sR_32 hE) (cR_32 hE) hi0 hi1 ?_
    refine z_iadd dX10_tries_42 ?_
    generalize ex_5 : w32 (x5 + (h_4 32 x6.toNat)) = x_5
    have hyp := hyp x_5 ex_5.symm
    refine z_istore dX10_tries_43 (by decide) rfl ?_
    refine z_iinc dX10_tries_45 rfl (by decide) rfl ?_
    generalize ex_6 : w32 (x6 + 1) = x_6
    have hyp := hyp x_6 ex_6.symm
    refine z_goto (tgt := 6) dX10_tries_48 (by decide) ?_
    exact hyp
set_option maxRecDepth 20000 in
theorem bX10_tries_66 {E : zE} (hE : isR E) {d : Nat} {x1 x2 x6 x7 x8 : Int} {h : zH} {K : zH → Prop} (hyp :
  (((h 0 68) ≤ x8 →
    (((h 0 71) = (-1) →
      ∀ h_3 : zH, h_3 = hset h 0 71 x7 →
      ∀ h_4 : zH, h_4 = hset h_3 0 70 x6 →
      ∀ h_5 : zH, h_5 = hset h_4 0 72 x1 →
      ∀ h_6 : zH, h_6 = hset h_5 0 73 x2 →
      K h_6) ∧
    (¬ ((h 0 71) = (-1)) →
      ((x7 < (h 0 71) →
        ∀ h_8 : zH, h_8 = hset h 0 71 x7 →
        ∀ h_9 : zH, h_9 = hset h_8 0 70 x6 →
        ∀ h_10 : zH, h_10 = hset h_9 0 72 x1 →
        ∀ h_11 : zH, h_11 = hset h_10 0 73 x2 →
        K h_11) ∧
      (¬ (x7 < (h 0 71)) →
        K h))))) ∧
  (¬ ((h 0 68) ≤ x8) →
    ((0 : Int) ≤ x8 ∧ x8 < (10 : Int)) ∧
    ∀ x_12 : Int, x_12 = w32 (x7 + (zabs (w32 ((h 32 x8.toNat) - x6)))) →
    ∀ x_13 : Int, x_13 = w32 (x8 + 1) →
    zG E mX10_tries (d + 1) 66 [zR 0, zI x1, zI x2, zU, zU, zU, zI x6, zI x_12, zI x_13] [] h (qV K)))) :
  zG E mX10_tries (d + 1) 66 [zR 0, zI x1, zI x2, zU, zU, zU, zI x6, zI x7, zI x8] [] h (qV K) := by
  refine z_iload dX10_tries_66 rfl ?_
  refine z_aload_n dX10_tries_68 rfl ?_
  refine gf_X10_385 dX10_tries_69 rfl (sR_0 hE) (cR_0 hE) ?_
  refine z_icmp_ge (tgt := 99) dX10_tries_72 (by decide) (fun c_1 => ?_) (fun c_1 => ?_)
  · have hyp := hyp.1 c_1
    refine z_aload_n dX10_tries_99 rfl ?_
    refine gf_X10_407 dX10_tries_100 rfl (sR_0 hE) (cR_0 hE) ?_
    refine z_iconst dX10_tries_103 (r32d rfl) ?_
    refine z_icmp_eq (tgt := 117) dX10_tries_104 (by decide) (fun c_2 => ?_) (fun c_2 => ?_)
    · have hyp := hyp.1 c_2
      refine z_aload_n dX10_tries_117 rfl ?_
      refine z_iload dX10_tries_118 rfl ?_
      refine pf_X10_407 dX10_tries_120 rfl (sR_0 hE) (cR_0 hE) ?_
      generalize eh_3 : hset h 0 71 _ = h_3
      have hyp := hyp h_3 eh_3.symm
      refine z_aload_n dX10_tries_123 rfl ?_
      refine z_iload dX10_tries_124 rfl ?_
      refine pf_X10_421 dX10_tries_126 rfl (sR_0 hE) (cR_0 hE) ?_
      generalize eh_4 : hset h_3 0 70 _ = h_4
      have hyp := hyp h_4 eh_4.symm
      refine z_aload_n dX10_tries_129 rfl ?_
      refine z_iload_n dX10_tries_130 rfl ?_
      refine pf_X10_424 dX10_tries_131 rfl (sR_0 hE) (cR_0 hE) ?_
      generalize eh_5 : hset h_4 0 72 _ = h_5
      have hyp := hyp h_5 eh_5.symm
      refine z_aload_n dX10_tries_134 rfl ?_
      refine z_iload_n dX10_tries_135 rfl ?_
      refine pf_X10_427 dX10_tries_136 rfl (sR_0 hE) (cR_0 hE) ?_
      generalize eh_6 : hset h_5 0 73 _ = h_6
      have hyp := hyp h_6 eh_6.symm
      exact z_vret dX10_tries_139 rfl ⟨rfl, hyp⟩
    · have hyp := hyp.2 c_2
      refine z_iload dX10_tries_107 rfl ?_
      refine z_aload_n dX10_tries_109 rfl ?_
      refine gf_X10_407 dX10_tries_110 rfl (sR_0 hE) (cR_0 hE) ?_
      refine z_icmp_lt (tgt := 117) dX10_tries_113 (by decide) (fun c_7 => ?_) (fun c_7 => ?_)
      · have hyp := hyp.1 c_7
        refine z_aload_n dX10_tries_117 rfl ?_
        refine z_iload dX10_tries_118 rfl ?_
        refine pf_X10_407 dX10_tries_120 rfl (sR_0 hE) (cR_0 hE) ?_
        generalize eh_8 : hset h 0 71 _ = h_8
        have hyp := hyp h_8 eh_8.symm
        refine z_aload_n dX10_tries_123 rfl ?_
        refine z_iload dX10_tries_124 rfl ?_
        refine pf_X10_421 dX10_tries_126 rfl (sR_0 hE) (cR_0 hE) ?_
        generalize eh_9 : hset h_8 0 70 _ = h_9
        have hyp := hyp h_9 eh_9.symm
        refine z_aload_n dX10_tries_129 rfl ?_
        refine z_iload_n dX10_tries_130 rfl ?_
        refine pf_X10_424 dX10_tries_131 rfl (sR_0 hE) (cR_0 hE) ?_
        generalize eh_10 : hset h_9 0 72 _ = h_10
        have hyp := hyp h_10 eh_10.symm
        refine z_aload_n dX10_tries_134 rfl ?_
        refine z_iload_n dX10_tries_135 rfl ?_
        refine pf_X10_427 dX10_tries_136 rfl (sR_0 hE) (cR_0 hE) ?_
        generalize eh_11 : hset h_10 0 73 _ = h_11
        have hyp := hyp h_11 eh_11.symm
        exact z_vret dX10_tries_139 rfl ⟨rfl, hyp⟩
      · have hyp := hyp.2 c_7
        exact z_vret dX10_tries_116 rfl ⟨rfl, hyp⟩
  · have hyp := hyp.2 c_1
    refine z_iload dX10_tries_75 rfl ?_
    refine z_aload_n dX10_tries_77 rfl ?_
    refine gf_X10_122 (c2 := 32) dX10_tries_78 rfl (sR_0 hE) (cR_0 hE) rfl ?_
    refine z_iload dX10_tries_81 rfl ?_
    obtain ⟨⟨hi0, hi1⟩, hyp⟩ := hyp
    refine z_iaload dX10_tries_83 (sR_32 hE) (cR_32 hE) hi0 hi1 ?_
    refine z_iload dX10_tries_84 rfl ?_
    refine z_isub dX10_tries_86 ?_
    refine cl_X10_418 dX10_tries_87 rfl (Nat.le_of_ble_eq_true rfl) ?_
    refine z_iadd dX10_tries_90 ?_
    generalize ex_12 : w32 (x7 + (zabs (w32 ((h 32 x8.toNat) - x6)))) = x_12
    have hyp := hyp x_12 ex_12.symm
    refine z_istore dX10_tries_91 (by decide) rfl ?_
    refine z_iinc dX10_tries_93 rfl (by decide) rfl ?_
    generalize ex_13 : w32 (x8 + 1) = x_13
    have hyp := hyp x_13 ex_13.symm
    refine z_goto (tgt := 66) dX10_tries_96 (by decide) ?_
    exact hyp
set_option maxRecDepth 20000 in
theorem eX10_tries {E : zE} (hE : isR E) {d : Nat} {x1 x2 x3 x4 : Int} {h : zH} {K : zH → Prop} (hyp :
  zG E mX10_tries (d + 1) 6 [zR 0, zI x1, zI x2, zI x3, zI x4, zI 0, zI 0, zU, zU] [] h (qV K)) :
  zCV E mX10_tries (d + 1) [zR 0, zI x1, zI x2, zI x3, zI x4] h K := by
  refine zC_in (L0 := [zR 0, zI x1, zI x2, zI x3, zI x4, zU, zU, zU, zU]) pn_X10 rfl (Nat.le_of_ble_eq_true rfl) ?_
  refine z_iconst dX10_tries_0 (r32d rfl) ?_
  refine z_istore dX10_tries_1 (by decide) rfl ?_
  refine z_iconst dX10_tries_3 (r32d rfl) ?_
  refine z_istore dX10_tries_4 (by decide) rfl ?_
  exact hyp
set_option maxRecDepth 20000 in
theorem eX10_unit {E : zE} (hE : isR E) {d : Nat} {x1 x2 x3 x4 : Int} {h : zH} {K : Int → zH → Prop} (hyp :
  ∀ h_1 : zH, h_1 = hset h 0 0 0 →
  zCI E mX10_areUnits d [zI x1, zI x2, zI x3, zI 1000] h_1 (fun r_2 h_2 =>
    ((r_2 = 0 →
      K (-1) h_2) ∧
    (¬ (r_2 = 0) →
      ((x4 < 0 →
        K (-1) h_2) ∧
      (¬ (x4 < 0) →
        ((x4 ≤ 2 →
          zCV E mX10_laid d [zR 0] h_2 (fun h_6 =>
            zCV E mX10_reckon d [zR 0, zI (-1), zI (-1)] h_6 (fun h_7 =>
              zCI E mX10_bestOf d [zR 0, zI x1, zI x2, zI x3] h_7 (fun r_8 h_8 =>
                ((x4 ≠ 0 →
                  ((x4 ≠ 1 →
                    ¬ x3 = 0 ∧
                    K (w32 ((w32 (Int.tdiv (w32 (x2 - x1)) x3)) + 1)) h_8) ∧
                  (¬ (x4 ≠ 1) →
                    zCI E mX10_lumpsOf d [zR 0, zI r_8] h_8 (fun r_11 h_11 =>
                      K r_11 h_11)))) ∧
                (¬ (x4 ≠ 0) →
                  K r_8 h_8)))))) ∧
        (¬ (x4 ≤ 2) →
          K (-1) h_2)))))))) :
  zCI E mX10_unit (d + 1) [zR 0, zI x1, zI x2, zI x3, zI x4] h K := by
  refine zC_in (L0 := [zR 0, zI x1, zI x2, zI x3, zI x4, zU]) pn_X10 rfl (Nat.le_of_ble_eq_true rfl) ?_
  refine z_aload_n dX10_unit_0 rfl ?_
  refine z_iconst dX10_unit_1 (r32d rfl) ?_
  refine pf_X10_153 dX10_unit_2 rfl (sR_0 hE) (cR_0 hE) ?_
  generalize eh_1 : hset h 0 0 _ = h_1
  have hyp := hyp h_1 eh_1.symm
  refine z_iload_n dX10_unit_5 rfl ?_
  refine z_iload_n dX10_unit_6 rfl ?_
  refine z_iload_n dX10_unit_7 rfl ?_
  refine z_sipush dX10_unit_8 (r32d rfl) (by decide) ?_
  refine cl_X10_499 dX10_unit_11 rfl (Nat.le_of_ble_eq_true rfl) (zC_mono ?_ hyp)
  rintro _ h_2 ⟨r_2, rfl, hyp⟩
  refine ⟨r_2, rfl, ?_⟩
  refine z_if_eq (tgt := 28) dX10_unit_14 (by decide) (fun c_3 => ?_) (fun c_3 => ?_)
  · have hyp := hyp.1 c_3
    refine z_iconst dX10_unit_28 (r32d rfl) ?_
    exact z_iret dX10_unit_29 rfl ⟨_, rfl, hyp⟩
  · have hyp := hyp.2 c_3
    refine z_iload dX10_unit_17 rfl ?_
    refine z_if_lt (tgt := 28) dX10_unit_19 (by decide) (fun c_4 => ?_) (fun c_4 => ?_)
    · have hyp := hyp.1 c_4
      refine z_iconst dX10_unit_28 (r32d rfl) ?_
      exact z_iret dX10_unit_29 rfl ⟨_, rfl, hyp⟩
    · have hyp := hyp.2 c_4
      refine z_iload dX10_unit_22 rfl ?_
      refine z_iconst dX10_unit_24 (r32d rfl) ?_
      refine z_icmp_le (tgt := 30) dX10_unit_25 (by decide) (fun c_5 => ?_) (fun c_5 => ?_)
      · have hyp := hyp.1 c_5
        refine z_aload_n dX10_unit_30 rfl ?_
        refine cl_X10_440 dX10_unit_31 rfl (sR_0 hE) (cR_0 hE) (Nat.le_of_ble_eq_true rfl) (zC_mono ?_ hyp)
        rintro _ h_6 ⟨rfl, hyp⟩
        refine ⟨rfl, ?_⟩
        refine z_aload_n dX10_unit_34 rfl ?_
        refine z_iconst dX10_unit_35 (r32d rfl) ?_
        refine z_iconst dX10_unit_36 (r32d rfl) ?_
        refine cl_X10_493 dX10_unit_37 rfl (sR_0 hE) (cR_0 hE) (Nat.le_of_ble_eq_true rfl) (zC_mono ?_ hyp)
        rintro _ h_7 ⟨rfl, hyp⟩
        refine ⟨rfl, ?_⟩
        refine z_aload_n dX10_unit_40 rfl ?_
        refine z_iload_n dX10_unit_41 rfl ?_
        refine z_iload_n dX10_unit_42 rfl ?_
        refine z_iload_n dX10_unit_43 rfl ?_
        refine cl_X10_503 dX10_unit_44 rfl (sR_0 hE) (cR_0 hE) (Nat.le_of_ble_eq_true rfl) (zC_mono ?_ hyp)
        rintro _ h_8 ⟨r_8, rfl, hyp⟩
        refine ⟨r_8, rfl, ?_⟩
        refine z_istore dX10_unit_47 (by decide) rfl ?_
        refine z_iload dX10_unit_49 rfl ?_
        refine z_if_ne (tgt := 59) dX10_unit_51 (by decide) (fun c_9 => ?_) (fun c_9 => ?_)
        · have hyp := hyp.1 c_9
          refine z_iload dX10_unit_59 rfl ?_
          refine z_iconst dX10_unit_61 (r32d rfl) ?_
          refine z_icmp_ne (tgt := 74) dX10_unit_62 (by decide) (fun c_10 => ?_) (fun c_10 => ?_)
          · have hyp := hyp.1 c_10
            refine z_iload_n dX10_unit_74 rfl ?_
            refine z_iload_n dX10_unit_75 rfl ?_
            refine z_isub dX10_unit_76 ?_
            refine z_iload_n dX10_unit_77 rfl ?_
            obtain ⟨hz, hyp⟩ := hyp
            refine z_idiv hz dX10_unit_78 ?_
            refine z_iconst dX10_unit_79 (r32d rfl) ?_
            refine z_iadd dX10_unit_80 ?_
            exact z_iret dX10_unit_81 rfl ⟨_, rfl, hyp⟩
          · have hyp := hyp.2 c_10
            refine z_aload_n dX10_unit_65 rfl ?_
            refine z_iload dX10_unit_66 rfl ?_
            refine cl_X10_496 dX10_unit_68 rfl (sR_0 hE) (cR_0 hE) (Nat.le_of_ble_eq_true rfl) (zC_mono ?_ hyp)
            rintro _ h_11 ⟨r_11, rfl, hyp⟩
            refine ⟨r_11, rfl, ?_⟩
            refine z_goto (tgt := 81) dX10_unit_71 (by decide) ?_
            exact z_iret dX10_unit_81 rfl ⟨_, rfl, hyp⟩
        · have hyp := hyp.2 c_9
          refine z_iload dX10_unit_54 rfl ?_
          refine z_goto (tgt := 81) dX10_unit_56 (by decide) ?_
          exact z_iret dX10_unit_81 rfl ⟨_, rfl, hyp⟩
      · have hyp := hyp.2 c_5
        refine z_iconst dX10_unit_28 (r32d rfl) ?_
        exact z_iret dX10_unit_29 rfl ⟨_, rfl, hyp⟩
set_option maxRecDepth 20000 in
theorem bX10_wander_43 {E : zE} (hE : isR E) {d : Nat} {x1 x3 x4 : Int} {h : zH} {K : Int → zH → Prop} (hyp :
  (((h 0 24) ≤ x4 →
    K x3 h) ∧
  (¬ ((h 0 24) ≤ x4) →
    ((0 : Int) ≤ x4 ∧ x4 < (8 : Int)) ∧
    (((h 39 x4.toNat) ≠ (-1) →
      ((0 : Int) ≤ x4 ∧ x4 < (8 : Int)) ∧
      zCI E mX10_part d [zR 0, zI x1] h (fun r_3 h_3 =>
        zCI E mX10_timesBy d [zI (h 39 x4.toNat), zI r_3] h_3 (fun r_4 h_4 =>
          ((0 : Int) ≤ x4 ∧ x4 < (8 : Int)) ∧
          zCI E mX10_part d [zR 0, zI x1] h_4 (fun r_5 h_5 =>
            zCI E mX10_offBy d [zI (h_4 39 x4.toNat), zI r_5] h_5 (fun r_6 h_6 =>
              (((h_6 0 57) = 0 →
                zG E mX10_wander (d + 1) 110 [zR 0, zI x1, zU, zI x3, zI x4, zI r_4, zU] [zI 1, zI r_6] h_6 (qI K)) ∧
              (¬ ((h_6 0 57) = 0) →
                zG E mX10_wander (d + 1) 110 [zR 0, zI x1, zU, zI x3, zI x4, zI r_4, zU] [zI 2, zI r_6] h_6 (qI K)))))))) ∧
    (¬ ((h 39 x4.toNat) ≠ (-1)) →
      ∀ x_8 : Int, x_8 = w32 (x4 + 1) →
      zG E mX10_wander (d + 1) 43 [zR 0, zI x1, zU, zI x3, zI x_8, zU, zU] [] h (qI K)))))) :
  zG E mX10_wander (d + 1) 43 [zR 0, zI x1, zU, zI x3, zI x4, zU, zU] [] h (qI K) := by
  refine z_iload dX10_wander_43 rfl ?_
  refine z_aload_n dX10_wander_45 rfl ?_
  refine gf_X10_340 dX10_wander_46 rfl (sR_0 hE) (cR_0 hE) ?_
  refine z_icmp_ge (tgt := 139) dX10_wander_49 (by decide) (fun c_1 => ?_) (fun c_1 => ?_)
  · have hyp := hyp.1 c_1
    refine z_iload_n dX10_wander_139 rfl ?_
    exact z_iret dX10_wander_140 rfl ⟨_, rfl, hyp⟩
  · have hyp := hyp.2 c_1
    refine z_aload_n dX10_wander_52 rfl ?_
    refine gf_X10_144 (c2 := 39) dX10_wander_53 rfl (sR_0 hE) (cR_0 hE) rfl ?_
    refine z_iload dX10_wander_56 rfl ?_
    obtain ⟨⟨hi0, hi1⟩, hyp⟩ := hyp
    refine z_iaload dX10_wander_58 (sR_39 hE) (cR_39 hE) hi0 hi1 ?_
    refine z_iconst dX10_wander_59 (r32d rfl) ?_
    refine z_icmp_ne (tgt := 66) dX10_wander_60 (by decide) (fun c_2 => ?_) (fun c_2 => ?_)
    · have hyp := hyp.1 c_2
      refine z_aload_n dX10_wander_66 rfl ?_
      refine gf_X10_144 (c2 := 39) dX10_wander_67 rfl (sR_0 hE) (cR_0 hE) rfl ?_
      refine z_iload dX10_wander_70 rfl ?_
      obtain ⟨⟨hi0, hi1⟩, hyp⟩ := hyp
      refine z_iaload dX10_wander_72 (sR_39 hE) (cR_39 hE) hi0 hi1 ?_
      refine z_aload_n dX10_wander_73 rfl ?_
      refine z_iload_n dX10_wander_74 rfl ?_
      refine cl_X10_463 dX10_wander_75 rfl (sR_0 hE) (cR_0 hE) (Nat.le_of_ble_eq_true rfl) (zC_mono ?_ hyp)
      rintro _ h_3 ⟨r_3, rfl, hyp⟩
      refine ⟨r_3, rfl, ?_⟩
      refine cl_X10_469 dX10_wander_78 rfl (Nat.le_of_ble_eq_true rfl) (zC_mono ?_ hyp)
      rintro _ h_4 ⟨r_4, rfl, hyp⟩
      refine ⟨r_4, rfl, ?_⟩
      refine z_istore dX10_wander_81 (by decide) rfl ?_
      refine z_aload_n dX10_wander_83 rfl ?_
      refine gf_X10_144 (c2 := 39) dX10_wander_84 rfl (sR_0 hE) (cR_0 hE) rfl ?_
      refine z_iload dX10_wander_87 rfl ?_
      obtain ⟨⟨hi0, hi1⟩, hyp⟩ := hyp
      refine z_iaload dX10_wander_89 (sR_39 hE) (cR_39 hE) hi0 hi1 ?_
      refine z_aload_n dX10_wander_90 rfl ?_
      refine z_iload_n dX10_wander_91 rfl ?_
      refine cl_X10_463 dX10_wander_92 rfl (sR_0 hE) (cR_0 hE) (Nat.le_of_ble_eq_true rfl) (zC_mono ?_ hyp)
      rintro _ h_5 ⟨r_5, rfl, hyp⟩
      refine ⟨r_5, rfl, ?_⟩
      refine cl_X10_466 dX10_wander_95 rfl (Nat.le_of_ble_eq_true rfl) (zC_mono ?_ hyp)
      rintro _ h_6 ⟨r_6, rfl, hyp⟩
      refine ⟨r_6, rfl, ?_⟩
      refine z_aload_n dX10_wander_98 rfl ?_
      refine gf_X10_376 dX10_wander_99 rfl (sR_0 hE) (cR_0 hE) ?_
      refine z_if_eq (tgt := 109) dX10_wander_102 (by decide) (fun c_7 => ?_) (fun c_7 => ?_)
      · have hyp := hyp.1 c_7
        refine z_iconst dX10_wander_109 (r32d rfl) ?_
        exact hyp
      · have hyp := hyp.2 c_7
        refine z_iconst dX10_wander_105 (r32d rfl) ?_
        refine z_goto (tgt := 110) dX10_wander_106 (by decide) ?_
        exact hyp
    · have hyp := hyp.2 c_2
      refine z_goto (tgt := 133) dX10_wander_63 (by decide) ?_
      refine z_iinc dX10_wander_133 rfl (by decide) rfl ?_
      generalize ex_8 : w32 (x4 + 1) = x_8
      have hyp := hyp x_8 ex_8.symm
      refine z_goto (tgt := 43) dX10_wander_136 (by decide) ?_
      exact hyp
set_option maxRecDepth 20000 in
theorem bX10_wander_110 {E : zE} (hE : isR E) {d : Nat} {x1 x3 x4 x5 s0 s1 : Int} {h : zH} {K : Int → zH → Prop} (hyp :
  ∀ x_1 : Int, x_1 = w32 (s1 * s0) →
  ((x5 ≤ 0 →
    ∀ x_3 : Int, x_3 = w32 (x4 + 1) →
    zG E mX10_wander (d + 1) 43 [zR 0, zI x1, zU, zI x3, zI x_3, zU, zU] [] h (qI K)) ∧
  (¬ (x5 ≤ 0) →
    ¬ x5 = 0 ∧
    ∀ x_4 : Int, x_4 = max x3 (w32 (Int.tdiv (w32 ((w32 (x_1 + x5)) - 1)) x5)) →
    ∀ x_5 : Int, x_5 = w32 (x4 + 1) →
    zG E mX10_wander (d + 1) 43 [zR 0, zI x1, zU, zI x_4, zI x_5, zU, zU] [] h (qI K)))) :
  zG E mX10_wander (d + 1) 110 [zR 0, zI x1, zU, zI x3, zI x4, zI x5, zU] [zI s0, zI s1] h (qI K) := by
  refine z_imul dX10_wander_110 ?_
  generalize ex_1 : w32 (s1 * s0) = x_1
  have hyp := hyp x_1 ex_1.symm
  refine z_istore dX10_wander_111 (by decide) rfl ?_
  refine z_iload dX10_wander_113 rfl ?_
  refine z_if_le (tgt := 133) dX10_wander_115 (by decide) (fun c_2 => ?_) (fun c_2 => ?_)
  · have hyp := hyp.1 c_2
    refine z_iinc dX10_wander_133 rfl (by decide) rfl ?_
    generalize ex_3 : w32 (x4 + 1) = x_3
    have hyp := hyp x_3 ex_3.symm
    refine z_goto (tgt := 43) dX10_wander_136 (by decide) ?_
    exact z_forget [true, true, false, true, true, false, false] rfl hyp
  · have hyp := hyp.2 c_2
    refine z_iload_n dX10_wander_118 rfl ?_
    refine z_iload dX10_wander_119 rfl ?_
    refine z_iload dX10_wander_121 rfl ?_
    refine z_iadd dX10_wander_123 ?_
    refine z_iconst dX10_wander_124 (r32d rfl) ?_
    refine z_isub dX10_wander_125 ?_
    refine z_iload dX10_wander_126 rfl ?_
    obtain ⟨hz, hyp⟩ := hyp
    refine z_idiv hz dX10_wander_128 ?_
    refine cl_X10_452 dX10_wander_129 rfl (Nat.le_of_ble_eq_true rfl) ?_
    generalize ex_4 : max x3 (w32 (Int.tdiv (w32 ((w32 (x_1 + x5)) - 1)) x5)) = x_4
    have hyp := hyp x_4 ex_4.symm
    refine z_istore_n dX10_wander_132 rfl (by decide) rfl ?_
    refine z_iinc dX10_wander_133 rfl (by decide) rfl ?_
    generalize ex_5 : w32 (x4 + 1) = x_5
    have hyp := hyp x_5 ex_5.symm
    refine z_goto (tgt := 43) dX10_wander_136 (by decide) ?_
    exact z_forget [true, true, false, true, true, false, false] rfl hyp
set_option maxRecDepth 20000 in
theorem eX10_wander {E : zE} (hE : isR E) {d : Nat} {x1 x2 : Int} {h : zH} {K : Int → zH → Prop} (hyp :
  ∀ h_1 : zH, h_1 = hset h 0 0 0 →
  zCI E mX10_isUnit d [zI x1] h_1 (fun r_2 h_2 =>
    ((r_2 = 0 →
      K (-2) h_2) ∧
    (¬ (r_2 = 0) →
      ((x2 < (-1) →
        K (-2) h_2) ∧
      (¬ (x2 < (-1)) →
        ((x2 < (h_2 0 23) →
          zCV E mX10_laid d [zR 0] h_2 (fun h_6 =>
            zCV E mX10_reckon d [zR 0, zI x2, zI (-1)] h_6 (fun h_7 =>
              zG E mX10_wander (d + 1) 43 [zR 0, zI x1, zU, zI 0, zI 0, zU, zU] [] h_7 (qI K)))) ∧
        (¬ (x2 < (h_2 0 23)) →
          K (-2) h_2)))))))) :
  zCI E mX10_wander (d + 1) [zR 0, zI x1, zI x2] h K := by
  refine zC_in (L0 := [zR 0, zI x1, zI x2, zU, zU, zU, zU]) pn_X10 rfl (Nat.le_of_ble_eq_true rfl) ?_
  refine z_aload_n dX10_wander_0 rfl ?_
  refine z_iconst dX10_wander_1 (r32d rfl) ?_
  refine pf_X10_153 dX10_wander_2 rfl (sR_0 hE) (cR_0 hE) ?_
  generalize eh_1 : hset h 0 0 _ = h_1
  have hyp := hyp h_1 eh_1.symm
  refine z_iload_n dX10_wander_5 rfl ?_
  refine cl_X10_460 dX10_wander_6 rfl (Nat.le_of_ble_eq_true rfl) (zC_mono ?_ hyp)
  rintro _ h_2 ⟨r_2, rfl, hyp⟩
  refine ⟨r_2, rfl, ?_⟩
  refine z_if_eq (tgt := 25) dX10_wander_9 (by decide) (fun c_3 => ?_) (fun c_3 => ?_)
  · have hyp := hyp.1 c_3
    refine z_bipush dX10_wander_25 (r32d rfl) (by decide) ?_
    exact z_iret dX10_wander_27 rfl ⟨_, rfl, hyp⟩
  · have hyp := hyp.2 c_3
    refine z_iload_n dX10_wander_12 rfl ?_
    refine z_iconst dX10_wander_13 (r32d rfl) ?_
    refine z_icmp_lt (tgt := 25) dX10_wander_14 (by decide) (fun c_4 => ?_) (fun c_4 => ?_)
    · have hyp := hyp.1 c_4
      refine z_bipush dX10_wander_25 (r32d rfl) (by decide) ?_
      exact z_iret dX10_wander_27 rfl ⟨_, rfl, hyp⟩
    · have hyp := hyp.2 c_4
      refine z_iload_n dX10_wander_17 rfl ?_
      refine z_aload_n dX10_wander_18 rfl ?_
      refine gf_X10_337 dX10_wander_19 rfl (sR_0 hE) (cR_0 hE) ?_
      refine z_icmp_lt (tgt := 28) dX10_wander_22 (by decide) (fun c_5 => ?_) (fun c_5 => ?_)
      · have hyp := hyp.1 c_5
        refine z_aload_n dX10_wander_28 rfl ?_
        refine cl_X10_440 dX10_wander_29 rfl (sR_0 hE) (cR_0 hE) (Nat.le_of_ble_eq_true rfl) (zC_mono ?_ hyp)
        rintro _ h_6 ⟨rfl, hyp⟩
        refine ⟨rfl, ?_⟩
        refine z_aload_n dX10_wander_32 rfl ?_
        refine z_iload_n dX10_wander_33 rfl ?_
        refine z_iconst dX10_wander_34 (r32d rfl) ?_
        refine cl_X10_493 dX10_wander_35 rfl (sR_0 hE) (cR_0 hE) (Nat.le_of_ble_eq_true rfl) (zC_mono ?_ hyp)
        rintro _ h_7 ⟨rfl, hyp⟩
        refine ⟨rfl, ?_⟩
        refine z_iconst dX10_wander_38 (r32d rfl) ?_
        refine z_istore_n dX10_wander_39 rfl (by decide) rfl ?_
        refine z_iconst dX10_wander_40 (r32d rfl) ?_
        refine z_istore dX10_wander_41 (by decide) rfl ?_
        exact z_forget [true, true, false, true, true, false, false] rfl hyp
      · have hyp := hyp.2 c_5
        refine z_bipush dX10_wander_25 (r32d rfl) (by decide) ?_
        exact z_iret dX10_wander_27 rfl ⟨_, rfl, hyp⟩
set_option maxRecDepth 20000 in
theorem bX10_wayLine_34 {E : zE} (hE : isR E) {d : Nat} {x1 x2 : Int} {h : zH} {K : zH → Prop} (hyp :
  ((6 ≤ x2 →
    ∀ h_2 : zH, h_2 = hset h 0 34 (w32 ((h 0 34) + 1)) →
    K h_2) ∧
  (¬ (6 ≤ x2) →
    zCI E mX10_numeral d [zR 0, zI 0, zI 99] h (fun r_3 h_3 =>
      ((0 : Int) ≤ w32 ((w32 (6 * x1)) + x2) ∧ w32 ((w32 (6 * x1)) + x2) < (60 : Int)) ∧
      ∀ h_4 : zH, h_4 = hset h_3 14 ((w32 ((w32 (6 * x1)) + x2)).toNat) r_3 →
      ∀ x_5 : Int, x_5 = w32 (x2 + 1) →
      zG E mX10_wayLine (d + 1) 34 [zR 0, zI x1, zI x_5] [] h_4 (qV K))))) :
  zG E mX10_wayLine (d + 1) 34 [zR 0, zI x1, zI x2] [] h (qV K) := by
  refine z_iload_n dX10_wayLine_34 rfl ?_
  refine z_bipush dX10_wayLine_35 (r32d rfl) (by decide) ?_
  refine z_icmp_ge (tgt := 64) dX10_wayLine_37 (by decide) (fun c_1 => ?_) (fun c_1 => ?_)
  · have hyp := hyp.1 c_1
    refine z_aload_n dX10_wayLine_64 rfl ?_
    refine z_dup dX10_wayLine_65 rfl ?_
    refine gf_X10_236 dX10_wayLine_66 rfl (sR_0 hE) (cR_0 hE) ?_
    refine z_iconst dX10_wayLine_69 (r32d rfl) ?_
    refine z_iadd dX10_wayLine_70 ?_
    refine pf_X10_236 dX10_wayLine_71 rfl (sR_0 hE) (cR_0 hE) ?_
    generalize eh_2 : hset h 0 34 _ = h_2
    have hyp := hyp h_2 eh_2.symm
    exact z_vret dX10_wayLine_74 rfl ⟨rfl, hyp⟩
  · have hyp := hyp.2 c_1
    refine z_aload_n dX10_wayLine_40 rfl ?_
    refine gf_X10_52 (c2 := 14) dX10_wayLine_41 rfl (sR_0 hE) (cR_0 hE) rfl ?_
    refine z_bipush dX10_wayLine_44 (r32d rfl) (by decide) ?_
    refine z_iload_n dX10_wayLine_46 rfl ?_
    refine z_imul dX10_wayLine_47 ?_
    refine z_iload_n dX10_wayLine_48 rfl ?_
    refine z_iadd dX10_wayLine_49 ?_
    refine z_aload_n dX10_wayLine_50 rfl ?_
    refine z_iconst dX10_wayLine_51 (r32d rfl) ?_
    refine z_bipush dX10_wayLine_52 (r32d rfl) (by decide) ?_
    refine cl_X10_222 dX10_wayLine_54 rfl (sR_0 hE) (cR_0 hE) (Nat.le_of_ble_eq_true rfl) (zC_mono ?_ hyp)
    rintro _ h_3 ⟨r_3, rfl, hyp⟩
    refine ⟨r_3, rfl, ?_⟩
    obtain ⟨⟨hi0, hi1⟩, hyp⟩ := hyp
    refine z_iastore dX10_wayLine_57 (sR_14 hE) (cR_14 hE) hi0 hi1 ?_
    generalize eh_4 : hset h_3 14 _ r_3 = h_4
    have hyp := hyp h_4 eh_4.symm
    refine z_iinc dX10_wayLine_58 rfl (by decide) rfl ?_
    generalize ex_5 : w32 (x2 + 1) = x_5
    have hyp := hyp x_5 ex_5.symm
    refine z_goto (tgt := 34) dX10_wayLine_61 (by decide) ?_
    exact hyp
set_option maxRecDepth 20000 in
theorem eX10_wayLine {E : zE} (hE : isR E) {d : Nat} {x1 : Int} {h : zH} {K : zH → Prop} (hyp :
  zCI E mX10_fresh d [zR 0, zR 12, zI 5, zI (h 0 34)] h (fun r_1 h_1 =>
    ((0 : Int) ≤ x1 ∧ x1 < (10 : Int)) ∧
    ∀ h_2 : zH, h_2 = hset h_1 12 (x1.toNat) r_1 →
    zCI E mX10_numeral d [zR 0, zI 1, zI 99] h_2 (fun r_3 h_3 =>
      ((0 : Int) ≤ x1 ∧ x1 < (10 : Int)) ∧
      ∀ h_4 : zH, h_4 = hset h_3 13 (x1.toNat) r_3 →
      zG E mX10_wayLine (d + 1) 34 [zR 0, zI x1, zI 0] [] h_4 (qV K)))) :
  zCV E mX10_wayLine (d + 1) [zR 0, zI x1] h K := by
  refine zC_in (L0 := [zR 0, zI x1, zU]) pn_X10 rfl (Nat.le_of_ble_eq_true rfl) ?_
  refine z_aload_n dX10_wayLine_0 rfl ?_
  refine gf_X10_46 (c2 := 12) dX10_wayLine_1 rfl (sR_0 hE) (cR_0 hE) rfl ?_
  refine z_iload_n dX10_wayLine_4 rfl ?_
  refine z_aload_n dX10_wayLine_5 rfl ?_
  refine z_aload_n dX10_wayLine_6 rfl ?_
  refine gf_X10_46 (c2 := 12) dX10_wayLine_7 rfl (sR_0 hE) (cR_0 hE) rfl ?_
  refine z_iconst dX10_wayLine_10 (r32d rfl) ?_
  refine z_aload_n dX10_wayLine_11 rfl ?_
  refine gf_X10_236 dX10_wayLine_12 rfl (sR_0 hE) (cR_0 hE) ?_
  refine cl_X10_248 dX10_wayLine_15 rfl (sR_0 hE) (cR_0 hE) (Nat.le_of_ble_eq_true rfl) (zC_mono ?_ hyp)
  rintro _ h_1 ⟨r_1, rfl, hyp⟩
  refine ⟨r_1, rfl, ?_⟩
  obtain ⟨⟨hi0, hi1⟩, hyp⟩ := hyp
  refine z_iastore dX10_wayLine_18 (sR_12 hE) (cR_12 hE) hi0 hi1 ?_
  generalize eh_2 : hset h_1 12 _ r_1 = h_2
  have hyp := hyp h_2 eh_2.symm
  refine z_aload_n dX10_wayLine_19 rfl ?_
  refine gf_X10_49 (c2 := 13) dX10_wayLine_20 rfl (sR_0 hE) (cR_0 hE) rfl ?_
  refine z_iload_n dX10_wayLine_23 rfl ?_
  refine z_aload_n dX10_wayLine_24 rfl ?_
  refine z_iconst dX10_wayLine_25 (r32d rfl) ?_
  refine z_bipush dX10_wayLine_26 (r32d rfl) (by decide) ?_
  refine cl_X10_222 dX10_wayLine_28 rfl (sR_0 hE) (cR_0 hE) (Nat.le_of_ble_eq_true rfl) (zC_mono ?_ hyp)
  rintro _ h_3 ⟨r_3, rfl, hyp⟩
  refine ⟨r_3, rfl, ?_⟩
  obtain ⟨⟨hi0, hi1⟩, hyp⟩ := hyp
  refine z_iastore dX10_wayLine_31 (sR_13 hE) (cR_13 hE) hi0 hi1 ?_
  generalize eh_4 : hset h_3 13 _ r_3 = h_4
  have hyp := hyp h_4 eh_4.symm
  refine z_iconst dX10_wayLine_32 (r32d rfl) ?_
  refine z_istore_n dX10_wayLine_33 rfl (by decide) rfl ?_
  exact hyp
set_option maxRecDepth 20000 in
theorem bX10_well_33 {E : zE} (hE : isR E) {d : Nat} {x1 x2 x3 : Int} {h : zH} {K : Int → zH → Prop} (hyp :
  ((12 ≤ x3 →
    K x2 h) ∧
  (¬ (12 ≤ x3) →
    zCI E mX10_isWell d [zR 0, zI x1, zI x3] h (fun r_2 h_2 =>
      ((r_2 = 0 →
        ∀ x_4 : Int, x_4 = w32 (x3 + 1) →
        zG E mX10_well (d + 1) 33 [zR 0, zI x1, zI x2, zI x_4] [] h_2 (qI K)) ∧
      (¬ (r_2 = 0) →
        ∀ x_5 : Int, x_5 = zor x2 (zshl 1 x3) →
        ∀ x_6 : Int, x_6 = w32 (x3 + 1) →
        zG E mX10_well (d + 1) 33 [zR 0, zI x1, zI x_5, zI x_6] [] h_2 (qI K))))))) :
  zG E mX10_well (d + 1) 33 [zR 0, zI x1, zI x2, zI x3] [] h (qI K) := by
  refine z_iload_n dX10_well_33 rfl ?_
  refine z_bipush dX10_well_34 (r32d rfl) (by decide) ?_
  refine z_icmp_ge (tgt := 60) dX10_well_36 (by decide) (fun c_1 => ?_) (fun c_1 => ?_)
  · have hyp := hyp.1 c_1
    refine z_iload_n dX10_well_60 rfl ?_
    exact z_iret dX10_well_61 rfl ⟨_, rfl, hyp⟩
  · have hyp := hyp.2 c_1
    refine z_aload_n dX10_well_39 rfl ?_
    refine z_iload_n dX10_well_40 rfl ?_
    refine z_iload_n dX10_well_41 rfl ?_
    refine cl_X10_449 dX10_well_42 rfl (sR_0 hE) (cR_0 hE) (Nat.le_of_ble_eq_true rfl) (zC_mono ?_ hyp)
    rintro _ h_2 ⟨r_2, rfl, hyp⟩
    refine ⟨r_2, rfl, ?_⟩
    refine z_if_eq (tgt := 54) dX10_well_45 (by decide) (fun c_3 => ?_) (fun c_3 => ?_)
    · have hyp := hyp.1 c_3
      refine z_iinc dX10_well_54 rfl (by decide) rfl ?_
      generalize ex_4 : w32 (x3 + 1) = x_4
      have hyp := hyp x_4 ex_4.symm
      refine z_goto (tgt := 33) dX10_well_57 (by decide) ?_
      exact hyp
    · have hyp := hyp.2 c_3
      refine z_iload_n dX10_well_48 rfl ?_
      refine z_iconst dX10_well_49 (r32d rfl) ?_
      refine z_iload_n dX10_well_50 rfl ?_
      refine z_ishl dX10_well_51 ?_
      refine z_ior dX10_well_52 ?_
      generalize ex_5 : zor x2 (zshl 1 x3) = x_5
      have hyp := hyp x_5 ex_5.symm
      refine z_istore_n dX10_well_53 rfl (by decide) rfl ?_
      refine z_iinc dX10_well_54 rfl (by decide) rfl ?_
      generalize ex_6 : w32 (x3 + 1) = x_6
      have hyp := hyp x_6 ex_6.symm
      refine z_goto (tgt := 33) dX10_well_57 (by decide) ?_
      exact hyp
set_option maxRecDepth 20000 in
theorem eX10_well {E : zE} (hE : isR E) {d : Nat} {x1 : Int} {h : zH} {K : Int → zH → Prop} (hyp :
  ∀ h_1 : zH, h_1 = hset h 0 0 0 →
  zCI E mX10_isRing d [zR 0, zI x1] h_1 (fun r_2 h_2 =>
    ((r_2 ≠ 0 →
      zCV E mX10_laid d [zR 0] h_2 (fun h_4 =>
        zCI E mX10_hasFit d [zR 0, zI x1] h_4 (fun r_5 h_5 =>
          ((r_5 ≠ 0 →
            zG E mX10_well (d + 1) 33 [zR 0, zI x1, zI 0, zI 0] [] h_5 (qI K)) ∧
          (¬ (r_5 ≠ 0) →
            K (-1) h_5))))) ∧
    (¬ (r_2 ≠ 0) →
      K (-1) h_2)))) :
  zCI E mX10_well (d + 1) [zR 0, zI x1] h K := by
  refine zC_in (L0 := [zR 0, zI x1, zU, zU]) pn_X10 rfl (Nat.le_of_ble_eq_true rfl) ?_
  refine z_aload_n dX10_well_0 rfl ?_
  refine z_iconst dX10_well_1 (r32d rfl) ?_
  refine pf_X10_153 dX10_well_2 rfl (sR_0 hE) (cR_0 hE) ?_
  generalize eh_1 : hset h 0 0 _ = h_1
  have hyp := hyp h_1 eh_1.symm
  refine z_aload_n dX10_well_5 rfl ?_
  refine z_iload_n dX10_well_6 rfl ?_
  refine cl_X10_437 dX10_well_7 rfl (sR_0 hE) (cR_0 hE) (Nat.le_of_ble_eq_true rfl) (zC_mono ?_ hyp)
  rintro _ h_2 ⟨r_2, rfl, hyp⟩
  refine ⟨r_2, rfl, ?_⟩
  refine z_if_ne (tgt := 15) dX10_well_10 (by decide) (fun c_3 => ?_) (fun c_3 => ?_)
  · have hyp := hyp.1 c_3
    refine z_aload_n dX10_well_15 rfl ?_
    refine cl_X10_440 dX10_well_16 rfl (sR_0 hE) (cR_0 hE) (Nat.le_of_ble_eq_true rfl) (zC_mono ?_ hyp)
    rintro _ h_4 ⟨rfl, hyp⟩
    refine ⟨rfl, ?_⟩
    refine z_aload_n dX10_well_19 rfl ?_
    refine z_iload_n dX10_well_20 rfl ?_
    refine cl_X10_443 dX10_well_21 rfl (sR_0 hE) (cR_0 hE) (Nat.le_of_ble_eq_true rfl) (zC_mono ?_ hyp)
    rintro _ h_5 ⟨r_5, rfl, hyp⟩
    refine ⟨r_5, rfl, ?_⟩
    refine z_if_ne (tgt := 29) dX10_well_24 (by decide) (fun c_6 => ?_) (fun c_6 => ?_)
    · have hyp := hyp.1 c_6
      refine z_iconst dX10_well_29 (r32d rfl) ?_
      refine z_istore_n dX10_well_30 rfl (by decide) rfl ?_
      refine z_iconst dX10_well_31 (r32d rfl) ?_
      refine z_istore_n dX10_well_32 rfl (by decide) rfl ?_
      exact hyp
    · have hyp := hyp.2 c_6
      refine z_iconst dX10_well_27 (r32d rfl) ?_
      exact z_iret dX10_well_28 rfl ⟨_, rfl, hyp⟩
  · have hyp := hyp.2 c_3
    refine z_iconst dX10_well_13 (r32d rfl) ?_
    exact z_iret dX10_well_14 rfl ⟨_, rfl, hyp⟩
set_option maxRecDepth 20000 in
theorem eX10_whole {E : zE} (hE : isR E) {d : Nat} {x1 x2 x3 : Int} {h : zH} {K : Int → zH → Prop} (hyp :
  ∀ h_1 : zH, h_1 = hset h 0 0 0 →
  ((x1 < 0 →
    K (-1) h_1) ∧
  (¬ (x1 < 0) →
    ((999999 < x1 →
      K (-1) h_1) ∧
    (¬ (999999 < x1) →
      zCI E mX10_isUnit d [zI x2] h_1 (fun r_4 h_4 =>
        ((r_4 = 0 →
          K (-1) h_4) ∧
        (¬ (r_4 = 0) →
          ((x3 < 0 →
            K (-1) h_4) ∧
          (¬ (x3 < 0) →
            ((x3 ≤ 1 →
              ((x3 ≠ 0 →
                zCI E mX10_part d [zR 0, zI x2] h_4 (fun r_9 h_9 =>
                  zCI E mX10_timesBy d [zI x1, zI r_9] h_9 (fun r_10 h_10 =>
                    K r_10 h_10))) ∧
              (¬ (x3 ≠ 0) →
                zCI E mX10_part d [zR 0, zI x2] h_4 (fun r_11 h_11 =>
                  zCI E mX10_offBy d [zI x1, zI r_11] h_11 (fun r_12 h_12 =>
                    K r_12 h_12))))) ∧
            (¬ (x3 ≤ 1) →
              K (-1) h_4)))))))))))) :
  zCI E mX10_whole (d + 1) [zR 0, zI x1, zI x2, zI x3] h K := by
  refine zC_in (L0 := [zR 0, zI x1, zI x2, zI x3]) pn_X10 rfl (Nat.le_of_ble_eq_true rfl) ?_
  refine z_aload_n dX10_whole_0 rfl ?_
  refine z_iconst dX10_whole_1 (r32d rfl) ?_
  refine pf_X10_153 dX10_whole_2 rfl (sR_0 hE) (cR_0 hE) ?_
  generalize eh_1 : hset h 0 0 _ = h_1
  have hyp := hyp h_1 eh_1.symm
  refine z_iload_n dX10_whole_5 rfl ?_
  refine z_if_lt (tgt := 32) dX10_whole_6 (by decide) (fun c_2 => ?_) (fun c_2 => ?_)
  · have hyp := hyp.1 c_2
    refine z_iconst dX10_whole_32 (r32d rfl) ?_
    exact z_iret dX10_whole_33 rfl ⟨_, rfl, hyp⟩
  · have hyp := hyp.2 c_2
    refine z_iload_n dX10_whole_9 rfl ?_
    refine z_ldcw (x := 999999) dX10_whole_10 rfl wk_X10_459 (by decide) (r32d rfl) ?_
    refine z_icmp_gt (tgt := 32) dX10_whole_13 (by decide) (fun c_3 => ?_) (fun c_3 => ?_)
    · have hyp := hyp.1 c_3
      refine z_iconst dX10_whole_32 (r32d rfl) ?_
      exact z_iret dX10_whole_33 rfl ⟨_, rfl, hyp⟩
    · have hyp := hyp.2 c_3
      refine z_iload_n dX10_whole_16 rfl ?_
      refine cl_X10_460 dX10_whole_17 rfl (Nat.le_of_ble_eq_true rfl) (zC_mono ?_ hyp)
      rintro _ h_4 ⟨r_4, rfl, hyp⟩
      refine ⟨r_4, rfl, ?_⟩
      refine z_if_eq (tgt := 32) dX10_whole_20 (by decide) (fun c_5 => ?_) (fun c_5 => ?_)
      · have hyp := hyp.1 c_5
        refine z_iconst dX10_whole_32 (r32d rfl) ?_
        exact z_iret dX10_whole_33 rfl ⟨_, rfl, hyp⟩
      · have hyp := hyp.2 c_5
        refine z_iload_n dX10_whole_23 rfl ?_
        refine z_if_lt (tgt := 32) dX10_whole_24 (by decide) (fun c_6 => ?_) (fun c_6 => ?_)
        · have hyp := hyp.1 c_6
          refine z_iconst dX10_whole_32 (r32d rfl) ?_
          exact z_iret dX10_whole_33 rfl ⟨_, rfl, hyp⟩
        · have hyp := hyp.2 c_6
          refine z_iload_n dX10_whole_27 rfl ?_
          refine z_iconst dX10_whole_28 (r32d rfl) ?_
          refine z_icmp_le (tgt := 34) dX10_whole_29 (by decide) (fun c_7 => ?_) (fun c_7 => ?_)
          · have hyp := hyp.1 c_7
            refine z_iload_n dX10_whole_34 rfl ?_
            refine z_if_ne (tgt := 50) dX10_whole_35 (by decide) (fun c_8 => ?_) (fun c_8 => ?_)
            · have hyp := hyp.1 c_8
              refine z_iload_n dX10_whole_50 rfl ?_
              refine z_aload_n dX10_whole_51 rfl ?_
              refine z_iload_n dX10_whole_52 rfl ?_
              refine cl_X10_463 dX10_whole_53 rfl (sR_0 hE) (cR_0 hE) (Nat.le_of_ble_eq_true rfl) (zC_mono ?_ hyp)
              rintro _ h_9 ⟨r_9, rfl, hyp⟩
              refine ⟨r_9, rfl, ?_⟩
              refine cl_X10_469 dX10_whole_56 rfl (Nat.le_of_ble_eq_true rfl) (zC_mono ?_ hyp)
              rintro _ h_10 ⟨r_10, rfl, hyp⟩
              refine ⟨r_10, rfl, ?_⟩
              exact z_iret dX10_whole_59 rfl ⟨_, rfl, hyp⟩
            · have hyp := hyp.2 c_8
              refine z_iload_n dX10_whole_38 rfl ?_
              refine z_aload_n dX10_whole_39 rfl ?_
              refine z_iload_n dX10_whole_40 rfl ?_
              refine cl_X10_463 dX10_whole_41 rfl (sR_0 hE) (cR_0 hE) (Nat.le_of_ble_eq_true rfl) (zC_mono ?_ hyp)
              rintro _ h_11 ⟨r_11, rfl, hyp⟩
              refine ⟨r_11, rfl, ?_⟩
              refine cl_X10_466 dX10_whole_44 rfl (Nat.le_of_ble_eq_true rfl) (zC_mono ?_ hyp)
              rintro _ h_12 ⟨r_12, rfl, hyp⟩
              refine ⟨r_12, rfl, ?_⟩
              refine z_goto (tgt := 59) dX10_whole_47 (by decide) ?_
              exact z_iret dX10_whole_59 rfl ⟨_, rfl, hyp⟩
          · have hyp := hyp.2 c_7
            refine z_iconst dX10_whole_32 (r32d rfl) ?_
            exact z_iret dX10_whole_33 rfl ⟨_, rfl, hyp⟩
set_option maxRecDepth 20000 in
theorem bX10_works_407 {E : zE} (hE : isR E) {d : Nat} {y6 : Int} {h : zH} {K : Int → zH → Prop} (hyp :
  ((0 : Int) ≤ w32 ((h 0 81) - 1) ∧ w32 ((h 0 81) - 1) < (64 : Int)) ∧
  ∀ h_1 : zH, h_1 = hset h 37 ((w32 ((h 0 81) - 1)).toNat) y6 →
  ((1000000000000 < y6 →
    K 0 h_1) ∧
  (¬ (1000000000000 < y6) →
    ((y6 < (-1000000000000) →
      K 0 h_1) ∧
    (¬ (y6 < (-1000000000000)) →
      K 1 h_1))))) :
  zG E mX10_works (d + 1) 407 [zR 0, zU, zU, zU, zU, zU, zJ y6, zU] [] h (qI K) := by
  refine z_aload_n dX10_works_407 rfl ?_
  refine gf_X10_137 (c2 := 37) dX10_works_408 rfl (sR_0 hE) (cR_0 hE) rfl ?_
  refine z_aload_n dX10_works_411 rfl ?_
  refine gf_X10_472 dX10_works_412 rfl (sR_0 hE) (cR_0 hE) ?_
  refine z_iconst dX10_works_415 (r32d rfl) ?_
  refine z_isub dX10_works_416 ?_
  refine z_lload dX10_works_417 rfl ?_
  obtain ⟨⟨hi0, hi1⟩, hyp⟩ := hyp
  refine z_lastore dX10_works_419 (sR_37 hE) (cR_37 hE) hi0 hi1 ?_
  generalize eh_1 : hset h 37 _ y6 = h_1
  have hyp := hyp h_1 eh_1.symm
  refine z_lload dX10_works_420 rfl ?_
  refine z_ldc2 (x := 1000000000000) dX10_works_422 rfl wk_X10_482 (by decide) (r64d rfl) ?_
  refine z_lc_gt (tgt := 442) dX10_works_425 dX10_works_426 (by decide) (fun c_2 => ?_) (fun c_2 => ?_)
  · have hyp := hyp.1 c_2
    refine z_iconst dX10_works_442 (r32d rfl) ?_
    exact z_zret dX10_works_443 rfl (Or.inl rfl) ⟨_, rfl, hyp⟩
  · have hyp := hyp.2 c_2
    refine z_lload dX10_works_429 rfl ?_
    refine z_ldc2 (x := (-1000000000000)) dX10_works_431 rfl wk_X10_484 (by decide) (r64d rfl) ?_
    refine z_lc_lt (tgt := 442) dX10_works_434 dX10_works_435 (by decide) (fun c_3 => ?_) (fun c_3 => ?_)
    · have hyp := hyp.1 c_3
      refine z_iconst dX10_works_442 (r32d rfl) ?_
      exact z_zret dX10_works_443 rfl (Or.inl rfl) ⟨_, rfl, hyp⟩
    · have hyp := hyp.2 c_3
      refine z_iconst dX10_works_438 (r32d rfl) ?_
      refine z_goto (tgt := 443) dX10_works_439 (by decide) ?_
      exact z_zret dX10_works_443 rfl (Or.inr rfl) ⟨_, rfl, hyp⟩
set_option maxRecDepth 20000 in
theorem eX10_works {E : zE} (hE : isR E) {d : Nat} {x1 : Int} {h : zH} {K : Int → zH → Prop} (hyp :
  ((0 : Int) ≤ w32 ((h 0 81) - 1) ∧ w32 ((h 0 81) - 1) < (64 : Int)) ∧
  ∀ y_1 : Int, y_1 = h 37 (w32 ((h 0 81) - 1)).toNat →
  ((x1 ≠ 260 →
    ((0 : Int) ≤ w32 ((h 0 81) - 2) ∧ w32 ((h 0 81) - 2) < (64 : Int)) ∧
    ∀ y_3 : Int, y_3 = h 37 (w32 ((h 0 81) - 2)).toNat →
    ∀ h_4 : zH, h_4 = hset h 0 81 (w32 ((h 0 81) - 1)) →
    ((x1 = 42) →
        ((y_3 = 0 →
          ∀ y_12 : Int, y_12 = w64 (y_3 * y_1) →
          zG E mX10_works (d + 1) 407 [zR 0, zU, zU, zU, zU, zU, zJ y_12, zU] [] h_4 (qI K)) ∧
        (¬ (y_3 = 0) →
          ¬ (zabsJ y_3) = 0 ∧
          (((zabsJ y_1) ≤ (w64 (Int.tdiv 1000000000000 (zabsJ y_3))) →
            ∀ y_14 : Int, y_14 = w64 (y_3 * y_1) →
            zG E mX10_works (d + 1) 407 [zR 0, zU, zU, zU, zU, zU, zJ y_14, zU] [] h_4 (qI K)) ∧
          (¬ ((zabsJ y_1) ≤ (w64 (Int.tdiv 1000000000000 (zabsJ y_3)))) →
            K 0 h_4))))) ∧
    ((x1 = 43) →
        ∀ y_16 : Int, y_16 = w64 (y_3 + y_1) →
        zG E mX10_works (d + 1) 407 [zR 0, zU, zU, zU, zU, zU, zJ y_16, zU] [] h_4 (qI K)) ∧
    ((x1 = 45) →
        ∀ y_18 : Int, y_18 = w64 (y_3 - y_1) →
        zG E mX10_works (d + 1) 407 [zR 0, zU, zU, zU, zU, zU, zJ y_18, zU] [] h_4 (qI K)) ∧
    ((x1 = 47) →
        ((y_1 ≠ 0 →
          ¬ y_1 = 0 ∧
          ∀ y_21 : Int, y_21 = w64 (Int.tdiv y_3 y_1) →
          zG E mX10_works (d + 1) 407 [zR 0, zU, zU, zU, zU, zU, zJ y_21, zU] [] h_4 (qI K)) ∧
        (¬ (y_1 ≠ 0) →
          K 0 h_4))) ∧
    ((x1 = 60) →
        ((y_1 ≤ y_3 →
          zCJ E mX10_is d [zI 0] h_4 (fun r_24 h_24 =>
            zG E mX10_works (d + 1) 407 [zR 0, zU, zU, zU, zU, zU, zJ r_24, zU] [] h_24 (qI K))) ∧
        (¬ (y_1 ≤ y_3) →
          zCJ E mX10_is d [zI 1] h_4 (fun r_25 h_25 =>
            zG E mX10_works (d + 1) 407 [zR 0, zU, zU, zU, zU, zU, zJ r_25, zU] [] h_25 (qI K))))) ∧
    ((x1 = 61) →
        ((y_3 ≠ y_1 →
          zCJ E mX10_is d [zI 0] h_4 (fun r_28 h_28 =>
            zG E mX10_works (d + 1) 407 [zR 0, zU, zU, zU, zU, zU, zJ r_28, zU] [] h_28 (qI K))) ∧
        (¬ (y_3 ≠ y_1) →
          zCJ E mX10_is d [zI 1] h_4 (fun r_29 h_29 =>
            zG E mX10_works (d + 1) 407 [zR 0, zU, zU, zU, zU, zU, zJ r_29, zU] [] h_29 (qI K))))) ∧
    ((x1 = 62) →
        ((y_3 ≤ y_1 →
          zCJ E mX10_is d [zI 0] h_4 (fun r_32 h_32 =>
            zG E mX10_works (d + 1) 407 [zR 0, zU, zU, zU, zU, zU, zJ r_32, zU] [] h_32 (qI K))) ∧
        (¬ (y_3 ≤ y_1) →
          zCJ E mX10_is d [zI 1] h_4 (fun r_33 h_33 =>
            zG E mX10_works (d + 1) 407 [zR 0, zU, zU, zU, zU, zU, zJ r_33, zU] [] h_33 (qI K))))) ∧
    ((x1 = 256) →
        ((y_1 < y_3 →
          zCJ E mX10_is d [zI 0] h_4 (fun r_36 h_36 =>
            zG E mX10_works (d + 1) 407 [zR 0, zU, zU, zU, zU, zU, zJ r_36, zU] [] h_36 (qI K))) ∧
        (¬ (y_1 < y_3) →
          zCJ E mX10_is d [zI 1] h_4 (fun r_37 h_37 =>
            zG E mX10_works (d + 1) 407 [zR 0, zU, zU, zU, zU, zU, zJ r_37, zU] [] h_37 (qI K))))) ∧
    ((x1 = 257) →
        ((y_3 = y_1 →
          zCJ E mX10_is d [zI 0] h_4 (fun r_40 h_40 =>
            zG E mX10_works (d + 1) 407 [zR 0, zU, zU, zU, zU, zU, zJ r_40, zU] [] h_40 (qI K))) ∧
        (¬ (y_3 = y_1) →
          zCJ E mX10_is d [zI 1] h_4 (fun r_41 h_41 =>
            zG E mX10_works (d + 1) 407 [zR 0, zU, zU, zU, zU, zU, zJ r_41, zU] [] h_41 (qI K))))) ∧
    ((x1 = 258) →
        ((y_3 < y_1 →
          zCJ E mX10_is d [zI 0] h_4 (fun r_44 h_44 =>
            zG E mX10_works (d + 1) 407 [zR 0, zU, zU, zU, zU, zU, zJ r_44, zU] [] h_44 (qI K))) ∧
        (¬ (y_3 < y_1) →
          zCJ E mX10_is d [zI 1] h_4 (fun r_45 h_45 =>
            zG E mX10_works (d + 1) 407 [zR 0, zU, zU, zU, zU, zU, zJ r_45, zU] [] h_45 (qI K))))) ∧
    ((x1 = 261) →
        ((y_3 = 0 →
          zCJ E mX10_is d [zI 0] h_4 (fun r_48 h_48 =>
            zG E mX10_works (d + 1) 407 [zR 0, zU, zU, zU, zU, zU, zJ r_48, zU] [] h_48 (qI K))) ∧
        (¬ (y_3 = 0) →
          ((y_1 = 0 →
            zCJ E mX10_is d [zI 0] h_4 (fun r_50 h_50 =>
              zG E mX10_works (d + 1) 407 [zR 0, zU, zU, zU, zU, zU, zJ r_50, zU] [] h_50 (qI K))) ∧
          (¬ (y_1 = 0) →
            zCJ E mX10_is d [zI 1] h_4 (fun r_51 h_51 =>
              zG E mX10_works (d + 1) 407 [zR 0, zU, zU, zU, zU, zU, zJ r_51, zU] [] h_51 (qI K))))))) ∧
    ((x1 ≠ 42 ∧ x1 ≠ 43 ∧ x1 ≠ 45 ∧ x1 ≠ 47 ∧ x1 ≠ 60 ∧ x1 ≠ 61 ∧ x1 ≠ 62 ∧ x1 ≠ 256 ∧ x1 ≠ 257 ∧ x1 ≠ 258 ∧ x1 ≠ 261) →
      ((y_3 ≠ 0 →
        zCJ E mX10_is d [zI 1] h_4 (fun r_6 h_6 =>
          zG E mX10_works (d + 1) 407 [zR 0, zU, zU, zU, zU, zU, zJ r_6, zU] [] h_6 (qI K))) ∧
      (¬ (y_3 ≠ 0) →
        ((y_1 = 0 →
          zCJ E mX10_is d [zI 0] h_4 (fun r_8 h_8 =>
            zG E mX10_works (d + 1) 407 [zR 0, zU, zU, zU, zU, zU, zJ r_8, zU] [] h_8 (qI K))) ∧
        (¬ (y_1 = 0) →
          zCJ E mX10_is d [zI 1] h_4 (fun r_9 h_9 =>
            zG E mX10_works (d + 1) 407 [zR 0, zU, zU, zU, zU, zU, zJ r_9, zU] [] h_9 (qI K)))))))) ∧
  (¬ (x1 ≠ 260) →
    ((y_1 ≠ 0 →
      zCJ E mX10_is d [zI 0] h (fun r_64 h_64 =>
        ((0 : Int) ≤ w32 ((h 0 81) - 1) ∧ w32 ((h 0 81) - 1) < (64 : Int)) ∧
        ∀ h_65 : zH, h_65 = hset h_64 37 ((w32 ((h 0 81) - 1)).toNat) r_64 →
        K 1 h_65)) ∧
    (¬ (y_1 ≠ 0) →
      zCJ E mX10_is d [zI 1] h (fun r_66 h_66 =>
        ((0 : Int) ≤ w32 ((h 0 81) - 1) ∧ w32 ((h 0 81) - 1) < (64 : Int)) ∧
        ∀ h_67 : zH, h_67 = hset h_66 37 ((w32 ((h 0 81) - 1)).toNat) r_66 →
        K 1 h_67)))))) :
  zCI E mX10_works (d + 1) [zR 0, zI x1] h K := by
  refine zC_in (L0 := [zR 0, zI x1, zU, zU, zU, zU, zU, zU]) pn_X10 rfl (Nat.le_of_ble_eq_true rfl) ?_
  refine z_aload_n dX10_works_0 rfl ?_
  refine gf_X10_137 (c2 := 37) dX10_works_1 rfl (sR_0 hE) (cR_0 hE) rfl ?_
  refine z_aload_n dX10_works_4 rfl ?_
  refine gf_X10_472 dX10_works_5 rfl (sR_0 hE) (cR_0 hE) ?_
  refine z_iconst dX10_works_8 (r32d rfl) ?_
  refine z_isub dX10_works_9 ?_
  obtain ⟨⟨hi0, hi1⟩, hyp⟩ := hyp
  refine z_laload dX10_works_10 (sR_37 hE) (cR_37 hE) hi0 hi1 ?_
  generalize ey_1 : h 37 (w32 ((h 0 81) - 1)).toNat = y_1
  have hyp := hyp y_1 ey_1.symm
  refine z_lstore_n dX10_works_11 rfl (by decide) rfl ?_
  refine z_iload_n dX10_works_12 rfl ?_
  refine z_sipush dX10_works_13 (r32d rfl) (by decide) ?_
  refine z_icmp_ne (tgt := 46) dX10_works_16 (by decide) (fun c_2 => ?_) (fun c_2 => ?_)
  · have hyp := hyp.1 c_2
    refine z_aload_n dX10_works_46 rfl ?_
    refine gf_X10_137 (c2 := 37) dX10_works_47 rfl (sR_0 hE) (cR_0 hE) rfl ?_
    refine z_aload_n dX10_works_50 rfl ?_
    refine gf_X10_472 dX10_works_51 rfl (sR_0 hE) (cR_0 hE) ?_
    refine z_iconst dX10_works_54 (r32d rfl) ?_
    refine z_isub dX10_works_55 ?_
    obtain ⟨⟨hi0, hi1⟩, hyp⟩ := hyp
    refine z_laload dX10_works_56 (sR_37 hE) (cR_37 hE) hi0 hi1 ?_
    generalize ey_3 : h 37 (w32 ((h 0 81) - 2)).toNat = y_3
    have hyp := hyp y_3 ey_3.symm
    refine z_lstore dX10_works_57 (by decide) rfl ?_
    refine z_aload_n dX10_works_59 rfl ?_
    refine z_dup dX10_works_60 rfl ?_
    refine gf_X10_472 dX10_works_61 rfl (sR_0 hE) (cR_0 hE) ?_
    refine z_iconst dX10_works_64 (r32d rfl) ?_
    refine z_isub dX10_works_65 ?_
    refine pf_X10_472 dX10_works_66 rfl (sR_0 hE) (cR_0 hE) ?_
    generalize eh_4 : hset h 0 81 _ = h_4
    have hyp := hyp h_4 eh_4.symm
    refine z_iload_n dX10_works_69 rfl ?_
    have hgo : (x1 ≠ 42 ∧ x1 ≠ 43 ∧ x1 ≠ 45 ∧ x1 ≠ 47 ∧ x1 ≠ 60 ∧ x1 ≠ 61 ∧ x1 ≠ 62 ∧ x1 ≠ 256 ∧ x1 ≠ 257 ∧ x1 ≠ 258 ∧ x1 ≠ 261) → zG E mX10_works (d + 1) 384 [zR 0, zI x1, zJ y_1, zU, zJ y_3, zU, zU, zU] [] h_4 (qI K) := by
      intro hcc
      have hyp := hyp.2.2.2.2.2.2.2.2.2.2.2 hcc
      refine z_lload dX10_works_384 rfl ?_
      refine z_lconst (x := 0) dX10_works_386 (by decide) (r64d rfl) ?_
      refine z_lc_ne (tgt := 397) dX10_works_387 dX10_works_388 (by decide) (fun c_5 => ?_) (fun c_5 => ?_)
      · have hyp := hyp.1 c_5
        refine z_iconst dX10_works_397 (r32d rfl) ?_
        refine z_goto (tgt := 402) dX10_works_398 (by decide) ?_
        refine cl_X10_475 dX10_works_402 rfl (Nat.le_of_ble_eq_true rfl) (zC_mono ?_ hyp)
        rintro _ h_6 ⟨r_6, rfl, hyp⟩
        refine ⟨r_6, rfl, ?_⟩
        refine z_lstore dX10_works_405 (by decide) rfl ?_
        exact z_forget [true, false, false, false, false, false, true, false] rfl hyp
      · have hyp := hyp.2 c_5
        refine z_lload_n dX10_works_391 rfl ?_
        refine z_lconst (x := 0) dX10_works_392 (by decide) (r64d rfl) ?_
        refine z_lc_eq (tgt := 401) dX10_works_393 dX10_works_394 (by decide) (fun c_7 => ?_) (fun c_7 => ?_)
        · have hyp := hyp.1 c_7
          refine z_iconst dX10_works_401 (r32d rfl) ?_
          refine cl_X10_475 dX10_works_402 rfl (Nat.le_of_ble_eq_true rfl) (zC_mono ?_ hyp)
          rintro _ h_8 ⟨r_8, rfl, hyp⟩
          refine ⟨r_8, rfl, ?_⟩
          refine z_lstore dX10_works_405 (by decide) rfl ?_
          exact z_forget [true, false, false, false, false, false, true, false] rfl hyp
        · have hyp := hyp.2 c_7
          refine z_iconst dX10_works_397 (r32d rfl) ?_
          refine z_goto (tgt := 402) dX10_works_398 (by decide) ?_
          refine cl_X10_475 dX10_works_402 rfl (Nat.le_of_ble_eq_true rfl) (zC_mono ?_ hyp)
          rintro _ h_9 ⟨r_9, rfl, hyp⟩
          refine ⟨r_9, rfl, ?_⟩
          refine z_lstore dX10_works_405 (by decide) rfl ?_
          exact z_forget [true, false, false, false, false, false, true, false] rfl hyp
    by_cases c_10 : x1 = 42
    · have hyp := hyp.1 c_10
      have hgo : zG E mX10_works (d + 1) 186 [zR 0, zI x1, zJ y_1, zU, zJ y_3, zU, zU, zU] [] h_4 (qI K) := by
        refine z_lload dX10_works_186 rfl ?_
        refine z_lconst (x := 0) dX10_works_188 (by decide) (r64d rfl) ?_
        refine z_lc_eq (tgt := 212) dX10_works_189 dX10_works_190 (by decide) (fun c_11 => ?_) (fun c_11 => ?_)
        · have hyp := hyp.1 c_11
          refine z_lload dX10_works_212 rfl ?_
          refine z_lload_n dX10_works_214 rfl ?_
          refine z_lmul dX10_works_215 ?_
          generalize ey_12 : w64 (y_3 * y_1) = y_12
          have hyp := hyp y_12 ey_12.symm
          refine z_lstore dX10_works_216 (by decide) rfl ?_
          refine z_goto (tgt := 407) dX10_works_218 (by decide) ?_
          exact z_forget [true, false, false, false, false, false, true, false] rfl hyp
        · have hyp := hyp.2 c_11
          refine z_lload_n dX10_works_193 rfl ?_
          refine cl_X10_479 dX10_works_194 rfl (Nat.le_of_ble_eq_true rfl) ?_
          refine z_ldc2 (x := 1000000000000) dX10_works_197 rfl wk_X10_482 (by decide) (r64d rfl) ?_
          refine z_lload dX10_works_200 rfl ?_
          refine cl_X10_479 dX10_works_202 rfl (Nat.le_of_ble_eq_true rfl) ?_
          obtain ⟨hz, hyp⟩ := hyp
          refine z_ldiv hz dX10_works_205 ?_
          refine z_lc_le (tgt := 212) dX10_works_206 dX10_works_207 (by decide) (fun c_13 => ?_) (fun c_13 => ?_)
          · have hyp := hyp.1 c_13
            refine z_lload dX10_works_212 rfl ?_
            refine z_lload_n dX10_works_214 rfl ?_
            refine z_lmul dX10_works_215 ?_
            generalize ey_14 : w64 (y_3 * y_1) = y_14
            have hyp := hyp y_14 ey_14.symm
            refine z_lstore dX10_works_216 (by decide) rfl ?_
            refine z_goto (tgt := 407) dX10_works_218 (by decide) ?_
            exact z_forget [true, false, false, false, false, false, true, false] rfl hyp
          · have hyp := hyp.2 c_13
            refine z_iconst dX10_works_210 (r32d rfl) ?_
            exact z_zret dX10_works_211 rfl (Or.inl rfl) ⟨_, rfl, hyp⟩
      exact z_lsw (off := 116) (tgt := 186) dX10_works_70 (by decide) (by rw [c_10] <;> rfl) (by decide) hgo
    by_cases c_15 : x1 = 43
    · have hyp := hyp.2.1 c_15
      have hgo : zG E mX10_works (d + 1) 168 [zR 0, zI x1, zJ y_1, zU, zJ y_3, zU, zU, zU] [] h_4 (qI K) := by
        refine z_lload dX10_works_168 rfl ?_
        refine z_lload_n dX10_works_170 rfl ?_
        refine z_ladd dX10_works_171 ?_
        generalize ey_16 : w64 (y_3 + y_1) = y_16
        have hyp := hyp y_16 ey_16.symm
        refine z_lstore dX10_works_172 (by decide) rfl ?_
        refine z_goto (tgt := 407) dX10_works_174 (by decide) ?_
        exact z_forget [true, false, false, false, false, false, true, false] rfl hyp
      exact z_lsw (off := 98) (tgt := 168) dX10_works_70 (by decide) (by rw [c_15] <;> rfl) (by decide) hgo
    by_cases c_17 : x1 = 45
    · have hyp := hyp.2.2.1 c_17
      have hgo : zG E mX10_works (d + 1) 177 [zR 0, zI x1, zJ y_1, zU, zJ y_3, zU, zU, zU] [] h_4 (qI K) := by
        refine z_lload dX10_works_177 rfl ?_
        refine z_lload_n dX10_works_179 rfl ?_
        refine z_lsub dX10_works_180 ?_
        generalize ey_18 : w64 (y_3 - y_1) = y_18
        have hyp := hyp y_18 ey_18.symm
        refine z_lstore dX10_works_181 (by decide) rfl ?_
        refine z_goto (tgt := 407) dX10_works_183 (by decide) ?_
        exact z_forget [true, false, false, false, false, false, true, false] rfl hyp
      exact z_lsw (off := 107) (tgt := 177) dX10_works_70 (by decide) (by rw [c_17] <;> rfl) (by decide) hgo
    by_cases c_19 : x1 = 47
    · have hyp := hyp.2.2.2.1 c_19
      have hgo : zG E mX10_works (d + 1) 221 [zR 0, zI x1, zJ y_1, zU, zJ y_3, zU, zU, zU] [] h_4 (qI K) := by
        refine z_lload_n dX10_works_221 rfl ?_
        refine z_lconst (x := 0) dX10_works_222 (by decide) (r64d rfl) ?_
        refine z_lc_ne (tgt := 229) dX10_works_223 dX10_works_224 (by decide) (fun c_20 => ?_) (fun c_20 => ?_)
        · have hyp := hyp.1 c_20
          refine z_lload dX10_works_229 rfl ?_
          refine z_lload_n dX10_works_231 rfl ?_
          obtain ⟨hz, hyp⟩ := hyp
          refine z_ldiv hz dX10_works_232 ?_
          generalize ey_21 : w64 (Int.tdiv y_3 y_1) = y_21
          have hyp := hyp y_21 ey_21.symm
          refine z_lstore dX10_works_233 (by decide) rfl ?_
          refine z_goto (tgt := 407) dX10_works_235 (by decide) ?_
          exact z_forget [true, false, false, false, false, false, true, false] rfl hyp
        · have hyp := hyp.2 c_20
          refine z_iconst dX10_works_227 (r32d rfl) ?_
          exact z_zret dX10_works_228 rfl (Or.inl rfl) ⟨_, rfl, hyp⟩
      exact z_lsw (off := 151) (tgt := 221) dX10_works_70 (by decide) (by rw [c_19] <;> rfl) (by decide) hgo
    by_cases c_22 : x1 = 60
    · have hyp := hyp.2.2.2.2.1 c_22
      have hgo : zG E mX10_works (d + 1) 238 [zR 0, zI x1, zJ y_1, zU, zJ y_3, zU, zU, zU] [] h_4 (qI K) := by
        refine z_lload dX10_works_238 rfl ?_
        refine z_lload_n dX10_works_240 rfl ?_
        refine z_lc_ge (tgt := 249) dX10_works_241 dX10_works_242 (by decide) (fun c_23 => ?_) (fun c_23 => ?_)
        · have hyp := hyp.1 c_23
          refine z_iconst dX10_works_249 (r32d rfl) ?_
          refine cl_X10_475 dX10_works_250 rfl (Nat.le_of_ble_eq_true rfl) (zC_mono ?_ hyp)
          rintro _ h_24 ⟨r_24, rfl, hyp⟩
          refine ⟨r_24, rfl, ?_⟩
          refine z_lstore dX10_works_253 (by decide) rfl ?_
          refine z_goto (tgt := 407) dX10_works_255 (by decide) ?_
          exact z_forget [true, false, false, false, false, false, true, false] rfl hyp
        · have hyp := hyp.2 c_23
          refine z_iconst dX10_works_245 (r32d rfl) ?_
          refine z_goto (tgt := 250) dX10_works_246 (by decide) ?_
          refine cl_X10_475 dX10_works_250 rfl (Nat.le_of_ble_eq_true rfl) (zC_mono ?_ hyp)
          rintro _ h_25 ⟨r_25, rfl, hyp⟩
          refine ⟨r_25, rfl, ?_⟩
          refine z_lstore dX10_works_253 (by decide) rfl ?_
          refine z_goto (tgt := 407) dX10_works_255 (by decide) ?_
          exact z_forget [true, false, false, false, false, false, true, false] rfl hyp
      exact z_lsw (off := 168) (tgt := 238) dX10_works_70 (by decide) (by rw [c_22] <;> rfl) (by decide) hgo
    by_cases c_26 : x1 = 61
    · have hyp := hyp.2.2.2.2.2.1 c_26
      have hgo : zG E mX10_works (d + 1) 278 [zR 0, zI x1, zJ y_1, zU, zJ y_3, zU, zU, zU] [] h_4 (qI K) := by
        refine z_lload dX10_works_278 rfl ?_
        refine z_lload_n dX10_works_280 rfl ?_
        refine z_lc_ne (tgt := 289) dX10_works_281 dX10_works_282 (by decide) (fun c_27 => ?_) (fun c_27 => ?_)
        · have hyp := hyp.1 c_27
          refine z_iconst dX10_works_289 (r32d rfl) ?_
          refine cl_X10_475 dX10_works_290 rfl (Nat.le_of_ble_eq_true rfl) (zC_mono ?_ hyp)
          rintro _ h_28 ⟨r_28, rfl, hyp⟩
          refine ⟨r_28, rfl, ?_⟩
          refine z_lstore dX10_works_293 (by decide) rfl ?_
          refine z_goto (tgt := 407) dX10_works_295 (by decide) ?_
          exact z_forget [true, false, false, false, false, false, true, false] rfl hyp
        · have hyp := hyp.2 c_27
          refine z_iconst dX10_works_285 (r32d rfl) ?_
          refine z_goto (tgt := 290) dX10_works_286 (by decide) ?_
          refine cl_X10_475 dX10_works_290 rfl (Nat.le_of_ble_eq_true rfl) (zC_mono ?_ hyp)
          rintro _ h_29 ⟨r_29, rfl, hyp⟩
          refine ⟨r_29, rfl, ?_⟩
          refine z_lstore dX10_works_293 (by decide) rfl ?_
          refine z_goto (tgt := 407) dX10_works_295 (by decide) ?_
          exact z_forget [true, false, false, false, false, false, true, false] rfl hyp
      exact z_lsw (off := 208) (tgt := 278) dX10_works_70 (by decide) (by rw [c_26] <;> rfl) (by decide) hgo
    by_cases c_30 : x1 = 62
    · have hyp := hyp.2.2.2.2.2.2.1 c_30
      have hgo : zG E mX10_works (d + 1) 258 [zR 0, zI x1, zJ y_1, zU, zJ y_3, zU, zU, zU] [] h_4 (qI K) := by
        refine z_lload dX10_works_258 rfl ?_
        refine z_lload_n dX10_works_260 rfl ?_
        refine z_lc_le (tgt := 269) dX10_works_261 dX10_works_262 (by decide) (fun c_31 => ?_) (fun c_31 => ?_)
        · have hyp := hyp.1 c_31
          refine z_iconst dX10_works_269 (r32d rfl) ?_
          refine cl_X10_475 dX10_works_270 rfl (Nat.le_of_ble_eq_true rfl) (zC_mono ?_ hyp)
          rintro _ h_32 ⟨r_32, rfl, hyp⟩
          refine ⟨r_32, rfl, ?_⟩
          refine z_lstore dX10_works_273 (by decide) rfl ?_
          refine z_goto (tgt := 407) dX10_works_275 (by decide) ?_
          exact z_forget [true, false, false, false, false, false, true, false] rfl hyp
        · have hyp := hyp.2 c_31
          refine z_iconst dX10_works_265 (r32d rfl) ?_
          refine z_goto (tgt := 270) dX10_works_266 (by decide) ?_
          refine cl_X10_475 dX10_works_270 rfl (Nat.le_of_ble_eq_true rfl) (zC_mono ?_ hyp)
          rintro _ h_33 ⟨r_33, rfl, hyp⟩
          refine ⟨r_33, rfl, ?_⟩
          refine z_lstore dX10_works_273 (by decide) rfl ?_
          refine z_goto (tgt := 407) dX10_works_275 (by decide) ?_
          exact z_forget [true, false, false, false, false, false, true, false] rfl hyp
      exact z_lsw (off := 188) (tgt := 258) dX10_works_70 (by decide) (by rw [c_30] <;> rfl) (by decide) hgo
    by_cases c_34 : x1 = 256
    · have hyp := hyp.2.2.2.2.2.2.2.1 c_34
      have hgo : zG E mX10_works (d + 1) 298 [zR 0, zI x1, zJ y_1, zU, zJ y_3, zU, zU, zU] [] h_4 (qI K) := by
        refine z_lload dX10_works_298 rfl ?_
        refine z_lload_n dX10_works_300 rfl ?_
        refine z_lc_gt (tgt := 309) dX10_works_301 dX10_works_302 (by decide) (fun c_35 => ?_) (fun c_35 => ?_)
        · have hyp := hyp.1 c_35
          refine z_iconst dX10_works_309 (r32d rfl) ?_
          refine cl_X10_475 dX10_works_310 rfl (Nat.le_of_ble_eq_true rfl) (zC_mono ?_ hyp)
          rintro _ h_36 ⟨r_36, rfl, hyp⟩
          refine ⟨r_36, rfl, ?_⟩
          refine z_lstore dX10_works_313 (by decide) rfl ?_
          refine z_goto (tgt := 407) dX10_works_315 (by decide) ?_
          exact z_forget [true, false, false, false, false, false, true, false] rfl hyp
        · have hyp := hyp.2 c_35
          refine z_iconst dX10_works_305 (r32d rfl) ?_
          refine z_goto (tgt := 310) dX10_works_306 (by decide) ?_
          refine cl_X10_475 dX10_works_310 rfl (Nat.le_of_ble_eq_true rfl) (zC_mono ?_ hyp)
          rintro _ h_37 ⟨r_37, rfl, hyp⟩
          refine ⟨r_37, rfl, ?_⟩
          refine z_lstore dX10_works_313 (by decide) rfl ?_
          refine z_goto (tgt := 407) dX10_works_315 (by decide) ?_
          exact z_forget [true, false, false, false, false, false, true, false] rfl hyp
      exact z_lsw (off := 228) (tgt := 298) dX10_works_70 (by decide) (by rw [c_34] <;> rfl) (by decide) hgo
    by_cases c_38 : x1 = 257
    · have hyp := hyp.2.2.2.2.2.2.2.2.1 c_38
      have hgo : zG E mX10_works (d + 1) 338 [zR 0, zI x1, zJ y_1, zU, zJ y_3, zU, zU, zU] [] h_4 (qI K) := by
        refine z_lload dX10_works_338 rfl ?_
        refine z_lload_n dX10_works_340 rfl ?_
        refine z_lc_eq (tgt := 349) dX10_works_341 dX10_works_342 (by decide) (fun c_39 => ?_) (fun c_39 => ?_)
        · have hyp := hyp.1 c_39
          refine z_iconst dX10_works_349 (r32d rfl) ?_
          refine cl_X10_475 dX10_works_350 rfl (Nat.le_of_ble_eq_true rfl) (zC_mono ?_ hyp)
          rintro _ h_40 ⟨r_40, rfl, hyp⟩
          refine ⟨r_40, rfl, ?_⟩
          refine z_lstore dX10_works_353 (by decide) rfl ?_
          refine z_goto (tgt := 407) dX10_works_355 (by decide) ?_
          exact z_forget [true, false, false, false, false, false, true, false] rfl hyp
        · have hyp := hyp.2 c_39
          refine z_iconst dX10_works_345 (r32d rfl) ?_
          refine z_goto (tgt := 350) dX10_works_346 (by decide) ?_
          refine cl_X10_475 dX10_works_350 rfl (Nat.le_of_ble_eq_true rfl) (zC_mono ?_ hyp)
          rintro _ h_41 ⟨r_41, rfl, hyp⟩
          refine ⟨r_41, rfl, ?_⟩
          refine z_lstore dX10_works_353 (by decide) rfl ?_
          refine z_goto (tgt := 407) dX10_works_355 (by decide) ?_
          exact z_forget [true, false, false, false, false, false, true, false] rfl hyp
      exact z_lsw (off := 268) (tgt := 338) dX10_works_70 (by decide) (by rw [c_38] <;> rfl) (by decide) hgo
    by_cases c_42 : x1 = 258
    · have hyp := hyp.2.2.2.2.2.2.2.2.2.1 c_42
      have hgo : zG E mX10_works (d + 1) 318 [zR 0, zI x1, zJ y_1, zU, zJ y_3, zU, zU, zU] [] h_4 (qI K) := by
        refine z_lload dX10_works_318 rfl ?_
        refine z_lload_n dX10_works_320 rfl ?_
        refine z_lc_lt (tgt := 329) dX10_works_321 dX10_works_322 (by decide) (fun c_43 => ?_) (fun c_43 => ?_)
        · have hyp := hyp.1 c_43
          refine z_iconst dX10_works_329 (r32d rfl) ?_
          refine cl_X10_475 dX10_works_330 rfl (Nat.le_of_ble_eq_true rfl) (zC_mono ?_ hyp)
          rintro _ h_44 ⟨r_44, rfl, hyp⟩
          refine ⟨r_44, rfl, ?_⟩
          refine z_lstore dX10_works_333 (by decide) rfl ?_
          refine z_goto (tgt := 407) dX10_works_335 (by decide) ?_
          exact z_forget [true, false, false, false, false, false, true, false] rfl hyp
        · have hyp := hyp.2 c_43
          refine z_iconst dX10_works_325 (r32d rfl) ?_
          refine z_goto (tgt := 330) dX10_works_326 (by decide) ?_
          refine cl_X10_475 dX10_works_330 rfl (Nat.le_of_ble_eq_true rfl) (zC_mono ?_ hyp)
          rintro _ h_45 ⟨r_45, rfl, hyp⟩
          refine ⟨r_45, rfl, ?_⟩
          refine z_lstore dX10_works_333 (by decide) rfl ?_
          refine z_goto (tgt := 407) dX10_works_335 (by decide) ?_
          exact z_forget [true, false, false, false, false, false, true, false] rfl hyp
      exact z_lsw (off := 248) (tgt := 318) dX10_works_70 (by decide) (by rw [c_42] <;> rfl) (by decide) hgo
    by_cases c_46 : x1 = 261
    · have hyp := hyp.2.2.2.2.2.2.2.2.2.2.1 c_46
      have hgo : zG E mX10_works (d + 1) 358 [zR 0, zI x1, zJ y_1, zU, zJ y_3, zU, zU, zU] [] h_4 (qI K) := by
        refine z_lload dX10_works_358 rfl ?_
        refine z_lconst (x := 0) dX10_works_360 (by decide) (r64d rfl) ?_
        refine z_lc_eq (tgt := 375) dX10_works_361 dX10_works_362 (by decide) (fun c_47 => ?_) (fun c_47 => ?_)
        · have hyp := hyp.1 c_47
          refine z_iconst dX10_works_375 (r32d rfl) ?_
          refine cl_X10_475 dX10_works_376 rfl (Nat.le_of_ble_eq_true rfl) (zC_mono ?_ hyp)
          rintro _ h_48 ⟨r_48, rfl, hyp⟩
          refine ⟨r_48, rfl, ?_⟩
          refine z_lstore dX10_works_379 (by decide) rfl ?_
          refine z_goto (tgt := 407) dX10_works_381 (by decide) ?_
          exact z_forget [true, false, false, false, false, false, true, false] rfl hyp
        · have hyp := hyp.2 c_47
          refine z_lload_n dX10_works_365 rfl ?_
          refine z_lconst (x := 0) dX10_works_366 (by decide) (r64d rfl) ?_
          refine z_lc_eq (tgt := 375) dX10_works_367 dX10_works_368 (by decide) (fun c_49 => ?_) (fun c_49 => ?_)
          · have hyp := hyp.1 c_49
            refine z_iconst dX10_works_375 (r32d rfl) ?_
            refine cl_X10_475 dX10_works_376 rfl (Nat.le_of_ble_eq_true rfl) (zC_mono ?_ hyp)
            rintro _ h_50 ⟨r_50, rfl, hyp⟩
            refine ⟨r_50, rfl, ?_⟩
            refine z_lstore dX10_works_379 (by decide) rfl ?_
            refine z_goto (tgt := 407) dX10_works_381 (by decide) ?_
            exact z_forget [true, false, false, false, false, false, true, false] rfl hyp
          · have hyp := hyp.2 c_49
            refine z_iconst dX10_works_371 (r32d rfl) ?_
            refine z_goto (tgt := 376) dX10_works_372 (by decide) ?_
            refine cl_X10_475 dX10_works_376 rfl (Nat.le_of_ble_eq_true rfl) (zC_mono ?_ hyp)
            rintro _ h_51 ⟨r_51, rfl, hyp⟩
            refine ⟨r_51, rfl, ?_⟩
            refine z_lstore dX10_works_379 (by decide) rfl ?_
            refine z_goto (tgt := 407) dX10_works_381 (by decide) ?_
            exact z_forget [true, false, false, false, false, false, true, false] rfl hyp
      exact z_lsw (off := 288) (tgt := 358) dX10_works_70 (by decide) (by rw [c_46] <;> rfl) (by decide) hgo
    have z_52 : ¬ 42 = x1 := fun q => c_10 q.symm
    have z_53 : ¬ 43 = x1 := fun q => c_15 q.symm
    have z_54 : ¬ 45 = x1 := fun q => c_17 q.symm
    have z_55 : ¬ 47 = x1 := fun q => c_19 q.symm
    have z_56 : ¬ 60 = x1 := fun q => c_22 q.symm
    have z_57 : ¬ 61 = x1 := fun q => c_26 q.symm
    have z_58 : ¬ 62 = x1 := fun q => c_30 q.symm
    have z_59 : ¬ 256 = x1 := fun q => c_34 q.symm
    have z_60 : ¬ 257 = x1 := fun q => c_38 q.symm
    have z_61 : ¬ 258 = x1 := fun q => c_42 q.symm
    have z_62 : ¬ 261 = x1 := fun q => c_46 q.symm
    exact z_lsw (off := 314) (tgt := 384) dX10_works_70 (by decide) (by simp [Op.lookupswitch.offset, z_52, z_53, z_54, z_55, z_56, z_57, z_58, z_59, z_60, z_61, z_62]) (by decide) (hgo ⟨c_10, c_15, c_17, c_19, c_22, c_26, c_30, c_34, c_38, c_42, c_46⟩)
  · have hyp := hyp.2 c_2
    refine z_aload_n dX10_works_19 rfl ?_
    refine gf_X10_137 (c2 := 37) dX10_works_20 rfl (sR_0 hE) (cR_0 hE) rfl ?_
    refine z_aload_n dX10_works_23 rfl ?_
    refine gf_X10_472 dX10_works_24 rfl (sR_0 hE) (cR_0 hE) ?_
    refine z_iconst dX10_works_27 (r32d rfl) ?_
    refine z_isub dX10_works_28 ?_
    refine z_lload_n dX10_works_29 rfl ?_
    refine z_lconst (x := 0) dX10_works_30 (by decide) (r64d rfl) ?_
    refine z_lc_ne (tgt := 39) dX10_works_31 dX10_works_32 (by decide) (fun c_63 => ?_) (fun c_63 => ?_)
    · have hyp := hyp.1 c_63
      refine z_iconst dX10_works_39 (r32d rfl) ?_
      refine cl_X10_475 dX10_works_40 rfl (Nat.le_of_ble_eq_true rfl) (zC_mono ?_ hyp)
      rintro _ h_64 ⟨r_64, rfl, hyp⟩
      refine ⟨r_64, rfl, ?_⟩
      obtain ⟨⟨hi0, hi1⟩, hyp⟩ := hyp
      refine z_lastore dX10_works_43 (sR_37 hE) (cR_37 hE) hi0 hi1 ?_
      generalize eh_65 : hset h_64 37 _ r_64 = h_65
      have hyp := hyp h_65 eh_65.symm
      refine z_iconst dX10_works_44 (r32d rfl) ?_
      exact z_zret dX10_works_45 rfl (Or.inr rfl) ⟨_, rfl, hyp⟩
    · have hyp := hyp.2 c_63
      refine z_iconst dX10_works_35 (r32d rfl) ?_
      refine z_goto (tgt := 40) dX10_works_36 (by decide) ?_
      refine cl_X10_475 dX10_works_40 rfl (Nat.le_of_ble_eq_true rfl) (zC_mono ?_ hyp)
      rintro _ h_66 ⟨r_66, rfl, hyp⟩
      refine ⟨r_66, rfl, ?_⟩
      obtain ⟨⟨hi0, hi1⟩, hyp⟩ := hyp
      refine z_lastore dX10_works_43 (sR_37 hE) (cR_37 hE) hi0 hi1 ?_
      generalize eh_67 : hset h_66 37 _ r_66 = h_67
      have hyp := hyp h_67 eh_67.symm
      refine z_iconst dX10_works_44 (r32d rfl) ?_
      exact z_zret dX10_works_45 rfl (Or.inr rfl) ⟨_, rfl, hyp⟩
set_option maxRecDepth 20000 in
theorem eX10_wrong {E : zE} (hE : isR E) {d : Nat} {x1 : Int} {h : zH} {K : zH → Prop} (hyp :
  (((h 0 49) = 0 →
    ∀ h_2 : zH, h_2 = hset h 0 49 x1 →
    ∀ h_3 : zH, h_3 = hset h_2 0 50 (h_2 0 46) →
    K h_3) ∧
  (¬ ((h 0 49) = 0) →
    K h))) :
  zCV E mX10_wrong d [zR 0, zI x1] h K := by
  refine zC_in (L0 := [zR 0, zI x1]) pn_X10 rfl (Nat.le_of_ble_eq_true rfl) ?_
  refine z_aload_n dX10_wrong_0 rfl ?_
  refine gf_X10_207 dX10_wrong_1 rfl (sR_0 hE) (cR_0 hE) ?_
  refine z_if_eq (tgt := 8) dX10_wrong_4 (by decide) (fun c_1 => ?_) (fun c_1 => ?_)
  · have hyp := hyp.1 c_1
    refine z_aload_n dX10_wrong_8 rfl ?_
    refine z_iload_n dX10_wrong_9 rfl ?_
    refine pf_X10_207 dX10_wrong_10 rfl (sR_0 hE) (cR_0 hE) ?_
    generalize eh_2 : hset h 0 49 _ = h_2
    have hyp := hyp h_2 eh_2.symm
    refine z_aload_n dX10_wrong_13 rfl ?_
    refine z_aload_n dX10_wrong_14 rfl ?_
    refine gf_X10_169 dX10_wrong_15 rfl (sR_0 hE) (cR_0 hE) ?_
    refine pf_X10_210 dX10_wrong_18 rfl (sR_0 hE) (cR_0 hE) ?_
    generalize eh_3 : hset h_2 0 50 _ = h_3
    have hyp := hyp h_3 eh_3.symm
    exact z_vret dX10_wrong_21 rfl ⟨rfl, hyp⟩
  · have hyp := hyp.2 c_1
    exact z_vret dX10_wrong_7 rfl ⟨rfl, hyp⟩
