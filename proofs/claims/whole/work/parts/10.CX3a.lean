set_option maxRecDepth 20000 in
theorem bX3_bring_17 {E : zE} (hE : isC E) {a1 : Nat} (ha1 : zsh E a1 = (20, 480) ∧ a1 < zN E) {d : Nat} {x3 x4 : Int} {h : zH} {K : zH → Prop} (hyp :
  ((x3 ≤ x4 →
    K h) ∧
  (¬ (x3 ≤ x4) →
    ((0 : Int) ≤ x4 ∧ x4 < (60 : Int)) ∧
    ∀ x_2 : Int, x_2 = h 48 x4.toNat →
    ((0 : Int) ≤ x4 ∧ x4 < (60 : Int)) ∧
    (((h 51 x4.toNat) ≠ 0 →
      zG E mX3_bring (d + 1) 134 [zR 46, zR a1, zU, zI x3, zI x4, zU] [] h (qV K)) ∧
    (¬ ((h 51 x4.toNat) ≠ 0) →
      ((0 : Int) ≤ x4 ∧ x4 < (60 : Int)) ∧
      (((h 47 x4.toNat) = 2 →
        zG E mX3_bring (d + 1) 134 [zR 46, zR a1, zU, zI x3, zI x4, zU] [] h (qV K)) ∧
      (¬ ((h 47 x4.toNat) = 2) →
        ((x_2 < 0 →
          zG E mX3_bring (d + 1) 134 [zR 46, zR a1, zU, zI x3, zI x4, zU] [] h (qV K)) ∧
        (¬ (x_2 < 0) →
          (((w32 (x_2 + 6)) ≤ 480 →
            ((0 : Int) ≤ x4 ∧ x4 < (60 : Int)) ∧
            (((h 47 x4.toNat) ≠ 0 →
              ((0 : Int) ≤ x4 ∧ x4 < (60 : Int)) ∧
              (((h 47 x4.toNat) ≠ 1 →
                zG E mX3_bring (d + 1) 134 [zR 46, zR a1, zU, zI x3, zI x4, zU] [] h (qV K)) ∧
              (¬ ((h 47 x4.toNat) ≠ 1) →
                ((0 : Int) ≤ x4 ∧ x4 < (60 : Int)) ∧
                ((0 : Int) ≤ w32 (x_2 + 5) ∧ w32 (x_2 + 5) < (480 : Int)) ∧
                ∀ h_9 : zH, h_9 = hset h a1 ((w32 (x_2 + 5)).toNat) (h 49 x4.toNat) →
                zG E mX3_bring (d + 1) 134 [zR 46, zR a1, zU, zI x3, zI x4, zU] [] h_9 (qV K)))) ∧
            (¬ ((h 47 x4.toNat) ≠ 0) →
              ((0 : Int) ≤ x4 ∧ x4 < (60 : Int)) ∧
              ((0 : Int) ≤ w32 (x_2 + 0) ∧ w32 (x_2 + 0) < (480 : Int)) ∧
              ∀ h_10 : zH, h_10 = hset h a1 ((w32 (x_2 + 0)).toNat) (h 49 x4.toNat) →
              ((0 : Int) ≤ x4 ∧ x4 < (60 : Int)) ∧
              ((0 : Int) ≤ w32 (x_2 + 1) ∧ w32 (x_2 + 1) < (480 : Int)) ∧
              ∀ h_11 : zH, h_11 = hset h_10 a1 ((w32 (x_2 + 1)).toNat) (h_10 50 x4.toNat) →
              zG E mX3_bring (d + 1) 134 [zR 46, zR a1, zU, zI x3, zI x4, zU] [] h_11 (qV K)))) ∧
          (¬ ((w32 (x_2 + 6)) ≤ 480) →
            zG E mX3_bring (d + 1) 134 [zR 46, zR a1, zU, zI x3, zI x4, zU] [] h (qV K)))))))))))) :
  zG E mX3_bring (d + 1) 17 [zR 46, zR a1, zU, zI x3, zI x4, zU] [] h (qV K) := by
  refine z_iload dX3_bring_17 rfl ?_
  refine z_iload_n dX3_bring_19 rfl ?_
  refine z_icmp_ge (tgt := 140) dX3_bring_20 (by decide) (fun c_1 => ?_) (fun c_1 => ?_)
  · have hyp := hyp.1 c_1
    exact z_vret dX3_bring_140 rfl ⟨rfl, hyp⟩
  · have hyp := hyp.2 c_1
    refine z_aload_n dX3_bring_23 rfl ?_
    refine gf_X3_15 (c2 := 48) dX3_bring_24 rfl (sC_46 hE) (cC_46 hE) rfl ?_
    refine z_iload dX3_bring_27 rfl ?_
    obtain ⟨⟨hi0, hi1⟩, hyp⟩ := hyp
    refine z_iaload dX3_bring_29 (sC_48 hE) (cC_48 hE) hi0 hi1 ?_
    generalize ex_2 : h 48 x4.toNat = x_2
    have hyp := hyp x_2 ex_2.symm
    refine z_istore dX3_bring_30 (by decide) rfl ?_
    refine z_aload_n dX3_bring_32 rfl ?_
    refine gf_X3_24 (c2 := 51) dX3_bring_33 rfl (sC_46 hE) (cC_46 hE) rfl ?_
    refine z_iload dX3_bring_36 rfl ?_
    obtain ⟨⟨hi0, hi1⟩, hyp⟩ := hyp
    refine z_iaload dX3_bring_38 (sC_51 hE) (cC_51 hE) hi0 hi1 ?_
    refine z_if_ne (tgt := 134) dX3_bring_39 (by decide) (fun c_3 => ?_) (fun c_3 => ?_)
    · have hyp := hyp.1 c_3
      exact z_forget [true, true, false, true, true, false] rfl hyp
    · have hyp := hyp.2 c_3
      refine z_aload_n dX3_bring_42 rfl ?_
      refine gf_X3_9 (c2 := 47) dX3_bring_43 rfl (sC_46 hE) (cC_46 hE) rfl ?_
      refine z_iload dX3_bring_46 rfl ?_
      obtain ⟨⟨hi0, hi1⟩, hyp⟩ := hyp
      refine z_iaload dX3_bring_48 (sC_47 hE) (cC_47 hE) hi0 hi1 ?_
      refine z_iconst dX3_bring_49 (r32d rfl) ?_
      refine z_icmp_eq (tgt := 134) dX3_bring_50 (by decide) (fun c_4 => ?_) (fun c_4 => ?_)
      · have hyp := hyp.1 c_4
        exact z_forget [true, true, false, true, true, false] rfl hyp
      · have hyp := hyp.2 c_4
        refine z_iload dX3_bring_53 rfl ?_
        refine z_if_lt (tgt := 134) dX3_bring_55 (by decide) (fun c_5 => ?_) (fun c_5 => ?_)
        · have hyp := hyp.1 c_5
          exact z_forget [true, true, false, true, true, false] rfl hyp
        · have hyp := hyp.2 c_5
          refine z_iload dX3_bring_58 rfl ?_
          refine z_bipush dX3_bring_60 (r32d rfl) (by decide) ?_
          refine z_iadd dX3_bring_62 ?_
          refine z_aload_n dX3_bring_63 rfl ?_
          refine z_alen dX3_bring_64 (ha1.1) (by decide) (by decide) (by decide) (ha1.2) ?_
          refine z_icmp_le (tgt := 71) dX3_bring_65 (by decide) (fun c_6 => ?_) (fun c_6 => ?_)
          · have hyp := hyp.1 c_6
            refine z_aload_n dX3_bring_71 rfl ?_
            refine gf_X3_9 (c2 := 47) dX3_bring_72 rfl (sC_46 hE) (cC_46 hE) rfl ?_
            refine z_iload dX3_bring_75 rfl ?_
            obtain ⟨⟨hi0, hi1⟩, hyp⟩ := hyp
            refine z_iaload dX3_bring_77 (sC_47 hE) (cC_47 hE) hi0 hi1 ?_
            refine z_if_ne (tgt := 110) dX3_bring_78 (by decide) (fun c_7 => ?_) (fun c_7 => ?_)
            · have hyp := hyp.1 c_7
              refine z_aload_n dX3_bring_110 rfl ?_
              refine gf_X3_9 (c2 := 47) dX3_bring_111 rfl (sC_46 hE) (cC_46 hE) rfl ?_
              refine z_iload dX3_bring_114 rfl ?_
              obtain ⟨⟨hi0, hi1⟩, hyp⟩ := hyp
              refine z_iaload dX3_bring_116 (sC_47 hE) (cC_47 hE) hi0 hi1 ?_
              refine z_iconst dX3_bring_117 (r32d rfl) ?_
              refine z_icmp_ne (tgt := 134) dX3_bring_118 (by decide) (fun c_8 => ?_) (fun c_8 => ?_)
              · have hyp := hyp.1 c_8
                exact z_forget [true, true, false, true, true, false] rfl hyp
              · have hyp := hyp.2 c_8
                refine z_aload_n dX3_bring_121 rfl ?_
                refine z_iload dX3_bring_122 rfl ?_
                refine z_iconst dX3_bring_124 (r32d rfl) ?_
                refine z_iadd dX3_bring_125 ?_
                refine z_aload_n dX3_bring_126 rfl ?_
                refine gf_X3_18 (c2 := 49) dX3_bring_127 rfl (sC_46 hE) (cC_46 hE) rfl ?_
                refine z_iload dX3_bring_130 rfl ?_
                obtain ⟨⟨hi0, hi1⟩, hyp⟩ := hyp
                refine z_iaload dX3_bring_132 (sC_49 hE) (cC_49 hE) hi0 hi1 ?_
                obtain ⟨⟨hi0, hi1⟩, hyp⟩ := hyp
                refine z_iastore dX3_bring_133 (ha1.1) (ha1.2) hi0 hi1 ?_
                generalize eh_9 : hset h a1 _ (h 49 x4.toNat) = h_9
                have hyp := hyp h_9 eh_9.symm
                exact z_forget [true, true, false, true, true, false] rfl hyp
            · have hyp := hyp.2 c_7
              refine z_aload_n dX3_bring_81 rfl ?_
              refine z_iload dX3_bring_82 rfl ?_
              refine z_iconst dX3_bring_84 (r32d rfl) ?_
              refine z_iadd dX3_bring_85 ?_
              refine z_aload_n dX3_bring_86 rfl ?_
              refine gf_X3_18 (c2 := 49) dX3_bring_87 rfl (sC_46 hE) (cC_46 hE) rfl ?_
              refine z_iload dX3_bring_90 rfl ?_
              obtain ⟨⟨hi0, hi1⟩, hyp⟩ := hyp
              refine z_iaload dX3_bring_92 (sC_49 hE) (cC_49 hE) hi0 hi1 ?_
              obtain ⟨⟨hi0, hi1⟩, hyp⟩ := hyp
              refine z_iastore dX3_bring_93 (ha1.1) (ha1.2) hi0 hi1 ?_
              generalize eh_10 : hset h a1 _ (h 49 x4.toNat) = h_10
              have hyp := hyp h_10 eh_10.symm
              refine z_aload_n dX3_bring_94 rfl ?_
              refine z_iload dX3_bring_95 rfl ?_
              refine z_iconst dX3_bring_97 (r32d rfl) ?_
              refine z_iadd dX3_bring_98 ?_
              refine z_aload_n dX3_bring_99 rfl ?_
              refine gf_X3_21 (c2 := 50) dX3_bring_100 rfl (sC_46 hE) (cC_46 hE) rfl ?_
              refine z_iload dX3_bring_103 rfl ?_
              obtain ⟨⟨hi0, hi1⟩, hyp⟩ := hyp
              refine z_iaload dX3_bring_105 (sC_50 hE) (cC_50 hE) hi0 hi1 ?_
              obtain ⟨⟨hi0, hi1⟩, hyp⟩ := hyp
              refine z_iastore dX3_bring_106 (ha1.1) (ha1.2) hi0 hi1 ?_
              generalize eh_11 : hset h_10 a1 _ (h_10 50 x4.toNat) = h_11
              have hyp := hyp h_11 eh_11.symm
              refine z_goto (tgt := 134) dX3_bring_107 (by decide) ?_
              exact z_forget [true, true, false, true, true, false] rfl hyp
          · have hyp := hyp.2 c_6
            refine z_goto (tgt := 134) dX3_bring_68 (by decide) ?_
            exact z_forget [true, true, false, true, true, false] rfl hyp
set_option maxRecDepth 20000 in
theorem bX3_bring_134 {E : zE} (hE : isC E) {a1 : Nat} (ha1 : zsh E a1 = (20, 480) ∧ a1 < zN E) {d : Nat} {x3 x4 : Int} {h : zH} {K : zH → Prop} (hyp :
  ∀ x_1 : Int, x_1 = w32 (x4 + 1) →
  zG E mX3_bring (d + 1) 17 [zR 46, zR a1, zU, zI x3, zI x_1, zU] [] h (qV K)) :
  zG E mX3_bring (d + 1) 134 [zR 46, zR a1, zU, zI x3, zI x4, zU] [] h (qV K) := by
  refine z_iinc dX3_bring_134 rfl (by decide) rfl ?_
  generalize ex_1 : w32 (x4 + 1) = x_1
  have hyp := hyp x_1 ex_1.symm
  refine z_goto (tgt := 17) dX3_bring_137 (by decide) ?_
  exact hyp
set_option maxRecDepth 20000 in
theorem eX3_bring {E : zE} (hE : isC E) {a1 : Nat} (ha1 : zsh E a1 = (20, 480) ∧ a1 < zN E) {d : Nat} {x2 : Int} {h : zH} {K : zH → Prop} (hyp :
  ∀ x_1 : Int, x_1 = min x2 (h 46 5) →
  zCV E mX3_findStruck d [zR 46, zI x_1] h (fun h_2 =>
    zG E mX3_bring (d + 1) 17 [zR 46, zR a1, zU, zI x_1, zI 0, zU] [] h_2 (qV K))) :
  zCV E mX3_bring (d + 1) [zR 46, zR a1, zI x2] h K := by
  refine zC_in (L0 := [zR 46, zR a1, zI x2, zU, zU, zU]) pn_X3 rfl (Nat.le_of_ble_eq_true rfl) ?_
  refine z_iload_n dX3_bring_0 rfl ?_
  refine z_aload_n dX3_bring_1 rfl ?_
  refine gf_X3_27 dX3_bring_2 rfl (sC_46 hE) (cC_46 hE) ?_
  refine cl_X3_31 dX3_bring_5 rfl (Nat.le_of_ble_eq_true rfl) ?_
  generalize ex_1 : min x2 (h 46 5) = x_1
  have hyp := hyp x_1 ex_1.symm
  refine z_istore_n dX3_bring_8 rfl (by decide) rfl ?_
  refine z_aload_n dX3_bring_9 rfl ?_
  refine z_iload_n dX3_bring_10 rfl ?_
  refine cl_X3_37 dX3_bring_11 rfl (sC_46 hE) (cC_46 hE) (Nat.le_of_ble_eq_true rfl) (zC_mono ?_ hyp)
  rintro _ h_2 ⟨rfl, hyp⟩
  refine ⟨rfl, ?_⟩
  refine z_iconst dX3_bring_14 (r32d rfl) ?_
  refine z_istore dX3_bring_15 (by decide) rfl ?_
  exact z_forget [true, true, false, true, true, false] rfl hyp
set_option maxRecDepth 20000 in
theorem bX3_findStruck_12 {E : zE} (hE : isC E) {d : Nat} {x2 : Int} {h : zH} {K : zH → Prop} (hyp :
  ((x2 < 0 →
    K h) ∧
  (¬ (x2 < 0) →
    ((0 : Int) ≤ x2 ∧ x2 < (60 : Int)) ∧
    ∀ x_2 : Int, x_2 = h 48 x2.toNat →
    ((0 : Int) ≤ x2 ∧ x2 < (60 : Int)) ∧
    (((h 47 x2.toNat) ≠ 2 →
      ∀ x_4 : Int, x_4 = w32 (x2 + (-1)) →
      zG E mX3_findStruck (d + 1) 12 [zR 46, zU, zI x_4, zU] [] h (qV K)) ∧
    (¬ ((h 47 x2.toNat) ≠ 2) →
      ((0 : Int) ≤ x2 ∧ x2 < (60 : Int)) ∧
      (((h 51 x2.toNat) ≠ 0 →
        ∀ x_6 : Int, x_6 = w32 (x2 + (-1)) →
        zG E mX3_findStruck (d + 1) 12 [zR 46, zU, zI x_6, zU] [] h (qV K)) ∧
      (¬ ((h 51 x2.toNat) ≠ 0) →
        ((x_2 < 0 →
          ∀ x_8 : Int, x_8 = w32 (x2 + (-1)) →
          zG E mX3_findStruck (d + 1) 12 [zR 46, zU, zI x_8, zU] [] h (qV K)) ∧
        (¬ (x_2 < 0) →
          ((60 ≤ x_2 →
            ∀ x_10 : Int, x_10 = w32 (x2 + (-1)) →
            zG E mX3_findStruck (d + 1) 12 [zR 46, zU, zI x_10, zU] [] h (qV K)) ∧
          (¬ (60 ≤ x_2) →
            ((0 : Int) ≤ x_2 ∧ x_2 < (60 : Int)) ∧
            ∀ h_11 : zH, h_11 = hset h 51 (x_2.toNat) 1 →
            ∀ x_12 : Int, x_12 = w32 (x2 + (-1)) →
            zG E mX3_findStruck (d + 1) 12 [zR 46, zU, zI x_12, zU] [] h_11 (qV K)))))))))))) :
  zG E mX3_findStruck (d + 1) 12 [zR 46, zU, zI x2, zU] [] h (qV K) := by
  refine z_iload_n dX3_findStruck_12 rfl ?_
  refine z_if_lt (tgt := 65) dX3_findStruck_13 (by decide) (fun c_1 => ?_) (fun c_1 => ?_)
  · have hyp := hyp.1 c_1
    exact z_vret dX3_findStruck_65 rfl ⟨rfl, hyp⟩
  · have hyp := hyp.2 c_1
    refine z_aload_n dX3_findStruck_16 rfl ?_
    refine gf_X3_15 (c2 := 48) dX3_findStruck_17 rfl (sC_46 hE) (cC_46 hE) rfl ?_
    refine z_iload_n dX3_findStruck_20 rfl ?_
    obtain ⟨⟨hi0, hi1⟩, hyp⟩ := hyp
    refine z_iaload dX3_findStruck_21 (sC_48 hE) (cC_48 hE) hi0 hi1 ?_
    generalize ex_2 : h 48 x2.toNat = x_2
    have hyp := hyp x_2 ex_2.symm
    refine z_istore_n dX3_findStruck_22 rfl (by decide) rfl ?_
    refine z_aload_n dX3_findStruck_23 rfl ?_
    refine gf_X3_9 (c2 := 47) dX3_findStruck_24 rfl (sC_46 hE) (cC_46 hE) rfl ?_
    refine z_iload_n dX3_findStruck_27 rfl ?_
    obtain ⟨⟨hi0, hi1⟩, hyp⟩ := hyp
    refine z_iaload dX3_findStruck_28 (sC_47 hE) (cC_47 hE) hi0 hi1 ?_
    refine z_iconst dX3_findStruck_29 (r32d rfl) ?_
    refine z_icmp_ne (tgt := 59) dX3_findStruck_30 (by decide) (fun c_3 => ?_) (fun c_3 => ?_)
    · have hyp := hyp.1 c_3
      refine z_iinc dX3_findStruck_59 rfl (by decide) rfl ?_
      generalize ex_4 : w32 (x2 + (-1)) = x_4
      have hyp := hyp x_4 ex_4.symm
      refine z_goto (tgt := 12) dX3_findStruck_62 (by decide) ?_
      exact z_forget [true, false, true, false] rfl hyp
    · have hyp := hyp.2 c_3
      refine z_aload_n dX3_findStruck_33 rfl ?_
      refine gf_X3_24 (c2 := 51) dX3_findStruck_34 rfl (sC_46 hE) (cC_46 hE) rfl ?_
      refine z_iload_n dX3_findStruck_37 rfl ?_
      obtain ⟨⟨hi0, hi1⟩, hyp⟩ := hyp
      refine z_iaload dX3_findStruck_38 (sC_51 hE) (cC_51 hE) hi0 hi1 ?_
      refine z_if_ne (tgt := 59) dX3_findStruck_39 (by decide) (fun c_5 => ?_) (fun c_5 => ?_)
      · have hyp := hyp.1 c_5
        refine z_iinc dX3_findStruck_59 rfl (by decide) rfl ?_
        generalize ex_6 : w32 (x2 + (-1)) = x_6
        have hyp := hyp x_6 ex_6.symm
        refine z_goto (tgt := 12) dX3_findStruck_62 (by decide) ?_
        exact z_forget [true, false, true, false] rfl hyp
      · have hyp := hyp.2 c_5
        refine z_iload_n dX3_findStruck_42 rfl ?_
        refine z_if_lt (tgt := 59) dX3_findStruck_43 (by decide) (fun c_7 => ?_) (fun c_7 => ?_)
        · have hyp := hyp.1 c_7
          refine z_iinc dX3_findStruck_59 rfl (by decide) rfl ?_
          generalize ex_8 : w32 (x2 + (-1)) = x_8
          have hyp := hyp x_8 ex_8.symm
          refine z_goto (tgt := 12) dX3_findStruck_62 (by decide) ?_
          exact z_forget [true, false, true, false] rfl hyp
        · have hyp := hyp.2 c_7
          refine z_iload_n dX3_findStruck_46 rfl ?_
          refine z_bipush dX3_findStruck_47 (r32d rfl) (by decide) ?_
          refine z_icmp_ge (tgt := 59) dX3_findStruck_49 (by decide) (fun c_9 => ?_) (fun c_9 => ?_)
          · have hyp := hyp.1 c_9
            refine z_iinc dX3_findStruck_59 rfl (by decide) rfl ?_
            generalize ex_10 : w32 (x2 + (-1)) = x_10
            have hyp := hyp x_10 ex_10.symm
            refine z_goto (tgt := 12) dX3_findStruck_62 (by decide) ?_
            exact z_forget [true, false, true, false] rfl hyp
          · have hyp := hyp.2 c_9
            refine z_aload_n dX3_findStruck_52 rfl ?_
            refine gf_X3_24 (c2 := 51) dX3_findStruck_53 rfl (sC_46 hE) (cC_46 hE) rfl ?_
            refine z_iload_n dX3_findStruck_56 rfl ?_
            refine z_iconst dX3_findStruck_57 (r32d rfl) ?_
            obtain ⟨⟨hi0, hi1⟩, hyp⟩ := hyp
            refine z_iastore dX3_findStruck_58 (sC_51 hE) (cC_51 hE) hi0 hi1 ?_
            generalize eh_11 : hset h 51 _ 1 = h_11
            have hyp := hyp h_11 eh_11.symm
            refine z_iinc dX3_findStruck_59 rfl (by decide) rfl ?_
            generalize ex_12 : w32 (x2 + (-1)) = x_12
            have hyp := hyp x_12 ex_12.symm
            refine z_goto (tgt := 12) dX3_findStruck_62 (by decide) ?_
            exact z_forget [true, false, true, false] rfl hyp
set_option maxRecDepth 20000 in
theorem eX3_findStruck {E : zE} (hE : isC E) {d : Nat} {x1 : Int} {h : zH} {K : zH → Prop} (hyp :
  zCV E mJ7_fill_53178 d [zR 51, zI 0] h (fun h_1 =>
    ∀ x_2 : Int, x_2 = w32 (x1 - 1) →
    zG E mX3_findStruck (d + 1) 12 [zR 46, zU, zI x_2, zU] [] h_1 (qV K))) :
  zCV E mX3_findStruck (d + 1) [zR 46, zI x1] h K := by
  refine zC_in (L0 := [zR 46, zI x1, zU, zU]) pn_X3 rfl (Nat.le_of_ble_eq_true rfl) ?_
  refine z_aload_n dX3_findStruck_0 rfl ?_
  refine gf_X3_24 (c2 := 51) dX3_findStruck_1 rfl (sC_46 hE) (cC_46 hE) rfl ?_
  refine z_iconst dX3_findStruck_4 (r32d rfl) ?_
  refine cl_X3_41 dX3_findStruck_5 rfl (Nat.le_of_ble_eq_true rfl) (zC_mono ?_ hyp)
  rintro _ h_1 ⟨rfl, hyp⟩
  refine ⟨rfl, ?_⟩
  refine z_iload_n dX3_findStruck_8 rfl ?_
  refine z_iconst dX3_findStruck_9 (r32d rfl) ?_
  refine z_isub dX3_findStruck_10 ?_
  generalize ex_2 : w32 (x1 - 1) = x_2
  have hyp := hyp x_2 ex_2.symm
  refine z_istore_n dX3_findStruck_11 rfl (by decide) rfl ?_
  exact z_forget [true, false, true, false] rfl hyp
set_option maxRecDepth 20000 in
theorem eX3_put {E : zE} (hE : isC E) {d : Nat} {x1 x2 x3 x4 : Int} {h : zH} {K : Int → zH → Prop} (hyp :
  (((h 46 5) < 60 →
    ((0 : Int) ≤ h 46 5 ∧ h 46 5 < (60 : Int)) ∧
    ∀ h_2 : zH, h_2 = hset h 47 ((h 46 5).toNat) x1 →
    ((0 : Int) ≤ h_2 46 5 ∧ h_2 46 5 < (60 : Int)) ∧
    ∀ h_3 : zH, h_3 = hset h_2 48 ((h_2 46 5).toNat) x2 →
    ((0 : Int) ≤ h_3 46 5 ∧ h_3 46 5 < (60 : Int)) ∧
    ∀ h_4 : zH, h_4 = hset h_3 49 ((h_3 46 5).toNat) x3 →
    ((0 : Int) ≤ h_4 46 5 ∧ h_4 46 5 < (60 : Int)) ∧
    ∀ h_5 : zH, h_5 = hset h_4 50 ((h_4 46 5).toNat) x4 →
    ∀ h_6 : zH, h_6 = hset h_5 46 5 (w32 ((h_5 46 5) + 1)) →
    K (w32 ((h_6 46 5) - 1)) h_6) ∧
  (¬ ((h 46 5) < 60) →
    K (-1) h))) :
  zCI E mX3_put d [zR 46, zI x1, zI x2, zI x3, zI x4] h K := by
  refine zC_in (L0 := [zR 46, zI x1, zI x2, zI x3, zI x4]) pn_X3 rfl (Nat.le_of_ble_eq_true rfl) ?_
  refine z_aload_n dX3_put_0 rfl ?_
  refine gf_X3_27 dX3_put_1 rfl (sC_46 hE) (cC_46 hE) ?_
  refine z_bipush dX3_put_4 (r32d rfl) (by decide) ?_
  refine z_icmp_lt (tgt := 11) dX3_put_6 (by decide) (fun c_1 => ?_) (fun c_1 => ?_)
  · have hyp := hyp.1 c_1
    refine z_aload_n dX3_put_11 rfl ?_
    refine gf_X3_9 (c2 := 47) dX3_put_12 rfl (sC_46 hE) (cC_46 hE) rfl ?_
    refine z_aload_n dX3_put_15 rfl ?_
    refine gf_X3_27 dX3_put_16 rfl (sC_46 hE) (cC_46 hE) ?_
    refine z_iload_n dX3_put_19 rfl ?_
    obtain ⟨⟨hi0, hi1⟩, hyp⟩ := hyp
    refine z_iastore dX3_put_20 (sC_47 hE) (cC_47 hE) hi0 hi1 ?_
    generalize eh_2 : hset h 47 _ x1 = h_2
    have hyp := hyp h_2 eh_2.symm
    refine z_aload_n dX3_put_21 rfl ?_
    refine gf_X3_15 (c2 := 48) dX3_put_22 rfl (sC_46 hE) (cC_46 hE) rfl ?_
    refine z_aload_n dX3_put_25 rfl ?_
    refine gf_X3_27 dX3_put_26 rfl (sC_46 hE) (cC_46 hE) ?_
    refine z_iload_n dX3_put_29 rfl ?_
    obtain ⟨⟨hi0, hi1⟩, hyp⟩ := hyp
    refine z_iastore dX3_put_30 (sC_48 hE) (cC_48 hE) hi0 hi1 ?_
    generalize eh_3 : hset h_2 48 _ x2 = h_3
    have hyp := hyp h_3 eh_3.symm
    refine z_aload_n dX3_put_31 rfl ?_
    refine gf_X3_18 (c2 := 49) dX3_put_32 rfl (sC_46 hE) (cC_46 hE) rfl ?_
    refine z_aload_n dX3_put_35 rfl ?_
    refine gf_X3_27 dX3_put_36 rfl (sC_46 hE) (cC_46 hE) ?_
    refine z_iload_n dX3_put_39 rfl ?_
    obtain ⟨⟨hi0, hi1⟩, hyp⟩ := hyp
    refine z_iastore dX3_put_40 (sC_49 hE) (cC_49 hE) hi0 hi1 ?_
    generalize eh_4 : hset h_3 49 _ x3 = h_4
    have hyp := hyp h_4 eh_4.symm
    refine z_aload_n dX3_put_41 rfl ?_
    refine gf_X3_21 (c2 := 50) dX3_put_42 rfl (sC_46 hE) (cC_46 hE) rfl ?_
    refine z_aload_n dX3_put_45 rfl ?_
    refine gf_X3_27 dX3_put_46 rfl (sC_46 hE) (cC_46 hE) ?_
    refine z_iload dX3_put_49 rfl ?_
    obtain ⟨⟨hi0, hi1⟩, hyp⟩ := hyp
    refine z_iastore dX3_put_51 (sC_50 hE) (cC_50 hE) hi0 hi1 ?_
    generalize eh_5 : hset h_4 50 _ x4 = h_5
    have hyp := hyp h_5 eh_5.symm
    refine z_aload_n dX3_put_52 rfl ?_
    refine z_dup dX3_put_53 rfl ?_
    refine gf_X3_27 dX3_put_54 rfl (sC_46 hE) (cC_46 hE) ?_
    refine z_iconst dX3_put_57 (r32d rfl) ?_
    refine z_iadd dX3_put_58 ?_
    refine pf_X3_27 dX3_put_59 rfl (sC_46 hE) (cC_46 hE) ?_
    generalize eh_6 : hset h_5 46 5 _ = h_6
    have hyp := hyp h_6 eh_6.symm
    refine z_aload_n dX3_put_62 rfl ?_
    refine gf_X3_27 dX3_put_63 rfl (sC_46 hE) (cC_46 hE) ?_
    refine z_iconst dX3_put_66 (r32d rfl) ?_
    refine z_isub dX3_put_67 ?_
    exact z_iret dX3_put_68 rfl ⟨_, rfl, hyp⟩
  · have hyp := hyp.2 c_1
    refine z_iconst dX3_put_9 (r32d rfl) ?_
    exact z_iret dX3_put_10 rfl ⟨_, rfl, hyp⟩
