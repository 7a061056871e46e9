set_option maxRecDepth 20000 in
theorem eX10_about {E : zE} (hE : isR E) {d : Nat} {x1 x2 : Int} {h : zH} {K : Int → zH → Prop} (hyp :
  ∀ h_1 : zH, h_1 = hset h 0 0 0 →
  ((x1 < 0 →
    K (-1) h_1) ∧
  (¬ (x1 < 0) →
    (((h_1 0 24) ≤ x1 →
      K (-1) h_1) ∧
    (¬ ((h_1 0 24) ≤ x1) →
      ((x2 < 0 →
        K (-1) h_1) ∧
      (¬ (x2 < 0) →
        ((x2 ≤ 2 →
          zCI E mX10_knownNotes d [zR 0] h_1 (fun r_6 h_6 =>
            zCV E mX10_stones d [zR 0, zI r_6] h_6 (fun h_7 =>
              zCV E mX10_stands d [zR 0, zI x1] h_7 (fun h_8 =>
                ((x2 ≠ 0 →
                  ((x2 ≠ 1 →
                    K (h_8 0 68) h_8) ∧
                  (¬ (x2 ≠ 1) →
                    ((0 : Int) ≤ x1 ∧ x1 < (16 : Int)) ∧
                    K (h_8 5 x1.toNat) h_8))) ∧
                (¬ (x2 ≠ 0) →
                  ((0 : Int) ≤ x1 ∧ x1 < (16 : Int)) ∧
                  K (h_8 4 x1.toNat) h_8)))))) ∧
        (¬ (x2 ≤ 2) →
          K (-1) h_1))))))))) :
  zCI E mX10_about (d + 1) [zR 0, zI x1, zI x2] h K := by
  refine zC_in (L0 := [zR 0, zI x1, zI x2]) pn_X10 rfl (Nat.le_of_ble_eq_true rfl) ?_
  refine z_aload_n dX10_about_0 rfl ?_
  refine z_iconst dX10_about_1 (r32d rfl) ?_
  refine pf_X10_153 dX10_about_2 rfl (sR_0 hE) (cR_0 hE) ?_
  generalize eh_1 : hset h 0 0 _ = h_1
  have hyp := hyp h_1 eh_1.symm
  refine z_iload_n dX10_about_5 rfl ?_
  refine z_if_lt (tgt := 26) dX10_about_6 (by decide) (fun c_2 => ?_) (fun c_2 => ?_)
  · have hyp := hyp.1 c_2
    refine z_iconst dX10_about_26 (r32d rfl) ?_
    exact z_iret dX10_about_27 rfl ⟨_, rfl, hyp⟩
  · have hyp := hyp.2 c_2
    refine z_iload_n dX10_about_9 rfl ?_
    refine z_aload_n dX10_about_10 rfl ?_
    refine gf_X10_340 dX10_about_11 rfl (sR_0 hE) (cR_0 hE) ?_
    refine z_icmp_ge (tgt := 26) dX10_about_14 (by decide) (fun c_3 => ?_) (fun c_3 => ?_)
    · have hyp := hyp.1 c_3
      refine z_iconst dX10_about_26 (r32d rfl) ?_
      exact z_iret dX10_about_27 rfl ⟨_, rfl, hyp⟩
    · have hyp := hyp.2 c_3
      refine z_iload_n dX10_about_17 rfl ?_
      refine z_if_lt (tgt := 26) dX10_about_18 (by decide) (fun c_4 => ?_) (fun c_4 => ?_)
      · have hyp := hyp.1 c_4
        refine z_iconst dX10_about_26 (r32d rfl) ?_
        exact z_iret dX10_about_27 rfl ⟨_, rfl, hyp⟩
      · have hyp := hyp.2 c_4
        refine z_iload_n dX10_about_21 rfl ?_
        refine z_iconst dX10_about_22 (r32d rfl) ?_
        refine z_icmp_le (tgt := 28) dX10_about_23 (by decide) (fun c_5 => ?_) (fun c_5 => ?_)
        · have hyp := hyp.1 c_5
          refine z_aload_n dX10_about_28 rfl ?_
          refine z_aload_n dX10_about_29 rfl ?_
          refine cl_X10_379 dX10_about_30 rfl (sR_0 hE) (cR_0 hE) (Nat.le_of_ble_eq_true rfl) (zC_mono ?_ hyp)
          rintro _ h_6 ⟨r_6, rfl, hyp⟩
          refine ⟨r_6, rfl, ?_⟩
          refine cl_X10_382 dX10_about_33 rfl (sR_0 hE) (cR_0 hE) (Nat.le_of_ble_eq_true rfl) (zC_mono ?_ hyp)
          rintro _ h_7 ⟨rfl, hyp⟩
          refine ⟨rfl, ?_⟩
          refine z_aload_n dX10_about_36 rfl ?_
          refine z_iload_n dX10_about_37 rfl ?_
          refine cl_X10_388 dX10_about_38 rfl (sR_0 hE) (cR_0 hE) (Nat.le_of_ble_eq_true rfl) (zC_mono ?_ hyp)
          rintro _ h_8 ⟨rfl, hyp⟩
          refine ⟨rfl, ?_⟩
          refine z_iload_n dX10_about_41 rfl ?_
          refine z_if_ne (tgt := 54) dX10_about_42 (by decide) (fun c_9 => ?_) (fun c_9 => ?_)
          · have hyp := hyp.1 c_9
            refine z_iload_n dX10_about_54 rfl ?_
            refine z_iconst dX10_about_55 (r32d rfl) ?_
            refine z_icmp_ne (tgt := 68) dX10_about_56 (by decide) (fun c_10 => ?_) (fun c_10 => ?_)
            · have hyp := hyp.1 c_10
              refine z_aload_n dX10_about_68 rfl ?_
              refine gf_X10_385 dX10_about_69 rfl (sR_0 hE) (cR_0 hE) ?_
              exact z_iret dX10_about_72 rfl ⟨_, rfl, hyp⟩
            · have hyp := hyp.2 c_10
              refine z_aload_n dX10_about_59 rfl ?_
              refine gf_X10_24 (c2 := 5) dX10_about_60 rfl (sR_0 hE) (cR_0 hE) rfl ?_
              refine z_iload_n dX10_about_63 rfl ?_
              obtain ⟨⟨hi0, hi1⟩, hyp⟩ := hyp
              refine z_iaload dX10_about_64 (sR_5 hE) (cR_5 hE) hi0 hi1 ?_
              refine z_goto (tgt := 72) dX10_about_65 (by decide) ?_
              exact z_iret dX10_about_72 rfl ⟨_, rfl, hyp⟩
          · have hyp := hyp.2 c_9
            refine z_aload_n dX10_about_45 rfl ?_
            refine gf_X10_21 (c2 := 4) dX10_about_46 rfl (sR_0 hE) (cR_0 hE) rfl ?_
            refine z_iload_n dX10_about_49 rfl ?_
            obtain ⟨⟨hi0, hi1⟩, hyp⟩ := hyp
            refine z_iaload dX10_about_50 (sR_4 hE) (cR_4 hE) hi0 hi1 ?_
            refine z_goto (tgt := 72) dX10_about_51 (by decide) ?_
            exact z_iret dX10_about_72 rfl ⟨_, rfl, hyp⟩
        · have hyp := hyp.2 c_5
          refine z_iconst dX10_about_26 (r32d rfl) ?_
          exact z_iret dX10_about_27 rfl ⟨_, rfl, hyp⟩
set_option maxRecDepth 20000 in
theorem bX10_ahead_67 {E : zE} (hE : isR E) {d : Nat} {x5 x6 x7 : Int} {h : zH} {K : Int → zH → Prop} (hyp :
  (((h 0 24) ≤ x7 →
    ∀ h_2 : zH, h_2 = hset h 0 74 0 →
    zCV E mX10_laid d [zR 0] h_2 (fun h_3 =>
      zG E mX10_ahead (d + 1) 114 [zR 0, zU, zU, zU, zU, zI x5, zI x6, zI 0, zI 0, zI 0] [] h_3 (qI K))) ∧
  (¬ ((h 0 24) ≤ x7) →
    ((0 : Int) ≤ x7 ∧ x7 < (8 : Int)) ∧
    ((0 : Int) ≤ x7 ∧ x7 < (8 : Int)) ∧
    ∀ h_4 : zH, h_4 = hset h 41 (x7.toNat) (h 39 x7.toNat) →
    ∀ x_5 : Int, x_5 = w32 (x7 + 1) →
    zG E mX10_ahead (d + 1) 67 [zR 0, zU, zU, zU, zU, zI x5, zI x6, zI x_5, zU, zU] [] h_4 (qI K)))) :
  zG E mX10_ahead (d + 1) 67 [zR 0, zU, zU, zU, zU, zI x5, zI x6, zI x7, zU, zU] [] h (qI K) := by
  refine z_iload dX10_ahead_67 rfl ?_
  refine z_aload_n dX10_ahead_69 rfl ?_
  refine gf_X10_340 dX10_ahead_70 rfl (sR_0 hE) (cR_0 hE) ?_
  refine z_icmp_ge (tgt := 96) dX10_ahead_73 (by decide) (fun c_1 => ?_) (fun c_1 => ?_)
  · have hyp := hyp.1 c_1
    refine z_aload_n dX10_ahead_96 rfl ?_
    refine z_iconst dX10_ahead_97 (r32d rfl) ?_
    refine pf_X10_358 dX10_ahead_98 rfl (sR_0 hE) (cR_0 hE) (Or.inl rfl) ?_
    generalize eh_2 : hset h 0 74 _ = h_2
    have hyp := hyp h_2 eh_2.symm
    refine z_aload_n dX10_ahead_101 rfl ?_
    refine cl_X10_440 dX10_ahead_102 rfl (sR_0 hE) (cR_0 hE) (Nat.le_of_ble_eq_true rfl) (zC_mono ?_ hyp)
    rintro _ h_3 ⟨rfl, hyp⟩
    refine ⟨rfl, ?_⟩
    refine z_iconst dX10_ahead_105 (r32d rfl) ?_
    refine z_istore dX10_ahead_106 (by decide) rfl ?_
    refine z_iconst dX10_ahead_108 (r32d rfl) ?_
    refine z_istore dX10_ahead_109 (by decide) rfl ?_
    refine z_iconst dX10_ahead_111 (r32d rfl) ?_
    refine z_istore dX10_ahead_112 (by decide) rfl ?_
    exact hyp
  · have hyp := hyp.2 c_1
    refine z_aload_n dX10_ahead_76 rfl ?_
    refine gf_X10_150 (c2 := 41) dX10_ahead_77 rfl (sR_0 hE) (cR_0 hE) rfl ?_
    refine z_iload dX10_ahead_80 rfl ?_
    refine z_aload_n dX10_ahead_82 rfl ?_
    refine gf_X10_144 (c2 := 39) dX10_ahead_83 rfl (sR_0 hE) (cR_0 hE) rfl ?_
    refine z_iload dX10_ahead_86 rfl ?_
    obtain ⟨⟨hi0, hi1⟩, hyp⟩ := hyp
    refine z_iaload dX10_ahead_88 (sR_39 hE) (cR_39 hE) hi0 hi1 ?_
    obtain ⟨⟨hi0, hi1⟩, hyp⟩ := hyp
    refine z_iastore dX10_ahead_89 (sR_41 hE) (cR_41 hE) hi0 hi1 ?_
    generalize eh_4 : hset h 41 _ (h 39 x7.toNat) = h_4
    have hyp := hyp h_4 eh_4.symm
    refine z_iinc dX10_ahead_90 rfl (by decide) rfl ?_
    generalize ex_5 : w32 (x7 + 1) = x_5
    have hyp := hyp x_5 ex_5.symm
    refine z_goto (tgt := 67) dX10_ahead_93 (by decide) ?_
    exact hyp
set_option maxRecDepth 20000 in
theorem bX10_ahead_114 {E : zE} (hE : isR E) {d : Nat} {x5 x6 x7 x8 x9 : Int} {h : zH} {K : Int → zH → Prop} (hyp :
  (((h 0 24) ≤ x9 →
    ((x5 ≠ 0 →
      ((x5 ≠ 1 →
        K x8 h) ∧
      (¬ (x5 ≠ 1) →
        K x7 h))) ∧
    (¬ (x5 ≠ 0) →
      K x6 h))) ∧
  (¬ ((h 0 24) ≤ x9) →
    zCI E mX10_hasFit d [zR 0, zI x9] h (fun r_4 h_4 =>
      ((r_4 = 0 →
        ∀ x_6 : Int, x_6 = w32 (x9 + 1) →
        zG E mX10_ahead (d + 1) 114 [zR 0, zU, zU, zU, zU, zI x5, zI x6, zI x7, zI x8, zI x_6] [] h_4 (qI K)) ∧
      (¬ (r_4 = 0) →
        zCI E mX10_sizeOf d [zR 0, zI x9] h_4 (fun r_7 h_7 =>
          ((0 : Int) ≤ x9 ∧ x9 < (8 : Int)) ∧
          ((r_7 ≠ (h_7 41 x9.toNat) →
            ∀ x_9 : Int, x_9 = w32 (x8 + 1) →
            zCI E mX10_sizeOf d [zR 0, zI x9] h_7 (fun r_10 h_10 =>
              zCI E mX10_isNear d [zR 0, zI x9, zI r_10, zI x6] h_10 (fun r_11 h_11 =>
                ((r_11 = 0 →
                  ∀ x_13 : Int, x_13 = w32 (x7 + 0) →
                  ∀ x_14 : Int, x_14 = w32 (x9 + 1) →
                  zG E mX10_ahead (d + 1) 114 [zR 0, zU, zU, zU, zU, zI x5, zI x6, zI x_13, zI x_9, zI x_14] [] h_11 (qI K)) ∧
                (¬ (r_11 = 0) →
                  ∀ x_15 : Int, x_15 = w32 (x7 + 1) →
                  ∀ x_16 : Int, x_16 = w32 (x9 + 1) →
                  zG E mX10_ahead (d + 1) 114 [zR 0, zU, zU, zU, zU, zI x5, zI x6, zI x_15, zI x_9, zI x_16] [] h_11 (qI K)))))) ∧
          (¬ (r_7 ≠ (h_7 41 x9.toNat)) →
            ∀ x_17 : Int, x_17 = w32 (x9 + 1) →
            zG E mX10_ahead (d + 1) 114 [zR 0, zU, zU, zU, zU, zI x5, zI x6, zI x7, zI x8, zI x_17] [] h_7 (qI K)))))))))) :
  zG E mX10_ahead (d + 1) 114 [zR 0, zU, zU, zU, zU, zI x5, zI x6, zI x7, zI x8, zI x9] [] h (qI K) := by
  refine z_iload dX10_ahead_114 rfl ?_
  refine z_aload_n dX10_ahead_116 rfl ?_
  refine gf_X10_340 dX10_ahead_117 rfl (sR_0 hE) (cR_0 hE) ?_
  refine z_icmp_ge (tgt := 187) dX10_ahead_120 (by decide) (fun c_1 => ?_) (fun c_1 => ?_)
  · have hyp := hyp.1 c_1
    refine z_iload dX10_ahead_187 rfl ?_
    refine z_if_ne (tgt := 197) dX10_ahead_189 (by decide) (fun c_2 => ?_) (fun c_2 => ?_)
    · have hyp := hyp.1 c_2
      refine z_iload dX10_ahead_197 rfl ?_
      refine z_iconst dX10_ahead_199 (r32d rfl) ?_
      refine z_icmp_ne (tgt := 208) dX10_ahead_200 (by decide) (fun c_3 => ?_) (fun c_3 => ?_)
      · have hyp := hyp.1 c_3
        refine z_iload dX10_ahead_208 rfl ?_
        exact z_iret dX10_ahead_210 rfl ⟨_, rfl, hyp⟩
      · have hyp := hyp.2 c_3
        refine z_iload dX10_ahead_203 rfl ?_
        refine z_goto (tgt := 210) dX10_ahead_205 (by decide) ?_
        exact z_iret dX10_ahead_210 rfl ⟨_, rfl, hyp⟩
    · have hyp := hyp.2 c_2
      refine z_iload dX10_ahead_192 rfl ?_
      refine z_goto (tgt := 210) dX10_ahead_194 (by decide) ?_
      exact z_iret dX10_ahead_210 rfl ⟨_, rfl, hyp⟩
  · have hyp := hyp.2 c_1
    refine z_aload_n dX10_ahead_123 rfl ?_
    refine z_iload dX10_ahead_124 rfl ?_
    refine cl_X10_443 dX10_ahead_126 rfl (sR_0 hE) (cR_0 hE) (Nat.le_of_ble_eq_true rfl) (zC_mono ?_ hyp)
    rintro _ h_4 ⟨r_4, rfl, hyp⟩
    refine ⟨r_4, rfl, ?_⟩
    refine z_if_eq (tgt := 181) dX10_ahead_129 (by decide) (fun c_5 => ?_) (fun c_5 => ?_)
    · have hyp := hyp.1 c_5
      refine z_iinc dX10_ahead_181 rfl (by decide) rfl ?_
      generalize ex_6 : w32 (x9 + 1) = x_6
      have hyp := hyp x_6 ex_6.symm
      refine z_goto (tgt := 114) dX10_ahead_184 (by decide) ?_
      exact hyp
    · have hyp := hyp.2 c_5
      refine z_aload_n dX10_ahead_132 rfl ?_
      refine z_iload dX10_ahead_133 rfl ?_
      refine cl_X10_446 dX10_ahead_135 rfl (sR_0 hE) (cR_0 hE) (Nat.le_of_ble_eq_true rfl) (zC_mono ?_ hyp)
      rintro _ h_7 ⟨r_7, rfl, hyp⟩
      refine ⟨r_7, rfl, ?_⟩
      refine z_aload_n dX10_ahead_138 rfl ?_
      refine gf_X10_150 (c2 := 41) dX10_ahead_139 rfl (sR_0 hE) (cR_0 hE) rfl ?_
      refine z_iload dX10_ahead_142 rfl ?_
      obtain ⟨⟨hi0, hi1⟩, hyp⟩ := hyp
      refine z_iaload dX10_ahead_144 (sR_41 hE) (cR_41 hE) hi0 hi1 ?_
      refine z_icmp_ne (tgt := 151) dX10_ahead_145 (by decide) (fun c_8 => ?_) (fun c_8 => ?_)
      · have hyp := hyp.1 c_8
        refine z_iinc dX10_ahead_151 rfl (by decide) rfl ?_
        generalize ex_9 : w32 (x8 + 1) = x_9
        have hyp := hyp x_9 ex_9.symm
        refine z_iload dX10_ahead_154 rfl ?_
        refine z_aload_n dX10_ahead_156 rfl ?_
        refine z_iload dX10_ahead_157 rfl ?_
        refine z_aload_n dX10_ahead_159 rfl ?_
        refine z_iload dX10_ahead_160 rfl ?_
        refine cl_X10_446 dX10_ahead_162 rfl (sR_0 hE) (cR_0 hE) (Nat.le_of_ble_eq_true rfl) (zC_mono ?_ hyp)
        rintro _ h_10 ⟨r_10, rfl, hyp⟩
        refine ⟨r_10, rfl, ?_⟩
        refine z_iload dX10_ahead_165 rfl ?_
        refine cl_X10_489 dX10_ahead_167 rfl (sR_0 hE) (cR_0 hE) (Nat.le_of_ble_eq_true rfl) (zC_mono ?_ hyp)
        rintro _ h_11 ⟨r_11, rfl, hyp⟩
        refine ⟨r_11, rfl, ?_⟩
        refine z_if_eq (tgt := 177) dX10_ahead_170 (by decide) (fun c_12 => ?_) (fun c_12 => ?_)
        · have hyp := hyp.1 c_12
          refine z_iconst dX10_ahead_177 (r32d rfl) ?_
          refine z_iadd dX10_ahead_178 ?_
          generalize ex_13 : w32 (x7 + 0) = x_13
          have hyp := hyp x_13 ex_13.symm
          refine z_istore dX10_ahead_179 (by decide) rfl ?_
          refine z_iinc dX10_ahead_181 rfl (by decide) rfl ?_
          generalize ex_14 : w32 (x9 + 1) = x_14
          have hyp := hyp x_14 ex_14.symm
          refine z_goto (tgt := 114) dX10_ahead_184 (by decide) ?_
          exact hyp
        · have hyp := hyp.2 c_12
          refine z_iconst dX10_ahead_173 (r32d rfl) ?_
          refine z_goto (tgt := 178) dX10_ahead_174 (by decide) ?_
          refine z_iadd dX10_ahead_178 ?_
          generalize ex_15 : w32 (x7 + 1) = x_15
          have hyp := hyp x_15 ex_15.symm
          refine z_istore dX10_ahead_179 (by decide) rfl ?_
          refine z_iinc dX10_ahead_181 rfl (by decide) rfl ?_
          generalize ex_16 : w32 (x9 + 1) = x_16
          have hyp := hyp x_16 ex_16.symm
          refine z_goto (tgt := 114) dX10_ahead_184 (by decide) ?_
          exact hyp
      · have hyp := hyp.2 c_8
        refine z_goto (tgt := 181) dX10_ahead_148 (by decide) ?_
        refine z_iinc dX10_ahead_181 rfl (by decide) rfl ?_
        generalize ex_17 : w32 (x9 + 1) = x_17
        have hyp := hyp x_17 ex_17.symm
        refine z_goto (tgt := 114) dX10_ahead_184 (by decide) ?_
        exact hyp
set_option maxRecDepth 20000 in
theorem eX10_ahead {E : zE} (hE : isR E) {d : Nat} {x1 x2 x3 x4 x5 : Int} {h : zH} {K : Int → zH → Prop} (hyp :
  ∀ h_1 : zH, h_1 = hset h 0 0 0 →
  ((x1 < 0 →
    K (-1) h_1) ∧
  (¬ (x1 < 0) →
    (((h_1 0 54) < x1 →
      K (-1) h_1) ∧
    (¬ ((h_1 0 54) < x1) →
      zCI E mX10_areUnits d [zI x2, zI x3, zI x4, zI 1000] h_1 (fun r_4 h_4 =>
        ((r_4 = 0 →
          K (-1) h_4) ∧
        (¬ (r_4 = 0) →
          ((x5 < 0 →
            K (-1) h_4) ∧
          (¬ (x5 < 0) →
            ((x5 ≤ 2 →
              zCV E mX10_shapes d [zR 0, zI x1] h_4 (fun h_8 =>
                zCV E mX10_reckon d [zR 0, zI (-1), zI (-1)] h_8 (fun h_9 =>
                  zCI E mX10_bestOf d [zR 0, zI x2, zI x3, zI x4] h_9 (fun r_10 h_10 =>
                    zG E mX10_ahead (d + 1) 67 [zR 0, zU, zU, zU, zU, zI x5, zI r_10, zI 0, zU, zU] [] h_10 (qI K))))) ∧
            (¬ (x5 ≤ 2) →
              K (-1) h_4)))))))))))) :
  zCI E mX10_ahead (d + 1) [zR 0, zI x1, zI x2, zI x3, zI x4, zI x5] h K := by
  refine zC_in (L0 := [zR 0, zI x1, zI x2, zI x3, zI x4, zI x5, zU, zU, zU, zU]) pn_X10 rfl (Nat.le_of_ble_eq_true rfl) ?_
  refine z_aload_n dX10_ahead_0 rfl ?_
  refine z_iconst dX10_ahead_1 (r32d rfl) ?_
  refine pf_X10_153 dX10_ahead_2 rfl (sR_0 hE) (cR_0 hE) ?_
  generalize eh_1 : hset h 0 0 _ = h_1
  have hyp := hyp h_1 eh_1.symm
  refine z_iload_n dX10_ahead_5 rfl ?_
  refine z_if_lt (tgt := 41) dX10_ahead_6 (by decide) (fun c_2 => ?_) (fun c_2 => ?_)
  · have hyp := hyp.1 c_2
    refine z_iconst dX10_ahead_41 (r32d rfl) ?_
    exact z_iret dX10_ahead_42 rfl ⟨_, rfl, hyp⟩
  · have hyp := hyp.2 c_2
    refine z_iload_n dX10_ahead_9 rfl ?_
    refine z_aload_n dX10_ahead_10 rfl ?_
    refine gf_X10_355 dX10_ahead_11 rfl (sR_0 hE) (cR_0 hE) ?_
    refine z_icmp_gt (tgt := 41) dX10_ahead_14 (by decide) (fun c_3 => ?_) (fun c_3 => ?_)
    · have hyp := hyp.1 c_3
      refine z_iconst dX10_ahead_41 (r32d rfl) ?_
      exact z_iret dX10_ahead_42 rfl ⟨_, rfl, hyp⟩
    · have hyp := hyp.2 c_3
      refine z_iload_n dX10_ahead_17 rfl ?_
      refine z_iload_n dX10_ahead_18 rfl ?_
      refine z_iload dX10_ahead_19 rfl ?_
      refine z_sipush dX10_ahead_21 (r32d rfl) (by decide) ?_
      refine cl_X10_499 dX10_ahead_24 rfl (Nat.le_of_ble_eq_true rfl) (zC_mono ?_ hyp)
      rintro _ h_4 ⟨r_4, rfl, hyp⟩
      refine ⟨r_4, rfl, ?_⟩
      refine z_if_eq (tgt := 41) dX10_ahead_27 (by decide) (fun c_5 => ?_) (fun c_5 => ?_)
      · have hyp := hyp.1 c_5
        refine z_iconst dX10_ahead_41 (r32d rfl) ?_
        exact z_iret dX10_ahead_42 rfl ⟨_, rfl, hyp⟩
      · have hyp := hyp.2 c_5
        refine z_iload dX10_ahead_30 rfl ?_
        refine z_if_lt (tgt := 41) dX10_ahead_32 (by decide) (fun c_6 => ?_) (fun c_6 => ?_)
        · have hyp := hyp.1 c_6
          refine z_iconst dX10_ahead_41 (r32d rfl) ?_
          exact z_iret dX10_ahead_42 rfl ⟨_, rfl, hyp⟩
        · have hyp := hyp.2 c_6
          refine z_iload dX10_ahead_35 rfl ?_
          refine z_iconst dX10_ahead_37 (r32d rfl) ?_
          refine z_icmp_le (tgt := 43) dX10_ahead_38 (by decide) (fun c_7 => ?_) (fun c_7 => ?_)
          · have hyp := hyp.1 c_7
            refine z_aload_n dX10_ahead_43 rfl ?_
            refine z_iload_n dX10_ahead_44 rfl ?_
            refine cl_X10_434 dX10_ahead_45 rfl (sR_0 hE) (cR_0 hE) (Nat.le_of_ble_eq_true rfl) (zC_mono ?_ hyp)
            rintro _ h_8 ⟨rfl, hyp⟩
            refine ⟨rfl, ?_⟩
            refine z_aload_n dX10_ahead_48 rfl ?_
            refine z_iconst dX10_ahead_49 (r32d rfl) ?_
            refine z_iconst dX10_ahead_50 (r32d rfl) ?_
            refine cl_X10_493 dX10_ahead_51 rfl (sR_0 hE) (cR_0 hE) (Nat.le_of_ble_eq_true rfl) (zC_mono ?_ hyp)
            rintro _ h_9 ⟨rfl, hyp⟩
            refine ⟨rfl, ?_⟩
            refine z_aload_n dX10_ahead_54 rfl ?_
            refine z_iload_n dX10_ahead_55 rfl ?_
            refine z_iload_n dX10_ahead_56 rfl ?_
            refine z_iload dX10_ahead_57 rfl ?_
            refine cl_X10_503 dX10_ahead_59 rfl (sR_0 hE) (cR_0 hE) (Nat.le_of_ble_eq_true rfl) (zC_mono ?_ hyp)
            rintro _ h_10 ⟨r_10, rfl, hyp⟩
            refine ⟨r_10, rfl, ?_⟩
            refine z_istore dX10_ahead_62 (by decide) rfl ?_
            refine z_iconst dX10_ahead_64 (r32d rfl) ?_
            refine z_istore dX10_ahead_65 (by decide) rfl ?_
            exact z_forget [true, false, false, false, false, true, true, true, false, false] rfl hyp
          · have hyp := hyp.2 c_7
            refine z_iconst dX10_ahead_41 (r32d rfl) ?_
            exact z_iret dX10_ahead_42 rfl ⟨_, rfl, hyp⟩
set_option maxRecDepth 20000 in
theorem bX10_any_84 {E : zE} (hE : isR E) {d : Nat} {x1 x2 x3 x4 x6 x7 x8 x9 : Int} {h : zH} {K : Int → zH → Prop} (hyp :
  ((x6 ≤ x9 →
    K x8 h) ∧
  (¬ (x6 ≤ x9) →
    zG E mX10_any (d + 1) 94 [zR 0, zI x1, zI x2, zI x3, zI x4, zU, zI x6, zI x7, zI x8, zI x9, zI 0] [] h (qI K)))) :
  zG E mX10_any (d + 1) 84 [zR 0, zI x1, zI x2, zI x3, zI x4, zU, zI x6, zI x7, zI x8, zI x9, zU] [] h (qI K) := by
  refine z_iload dX10_any_84 rfl ?_
  refine z_iload dX10_any_86 rfl ?_
  refine z_icmp_ge (tgt := 208) dX10_any_88 (by decide) (fun c_1 => ?_) (fun c_1 => ?_)
  · have hyp := hyp.1 c_1
    refine z_iload dX10_any_208 rfl ?_
    exact z_iret dX10_any_210 rfl ⟨_, rfl, hyp⟩
  · have hyp := hyp.2 c_1
    refine z_iconst dX10_any_91 (r32d rfl) ?_
    refine z_istore dX10_any_92 (by decide) rfl ?_
    exact hyp
set_option maxRecDepth 20000 in
theorem bX10_any_94 {E : zE} (hE : isR E) {d : Nat} {x1 x2 x3 x4 x6 x7 x8 x9 x10 : Int} {h : zH} {K : Int → zH → Prop} (hyp :
  (((h 0 24) ≤ x10 →
    zCI E mX10_bestOf d [zR 0, zI x1, zI x2, zI x3] h (fun r_2 h_2 =>
      zCI E mX10_lumpsOf d [zR 0, zI r_2] h_2 (fun r_3 h_3 =>
        ((x7 < r_3 →
          ∀ x_5 : Int, x_5 = w32 (x8 + 0) →
          ∀ x_6 : Int, x_6 = w32 (x9 + 1) →
          zG E mX10_any (d + 1) 84 [zR 0, zI x1, zI x2, zI x3, zI x4, zU, zI x6, zI x7, zI x_5, zI x_6, zU] [] h_3 (qI K)) ∧
        (¬ (x7 < r_3) →
          ∀ x_7 : Int, x_7 = w32 (x8 + 1) →
          ∀ x_8 : Int, x_8 = w32 (x9 + 1) →
          zG E mX10_any (d + 1) 84 [zR 0, zI x1, zI x2, zI x3, zI x4, zU, zI x6, zI x7, zI x_7, zI x_8, zU] [] h_3 (qI K)))))) ∧
  (¬ ((h 0 24) ≤ x10) →
    zCI E mX10_hasFit d [zR 0, zI x10] h (fun r_9 h_9 =>
      ((r_9 ≠ 0 →
        ∀ h_11 : zH, h_11 = hset h_9 0 84 (zand (w32 ((w32 ((h_9 0 84) * 1103515245)) + 12345)) 2147483647) →
        zCI E mX10_sizeOf d [zR 0, zI x10] h_11 (fun r_12 h_12 =>
          ¬ (w32 ((w32 (2 * x4)) + 1)) = 0 ∧
          ((0 : Int) ≤ x10 ∧ x10 < (8 : Int)) ∧
          ∀ h_13 : zH, h_13 = hset h_12 39 (x10.toNat) (max 0 (w32 ((w32 (r_12 + (w32 (Int.tmod (zshr (h_12 0 84) 16) (w32 ((w32 (2 * x4)) + 1)))))) - x4))) →
          ∀ x_14 : Int, x_14 = w32 (x10 + 1) →
          zG E mX10_any (d + 1) 94 [zR 0, zI x1, zI x2, zI x3, zI x4, zU, zI x6, zI x7, zI x8, zI x9, zI x_14] [] h_13 (qI K))) ∧
      (¬ (r_9 ≠ 0) →
        ∀ x_15 : Int, x_15 = w32 (x10 + 1) →
        zG E mX10_any (d + 1) 94 [zR 0, zI x1, zI x2, zI x3, zI x4, zU, zI x6, zI x7, zI x8, zI x9, zI x_15] [] h_9 (qI K))))))) :
  zG E mX10_any (d + 1) 94 [zR 0, zI x1, zI x2, zI x3, zI x4, zU, zI x6, zI x7, zI x8, zI x9, zI x10] [] h (qI K) := by
  refine z_iload dX10_any_94 rfl ?_
  refine z_aload_n dX10_any_96 rfl ?_
  refine gf_X10_340 dX10_any_97 rfl (sR_0 hE) (cR_0 hE) ?_
  refine z_icmp_ge (tgt := 176) dX10_any_100 (by decide) (fun c_1 => ?_) (fun c_1 => ?_)
  · have hyp := hyp.1 c_1
    refine z_iload dX10_any_176 rfl ?_
    refine z_aload_n dX10_any_178 rfl ?_
    refine z_aload_n dX10_any_179 rfl ?_
    refine z_iload_n dX10_any_180 rfl ?_
    refine z_iload_n dX10_any_181 rfl ?_
    refine z_iload_n dX10_any_182 rfl ?_
    refine cl_X10_503 dX10_any_183 rfl (sR_0 hE) (cR_0 hE) (Nat.le_of_ble_eq_true rfl) (zC_mono ?_ hyp)
    rintro _ h_2 ⟨r_2, rfl, hyp⟩
    refine ⟨r_2, rfl, ?_⟩
    refine cl_X10_496 dX10_any_186 rfl (sR_0 hE) (cR_0 hE) (Nat.le_of_ble_eq_true rfl) (zC_mono ?_ hyp)
    rintro _ h_3 ⟨r_3, rfl, hyp⟩
    refine ⟨r_3, rfl, ?_⟩
    refine z_iload dX10_any_189 rfl ?_
    refine z_icmp_gt (tgt := 198) dX10_any_191 (by decide) (fun c_4 => ?_) (fun c_4 => ?_)
    · have hyp := hyp.1 c_4
      refine z_iconst dX10_any_198 (r32d rfl) ?_
      refine z_iadd dX10_any_199 ?_
      generalize ex_5 : w32 (x8 + 0) = x_5
      have hyp := hyp x_5 ex_5.symm
      refine z_istore dX10_any_200 (by decide) rfl ?_
      refine z_iinc dX10_any_202 rfl (by decide) rfl ?_
      generalize ex_6 : w32 (x9 + 1) = x_6
      have hyp := hyp x_6 ex_6.symm
      refine z_goto (tgt := 84) dX10_any_205 (by decide) ?_
      exact z_forget [true, true, true, true, true, false, true, true, true, true, false] rfl hyp
    · have hyp := hyp.2 c_4
      refine z_iconst dX10_any_194 (r32d rfl) ?_
      refine z_goto (tgt := 199) dX10_any_195 (by decide) ?_
      refine z_iadd dX10_any_199 ?_
      generalize ex_7 : w32 (x8 + 1) = x_7
      have hyp := hyp x_7 ex_7.symm
      refine z_istore dX10_any_200 (by decide) rfl ?_
      refine z_iinc dX10_any_202 rfl (by decide) rfl ?_
      generalize ex_8 : w32 (x9 + 1) = x_8
      have hyp := hyp x_8 ex_8.symm
      refine z_goto (tgt := 84) dX10_any_205 (by decide) ?_
      exact z_forget [true, true, true, true, true, false, true, true, true, true, false] rfl hyp
  · have hyp := hyp.2 c_1
    refine z_aload_n dX10_any_103 rfl ?_
    refine z_iload dX10_any_104 rfl ?_
    refine cl_X10_443 dX10_any_106 rfl (sR_0 hE) (cR_0 hE) (Nat.le_of_ble_eq_true rfl) (zC_mono ?_ hyp)
    rintro _ h_9 ⟨r_9, rfl, hyp⟩
    refine ⟨r_9, rfl, ?_⟩
    refine z_if_ne (tgt := 115) dX10_any_109 (by decide) (fun c_10 => ?_) (fun c_10 => ?_)
    · have hyp := hyp.1 c_10
      refine z_aload_n dX10_any_115 rfl ?_
      refine z_aload_n dX10_any_116 rfl ?_
      refine gf_X10_511 dX10_any_117 rfl (sR_0 hE) (cR_0 hE) ?_
      refine z_ldcw (x := 1103515245) dX10_any_120 rfl wk_X10_514 (by decide) (r32d rfl) ?_
      refine z_imul dX10_any_123 ?_
      refine z_sipush dX10_any_124 (r32d rfl) (by decide) ?_
      refine z_iadd dX10_any_127 ?_
      refine z_ldcw (x := 2147483647) dX10_any_128 rfl wk_X10_515 (by decide) (r32d rfl) ?_
      refine z_iand dX10_any_131 ?_
      refine pf_X10_511 dX10_any_132 rfl (sR_0 hE) (cR_0 hE) ?_
      generalize eh_11 : hset h_9 0 84 _ = h_11
      have hyp := hyp h_11 eh_11.symm
      refine z_aload_n dX10_any_135 rfl ?_
      refine gf_X10_144 (c2 := 39) dX10_any_136 rfl (sR_0 hE) (cR_0 hE) rfl ?_
      refine z_iload dX10_any_139 rfl ?_
      refine z_iconst dX10_any_141 (r32d rfl) ?_
      refine z_aload_n dX10_any_142 rfl ?_
      refine z_iload dX10_any_143 rfl ?_
      refine cl_X10_446 dX10_any_145 rfl (sR_0 hE) (cR_0 hE) (Nat.le_of_ble_eq_true rfl) (zC_mono ?_ hyp)
      rintro _ h_12 ⟨r_12, rfl, hyp⟩
      refine ⟨r_12, rfl, ?_⟩
      refine z_aload_n dX10_any_148 rfl ?_
      refine gf_X10_511 dX10_any_149 rfl (sR_0 hE) (cR_0 hE) ?_
      refine z_bipush dX10_any_152 (r32d rfl) (by decide) ?_
      refine z_ishr dX10_any_154 ?_
      refine z_iconst dX10_any_155 (r32d rfl) ?_
      refine z_iload dX10_any_156 rfl ?_
      refine z_imul dX10_any_158 ?_
      refine z_iconst dX10_any_159 (r32d rfl) ?_
      refine z_iadd dX10_any_160 ?_
      obtain ⟨hz, hyp⟩ := hyp
      refine z_irem hz dX10_any_161 ?_
      refine z_iadd dX10_any_162 ?_
      refine z_iload dX10_any_163 rfl ?_
      refine z_isub dX10_any_165 ?_
      refine cl_X10_452 dX10_any_166 rfl (Nat.le_of_ble_eq_true rfl) ?_
      obtain ⟨⟨hi0, hi1⟩, hyp⟩ := hyp
      refine z_iastore dX10_any_169 (sR_39 hE) (cR_39 hE) hi0 hi1 ?_
      generalize eh_13 : hset h_12 39 _ (max 0 (w32 ((w32 (r_12 + (w32 (Int.tmod (zshr (h_12 0 84) 16) (w32 ((w32 (2 * x4)) + 1)))))) - x4))) = h_13
      have hyp := hyp h_13 eh_13.symm
      refine z_iinc dX10_any_170 rfl (by decide) rfl ?_
      generalize ex_14 : w32 (x10 + 1) = x_14
      have hyp := hyp x_14 ex_14.symm
      refine z_goto (tgt := 94) dX10_any_173 (by decide) ?_
      exact hyp
    · have hyp := hyp.2 c_10
      refine z_goto (tgt := 170) dX10_any_112 (by decide) ?_
      refine z_iinc dX10_any_170 rfl (by decide) rfl ?_
      generalize ex_15 : w32 (x10 + 1) = x_15
      have hyp := hyp x_15 ex_15.symm
      refine z_goto (tgt := 94) dX10_any_173 (by decide) ?_
      exact hyp
set_option maxRecDepth 20000 in
theorem eX10_any {E : zE} (hE : isR E) {d : Nat} {x1 x2 x3 x4 x5 x6 : Int} {h : zH} {K : Int → zH → Prop} (hyp :
  ∀ h_1 : zH, h_1 = hset h 0 0 0 →
  zCI E mX10_areUnits d [zI x1, zI x2, zI x3, zI 100] h_1 (fun r_2 h_2 =>
    ((r_2 = 0 →
      K (-1) h_2) ∧
    (¬ (r_2 = 0) →
      ((x4 < 0 →
        K (-1) h_2) ∧
      (¬ (x4 < 0) →
        ((9999 < x4 →
          K (-1) h_2) ∧
        (¬ (9999 < x4) →
          ((x5 < 0 →
            K (-1) h_2) ∧
          (¬ (x5 < 0) →
            ((x6 < 1 →
              K (-1) h_2) ∧
            (¬ (x6 < 1) →
              ((x6 ≤ 50 →
                zCV E mX10_laid d [zR 0] h_2 (fun h_9 =>
                  zCV E mX10_reckon d [zR 0, zI (-1), zI (-1)] h_9 (fun h_10 =>
                    zCI E mX10_bestOf d [zR 0, zI x1, zI x2, zI x3] h_10 (fun r_11 h_11 =>
                      zCI E mX10_lumpsOf d [zR 0, zI r_11] h_11 (fun r_12 h_12 =>
                        ∀ h_13 : zH, h_13 = hset h_12 0 84 x5 →
                        zG E mX10_any (d + 1) 84 [zR 0, zI x1, zI x2, zI x3, zI x4, zU, zI x6, zI r_12, zI 0, zI 0, zU] [] h_13 (qI K)))))) ∧
              (¬ (x6 ≤ 50) →
                K (-1) h_2)))))))))))))) :
  zCI E mX10_any (d + 1) [zR 0, zI x1, zI x2, zI x3, zI x4, zI x5, zI x6] h K := by
  refine zC_in (L0 := [zR 0, zI x1, zI x2, zI x3, zI x4, zI x5, zI x6, zU, zU, zU, zU]) pn_X10 rfl (Nat.le_of_ble_eq_true rfl) ?_
  refine z_aload_n dX10_any_0 rfl ?_
  refine z_iconst dX10_any_1 (r32d rfl) ?_
  refine pf_X10_153 dX10_any_2 rfl (sR_0 hE) (cR_0 hE) ?_
  generalize eh_1 : hset h 0 0 _ = h_1
  have hyp := hyp h_1 eh_1.symm
  refine z_iload_n dX10_any_5 rfl ?_
  refine z_iload_n dX10_any_6 rfl ?_
  refine z_iload_n dX10_any_7 rfl ?_
  refine z_bipush dX10_any_8 (r32d rfl) (by decide) ?_
  refine cl_X10_499 dX10_any_10 rfl (Nat.le_of_ble_eq_true rfl) (zC_mono ?_ hyp)
  rintro _ h_2 ⟨r_2, rfl, hyp⟩
  refine ⟨r_2, rfl, ?_⟩
  refine z_if_eq (tgt := 47) dX10_any_13 (by decide) (fun c_3 => ?_) (fun c_3 => ?_)
  · have hyp := hyp.1 c_3
    refine z_iconst dX10_any_47 (r32d rfl) ?_
    exact z_iret dX10_any_48 rfl ⟨_, rfl, hyp⟩
  · have hyp := hyp.2 c_3
    refine z_iload dX10_any_16 rfl ?_
    refine z_if_lt (tgt := 47) dX10_any_18 (by decide) (fun c_4 => ?_) (fun c_4 => ?_)
    · have hyp := hyp.1 c_4
      refine z_iconst dX10_any_47 (r32d rfl) ?_
      exact z_iret dX10_any_48 rfl ⟨_, rfl, hyp⟩
    · have hyp := hyp.2 c_4
      refine z_iload dX10_any_21 rfl ?_
      refine z_sipush dX10_any_23 (r32d rfl) (by decide) ?_
      refine z_icmp_gt (tgt := 47) dX10_any_26 (by decide) (fun c_5 => ?_) (fun c_5 => ?_)
      · have hyp := hyp.1 c_5
        refine z_iconst dX10_any_47 (r32d rfl) ?_
        exact z_iret dX10_any_48 rfl ⟨_, rfl, hyp⟩
      · have hyp := hyp.2 c_5
        refine z_iload dX10_any_29 rfl ?_
        refine z_if_lt (tgt := 47) dX10_any_31 (by decide) (fun c_6 => ?_) (fun c_6 => ?_)
        · have hyp := hyp.1 c_6
          refine z_iconst dX10_any_47 (r32d rfl) ?_
          exact z_iret dX10_any_48 rfl ⟨_, rfl, hyp⟩
        · have hyp := hyp.2 c_6
          refine z_iload dX10_any_34 rfl ?_
          refine z_iconst dX10_any_36 (r32d rfl) ?_
          refine z_icmp_lt (tgt := 47) dX10_any_37 (by decide) (fun c_7 => ?_) (fun c_7 => ?_)
          · have hyp := hyp.1 c_7
            refine z_iconst dX10_any_47 (r32d rfl) ?_
            exact z_iret dX10_any_48 rfl ⟨_, rfl, hyp⟩
          · have hyp := hyp.2 c_7
            refine z_iload dX10_any_40 rfl ?_
            refine z_bipush dX10_any_42 (r32d rfl) (by decide) ?_
            refine z_icmp_le (tgt := 49) dX10_any_44 (by decide) (fun c_8 => ?_) (fun c_8 => ?_)
            · have hyp := hyp.1 c_8
              refine z_aload_n dX10_any_49 rfl ?_
              refine cl_X10_440 dX10_any_50 rfl (sR_0 hE) (cR_0 hE) (Nat.le_of_ble_eq_true rfl) (zC_mono ?_ hyp)
              rintro _ h_9 ⟨rfl, hyp⟩
              refine ⟨rfl, ?_⟩
              refine z_aload_n dX10_any_53 rfl ?_
              refine z_iconst dX10_any_54 (r32d rfl) ?_
              refine z_iconst dX10_any_55 (r32d rfl) ?_
              refine cl_X10_493 dX10_any_56 rfl (sR_0 hE) (cR_0 hE) (Nat.le_of_ble_eq_true rfl) (zC_mono ?_ hyp)
              rintro _ h_10 ⟨rfl, hyp⟩
              refine ⟨rfl, ?_⟩
              refine z_aload_n dX10_any_59 rfl ?_
              refine z_aload_n dX10_any_60 rfl ?_
              refine z_iload_n dX10_any_61 rfl ?_
              refine z_iload_n dX10_any_62 rfl ?_
              refine z_iload_n dX10_any_63 rfl ?_
              refine cl_X10_503 dX10_any_64 rfl (sR_0 hE) (cR_0 hE) (Nat.le_of_ble_eq_true rfl) (zC_mono ?_ hyp)
              rintro _ h_11 ⟨r_11, rfl, hyp⟩
              refine ⟨r_11, rfl, ?_⟩
              refine cl_X10_496 dX10_any_67 rfl (sR_0 hE) (cR_0 hE) (Nat.le_of_ble_eq_true rfl) (zC_mono ?_ hyp)
              rintro _ h_12 ⟨r_12, rfl, hyp⟩
              refine ⟨r_12, rfl, ?_⟩
              refine z_istore dX10_any_70 (by decide) rfl ?_
              refine z_aload_n dX10_any_72 rfl ?_
              refine z_iload dX10_any_73 rfl ?_
              refine pf_X10_511 dX10_any_75 rfl (sR_0 hE) (cR_0 hE) ?_
              generalize eh_13 : hset h_12 0 84 _ = h_13
              have hyp := hyp h_13 eh_13.symm
              refine z_iconst dX10_any_78 (r32d rfl) ?_
              refine z_istore dX10_any_79 (by decide) rfl ?_
              refine z_iconst dX10_any_81 (r32d rfl) ?_
              refine z_istore dX10_any_82 (by decide) rfl ?_
              exact z_forget [true, true, true, true, true, false, true, true, true, true, false] rfl hyp
            · have hyp := hyp.2 c_8
              refine z_iconst dX10_any_47 (r32d rfl) ?_
              exact z_iret dX10_any_48 rfl ⟨_, rfl, hyp⟩
set_option maxRecDepth 20000 in
theorem bX10_apart_32 {E : zE} (hE : isR E) {d : Nat} {x1 x2 x3 x4 x5 x6 : Int} {h : zH} {K : Int → zH → Prop} (hyp :
  (((h 0 23) ≤ x6 →
    ((x4 ≠ (-1) →
      K (w32 (x5 - x4)) h) ∧
    (¬ (x4 ≠ (-1)) →
      K (-1) h))) ∧
  (¬ ((h 0 23) ≤ x6) →
    zCI E mX10_landUnit d [zR 0, zI x6, zI x1, zI x2, zI x3] h (fun r_3 h_3 =>
      ((r_3 ≠ (-1) →
        ((x4 ≠ (-1) →
          ∀ x_6 : Int, x_6 = min x4 r_3 →
          ∀ x_7 : Int, x_7 = max x5 r_3 →
          ∀ x_8 : Int, x_8 = w32 (x6 + 1) →
          zG E mX10_apart (d + 1) 32 [zR 0, zI x1, zI x2, zI x3, zI x_6, zI x_7, zI x_8, zU] [] h_3 (qI K)) ∧
        (¬ (x4 ≠ (-1)) →
          ∀ x_9 : Int, x_9 = max x5 r_3 →
          ∀ x_10 : Int, x_10 = w32 (x6 + 1) →
          zG E mX10_apart (d + 1) 32 [zR 0, zI x1, zI x2, zI x3, zI r_3, zI x_9, zI x_10, zU] [] h_3 (qI K)))) ∧
      (¬ (r_3 ≠ (-1)) →
        ∀ x_11 : Int, x_11 = w32 (x6 + 1) →
        zG E mX10_apart (d + 1) 32 [zR 0, zI x1, zI x2, zI x3, zI x4, zI x5, zI x_11, zU] [] h_3 (qI K))))))) :
  zG E mX10_apart (d + 1) 32 [zR 0, zI x1, zI x2, zI x3, zI x4, zI x5, zI x6, zU] [] h (qI K) := by
  refine z_iload dX10_apart_32 rfl ?_
  refine z_aload_n dX10_apart_34 rfl ?_
  refine gf_X10_337 dX10_apart_35 rfl (sR_0 hE) (cR_0 hE) ?_
  refine z_icmp_ge (tgt := 96) dX10_apart_38 (by decide) (fun c_1 => ?_) (fun c_1 => ?_)
  · have hyp := hyp.1 c_1
    refine z_iload dX10_apart_96 rfl ?_
    refine z_iconst dX10_apart_98 (r32d rfl) ?_
    refine z_icmp_ne (tgt := 106) dX10_apart_99 (by decide) (fun c_2 => ?_) (fun c_2 => ?_)
    · have hyp := hyp.1 c_2
      refine z_iload dX10_apart_106 rfl ?_
      refine z_iload dX10_apart_108 rfl ?_
      refine z_isub dX10_apart_110 ?_
      exact z_iret dX10_apart_111 rfl ⟨_, rfl, hyp⟩
    · have hyp := hyp.2 c_2
      refine z_iconst dX10_apart_102 (r32d rfl) ?_
      refine z_goto (tgt := 111) dX10_apart_103 (by decide) ?_
      exact z_iret dX10_apart_111 rfl ⟨_, rfl, hyp⟩
  · have hyp := hyp.2 c_1
    refine z_aload_n dX10_apart_41 rfl ?_
    refine z_iload dX10_apart_42 rfl ?_
    refine z_iload_n dX10_apart_44 rfl ?_
    refine z_iload_n dX10_apart_45 rfl ?_
    refine z_iload_n dX10_apart_46 rfl ?_
    refine cl_X10_529 dX10_apart_47 rfl (sR_0 hE) (cR_0 hE) (Nat.le_of_ble_eq_true rfl) (zC_mono ?_ hyp)
    rintro _ h_3 ⟨r_3, rfl, hyp⟩
    refine ⟨r_3, rfl, ?_⟩
    refine z_istore dX10_apart_50 (by decide) rfl ?_
    refine z_iload dX10_apart_52 rfl ?_
    refine z_iconst dX10_apart_54 (r32d rfl) ?_
    refine z_icmp_ne (tgt := 61) dX10_apart_55 (by decide) (fun c_4 => ?_) (fun c_4 => ?_)
    · have hyp := hyp.1 c_4
      refine z_iload dX10_apart_61 rfl ?_
      refine z_iconst dX10_apart_63 (r32d rfl) ?_
      refine z_icmp_ne (tgt := 72) dX10_apart_64 (by decide) (fun c_5 => ?_) (fun c_5 => ?_)
      · have hyp := hyp.1 c_5
        refine z_iload dX10_apart_72 rfl ?_
        refine z_iload dX10_apart_74 rfl ?_
        refine cl_X10_285 dX10_apart_76 rfl (Nat.le_of_ble_eq_true rfl) ?_
        generalize ex_6 : min x4 r_3 = x_6
        have hyp := hyp x_6 ex_6.symm
        refine z_istore dX10_apart_79 (by decide) rfl ?_
        refine z_iload dX10_apart_81 rfl ?_
        refine z_iload dX10_apart_83 rfl ?_
        refine cl_X10_452 dX10_apart_85 rfl (Nat.le_of_ble_eq_true rfl) ?_
        generalize ex_7 : max x5 r_3 = x_7
        have hyp := hyp x_7 ex_7.symm
        refine z_istore dX10_apart_88 (by decide) rfl ?_
        refine z_iinc dX10_apart_90 rfl (by decide) rfl ?_
        generalize ex_8 : w32 (x6 + 1) = x_8
        have hyp := hyp x_8 ex_8.symm
        refine z_goto (tgt := 32) dX10_apart_93 (by decide) ?_
        exact z_forget [true, true, true, true, true, true, true, false] rfl hyp
      · have hyp := hyp.2 c_5
        refine z_iload dX10_apart_67 rfl ?_
        refine z_goto (tgt := 79) dX10_apart_69 (by decide) ?_
        refine z_istore dX10_apart_79 (by decide) rfl ?_
        refine z_iload dX10_apart_81 rfl ?_
        refine z_iload dX10_apart_83 rfl ?_
        refine cl_X10_452 dX10_apart_85 rfl (Nat.le_of_ble_eq_true rfl) ?_
        generalize ex_9 : max x5 r_3 = x_9
        have hyp := hyp x_9 ex_9.symm
        refine z_istore dX10_apart_88 (by decide) rfl ?_
        refine z_iinc dX10_apart_90 rfl (by decide) rfl ?_
        generalize ex_10 : w32 (x6 + 1) = x_10
        have hyp := hyp x_10 ex_10.symm
        refine z_goto (tgt := 32) dX10_apart_93 (by decide) ?_
        exact z_forget [true, true, true, true, true, true, true, false] rfl hyp
    · have hyp := hyp.2 c_4
      refine z_goto (tgt := 90) dX10_apart_58 (by decide) ?_
      refine z_iinc dX10_apart_90 rfl (by decide) rfl ?_
      generalize ex_11 : w32 (x6 + 1) = x_11
      have hyp := hyp x_11 ex_11.symm
      refine z_goto (tgt := 32) dX10_apart_93 (by decide) ?_
      exact z_forget [true, true, true, true, true, true, true, false] rfl hyp
set_option maxRecDepth 20000 in
theorem eX10_apart {E : zE} (hE : isR E) {d : Nat} {x1 x2 x3 : Int} {h : zH} {K : Int → zH → Prop} (hyp :
  ∀ h_1 : zH, h_1 = hset h 0 0 0 →
  zCI E mX10_areUnits d [zI x1, zI x2, zI x3, zI 1000] h_1 (fun r_2 h_2 =>
    ((r_2 ≠ 0 →
      zCV E mX10_laid d [zR 0] h_2 (fun h_4 =>
        zG E mX10_apart (d + 1) 32 [zR 0, zI x1, zI x2, zI x3, zI (-1), zI (-1), zI 0, zU] [] h_4 (qI K))) ∧
    (¬ (r_2 ≠ 0) →
      K (-1) h_2)))) :
  zCI E mX10_apart (d + 1) [zR 0, zI x1, zI x2, zI x3] h K := by
  refine zC_in (L0 := [zR 0, zI x1, zI x2, zI x3, zU, zU, zU, zU]) pn_X10 rfl (Nat.le_of_ble_eq_true rfl) ?_
  refine z_aload_n dX10_apart_0 rfl ?_
  refine z_iconst dX10_apart_1 (r32d rfl) ?_
  refine pf_X10_153 dX10_apart_2 rfl (sR_0 hE) (cR_0 hE) ?_
  generalize eh_1 : hset h 0 0 _ = h_1
  have hyp := hyp h_1 eh_1.symm
  refine z_iload_n dX10_apart_5 rfl ?_
  refine z_iload_n dX10_apart_6 rfl ?_
  refine z_iload_n dX10_apart_7 rfl ?_
  refine z_sipush dX10_apart_8 (r32d rfl) (by decide) ?_
  refine cl_X10_499 dX10_apart_11 rfl (Nat.le_of_ble_eq_true rfl) (zC_mono ?_ hyp)
  rintro _ h_2 ⟨r_2, rfl, hyp⟩
  refine ⟨r_2, rfl, ?_⟩
  refine z_if_ne (tgt := 19) dX10_apart_14 (by decide) (fun c_3 => ?_) (fun c_3 => ?_)
  · have hyp := hyp.1 c_3
    refine z_aload_n dX10_apart_19 rfl ?_
    refine cl_X10_440 dX10_apart_20 rfl (sR_0 hE) (cR_0 hE) (Nat.le_of_ble_eq_true rfl) (zC_mono ?_ hyp)
    rintro _ h_4 ⟨rfl, hyp⟩
    refine ⟨rfl, ?_⟩
    refine z_iconst dX10_apart_23 (r32d rfl) ?_
    refine z_istore dX10_apart_24 (by decide) rfl ?_
    refine z_iconst dX10_apart_26 (r32d rfl) ?_
    refine z_istore dX10_apart_27 (by decide) rfl ?_
    refine z_iconst dX10_apart_29 (r32d rfl) ?_
    refine z_istore dX10_apart_30 (by decide) rfl ?_
    exact hyp
  · have hyp := hyp.2 c_3
    refine z_iconst dX10_apart_17 (r32d rfl) ?_
    exact z_iret dX10_apart_18 rfl ⟨_, rfl, hyp⟩
set_option maxRecDepth 20000 in
theorem eX10_areUnits {E : zE} (hE : isR E) {d : Nat} {x0 x1 x2 x3 : Int} {h : zH} {K : Int → zH → Prop} (hyp :
  zCI E mX10_isUnit d [zI x0] h (fun r_1 h_1 =>
    ((r_1 = 0 →
      K 0 h_1) ∧
    (¬ (r_1 = 0) →
      zCI E mX10_isUnit d [zI x1] h_1 (fun r_3 h_3 =>
        ((r_3 = 0 →
          K 0 h_3) ∧
        (¬ (r_3 = 0) →
          ((x1 < x0 →
            K 0 h_3) ∧
          (¬ (x1 < x0) →
            ((x2 < 1 →
              K 0 h_3) ∧
            (¬ (x2 < 1) →
              ((9999 < x2 →
                K 0 h_3) ∧
              (¬ (9999 < x2) →
                ¬ x2 = 0 ∧
                ((x3 < (w32 ((w32 (Int.tdiv (w32 (x1 - x0)) x2)) + 1)) →
                  K 0 h_3) ∧
                (¬ (x3 < (w32 ((w32 (Int.tdiv (w32 (x1 - x0)) x2)) + 1))) →
                  K 1 h_3))))))))))))))) :
  zCI E mX10_areUnits (d + 1) [zI x0, zI x1, zI x2, zI x3] h K := by
  refine zC_in (L0 := [zI x0, zI x1, zI x2, zI x3]) pn_X10 rfl (Nat.le_of_ble_eq_true rfl) ?_
  refine z_iload_n dX10_areUnits_0 rfl ?_
  refine cl_X10_460 dX10_areUnits_1 rfl (Nat.le_of_ble_eq_true rfl) (zC_mono ?_ hyp)
  rintro _ h_1 ⟨r_1, rfl, hyp⟩
  refine ⟨r_1, rfl, ?_⟩
  refine z_if_eq (tgt := 46) dX10_areUnits_4 (by decide) (fun c_2 => ?_) (fun c_2 => ?_)
  · have hyp := hyp.1 c_2
    refine z_iconst dX10_areUnits_46 (r32d rfl) ?_
    exact z_zret dX10_areUnits_47 rfl (Or.inl rfl) ⟨_, rfl, hyp⟩
  · have hyp := hyp.2 c_2
    refine z_iload_n dX10_areUnits_7 rfl ?_
    refine cl_X10_460 dX10_areUnits_8 rfl (Nat.le_of_ble_eq_true rfl) (zC_mono ?_ hyp)
    rintro _ h_3 ⟨r_3, rfl, hyp⟩
    refine ⟨r_3, rfl, ?_⟩
    refine z_if_eq (tgt := 46) dX10_areUnits_11 (by decide) (fun c_4 => ?_) (fun c_4 => ?_)
    · have hyp := hyp.1 c_4
      refine z_iconst dX10_areUnits_46 (r32d rfl) ?_
      exact z_zret dX10_areUnits_47 rfl (Or.inl rfl) ⟨_, rfl, hyp⟩
    · have hyp := hyp.2 c_4
      refine z_iload_n dX10_areUnits_14 rfl ?_
      refine z_iload_n dX10_areUnits_15 rfl ?_
      refine z_icmp_gt (tgt := 46) dX10_areUnits_16 (by decide) (fun c_5 => ?_) (fun c_5 => ?_)
      · have hyp := hyp.1 c_5
        refine z_iconst dX10_areUnits_46 (r32d rfl) ?_
        exact z_zret dX10_areUnits_47 rfl (Or.inl rfl) ⟨_, rfl, hyp⟩
      · have hyp := hyp.2 c_5
        refine z_iload_n dX10_areUnits_19 rfl ?_
        refine z_iconst dX10_areUnits_20 (r32d rfl) ?_
        refine z_icmp_lt (tgt := 46) dX10_areUnits_21 (by decide) (fun c_6 => ?_) (fun c_6 => ?_)
        · have hyp := hyp.1 c_6
          refine z_iconst dX10_areUnits_46 (r32d rfl) ?_
          exact z_zret dX10_areUnits_47 rfl (Or.inl rfl) ⟨_, rfl, hyp⟩
        · have hyp := hyp.2 c_6
          refine z_iload_n dX10_areUnits_24 rfl ?_
          refine z_sipush dX10_areUnits_25 (r32d rfl) (by decide) ?_
          refine z_icmp_gt (tgt := 46) dX10_areUnits_28 (by decide) (fun c_7 => ?_) (fun c_7 => ?_)
          · have hyp := hyp.1 c_7
            refine z_iconst dX10_areUnits_46 (r32d rfl) ?_
            exact z_zret dX10_areUnits_47 rfl (Or.inl rfl) ⟨_, rfl, hyp⟩
          · have hyp := hyp.2 c_7
            refine z_iload_n dX10_areUnits_31 rfl ?_
            refine z_iload_n dX10_areUnits_32 rfl ?_
            refine z_isub dX10_areUnits_33 ?_
            refine z_iload_n dX10_areUnits_34 rfl ?_
            obtain ⟨hz, hyp⟩ := hyp
            refine z_idiv hz dX10_areUnits_35 ?_
            refine z_iconst dX10_areUnits_36 (r32d rfl) ?_
            refine z_iadd dX10_areUnits_37 ?_
            refine z_iload_n dX10_areUnits_38 rfl ?_
            refine z_icmp_gt (tgt := 46) dX10_areUnits_39 (by decide) (fun c_8 => ?_) (fun c_8 => ?_)
            · have hyp := hyp.1 c_8
              refine z_iconst dX10_areUnits_46 (r32d rfl) ?_
              exact z_zret dX10_areUnits_47 rfl (Or.inl rfl) ⟨_, rfl, hyp⟩
            · have hyp := hyp.2 c_8
              refine z_iconst dX10_areUnits_42 (r32d rfl) ?_
              refine z_goto (tgt := 47) dX10_areUnits_43 (by decide) ?_
              exact z_zret dX10_areUnits_47 rfl (Or.inr rfl) ⟨_, rfl, hyp⟩
set_option maxRecDepth 20000 in
theorem bX10_awayFrom_55 {E : zE} (hE : isR E) {d : Nat} {x4 x5 x6 x7 : Int} {h : zH} {K : Int → zH → Prop} (hyp :
  ((x4 ≤ 0 →
    zG E mX10_awayFrom (d + 1) 91 [zU, zU, zU, zU, zU, zU, zI x6, zI x7] [] h (qI K)) ∧
  (¬ (x4 ≤ 0) →
    ((x5 ≠ 1 →
      ((x5 ≠ 3 →
        zG E mX10_awayFrom (d + 1) 91 [zU, zU, zU, zU, zU, zU, zI x6, zI x7] [] h (qI K)) ∧
      (¬ (x5 ≠ 3) →
        ((0 ≤ x7 →
          zG E mX10_awayFrom (d + 1) 91 [zU, zU, zU, zU, zU, zU, zI x6, zI x7] [] h (qI K)) ∧
        (¬ (0 ≤ x7) →
          zCI E mX10_stretched d [zI x7, zI x4] h (fun r_5 h_5 =>
            zG E mX10_awayFrom (d + 1) 91 [zU, zU, zU, zU, zU, zU, zI x6, zI r_5] [] h_5 (qI K))))))) ∧
    (¬ (x5 ≠ 1) →
      ((0 < x7 →
        zCI E mX10_stretched d [zI x7, zI x4] h (fun r_7 h_7 =>
          zG E mX10_awayFrom (d + 1) 91 [zU, zU, zU, zU, zU, zU, zI x6, zI r_7] [] h_7 (qI K))) ∧
      (¬ (0 < x7) →
        ((x5 ≠ 3 →
          zG E mX10_awayFrom (d + 1) 91 [zU, zU, zU, zU, zU, zU, zI x6, zI x7] [] h (qI K)) ∧
        (¬ (x5 ≠ 3) →
          ((0 ≤ x7 →
            zG E mX10_awayFrom (d + 1) 91 [zU, zU, zU, zU, zU, zU, zI x6, zI x7] [] h (qI K)) ∧
          (¬ (0 ≤ x7) →
            zCI E mX10_stretched d [zI x7, zI x4] h (fun r_10 h_10 =>
              zG E mX10_awayFrom (d + 1) 91 [zU, zU, zU, zU, zU, zU, zI x6, zI r_10] [] h_10 (qI K))))))))))))) :
  zG E mX10_awayFrom (d + 1) 55 [zU, zU, zU, zU, zI x4, zI x5, zI x6, zI x7] [] h (qI K) := by
  refine z_iload dX10_awayFrom_55 rfl ?_
  refine z_if_le (tgt := 91) dX10_awayFrom_57 (by decide) (fun c_1 => ?_) (fun c_1 => ?_)
  · have hyp := hyp.1 c_1
    exact z_forget [false, false, false, false, false, false, true, true] rfl hyp
  · have hyp := hyp.2 c_1
    refine z_iload dX10_awayFrom_60 rfl ?_
    refine z_iconst dX10_awayFrom_62 (r32d rfl) ?_
    refine z_icmp_ne (tgt := 71) dX10_awayFrom_63 (by decide) (fun c_2 => ?_) (fun c_2 => ?_)
    · have hyp := hyp.1 c_2
      refine z_iload dX10_awayFrom_71 rfl ?_
      refine z_iconst dX10_awayFrom_73 (r32d rfl) ?_
      refine z_icmp_ne (tgt := 91) dX10_awayFrom_74 (by decide) (fun c_3 => ?_) (fun c_3 => ?_)
      · have hyp := hyp.1 c_3
        exact z_forget [false, false, false, false, false, false, true, true] rfl hyp
      · have hyp := hyp.2 c_3
        refine z_iload dX10_awayFrom_77 rfl ?_
        refine z_if_ge (tgt := 91) dX10_awayFrom_79 (by decide) (fun c_4 => ?_) (fun c_4 => ?_)
        · have hyp := hyp.1 c_4
          exact z_forget [false, false, false, false, false, false, true, true] rfl hyp
        · have hyp := hyp.2 c_4
          refine z_iload dX10_awayFrom_82 rfl ?_
          refine z_iload dX10_awayFrom_84 rfl ?_
          refine cl_X10_395 dX10_awayFrom_86 rfl (Nat.le_of_ble_eq_true rfl) (zC_mono ?_ hyp)
          rintro _ h_5 ⟨r_5, rfl, hyp⟩
          refine ⟨r_5, rfl, ?_⟩
          refine z_istore dX10_awayFrom_89 (by decide) rfl ?_
          exact z_forget [false, false, false, false, false, false, true, true] rfl hyp
    · have hyp := hyp.2 c_2
      refine z_iload dX10_awayFrom_66 rfl ?_
      refine z_if_gt (tgt := 82) dX10_awayFrom_68 (by decide) (fun c_6 => ?_) (fun c_6 => ?_)
      · have hyp := hyp.1 c_6
        refine z_iload dX10_awayFrom_82 rfl ?_
        refine z_iload dX10_awayFrom_84 rfl ?_
        refine cl_X10_395 dX10_awayFrom_86 rfl (Nat.le_of_ble_eq_true rfl) (zC_mono ?_ hyp)
        rintro _ h_7 ⟨r_7, rfl, hyp⟩
        refine ⟨r_7, rfl, ?_⟩
        refine z_istore dX10_awayFrom_89 (by decide) rfl ?_
        exact z_forget [false, false, false, false, false, false, true, true] rfl hyp
      · have hyp := hyp.2 c_6
        refine z_iload dX10_awayFrom_71 rfl ?_
        refine z_iconst dX10_awayFrom_73 (r32d rfl) ?_
        refine z_icmp_ne (tgt := 91) dX10_awayFrom_74 (by decide) (fun c_8 => ?_) (fun c_8 => ?_)
        · have hyp := hyp.1 c_8
          exact z_forget [false, false, false, false, false, false, true, true] rfl hyp
        · have hyp := hyp.2 c_8
          refine z_iload dX10_awayFrom_77 rfl ?_
          refine z_if_ge (tgt := 91) dX10_awayFrom_79 (by decide) (fun c_9 => ?_) (fun c_9 => ?_)
          · have hyp := hyp.1 c_9
            exact z_forget [false, false, false, false, false, false, true, true] rfl hyp
          · have hyp := hyp.2 c_9
            refine z_iload dX10_awayFrom_82 rfl ?_
            refine z_iload dX10_awayFrom_84 rfl ?_
            refine cl_X10_395 dX10_awayFrom_86 rfl (Nat.le_of_ble_eq_true rfl) (zC_mono ?_ hyp)
            rintro _ h_10 ⟨r_10, rfl, hyp⟩
            refine ⟨r_10, rfl, ?_⟩
            refine z_istore dX10_awayFrom_89 (by decide) rfl ?_
            exact z_forget [false, false, false, false, false, false, true, true] rfl hyp
set_option maxRecDepth 20000 in
theorem bX10_awayFrom_91 {E : zE} (hE : isR E) {d : Nat} {x6 x7 : Int} {h : zH} {K : Int → zH → Prop} (hyp :
  zCI E mX10_root d [zJ (w64 (10000 * (w64 ((w64 (x6 * x6)) + (w64 (x7 * x7))))))] h (fun r_1 h_1 =>
    K r_1 h_1)) :
  zG E mX10_awayFrom (d + 1) 91 [zU, zU, zU, zU, zU, zU, zI x6, zI x7] [] h (qI K) := by
  refine z_ldc2 (x := 10000) dX10_awayFrom_91 rfl wk_X10_398 (by decide) (r64d rfl) ?_
  refine z_iload dX10_awayFrom_94 rfl ?_
  refine z_i2l dX10_awayFrom_96 ?_
  refine z_iload dX10_awayFrom_97 rfl ?_
  refine z_i2l dX10_awayFrom_99 ?_
  refine z_lmul dX10_awayFrom_100 ?_
  refine z_iload dX10_awayFrom_101 rfl ?_
  refine z_i2l dX10_awayFrom_103 ?_
  refine z_iload dX10_awayFrom_104 rfl ?_
  refine z_i2l dX10_awayFrom_106 ?_
  refine z_lmul dX10_awayFrom_107 ?_
  refine z_ladd dX10_awayFrom_108 ?_
  refine z_lmul dX10_awayFrom_109 ?_
  refine cl_X10_400 dX10_awayFrom_110 rfl (Nat.le_of_ble_eq_true rfl) (zC_mono ?_ hyp)
  rintro _ h_1 ⟨r_1, rfl, hyp⟩
  refine ⟨r_1, rfl, ?_⟩
  exact z_iret dX10_awayFrom_113 rfl ⟨_, rfl, hyp⟩
set_option maxRecDepth 20000 in
theorem eX10_awayFrom {E : zE} (hE : isR E) {d : Nat} {x1 x2 x3 x4 x5 : Int} {h : zH} {K : Int → zH → Prop} (hyp :
  ((0 : Int) ≤ x1 ∧ x1 < (10 : Int)) ∧
  ∀ x_1 : Int, x_1 = w32 ((h 30 x1.toNat) - x2) →
  ((0 : Int) ≤ x1 ∧ x1 < (10 : Int)) ∧
  ∀ x_2 : Int, x_2 = w32 ((h 31 x1.toNat) - x3) →
  ((x4 ≤ 0 →
    zG E mX10_awayFrom (d + 1) 55 [zU, zU, zU, zU, zI x4, zI x5, zI x_1, zI x_2] [] h (qI K)) ∧
  (¬ (x4 ≤ 0) →
    ((x5 ≠ 0 →
      ((x5 ≠ 2 →
        zG E mX10_awayFrom (d + 1) 55 [zU, zU, zU, zU, zI x4, zI x5, zI x_1, zI x_2] [] h (qI K)) ∧
      (¬ (x5 ≠ 2) →
        ((0 ≤ x_1 →
          zG E mX10_awayFrom (d + 1) 55 [zU, zU, zU, zU, zI x4, zI x5, zI x_1, zI x_2] [] h (qI K)) ∧
        (¬ (0 ≤ x_1) →
          zCI E mX10_stretched d [zI x_1, zI x4] h (fun r_7 h_7 =>
            zG E mX10_awayFrom (d + 1) 55 [zU, zU, zU, zU, zI x4, zI x5, zI r_7, zI x_2] [] h_7 (qI K))))))) ∧
    (¬ (x5 ≠ 0) →
      ((0 < x_1 →
        zCI E mX10_stretched d [zI x_1, zI x4] h (fun r_9 h_9 =>
          zG E mX10_awayFrom (d + 1) 55 [zU, zU, zU, zU, zI x4, zI x5, zI r_9, zI x_2] [] h_9 (qI K))) ∧
      (¬ (0 < x_1) →
        ((x5 ≠ 2 →
          zG E mX10_awayFrom (d + 1) 55 [zU, zU, zU, zU, zI x4, zI x5, zI x_1, zI x_2] [] h (qI K)) ∧
        (¬ (x5 ≠ 2) →
          ((0 ≤ x_1 →
            zG E mX10_awayFrom (d + 1) 55 [zU, zU, zU, zU, zI x4, zI x5, zI x_1, zI x_2] [] h (qI K)) ∧
          (¬ (0 ≤ x_1) →
            zCI E mX10_stretched d [zI x_1, zI x4] h (fun r_12 h_12 =>
              zG E mX10_awayFrom (d + 1) 55 [zU, zU, zU, zU, zI x4, zI x5, zI r_12, zI x_2] [] h_12 (qI K))))))))))))) :
  zCI E mX10_awayFrom (d + 1) [zR 0, zI x1, zI x2, zI x3, zI x4, zI x5] h K := by
  refine zC_in (L0 := [zR 0, zI x1, zI x2, zI x3, zI x4, zI x5, zU, zU]) pn_X10 rfl (Nat.le_of_ble_eq_true rfl) ?_
  refine z_aload_n dX10_awayFrom_0 rfl ?_
  refine gf_X10_116 (c2 := 30) dX10_awayFrom_1 rfl (sR_0 hE) (cR_0 hE) rfl ?_
  refine z_iload_n dX10_awayFrom_4 rfl ?_
  obtain ⟨⟨hi0, hi1⟩, hyp⟩ := hyp
  refine z_iaload dX10_awayFrom_5 (sR_30 hE) (cR_30 hE) hi0 hi1 ?_
  refine z_iload_n dX10_awayFrom_6 rfl ?_
  refine z_isub dX10_awayFrom_7 ?_
  generalize ex_1 : w32 ((h 30 x1.toNat) - x2) = x_1
  have hyp := hyp x_1 ex_1.symm
  refine z_istore dX10_awayFrom_8 (by decide) rfl ?_
  refine z_aload_n dX10_awayFrom_10 rfl ?_
  refine gf_X10_119 (c2 := 31) dX10_awayFrom_11 rfl (sR_0 hE) (cR_0 hE) rfl ?_
  refine z_iload_n dX10_awayFrom_14 rfl ?_
  obtain ⟨⟨hi0, hi1⟩, hyp⟩ := hyp
  refine z_iaload dX10_awayFrom_15 (sR_31 hE) (cR_31 hE) hi0 hi1 ?_
  refine z_iload_n dX10_awayFrom_16 rfl ?_
  refine z_isub dX10_awayFrom_17 ?_
  generalize ex_2 : w32 ((h 31 x1.toNat) - x3) = x_2
  have hyp := hyp x_2 ex_2.symm
  refine z_istore dX10_awayFrom_18 (by decide) rfl ?_
  refine z_iload dX10_awayFrom_20 rfl ?_
  refine z_if_le (tgt := 55) dX10_awayFrom_22 (by decide) (fun c_3 => ?_) (fun c_3 => ?_)
  · have hyp := hyp.1 c_3
    exact z_forget [false, false, false, false, true, true, true, true] rfl hyp
  · have hyp := hyp.2 c_3
    refine z_iload dX10_awayFrom_25 rfl ?_
    refine z_if_ne (tgt := 35) dX10_awayFrom_27 (by decide) (fun c_4 => ?_) (fun c_4 => ?_)
    · have hyp := hyp.1 c_4
      refine z_iload dX10_awayFrom_35 rfl ?_
      refine z_iconst dX10_awayFrom_37 (r32d rfl) ?_
      refine z_icmp_ne (tgt := 55) dX10_awayFrom_38 (by decide) (fun c_5 => ?_) (fun c_5 => ?_)
      · have hyp := hyp.1 c_5
        exact z_forget [false, false, false, false, true, true, true, true] rfl hyp
      · have hyp := hyp.2 c_5
        refine z_iload dX10_awayFrom_41 rfl ?_
        refine z_if_ge (tgt := 55) dX10_awayFrom_43 (by decide) (fun c_6 => ?_) (fun c_6 => ?_)
        · have hyp := hyp.1 c_6
          exact z_forget [false, false, false, false, true, true, true, true] rfl hyp
        · have hyp := hyp.2 c_6
          refine z_iload dX10_awayFrom_46 rfl ?_
          refine z_iload dX10_awayFrom_48 rfl ?_
          refine cl_X10_395 dX10_awayFrom_50 rfl (Nat.le_of_ble_eq_true rfl) (zC_mono ?_ hyp)
          rintro _ h_7 ⟨r_7, rfl, hyp⟩
          refine ⟨r_7, rfl, ?_⟩
          refine z_istore dX10_awayFrom_53 (by decide) rfl ?_
          exact z_forget [false, false, false, false, true, true, true, true] rfl hyp
    · have hyp := hyp.2 c_4
      refine z_iload dX10_awayFrom_30 rfl ?_
      refine z_if_gt (tgt := 46) dX10_awayFrom_32 (by decide) (fun c_8 => ?_) (fun c_8 => ?_)
      · have hyp := hyp.1 c_8
        refine z_iload dX10_awayFrom_46 rfl ?_
        refine z_iload dX10_awayFrom_48 rfl ?_
        refine cl_X10_395 dX10_awayFrom_50 rfl (Nat.le_of_ble_eq_true rfl) (zC_mono ?_ hyp)
        rintro _ h_9 ⟨r_9, rfl, hyp⟩
        refine ⟨r_9, rfl, ?_⟩
        refine z_istore dX10_awayFrom_53 (by decide) rfl ?_
        exact z_forget [false, false, false, false, true, true, true, true] rfl hyp
      · have hyp := hyp.2 c_8
        refine z_iload dX10_awayFrom_35 rfl ?_
        refine z_iconst dX10_awayFrom_37 (r32d rfl) ?_
        refine z_icmp_ne (tgt := 55) dX10_awayFrom_38 (by decide) (fun c_10 => ?_) (fun c_10 => ?_)
        · have hyp := hyp.1 c_10
          exact z_forget [false, false, false, false, true, true, true, true] rfl hyp
        · have hyp := hyp.2 c_10
          refine z_iload dX10_awayFrom_41 rfl ?_
          refine z_if_ge (tgt := 55) dX10_awayFrom_43 (by decide) (fun c_11 => ?_) (fun c_11 => ?_)
          · have hyp := hyp.1 c_11
            exact z_forget [false, false, false, false, true, true, true, true] rfl hyp
          · have hyp := hyp.2 c_11
            refine z_iload dX10_awayFrom_46 rfl ?_
            refine z_iload dX10_awayFrom_48 rfl ?_
            refine cl_X10_395 dX10_awayFrom_50 rfl (Nat.le_of_ble_eq_true rfl) (zC_mono ?_ hyp)
            rintro _ h_12 ⟨r_12, rfl, hyp⟩
            refine ⟨r_12, rfl, ?_⟩
            refine z_istore dX10_awayFrom_53 (by decide) rfl ?_
            exact z_forget [false, false, false, false, true, true, true, true] rfl hyp
set_option maxRecDepth 20000 in
theorem eX10_best {E : zE} (hE : isR E) {d : Nat} {x1 x2 : Int} {h : zH} {K : Int → zH → Prop} (hyp :
  ∀ h_1 : zH, h_1 = hset h 0 0 0 →
  zCI E mX10_isRing d [zR 0, zI x1] h_1 (fun r_2 h_2 =>
    ((r_2 = 0 →
      K (-1) h_2) ∧
    (¬ (r_2 = 0) →
      ((x2 < 0 →
        K (-1) h_2) ∧
      (¬ (x2 < 0) →
        ((x2 ≤ 3 →
          zCV E mX10_laid d [zR 0] h_2 (fun h_6 =>
            zCI E mX10_hasFit d [zR 0, zI x1] h_6 (fun r_7 h_7 =>
              ((r_7 ≠ 0 →
                ((x2 ≠ 0 →
                  ((x2 ≠ 1 →
                    ((x2 ≠ 2 →
                      ((0 : Int) ≤ x1 ∧ x1 < (8 : Int)) ∧
                      ((0 : Int) ≤ w32 ((w32 (12 * x1)) + (h_7 35 x1.toNat)) ∧ w32 ((w32 (12 * x1)) + (h_7 35 x1.toNat)) < (96 : Int)) ∧
                      K (h_7 34 (w32 ((w32 (12 * x1)) + (h_7 35 x1.toNat))).toNat) h_7) ∧
                    (¬ (x2 ≠ 2) →
                      zCI E mX10_sizeOf d [zR 0, zI x1] h_7 (fun r_12 h_12 =>
                        K r_12 h_12)))) ∧
                  (¬ (x2 ≠ 1) →
                    ((0 : Int) ≤ x1 ∧ x1 < (8 : Int)) ∧
                    K (w32 (Int.tmod (h_7 35 x1.toNat) 4)) h_7))) ∧
                (¬ (x2 ≠ 0) →
                  ((0 : Int) ≤ x1 ∧ x1 < (8 : Int)) ∧
                  K (w32 (Int.tdiv (h_7 35 x1.toNat) 4)) h_7))) ∧
              (¬ (r_7 ≠ 0) →
                K (-1) h_7))))) ∧
        (¬ (x2 ≤ 3) →
          K (-1) h_2)))))))) :
  zCI E mX10_best (d + 1) [zR 0, zI x1, zI x2] h K := by
  refine zC_in (L0 := [zR 0, zI x1, zI x2]) pn_X10 rfl (Nat.le_of_ble_eq_true rfl) ?_
  refine z_aload_n dX10_best_0 rfl ?_
  refine z_iconst dX10_best_1 (r32d rfl) ?_
  refine pf_X10_153 dX10_best_2 rfl (sR_0 hE) (cR_0 hE) ?_
  generalize eh_1 : hset h 0 0 _ = h_1
  have hyp := hyp h_1 eh_1.symm
  refine z_aload_n dX10_best_5 rfl ?_
  refine z_iload_n dX10_best_6 rfl ?_
  refine cl_X10_437 dX10_best_7 rfl (sR_0 hE) (cR_0 hE) (Nat.le_of_ble_eq_true rfl) (zC_mono ?_ hyp)
  rintro _ h_2 ⟨r_2, rfl, hyp⟩
  refine ⟨r_2, rfl, ?_⟩
  refine z_if_eq (tgt := 22) dX10_best_10 (by decide) (fun c_3 => ?_) (fun c_3 => ?_)
  · have hyp := hyp.1 c_3
    refine z_iconst dX10_best_22 (r32d rfl) ?_
    exact z_iret dX10_best_23 rfl ⟨_, rfl, hyp⟩
  · have hyp := hyp.2 c_3
    refine z_iload_n dX10_best_13 rfl ?_
    refine z_if_lt (tgt := 22) dX10_best_14 (by decide) (fun c_4 => ?_) (fun c_4 => ?_)
    · have hyp := hyp.1 c_4
      refine z_iconst dX10_best_22 (r32d rfl) ?_
      exact z_iret dX10_best_23 rfl ⟨_, rfl, hyp⟩
    · have hyp := hyp.2 c_4
      refine z_iload_n dX10_best_17 rfl ?_
      refine z_iconst dX10_best_18 (r32d rfl) ?_
      refine z_icmp_le (tgt := 24) dX10_best_19 (by decide) (fun c_5 => ?_) (fun c_5 => ?_)
      · have hyp := hyp.1 c_5
        refine z_aload_n dX10_best_24 rfl ?_
        refine cl_X10_440 dX10_best_25 rfl (sR_0 hE) (cR_0 hE) (Nat.le_of_ble_eq_true rfl) (zC_mono ?_ hyp)
        rintro _ h_6 ⟨rfl, hyp⟩
        refine ⟨rfl, ?_⟩
        refine z_aload_n dX10_best_28 rfl ?_
        refine z_iload_n dX10_best_29 rfl ?_
        refine cl_X10_443 dX10_best_30 rfl (sR_0 hE) (cR_0 hE) (Nat.le_of_ble_eq_true rfl) (zC_mono ?_ hyp)
        rintro _ h_7 ⟨r_7, rfl, hyp⟩
        refine ⟨r_7, rfl, ?_⟩
        refine z_if_ne (tgt := 38) dX10_best_33 (by decide) (fun c_8 => ?_) (fun c_8 => ?_)
        · have hyp := hyp.1 c_8
          refine z_iload_n dX10_best_38 rfl ?_
          refine z_if_ne (tgt := 53) dX10_best_39 (by decide) (fun c_9 => ?_) (fun c_9 => ?_)
          · have hyp := hyp.1 c_9
            refine z_iload_n dX10_best_53 rfl ?_
            refine z_iconst dX10_best_54 (r32d rfl) ?_
            refine z_icmp_ne (tgt := 69) dX10_best_55 (by decide) (fun c_10 => ?_) (fun c_10 => ?_)
            · have hyp := hyp.1 c_10
              refine z_iload_n dX10_best_69 rfl ?_
              refine z_iconst dX10_best_70 (r32d rfl) ?_
              refine z_icmp_ne (tgt := 82) dX10_best_71 (by decide) (fun c_11 => ?_) (fun c_11 => ?_)
              · have hyp := hyp.1 c_11
                refine z_aload_n dX10_best_82 rfl ?_
                refine gf_X10_128 (c2 := 34) dX10_best_83 rfl (sR_0 hE) (cR_0 hE) rfl ?_
                refine z_bipush dX10_best_86 (r32d rfl) (by decide) ?_
                refine z_iload_n dX10_best_88 rfl ?_
                refine z_imul dX10_best_89 ?_
                refine z_aload_n dX10_best_90 rfl ?_
                refine gf_X10_131 (c2 := 35) dX10_best_91 rfl (sR_0 hE) (cR_0 hE) rfl ?_
                refine z_iload_n dX10_best_94 rfl ?_
                obtain ⟨⟨hi0, hi1⟩, hyp⟩ := hyp
                refine z_iaload dX10_best_95 (sR_35 hE) (cR_35 hE) hi0 hi1 ?_
                refine z_iadd dX10_best_96 ?_
                obtain ⟨⟨hi0, hi1⟩, hyp⟩ := hyp
                refine z_iaload dX10_best_97 (sR_34 hE) (cR_34 hE) hi0 hi1 ?_
                exact z_iret dX10_best_98 rfl ⟨_, rfl, hyp⟩
              · have hyp := hyp.2 c_11
                refine z_aload_n dX10_best_74 rfl ?_
                refine z_iload_n dX10_best_75 rfl ?_
                refine cl_X10_446 dX10_best_76 rfl (sR_0 hE) (cR_0 hE) (Nat.le_of_ble_eq_true rfl) (zC_mono ?_ hyp)
                rintro _ h_12 ⟨r_12, rfl, hyp⟩
                refine ⟨r_12, rfl, ?_⟩
                refine z_goto (tgt := 98) dX10_best_79 (by decide) ?_
                exact z_iret dX10_best_98 rfl ⟨_, rfl, hyp⟩
            · have hyp := hyp.2 c_10
              refine z_aload_n dX10_best_58 rfl ?_
              refine gf_X10_131 (c2 := 35) dX10_best_59 rfl (sR_0 hE) (cR_0 hE) rfl ?_
              refine z_iload_n dX10_best_62 rfl ?_
              obtain ⟨⟨hi0, hi1⟩, hyp⟩ := hyp
              refine z_iaload dX10_best_63 (sR_35 hE) (cR_35 hE) hi0 hi1 ?_
              refine z_iconst dX10_best_64 (r32d rfl) ?_
              refine z_irem (by decide) dX10_best_65 ?_
              refine z_goto (tgt := 98) dX10_best_66 (by decide) ?_
              exact z_iret dX10_best_98 rfl ⟨_, rfl, hyp⟩
          · have hyp := hyp.2 c_9
            refine z_aload_n dX10_best_42 rfl ?_
            refine gf_X10_131 (c2 := 35) dX10_best_43 rfl (sR_0 hE) (cR_0 hE) rfl ?_
            refine z_iload_n dX10_best_46 rfl ?_
            obtain ⟨⟨hi0, hi1⟩, hyp⟩ := hyp
            refine z_iaload dX10_best_47 (sR_35 hE) (cR_35 hE) hi0 hi1 ?_
            refine z_iconst dX10_best_48 (r32d rfl) ?_
            refine z_idiv (by decide) dX10_best_49 ?_
            refine z_goto (tgt := 98) dX10_best_50 (by decide) ?_
            exact z_iret dX10_best_98 rfl ⟨_, rfl, hyp⟩
        · have hyp := hyp.2 c_8
          refine z_iconst dX10_best_36 (r32d rfl) ?_
          exact z_iret dX10_best_37 rfl ⟨_, rfl, hyp⟩
      · have hyp := hyp.2 c_5
        refine z_iconst dX10_best_22 (r32d rfl) ?_
        exact z_iret dX10_best_23 rfl ⟨_, rfl, hyp⟩
set_option maxRecDepth 20000 in
theorem bX10_bestOf_13 {E : zE} (hE : isR E) {d : Nat} {x2 x3 x4 x5 x6 : Int} {h : zH} {K : Int → zH → Prop} (hyp :
  ((x2 < x6 →
    K x4 h) ∧
  (¬ (x2 < x6) →
    zCI E mX10_lumpsOf d [zR 0, zI x6] h (fun r_2 h_2 =>
      ((r_2 < x5 →
        ∀ x_4 : Int, x_4 = w32 (x6 + x3) →
        zG E mX10_bestOf (d + 1) 13 [zR 0, zU, zI x2, zI x3, zI x6, zI r_2, zI x_4, zU] [] h_2 (qI K)) ∧
      (¬ (r_2 < x5) →
        ∀ x_5 : Int, x_5 = w32 (x6 + x3) →
        zG E mX10_bestOf (d + 1) 13 [zR 0, zU, zI x2, zI x3, zI x4, zI x5, zI x_5, zU] [] h_2 (qI K))))))) :
  zG E mX10_bestOf (d + 1) 13 [zR 0, zU, zI x2, zI x3, zI x4, zI x5, zI x6, zU] [] h (qI K) := by
  refine z_iload dX10_bestOf_13 rfl ?_
  refine z_iload_n dX10_bestOf_15 rfl ?_
  refine z_icmp_gt (tgt := 54) dX10_bestOf_16 (by decide) (fun c_1 => ?_) (fun c_1 => ?_)
  · have hyp := hyp.1 c_1
    refine z_iload dX10_bestOf_54 rfl ?_
    exact z_iret dX10_bestOf_56 rfl ⟨_, rfl, hyp⟩
  · have hyp := hyp.2 c_1
    refine z_aload_n dX10_bestOf_19 rfl ?_
    refine z_iload dX10_bestOf_20 rfl ?_
    refine cl_X10_496 dX10_bestOf_22 rfl (sR_0 hE) (cR_0 hE) (Nat.le_of_ble_eq_true rfl) (zC_mono ?_ hyp)
    rintro _ h_2 ⟨r_2, rfl, hyp⟩
    refine ⟨r_2, rfl, ?_⟩
    refine z_istore dX10_bestOf_25 (by decide) rfl ?_
    refine z_iload dX10_bestOf_27 rfl ?_
    refine z_iload dX10_bestOf_29 rfl ?_
    refine z_icmp_lt (tgt := 37) dX10_bestOf_31 (by decide) (fun c_3 => ?_) (fun c_3 => ?_)
    · have hyp := hyp.1 c_3
      refine z_iload dX10_bestOf_37 rfl ?_
      refine z_istore dX10_bestOf_39 (by decide) rfl ?_
      refine z_iload dX10_bestOf_41 rfl ?_
      refine z_istore dX10_bestOf_43 (by decide) rfl ?_
      refine z_iload dX10_bestOf_45 rfl ?_
      refine z_iload_n dX10_bestOf_47 rfl ?_
      refine z_iadd dX10_bestOf_48 ?_
      generalize ex_4 : w32 (x6 + x3) = x_4
      have hyp := hyp x_4 ex_4.symm
      refine z_istore dX10_bestOf_49 (by decide) rfl ?_
      refine z_goto (tgt := 13) dX10_bestOf_51 (by decide) ?_
      exact z_forget [true, false, true, true, true, true, true, false] rfl hyp
    · have hyp := hyp.2 c_3
      refine z_goto (tgt := 45) dX10_bestOf_34 (by decide) ?_
      refine z_iload dX10_bestOf_45 rfl ?_
      refine z_iload_n dX10_bestOf_47 rfl ?_
      refine z_iadd dX10_bestOf_48 ?_
      generalize ex_5 : w32 (x6 + x3) = x_5
      have hyp := hyp x_5 ex_5.symm
      refine z_istore dX10_bestOf_49 (by decide) rfl ?_
      refine z_goto (tgt := 13) dX10_bestOf_51 (by decide) ?_
      exact z_forget [true, false, true, true, true, true, true, false] rfl hyp
set_option maxRecDepth 20000 in
theorem eX10_bestOf {E : zE} (hE : isR E) {d : Nat} {x1 x2 x3 : Int} {h : zH} {K : Int → zH → Prop} (hyp :
  zCI E mX10_lumpsOf d [zR 0, zI x1] h (fun r_1 h_1 =>
    zG E mX10_bestOf (d + 1) 13 [zR 0, zU, zI x2, zI x3, zI x1, zI r_1, zI x1, zU] [] h_1 (qI K))) :
  zCI E mX10_bestOf (d + 1) [zR 0, zI x1, zI x2, zI x3] h K := by
  refine zC_in (L0 := [zR 0, zI x1, zI x2, zI x3, zU, zU, zU, zU]) pn_X10 rfl (Nat.le_of_ble_eq_true rfl) ?_
  refine z_iload_n dX10_bestOf_0 rfl ?_
  refine z_istore dX10_bestOf_1 (by decide) rfl ?_
  refine z_aload_n dX10_bestOf_3 rfl ?_
  refine z_iload_n dX10_bestOf_4 rfl ?_
  refine cl_X10_496 dX10_bestOf_5 rfl (sR_0 hE) (cR_0 hE) (Nat.le_of_ble_eq_true rfl) (zC_mono ?_ hyp)
  rintro _ h_1 ⟨r_1, rfl, hyp⟩
  refine ⟨r_1, rfl, ?_⟩
  refine z_istore dX10_bestOf_8 (by decide) rfl ?_
  refine z_iload_n dX10_bestOf_10 rfl ?_
  refine z_istore dX10_bestOf_11 (by decide) rfl ?_
  exact z_forget [true, false, true, true, true, true, true, false] rfl hyp
set_option maxRecDepth 20000 in
theorem eX10_binOfRing {E : zE} (hE : isR E) {d : Nat} {x1 x2 : Int} {h : zH} {K : Int → zH → Prop} (hyp :
  zCI E mX10_part d [zR 0, zI x2] h (fun r_1 h_1 =>
    zCI E mX10_sizeOf d [zR 0, zI x1] h_1 (fun r_2 h_2 =>
      zCI E mX10_offBy d [zI r_2, zI r_1] h_2 (fun r_3 h_3 =>
        ¬ r_1 = 0 ∧
        K (min 5 (w32 (Int.tdiv (w32 (12 * r_3)) r_1))) h_3)))) :
  zCI E mX10_binOfRing (d + 1) [zR 0, zI x1, zI x2] h K := by
  refine zC_in (L0 := [zR 0, zI x1, zI x2, zU]) pn_X10 rfl (Nat.le_of_ble_eq_true rfl) ?_
  refine z_aload_n dX10_binOfRing_0 rfl ?_
  refine z_iload_n dX10_binOfRing_1 rfl ?_
  refine cl_X10_463 dX10_binOfRing_2 rfl (sR_0 hE) (cR_0 hE) (Nat.le_of_ble_eq_true rfl) (zC_mono ?_ hyp)
  rintro _ h_1 ⟨r_1, rfl, hyp⟩
  refine ⟨r_1, rfl, ?_⟩
  refine z_istore_n dX10_binOfRing_5 rfl (by decide) rfl ?_
  refine z_iconst dX10_binOfRing_6 (r32d rfl) ?_
  refine z_bipush dX10_binOfRing_7 (r32d rfl) (by decide) ?_
  refine z_aload_n dX10_binOfRing_9 rfl ?_
  refine z_iload_n dX10_binOfRing_10 rfl ?_
  refine cl_X10_446 dX10_binOfRing_11 rfl (sR_0 hE) (cR_0 hE) (Nat.le_of_ble_eq_true rfl) (zC_mono ?_ hyp)
  rintro _ h_2 ⟨r_2, rfl, hyp⟩
  refine ⟨r_2, rfl, ?_⟩
  refine z_iload_n dX10_binOfRing_14 rfl ?_
  refine cl_X10_466 dX10_binOfRing_15 rfl (Nat.le_of_ble_eq_true rfl) (zC_mono ?_ hyp)
  rintro _ h_3 ⟨r_3, rfl, hyp⟩
  refine ⟨r_3, rfl, ?_⟩
  refine z_imul dX10_binOfRing_18 ?_
  refine z_iload_n dX10_binOfRing_19 rfl ?_
  obtain ⟨hz, hyp⟩ := hyp
  refine z_idiv hz dX10_binOfRing_20 ?_
  refine cl_X10_285 dX10_binOfRing_21 rfl (Nat.le_of_ble_eq_true rfl) ?_
  exact z_iret dX10_binOfRing_24 rfl ⟨_, rfl, hyp⟩
set_option maxRecDepth 20000 in
theorem bX10_blind_31 {E : zE} (hE : isR E) {d : Nat} {x1 x2 x3 x4 x5 : Int} {h : zH} {K : Int → zH → Prop} (hyp :
  (((h 0 26) ≤ x5 →
    (((w32 (Int.tmod x2 2)) ≠ 0 →
      K x4 h) ∧
    (¬ ((w32 (Int.tmod x2 2)) ≠ 0) →
      K x3 h))) ∧
  (¬ ((h 0 26) ≤ x5) →
    ((0 : Int) ≤ x5 ∧ x5 < (40 : Int)) ∧
    ((2 ≤ x2 →
      zG E mX10_blind (d + 1) 57 [zR 0, zI x1, zI x2, zI x3, zI x4, zI x5] [zI 0, zI (h 19 x5.toNat)] h (qI K)) ∧
    (¬ (2 ≤ x2) →
      zG E mX10_blind (d + 1) 57 [zR 0, zI x1, zI x2, zI x3, zI x4, zI x5] [zI 1, zI (h 19 x5.toNat)] h (qI K)))))) :
  zG E mX10_blind (d + 1) 31 [zR 0, zI x1, zI x2, zI x3, zI x4, zI x5] [] h (qI K) := by
  refine z_iload dX10_blind_31 rfl ?_
  refine z_aload_n dX10_blind_33 rfl ?_
  refine gf_X10_346 dX10_blind_34 rfl (sR_0 hE) (cR_0 hE) ?_
  refine z_icmp_ge (tgt := 90) dX10_blind_37 (by decide) (fun c_1 => ?_) (fun c_1 => ?_)
  · have hyp := hyp.1 c_1
    refine z_iload_n dX10_blind_90 rfl ?_
    refine z_iconst dX10_blind_91 (r32d rfl) ?_
    refine z_irem (by decide) dX10_blind_92 ?_
    refine z_if_ne (tgt := 100) dX10_blind_93 (by decide) (fun c_2 => ?_) (fun c_2 => ?_)
    · have hyp := hyp.1 c_2
      refine z_iload dX10_blind_100 rfl ?_
      exact z_iret dX10_blind_102 rfl ⟨_, rfl, hyp⟩
    · have hyp := hyp.2 c_2
      refine z_iload_n dX10_blind_96 rfl ?_
      refine z_goto (tgt := 102) dX10_blind_97 (by decide) ?_
      exact z_iret dX10_blind_102 rfl ⟨_, rfl, hyp⟩
  · have hyp := hyp.2 c_1
    refine z_aload_n dX10_blind_40 rfl ?_
    refine gf_X10_67 (c2 := 19) dX10_blind_41 rfl (sR_0 hE) (cR_0 hE) rfl ?_
    refine z_iload dX10_blind_44 rfl ?_
    obtain ⟨⟨hi0, hi1⟩, hyp⟩ := hyp
    refine z_baload dX10_blind_46 (sR_19 hE) (cR_19 hE) hi0 hi1 ?_
    refine z_iload_n dX10_blind_47 rfl ?_
    refine z_iconst dX10_blind_48 (r32d rfl) ?_
    refine z_icmp_ge (tgt := 56) dX10_blind_49 (by decide) (fun c_3 => ?_) (fun c_3 => ?_)
    · have hyp := hyp.1 c_3
      refine z_iconst dX10_blind_56 (r32d rfl) ?_
      exact hyp
    · have hyp := hyp.2 c_3
      refine z_iconst dX10_blind_52 (r32d rfl) ?_
      refine z_goto (tgt := 57) dX10_blind_53 (by decide) ?_
      exact hyp
set_option maxRecDepth 20000 in
theorem bX10_blind_57 {E : zE} (hE : isR E) {d : Nat} {x1 x2 x3 x4 x5 s0 s1 : Int} {h : zH} {K : Int → zH → Prop} (hyp :
  ((s1 = s0 →
    ((0 : Int) ≤ x5 ∧ x5 < (40 : Int)) ∧
    zCI E mX10_part d [zR 0, zI x1] h (fun r_2 h_2 =>
      zCI E mX10_offBy d [zI (h 18 x5.toNat), zI r_2] h_2 (fun r_3 h_3 =>
        ∀ x_4 : Int, x_4 = w32 (x3 + r_3) →
        ∀ x_5 : Int, x_5 = w32 (x4 + 1) →
        ∀ x_6 : Int, x_6 = w32 (x5 + 1) →
        zG E mX10_blind (d + 1) 31 [zR 0, zI x1, zI x2, zI x_4, zI x_5, zI x_6] [] h_3 (qI K)))) ∧
  (¬ (s1 = s0) →
    ∀ x_7 : Int, x_7 = w32 (x5 + 1) →
    zG E mX10_blind (d + 1) 31 [zR 0, zI x1, zI x2, zI x3, zI x4, zI x_7] [] h (qI K)))) :
  zG E mX10_blind (d + 1) 57 [zR 0, zI x1, zI x2, zI x3, zI x4, zI x5] [zI s0, zI s1] h (qI K) := by
  refine z_icmp_eq (tgt := 63) dX10_blind_57 (by decide) (fun c_1 => ?_) (fun c_1 => ?_)
  · have hyp := hyp.1 c_1
    refine z_iload_n dX10_blind_63 rfl ?_
    refine z_aload_n dX10_blind_64 rfl ?_
    refine gf_X10_64 (c2 := 18) dX10_blind_65 rfl (sR_0 hE) (cR_0 hE) rfl ?_
    refine z_iload dX10_blind_68 rfl ?_
    obtain ⟨⟨hi0, hi1⟩, hyp⟩ := hyp
    refine z_iaload dX10_blind_70 (sR_18 hE) (cR_18 hE) hi0 hi1 ?_
    refine z_aload_n dX10_blind_71 rfl ?_
    refine z_iload_n dX10_blind_72 rfl ?_
    refine cl_X10_463 dX10_blind_73 rfl (sR_0 hE) (cR_0 hE) (Nat.le_of_ble_eq_true rfl) (zC_mono ?_ hyp)
    rintro _ h_2 ⟨r_2, rfl, hyp⟩
    refine ⟨r_2, rfl, ?_⟩
    refine cl_X10_466 dX10_blind_76 rfl (Nat.le_of_ble_eq_true rfl) (zC_mono ?_ hyp)
    rintro _ h_3 ⟨r_3, rfl, hyp⟩
    refine ⟨r_3, rfl, ?_⟩
    refine z_iadd dX10_blind_79 ?_
    generalize ex_4 : w32 (x3 + r_3) = x_4
    have hyp := hyp x_4 ex_4.symm
    refine z_istore_n dX10_blind_80 rfl (by decide) rfl ?_
    refine z_iinc dX10_blind_81 rfl (by decide) rfl ?_
    generalize ex_5 : w32 (x4 + 1) = x_5
    have hyp := hyp x_5 ex_5.symm
    refine z_iinc dX10_blind_84 rfl (by decide) rfl ?_
    generalize ex_6 : w32 (x5 + 1) = x_6
    have hyp := hyp x_6 ex_6.symm
    refine z_goto (tgt := 31) dX10_blind_87 (by decide) ?_
    exact hyp
  · have hyp := hyp.2 c_1
    refine z_goto (tgt := 84) dX10_blind_60 (by decide) ?_
    refine z_iinc dX10_blind_84 rfl (by decide) rfl ?_
    generalize ex_7 : w32 (x5 + 1) = x_7
    have hyp := hyp x_7 ex_7.symm
    refine z_goto (tgt := 31) dX10_blind_87 (by decide) ?_
    exact hyp
set_option maxRecDepth 20000 in
theorem eX10_blind {E : zE} (hE : isR E) {d : Nat} {x1 x2 : Int} {h : zH} {K : Int → zH → Prop} (hyp :
  ∀ h_1 : zH, h_1 = hset h 0 0 0 →
  zCI E mX10_isUnit d [zI x1] h_1 (fun r_2 h_2 =>
    ((r_2 = 0 →
      K (-1) h_2) ∧
    (¬ (r_2 = 0) →
      ((x2 < 0 →
        K (-1) h_2) ∧
      (¬ (x2 < 0) →
        ((x2 ≤ 3 →
          zG E mX10_blind (d + 1) 31 [zR 0, zI x1, zI x2, zI 0, zI 0, zI 0] [] h_2 (qI K)) ∧
        (¬ (x2 ≤ 3) →
          K (-1) h_2)))))))) :
  zCI E mX10_blind (d + 1) [zR 0, zI x1, zI x2] h K := by
  refine zC_in (L0 := [zR 0, zI x1, zI x2, zU, zU, zU]) pn_X10 rfl (Nat.le_of_ble_eq_true rfl) ?_
  refine z_aload_n dX10_blind_0 rfl ?_
  refine z_iconst dX10_blind_1 (r32d rfl) ?_
  refine pf_X10_153 dX10_blind_2 rfl (sR_0 hE) (cR_0 hE) ?_
  generalize eh_1 : hset h 0 0 _ = h_1
  have hyp := hyp h_1 eh_1.symm
  refine z_iload_n dX10_blind_5 rfl ?_
  refine cl_X10_460 dX10_blind_6 rfl (Nat.le_of_ble_eq_true rfl) (zC_mono ?_ hyp)
  rintro _ h_2 ⟨r_2, rfl, hyp⟩
  refine ⟨r_2, rfl, ?_⟩
  refine z_if_eq (tgt := 21) dX10_blind_9 (by decide) (fun c_3 => ?_) (fun c_3 => ?_)
  · have hyp := hyp.1 c_3
    refine z_iconst dX10_blind_21 (r32d rfl) ?_
    exact z_iret dX10_blind_22 rfl ⟨_, rfl, hyp⟩
  · have hyp := hyp.2 c_3
    refine z_iload_n dX10_blind_12 rfl ?_
    refine z_if_lt (tgt := 21) dX10_blind_13 (by decide) (fun c_4 => ?_) (fun c_4 => ?_)
    · have hyp := hyp.1 c_4
      refine z_iconst dX10_blind_21 (r32d rfl) ?_
      exact z_iret dX10_blind_22 rfl ⟨_, rfl, hyp⟩
    · have hyp := hyp.2 c_4
      refine z_iload_n dX10_blind_16 rfl ?_
      refine z_iconst dX10_blind_17 (r32d rfl) ?_
      refine z_icmp_le (tgt := 23) dX10_blind_18 (by decide) (fun c_5 => ?_) (fun c_5 => ?_)
      · have hyp := hyp.1 c_5
        refine z_iconst dX10_blind_23 (r32d rfl) ?_
        refine z_istore_n dX10_blind_24 rfl (by decide) rfl ?_
        refine z_iconst dX10_blind_25 (r32d rfl) ?_
        refine z_istore dX10_blind_26 (by decide) rfl ?_
        refine z_iconst dX10_blind_28 (r32d rfl) ?_
        refine z_istore dX10_blind_29 (by decide) rfl ?_
        exact hyp
      · have hyp := hyp.2 c_5
        refine z_iconst dX10_blind_21 (r32d rfl) ?_
        exact z_iret dX10_blind_22 rfl ⟨_, rfl, hyp⟩
set_option maxRecDepth 20000 in
theorem bX10_chosen_39 {E : zE} (hE : isR E) {d : Nat} {x1 x2 x3 x4 x5 : Int} {h : zH} {K : Int → zH → Prop} (hyp :
  (((h 0 24) ≤ x5 →
    ((x2 ≠ 0 →
      K x4 h) ∧
    (¬ (x2 ≠ 0) →
      zCI E mX10_lumpsOf d [zR 0, zI x1] h (fun r_3 h_3 =>
        K r_3 h_3)))) ∧
  (¬ ((h 0 24) ≤ x5) →
    ((0 : Int) ≤ x5 ∧ x5 < (8 : Int)) ∧
    ∀ h_4 : zH, h_4 = hset h 39 (x5.toNat) (-1) →
    zCI E mX10_hasFit d [zR 0, zI x5] h_4 (fun r_5 h_5 =>
      ((r_5 ≠ 0 →
        zG E mX10_chosen (d + 1) 74 [zR 0, zI x1, zI x2, zI x3, zI x4, zI x5, zI (-1), zI 0] [] h_5 (qI K)) ∧
      (¬ (r_5 ≠ 0) →
        ∀ x_7 : Int, x_7 = w32 (x5 + 1) →
        zG E mX10_chosen (d + 1) 39 [zR 0, zI x1, zI x2, zI x3, zI x4, zI x_7, zU, zU] [] h_5 (qI K))))))) :
  zG E mX10_chosen (d + 1) 39 [zR 0, zI x1, zI x2, zI x3, zI x4, zI x5, zU, zU] [] h (qI K) := by
  refine z_iload dX10_chosen_39 rfl ?_
  refine z_aload_n dX10_chosen_41 rfl ?_
  refine gf_X10_340 dX10_chosen_42 rfl (sR_0 hE) (cR_0 hE) ?_
  refine z_icmp_ge (tgt := 193) dX10_chosen_45 (by decide) (fun c_1 => ?_) (fun c_1 => ?_)
  · have hyp := hyp.1 c_1
    refine z_iload_n dX10_chosen_193 rfl ?_
    refine z_if_ne (tgt := 205) dX10_chosen_194 (by decide) (fun c_2 => ?_) (fun c_2 => ?_)
    · have hyp := hyp.1 c_2
      refine z_iload dX10_chosen_205 rfl ?_
      exact z_iret dX10_chosen_207 rfl ⟨_, rfl, hyp⟩
    · have hyp := hyp.2 c_2
      refine z_aload_n dX10_chosen_197 rfl ?_
      refine z_iload_n dX10_chosen_198 rfl ?_
      refine cl_X10_496 dX10_chosen_199 rfl (sR_0 hE) (cR_0 hE) (Nat.le_of_ble_eq_true rfl) (zC_mono ?_ hyp)
      rintro _ h_3 ⟨r_3, rfl, hyp⟩
      refine ⟨r_3, rfl, ?_⟩
      refine z_goto (tgt := 207) dX10_chosen_202 (by decide) ?_
      exact z_iret dX10_chosen_207 rfl ⟨_, rfl, hyp⟩
  · have hyp := hyp.2 c_1
    refine z_aload_n dX10_chosen_48 rfl ?_
    refine gf_X10_144 (c2 := 39) dX10_chosen_49 rfl (sR_0 hE) (cR_0 hE) rfl ?_
    refine z_iload dX10_chosen_52 rfl ?_
    refine z_iconst dX10_chosen_54 (r32d rfl) ?_
    obtain ⟨⟨hi0, hi1⟩, hyp⟩ := hyp
    refine z_iastore dX10_chosen_55 (sR_39 hE) (cR_39 hE) hi0 hi1 ?_
    generalize eh_4 : hset h 39 _ (-1) = h_4
    have hyp := hyp h_4 eh_4.symm
    refine z_aload_n dX10_chosen_56 rfl ?_
    refine z_iload dX10_chosen_57 rfl ?_
    refine cl_X10_443 dX10_chosen_59 rfl (sR_0 hE) (cR_0 hE) (Nat.le_of_ble_eq_true rfl) (zC_mono ?_ hyp)
    rintro _ h_5 ⟨r_5, rfl, hyp⟩
    refine ⟨r_5, rfl, ?_⟩
    refine z_if_ne (tgt := 68) dX10_chosen_62 (by decide) (fun c_6 => ?_) (fun c_6 => ?_)
    · have hyp := hyp.1 c_6
      refine z_iconst dX10_chosen_68 (r32d rfl) ?_
      refine z_istore dX10_chosen_69 (by decide) rfl ?_
      refine z_iconst dX10_chosen_71 (r32d rfl) ?_
      refine z_istore dX10_chosen_72 (by decide) rfl ?_
      exact hyp
    · have hyp := hyp.2 c_6
      refine z_goto (tgt := 187) dX10_chosen_65 (by decide) ?_
      refine z_iinc dX10_chosen_187 rfl (by decide) rfl ?_
      generalize ex_7 : w32 (x5 + 1) = x_7
      have hyp := hyp x_7 ex_7.symm
      refine z_goto (tgt := 39) dX10_chosen_190 (by decide) ?_
      exact hyp
set_option maxRecDepth 20000 in
theorem bX10_chosen_74 {E : zE} (hE : isR E) {d : Nat} {x1 x2 x3 x4 x5 x6 x7 : Int} {h : zH} {K : Int → zH → Prop} (hyp :
  ((12 ≤ x7 →
    ((0 : Int) ≤ w32 ((w32 (12 * x5)) + x6) ∧ w32 ((w32 (12 * x5)) + x6) < (96 : Int)) ∧
    ((0 : Int) ≤ x5 ∧ x5 < (8 : Int)) ∧
    ∀ h_2 : zH, h_2 = hset h 39 (x5.toNat) (h 33 (w32 ((w32 (12 * x5)) + x6)).toNat) →
    ((0 : Int) ≤ x5 ∧ x5 < (8 : Int)) ∧
    ((x6 = (h_2 35 x5.toNat) →
      ∀ x_4 : Int, x_4 = w32 (x4 + 0) →
      ∀ x_5 : Int, x_5 = w32 (x5 + 1) →
      zG E mX10_chosen (d + 1) 39 [zR 0, zI x1, zI x2, zI x3, zI x_4, zI x_5, zU, zU] [] h_2 (qI K)) ∧
    (¬ (x6 = (h_2 35 x5.toNat)) →
      ∀ x_6 : Int, x_6 = w32 (x4 + 1) →
      ∀ x_7 : Int, x_7 = w32 (x5 + 1) →
      zG E mX10_chosen (d + 1) 39 [zR 0, zI x1, zI x2, zI x3, zI x_6, zI x_7, zU, zU] [] h_2 (qI K)))) ∧
  (¬ (12 ≤ x7) →
    zCI E mX10_isWell d [zR 0, zI x5, zI x7] h (fun r_8 h_8 =>
      ((r_8 = 0 →
        ∀ x_10 : Int, x_10 = w32 (x7 + 1) →
        zG E mX10_chosen (d + 1) 74 [zR 0, zI x1, zI x2, zI x3, zI x4, zI x5, zI x6, zI x_10] [] h_8 (qI K)) ∧
      (¬ (r_8 = 0) →
        ((x6 = (-1) →
          ∀ x_12 : Int, x_12 = w32 (x7 + 1) →
          zG E mX10_chosen (d + 1) 74 [zR 0, zI x1, zI x2, zI x3, zI x4, zI x5, zI x7, zI x_12] [] h_8 (qI K)) ∧
        (¬ (x6 = (-1)) →
          ((0 : Int) ≤ w32 ((w32 (12 * x5)) + x7) ∧ w32 ((w32 (12 * x5)) + x7) < (96 : Int)) ∧
          zCI E mX10_offBy d [zI (h_8 33 (w32 ((w32 (12 * x5)) + x7)).toNat), zI x3] h_8 (fun r_13 h_13 =>
            ((0 : Int) ≤ w32 ((w32 (12 * x5)) + x6) ∧ w32 ((w32 (12 * x5)) + x6) < (96 : Int)) ∧
            zCI E mX10_offBy d [zI (h_13 33 (w32 ((w32 (12 * x5)) + x6)).toNat), zI x3] h_13 (fun r_14 h_14 =>
              ((r_14 ≤ r_13 →
                ∀ x_16 : Int, x_16 = w32 (x7 + 1) →
                zG E mX10_chosen (d + 1) 74 [zR 0, zI x1, zI x2, zI x3, zI x4, zI x5, zI x6, zI x_16] [] h_14 (qI K)) ∧
              (¬ (r_14 ≤ r_13) →
                ∀ x_17 : Int, x_17 = w32 (x7 + 1) →
                zG E mX10_chosen (d + 1) 74 [zR 0, zI x1, zI x2, zI x3, zI x4, zI x5, zI x7, zI x_17] [] h_14 (qI K))))))))))))) :
  zG E mX10_chosen (d + 1) 74 [zR 0, zI x1, zI x2, zI x3, zI x4, zI x5, zI x6, zI x7] [] h (qI K) := by
  refine z_iload dX10_chosen_74 rfl ?_
  refine z_bipush dX10_chosen_76 (r32d rfl) (by decide) ?_
  refine z_icmp_ge (tgt := 145) dX10_chosen_78 (by decide) (fun c_1 => ?_) (fun c_1 => ?_)
  · have hyp := hyp.1 c_1
    refine z_aload_n dX10_chosen_145 rfl ?_
    refine gf_X10_144 (c2 := 39) dX10_chosen_146 rfl (sR_0 hE) (cR_0 hE) rfl ?_
    refine z_iload dX10_chosen_149 rfl ?_
    refine z_aload_n dX10_chosen_151 rfl ?_
    refine gf_X10_125 (c2 := 33) dX10_chosen_152 rfl (sR_0 hE) (cR_0 hE) rfl ?_
    refine z_bipush dX10_chosen_155 (r32d rfl) (by decide) ?_
    refine z_iload dX10_chosen_157 rfl ?_
    refine z_imul dX10_chosen_159 ?_
    refine z_iload dX10_chosen_160 rfl ?_
    refine z_iadd dX10_chosen_162 ?_
    obtain ⟨⟨hi0, hi1⟩, hyp⟩ := hyp
    refine z_iaload dX10_chosen_163 (sR_33 hE) (cR_33 hE) hi0 hi1 ?_
    obtain ⟨⟨hi0, hi1⟩, hyp⟩ := hyp
    refine z_iastore dX10_chosen_164 (sR_39 hE) (cR_39 hE) hi0 hi1 ?_
    generalize eh_2 : hset h 39 _ (h 33 (w32 ((w32 (12 * x5)) + x6)).toNat) = h_2
    have hyp := hyp h_2 eh_2.symm
    refine z_iload dX10_chosen_165 rfl ?_
    refine z_iload dX10_chosen_167 rfl ?_
    refine z_aload_n dX10_chosen_169 rfl ?_
    refine gf_X10_131 (c2 := 35) dX10_chosen_170 rfl (sR_0 hE) (cR_0 hE) rfl ?_
    refine z_iload dX10_chosen_173 rfl ?_
    obtain ⟨⟨hi0, hi1⟩, hyp⟩ := hyp
    refine z_iaload dX10_chosen_175 (sR_35 hE) (cR_35 hE) hi0 hi1 ?_
    refine z_icmp_eq (tgt := 183) dX10_chosen_176 (by decide) (fun c_3 => ?_) (fun c_3 => ?_)
    · have hyp := hyp.1 c_3
      refine z_iconst dX10_chosen_183 (r32d rfl) ?_
      refine z_iadd dX10_chosen_184 ?_
      generalize ex_4 : w32 (x4 + 0) = x_4
      have hyp := hyp x_4 ex_4.symm
      refine z_istore dX10_chosen_185 (by decide) rfl ?_
      refine z_iinc dX10_chosen_187 rfl (by decide) rfl ?_
      generalize ex_5 : w32 (x5 + 1) = x_5
      have hyp := hyp x_5 ex_5.symm
      refine z_goto (tgt := 39) dX10_chosen_190 (by decide) ?_
      exact z_forget [true, true, true, true, true, true, false, false] rfl hyp
    · have hyp := hyp.2 c_3
      refine z_iconst dX10_chosen_179 (r32d rfl) ?_
      refine z_goto (tgt := 184) dX10_chosen_180 (by decide) ?_
      refine z_iadd dX10_chosen_184 ?_
      generalize ex_6 : w32 (x4 + 1) = x_6
      have hyp := hyp x_6 ex_6.symm
      refine z_istore dX10_chosen_185 (by decide) rfl ?_
      refine z_iinc dX10_chosen_187 rfl (by decide) rfl ?_
      generalize ex_7 : w32 (x5 + 1) = x_7
      have hyp := hyp x_7 ex_7.symm
      refine z_goto (tgt := 39) dX10_chosen_190 (by decide) ?_
      exact z_forget [true, true, true, true, true, true, false, false] rfl hyp
  · have hyp := hyp.2 c_1
    refine z_aload_n dX10_chosen_81 rfl ?_
    refine z_iload dX10_chosen_82 rfl ?_
    refine z_iload dX10_chosen_84 rfl ?_
    refine cl_X10_449 dX10_chosen_86 rfl (sR_0 hE) (cR_0 hE) (Nat.le_of_ble_eq_true rfl) (zC_mono ?_ hyp)
    rintro _ h_8 ⟨r_8, rfl, hyp⟩
    refine ⟨r_8, rfl, ?_⟩
    refine z_if_eq (tgt := 139) dX10_chosen_89 (by decide) (fun c_9 => ?_) (fun c_9 => ?_)
    · have hyp := hyp.1 c_9
      refine z_iinc dX10_chosen_139 rfl (by decide) rfl ?_
      generalize ex_10 : w32 (x7 + 1) = x_10
      have hyp := hyp x_10 ex_10.symm
      refine z_goto (tgt := 74) dX10_chosen_142 (by decide) ?_
      exact hyp
    · have hyp := hyp.2 c_9
      refine z_iload dX10_chosen_92 rfl ?_
      refine z_iconst dX10_chosen_94 (r32d rfl) ?_
      refine z_icmp_eq (tgt := 135) dX10_chosen_95 (by decide) (fun c_11 => ?_) (fun c_11 => ?_)
      · have hyp := hyp.1 c_11
        refine z_iload dX10_chosen_135 rfl ?_
        refine z_istore dX10_chosen_137 (by decide) rfl ?_
        refine z_iinc dX10_chosen_139 rfl (by decide) rfl ?_
        generalize ex_12 : w32 (x7 + 1) = x_12
        have hyp := hyp x_12 ex_12.symm
        refine z_goto (tgt := 74) dX10_chosen_142 (by decide) ?_
        exact hyp
      · have hyp := hyp.2 c_11
        refine z_aload_n dX10_chosen_98 rfl ?_
        refine gf_X10_125 (c2 := 33) dX10_chosen_99 rfl (sR_0 hE) (cR_0 hE) rfl ?_
        refine z_bipush dX10_chosen_102 (r32d rfl) (by decide) ?_
        refine z_iload dX10_chosen_104 rfl ?_
        refine z_imul dX10_chosen_106 ?_
        refine z_iload dX10_chosen_107 rfl ?_
        refine z_iadd dX10_chosen_109 ?_
        obtain ⟨⟨hi0, hi1⟩, hyp⟩ := hyp
        refine z_iaload dX10_chosen_110 (sR_33 hE) (cR_33 hE) hi0 hi1 ?_
        refine z_iload_n dX10_chosen_111 rfl ?_
        refine cl_X10_466 dX10_chosen_112 rfl (Nat.le_of_ble_eq_true rfl) (zC_mono ?_ hyp)
        rintro _ h_13 ⟨r_13, rfl, hyp⟩
        refine ⟨r_13, rfl, ?_⟩
        refine z_aload_n dX10_chosen_115 rfl ?_
        refine gf_X10_125 (c2 := 33) dX10_chosen_116 rfl (sR_0 hE) (cR_0 hE) rfl ?_
        refine z_bipush dX10_chosen_119 (r32d rfl) (by decide) ?_
        refine z_iload dX10_chosen_121 rfl ?_
        refine z_imul dX10_chosen_123 ?_
        refine z_iload dX10_chosen_124 rfl ?_
        refine z_iadd dX10_chosen_126 ?_
        obtain ⟨⟨hi0, hi1⟩, hyp⟩ := hyp
        refine z_iaload dX10_chosen_127 (sR_33 hE) (cR_33 hE) hi0 hi1 ?_
        refine z_iload_n dX10_chosen_128 rfl ?_
        refine cl_X10_466 dX10_chosen_129 rfl (Nat.le_of_ble_eq_true rfl) (zC_mono ?_ hyp)
        rintro _ h_14 ⟨r_14, rfl, hyp⟩
        refine ⟨r_14, rfl, ?_⟩
        refine z_icmp_ge (tgt := 139) dX10_chosen_132 (by decide) (fun c_15 => ?_) (fun c_15 => ?_)
        · have hyp := hyp.1 c_15
          refine z_iinc dX10_chosen_139 rfl (by decide) rfl ?_
          generalize ex_16 : w32 (x7 + 1) = x_16
          have hyp := hyp x_16 ex_16.symm
          refine z_goto (tgt := 74) dX10_chosen_142 (by decide) ?_
          exact hyp
        · have hyp := hyp.2 c_15
          refine z_iload dX10_chosen_135 rfl ?_
          refine z_istore dX10_chosen_137 (by decide) rfl ?_
          refine z_iinc dX10_chosen_139 rfl (by decide) rfl ?_
          generalize ex_17 : w32 (x7 + 1) = x_17
          have hyp := hyp x_17 ex_17.symm
          refine z_goto (tgt := 74) dX10_chosen_142 (by decide) ?_
          exact hyp
set_option maxRecDepth 20000 in
theorem eX10_chosen {E : zE} (hE : isR E) {d : Nat} {x1 x2 : Int} {h : zH} {K : Int → zH → Prop} (hyp :
  ∀ h_1 : zH, h_1 = hset h 0 0 0 →
  zCI E mX10_isUnit d [zI x1] h_1 (fun r_2 h_2 =>
    ((r_2 = 0 →
      K (-1) h_2) ∧
    (¬ (r_2 = 0) →
      ((x2 < 0 →
        K (-1) h_2) ∧
      (¬ (x2 < 0) →
        ((x2 ≤ 1 →
          zCV E mX10_laid d [zR 0] h_2 (fun h_6 =>
            zCI E mX10_part d [zR 0, zI x1] h_6 (fun r_7 h_7 =>
              zG E mX10_chosen (d + 1) 39 [zR 0, zI x1, zI x2, zI r_7, zI 0, zI 0, zU, zU] [] h_7 (qI K)))) ∧
        (¬ (x2 ≤ 1) →
          K (-1) h_2)))))))) :
  zCI E mX10_chosen (d + 1) [zR 0, zI x1, zI x2] h K := by
  refine zC_in (L0 := [zR 0, zI x1, zI x2, zU, zU, zU, zU, zU]) pn_X10 rfl (Nat.le_of_ble_eq_true rfl) ?_
  refine z_aload_n dX10_chosen_0 rfl ?_
  refine z_iconst dX10_chosen_1 (r32d rfl) ?_
  refine pf_X10_153 dX10_chosen_2 rfl (sR_0 hE) (cR_0 hE) ?_
  generalize eh_1 : hset h 0 0 _ = h_1
  have hyp := hyp h_1 eh_1.symm
  refine z_iload_n dX10_chosen_5 rfl ?_
  refine cl_X10_460 dX10_chosen_6 rfl (Nat.le_of_ble_eq_true rfl) (zC_mono ?_ hyp)
  rintro _ h_2 ⟨r_2, rfl, hyp⟩
  refine ⟨r_2, rfl, ?_⟩
  refine z_if_eq (tgt := 21) dX10_chosen_9 (by decide) (fun c_3 => ?_) (fun c_3 => ?_)
  · have hyp := hyp.1 c_3
    refine z_iconst dX10_chosen_21 (r32d rfl) ?_
    exact z_iret dX10_chosen_22 rfl ⟨_, rfl, hyp⟩
  · have hyp := hyp.2 c_3
    refine z_iload_n dX10_chosen_12 rfl ?_
    refine z_if_lt (tgt := 21) dX10_chosen_13 (by decide) (fun c_4 => ?_) (fun c_4 => ?_)
    · have hyp := hyp.1 c_4
      refine z_iconst dX10_chosen_21 (r32d rfl) ?_
      exact z_iret dX10_chosen_22 rfl ⟨_, rfl, hyp⟩
    · have hyp := hyp.2 c_4
      refine z_iload_n dX10_chosen_16 rfl ?_
      refine z_iconst dX10_chosen_17 (r32d rfl) ?_
      refine z_icmp_le (tgt := 23) dX10_chosen_18 (by decide) (fun c_5 => ?_) (fun c_5 => ?_)
      · have hyp := hyp.1 c_5
        refine z_aload_n dX10_chosen_23 rfl ?_
        refine cl_X10_440 dX10_chosen_24 rfl (sR_0 hE) (cR_0 hE) (Nat.le_of_ble_eq_true rfl) (zC_mono ?_ hyp)
        rintro _ h_6 ⟨rfl, hyp⟩
        refine ⟨rfl, ?_⟩
        refine z_aload_n dX10_chosen_27 rfl ?_
        refine z_iload_n dX10_chosen_28 rfl ?_
        refine cl_X10_463 dX10_chosen_29 rfl (sR_0 hE) (cR_0 hE) (Nat.le_of_ble_eq_true rfl) (zC_mono ?_ hyp)
        rintro _ h_7 ⟨r_7, rfl, hyp⟩
        refine ⟨r_7, rfl, ?_⟩
        refine z_istore_n dX10_chosen_32 rfl (by decide) rfl ?_
        refine z_iconst dX10_chosen_33 (r32d rfl) ?_
        refine z_istore dX10_chosen_34 (by decide) rfl ?_
        refine z_iconst dX10_chosen_36 (r32d rfl) ?_
        refine z_istore dX10_chosen_37 (by decide) rfl ?_
        exact hyp
      · have hyp := hyp.2 c_5
        refine z_iconst dX10_chosen_21 (r32d rfl) ?_
        exact z_iret dX10_chosen_22 rfl ⟨_, rfl, hyp⟩
set_option maxRecDepth 20000 in
theorem bX10_common_9 {E : zE} (hE : isR E) {d : Nat} {y4 y6 : Int} {h : zH} {K : Int → zH → Prop} (hyp :
  ((y6 = 0 →
    K y4 h) ∧
  (¬ (y6 = 0) →
    ¬ y6 = 0 ∧
    ∀ y_2 : Int, y_2 = w64 (Int.tmod y4 y6) →
    zG E mX10_common d 9 [zU, zU, zU, zU, zJ y6, zU, zJ y_2, zU, zU, zU] [] h (qJ K)))) :
  zG E mX10_common d 9 [zU, zU, zU, zU, zJ y4, zU, zJ y6, zU, zU, zU] [] h (qJ K) := by
  refine z_lload dX10_common_9 rfl ?_
  refine z_lconst (x := 0) dX10_common_11 (by decide) (r64d rfl) ?_
  refine z_lc_eq (tgt := 34) dX10_common_12 dX10_common_13 (by decide) (fun c_1 => ?_) (fun c_1 => ?_)
  · have hyp := hyp.1 c_1
    refine z_lload dX10_common_34 rfl ?_
    exact z_lret dX10_common_36 rfl ⟨_, rfl, hyp⟩
  · have hyp := hyp.2 c_1
    refine z_lload dX10_common_16 rfl ?_
    refine z_lload dX10_common_18 rfl ?_
    obtain ⟨hz, hyp⟩ := hyp
    refine z_lrem hz dX10_common_20 ?_
    generalize ey_2 : w64 (Int.tmod y4 y6) = y_2
    have hyp := hyp y_2 ey_2.symm
    refine z_lstore dX10_common_21 (by decide) rfl ?_
    refine z_lload dX10_common_23 rfl ?_
    refine z_lstore dX10_common_25 (by decide) rfl ?_
    refine z_lload dX10_common_27 rfl ?_
    refine z_lstore dX10_common_29 (by decide) rfl ?_
    refine z_goto (tgt := 9) dX10_common_31 (by decide) ?_
    exact z_forget [false, false, false, false, true, false, true, false, false, false] rfl hyp
set_option maxRecDepth 20000 in
theorem eX10_common {E : zE} (hE : isR E) {d : Nat} {y0 y2 : Int} {h : zH} {K : Int → zH → Prop} (hyp :
  ∀ y_1 : Int, y_1 = zabsJ y0 →
  zG E mX10_common d 9 [zU, zU, zU, zU, zJ y_1, zU, zJ y2, zU, zU, zU] [] h (qJ K)) :
  zCJ E mX10_common d [zJ y0, zJ y2] h K := by
  refine zC_in (L0 := [zJ y0, zU, zJ y2, zU, zU, zU, zU, zU, zU, zU]) pn_X10 rfl (Nat.le_of_ble_eq_true rfl) ?_
  refine z_lload_n dX10_common_0 rfl ?_
  refine cl_X10_479 dX10_common_1 rfl (Nat.le_of_ble_eq_true rfl) ?_
  generalize ey_1 : zabsJ y0 = y_1
  have hyp := hyp y_1 ey_1.symm
  refine z_lstore dX10_common_4 (by decide) rfl ?_
  refine z_lload_n dX10_common_6 rfl ?_
  refine z_lstore dX10_common_7 (by decide) rfl ?_
  exact z_forget [false, false, false, false, true, false, true, false, false, false] rfl hyp
set_option maxRecDepth 20000 in
theorem bX10_conjunction_4 {E : zE} (hE : isR E) {d : Nat} {h : zH} {K : zH → Prop} (hyp :
  zCI E mX10_isWord d [zR 0, zI 13] h (fun r_1 h_1 =>
    ((r_1 = 0 →
      K h_1) ∧
    (¬ (r_1 = 0) →
      zCV E mX10_knot d [zR 0] h_1 (fun h_3 =>
        zCV E mX10_goOn d [zR 0] h_3 (fun h_4 =>
          zCV E mX10_negation d [zR 0] h_4 (fun h_5 =>
            zCV E mX10_puts d [zR 0, zI 2, zI 261] h_5 (fun h_6 =>
              zG E mX10_conjunction (d + 1) 4 [zR 0] [] h_6 (qV K))))))))) :
  zG E mX10_conjunction (d + 1) 4 [zR 0] [] h (qV K) := by
  refine z_aload_n dX10_conjunction_4 rfl ?_
  refine z_bipush dX10_conjunction_5 (r32d rfl) (by decide) ?_
  refine cl_X10_279 dX10_conjunction_7 rfl (sR_0 hE) (cR_0 hE) (Nat.le_of_ble_eq_true rfl) (zC_mono ?_ hyp)
  rintro _ h_1 ⟨r_1, rfl, hyp⟩
  refine ⟨r_1, rfl, ?_⟩
  refine z_if_eq (tgt := 36) dX10_conjunction_10 (by decide) (fun c_2 => ?_) (fun c_2 => ?_)
  · have hyp := hyp.1 c_2
    exact z_vret dX10_conjunction_36 rfl ⟨rfl, hyp⟩
  · have hyp := hyp.2 c_2
    refine z_aload_n dX10_conjunction_13 rfl ?_
    refine cl_X10_306 dX10_conjunction_14 rfl (sR_0 hE) (cR_0 hE) (Nat.le_of_ble_eq_true rfl) (zC_mono ?_ hyp)
    rintro _ h_3 ⟨rfl, hyp⟩
    refine ⟨rfl, ?_⟩
    refine z_aload_n dX10_conjunction_17 rfl ?_
    refine cl_X10_282 dX10_conjunction_18 rfl (sR_0 hE) (cR_0 hE) (Nat.le_of_ble_eq_true rfl) (zC_mono ?_ hyp)
    rintro _ h_4 ⟨rfl, hyp⟩
    refine ⟨rfl, ?_⟩
    refine z_aload_n dX10_conjunction_21 rfl ?_
    refine cl_X10_313 dX10_conjunction_22 rfl (sR_0 hE) (cR_0 hE) (Nat.le_of_ble_eq_true rfl) (zC_mono ?_ hyp)
    rintro _ h_5 ⟨rfl, hyp⟩
    refine ⟨rfl, ?_⟩
    refine z_aload_n dX10_conjunction_25 rfl ?_
    refine z_iconst dX10_conjunction_26 (r32d rfl) ?_
    refine z_sipush dX10_conjunction_27 (r32d rfl) (by decide) ?_
    refine cl_X10_309 dX10_conjunction_30 rfl (sR_0 hE) (cR_0 hE) (Nat.le_of_ble_eq_true rfl) (zC_mono ?_ hyp)
    rintro _ h_6 ⟨rfl, hyp⟩
    refine ⟨rfl, ?_⟩
    refine z_goto (tgt := 4) dX10_conjunction_33 (by decide) ?_
    exact hyp
set_option maxRecDepth 20000 in
theorem eX10_conjunction {E : zE} (hE : isR E) {d : Nat} {h : zH} {K : zH → Prop} (hyp :
  zCV E mX10_negation d [zR 0] h (fun h_1 =>
    zG E mX10_conjunction (d + 1) 4 [zR 0] [] h_1 (qV K))) :
  zCV E mX10_conjunction (d + 1) [zR 0] h K := by
  refine zC_in (L0 := [zR 0]) pn_X10 rfl (Nat.le_of_ble_eq_true rfl) ?_
  refine z_aload_n dX10_conjunction_0 rfl ?_
  refine cl_X10_313 dX10_conjunction_1 rfl (sR_0 hE) (cR_0 hE) (Nat.le_of_ble_eq_true rfl) (zC_mono ?_ hyp)
  rintro _ h_1 ⟨rfl, hyp⟩
  refine ⟨rfl, ?_⟩
  exact hyp
set_option maxRecDepth 20000 in
theorem eX10_count {E : zE} (hE : isR E) {d : Nat} {x1 : Int} {h : zH} {K : Int → zH → Prop} (hyp :
  ∀ h_1 : zH, h_1 = hset h 0 0 0 →
  ((x1 = 0) →
      K (h_1 0 23) h_1) ∧
  ((x1 = 1) →
      K (h_1 0 24) h_1) ∧
  ((x1 = 2) →
      K (h_1 0 25) h_1) ∧
  ((x1 = 3) →
      K (h_1 0 26) h_1) ∧
  ((x1 = 4) →
      K (h_1 0 27) h_1) ∧
  ((x1 = 5) →
      K (h_1 0 54) h_1) ∧
  ((x1 = 6) →
      zCI E mX10_knownNotes d [zR 0] h_1 (fun r_9 h_9 =>
        K r_9 h_9)) ∧
  ((x1 = 7) →
      K (h_1 0 28) h_1) ∧
  ((x1 = 8) →
      K (h_1 0 29) h_1) ∧
  ((x1 = 9) →
      K (h_1 0 30) h_1) ∧
  ((x1 = 10) →
      K (h_1 0 31) h_1) ∧
  ((x1 = 11) →
      K (h_1 0 56) h_1) ∧
  ((x1 = 12) →
      (((h_1 0 57) = 0 →
        K 0 h_1) ∧
      (¬ ((h_1 0 57) = 0) →
        K 1 h_1))) ∧
  ((x1 = 13) →
      zCV E mX10_laid d [zR 0] h_1 (fun h_18 =>
        zCV E mX10_reckon d [zR 0, zI (-1), zI (-1)] h_18 (fun h_19 =>
          zCI E mX10_reckonedMany d [zR 0] h_19 (fun r_20 h_20 =>
            K r_20 h_20)))) ∧
  ((x1 ≠ 0 ∧ x1 ≠ 1 ∧ x1 ≠ 2 ∧ x1 ≠ 3 ∧ x1 ≠ 4 ∧ x1 ≠ 5 ∧ x1 ≠ 6 ∧ x1 ≠ 7 ∧ x1 ≠ 8 ∧ x1 ≠ 9 ∧ x1 ≠ 10 ∧ x1 ≠ 11 ∧ x1 ≠ 12 ∧ x1 ≠ 13) →
    K (-1) h_1)) :
  zCI E mX10_count (d + 1) [zR 0, zI x1] h K := by
  refine zC_in (L0 := [zR 0, zI x1]) pn_X10 rfl (Nat.le_of_ble_eq_true rfl) ?_
  refine z_aload_n dX10_count_0 rfl ?_
  refine z_iconst dX10_count_1 (r32d rfl) ?_
  refine pf_X10_153 dX10_count_2 rfl (sR_0 hE) (cR_0 hE) ?_
  generalize eh_1 : hset h 0 0 _ = h_1
  have hyp := hyp h_1 eh_1.symm
  refine z_iload_n dX10_count_5 rfl ?_
  have hgo : (x1 ≠ 0 ∧ x1 ≠ 1 ∧ x1 ≠ 2 ∧ x1 ≠ 3 ∧ x1 ≠ 4 ∧ x1 ≠ 5 ∧ x1 ≠ 6 ∧ x1 ≠ 7 ∧ x1 ≠ 8 ∧ x1 ≠ 9 ∧ x1 ≠ 10 ∧ x1 ≠ 11 ∧ x1 ≠ 12 ∧ x1 ≠ 13) → zG E mX10_count (d + 1) 152 [zR 0, zI x1] [] h_1 (qI K) := by
    intro hcc
    have hyp := hyp.2.2.2.2.2.2.2.2.2.2.2.2.2.2 hcc
    refine z_iconst dX10_count_152 (r32d rfl) ?_
    exact z_iret dX10_count_153 rfl ⟨_, rfl, hyp⟩
  by_cases cr : x1 < 0 ∨ 13 < x1
  · exact z_tsOut (tgt := 152) dX10_count_6 cr (by decide) (hgo ⟨tsne cr (by decide) (by decide), tsne cr (by decide) (by decide), tsne cr (by decide) (by decide), tsne cr (by decide) (by decide), tsne cr (by decide) (by decide), tsne cr (by decide) (by decide), tsne cr (by decide) (by decide), tsne cr (by decide) (by decide), tsne cr (by decide) (by decide), tsne cr (by decide) (by decide), tsne cr (by decide) (by decide), tsne cr (by decide) (by decide), tsne cr (by decide) (by decide), tsne cr (by decide) (by decide)⟩)
  by_cases c_2 : x1 = 0
  · have hyp := hyp.1 c_2
    have hgo : zG E mX10_count (d + 1) 76 [zR 0, zI x1] [] h_1 (qI K) := by
      refine z_aload_n dX10_count_76 rfl ?_
      refine gf_X10_337 dX10_count_77 rfl (sR_0 hE) (cR_0 hE) ?_
      exact z_iret dX10_count_80 rfl ⟨_, rfl, hyp⟩
    exact z_tsIn (i := 0) (tgt := 76) dX10_count_6 (c_2.trans (by decide)) (by decide) rfl (by decide) hgo
  by_cases c_3 : x1 = 1
  · have hyp := hyp.2.1 c_3
    have hgo : zG E mX10_count (d + 1) 81 [zR 0, zI x1] [] h_1 (qI K) := by
      refine z_aload_n dX10_count_81 rfl ?_
      refine gf_X10_340 dX10_count_82 rfl (sR_0 hE) (cR_0 hE) ?_
      exact z_iret dX10_count_85 rfl ⟨_, rfl, hyp⟩
    exact z_tsIn (i := 1) (tgt := 81) dX10_count_6 (c_3.trans (by decide)) (by decide) rfl (by decide) hgo
  by_cases c_4 : x1 = 2
  · have hyp := hyp.2.2.1 c_4
    have hgo : zG E mX10_count (d + 1) 86 [zR 0, zI x1] [] h_1 (qI K) := by
      refine z_aload_n dX10_count_86 rfl ?_
      refine gf_X10_343 dX10_count_87 rfl (sR_0 hE) (cR_0 hE) ?_
      exact z_iret dX10_count_90 rfl ⟨_, rfl, hyp⟩
    exact z_tsIn (i := 2) (tgt := 86) dX10_count_6 (c_4.trans (by decide)) (by decide) rfl (by decide) hgo
  by_cases c_5 : x1 = 3
  · have hyp := hyp.2.2.2.1 c_5
    have hgo : zG E mX10_count (d + 1) 91 [zR 0, zI x1] [] h_1 (qI K) := by
      refine z_aload_n dX10_count_91 rfl ?_
      refine gf_X10_346 dX10_count_92 rfl (sR_0 hE) (cR_0 hE) ?_
      exact z_iret dX10_count_95 rfl ⟨_, rfl, hyp⟩
    exact z_tsIn (i := 3) (tgt := 91) dX10_count_6 (c_5.trans (by decide)) (by decide) rfl (by decide) hgo
  by_cases c_6 : x1 = 4
  · have hyp := hyp.2.2.2.2.1 c_6
    have hgo : zG E mX10_count (d + 1) 96 [zR 0, zI x1] [] h_1 (qI K) := by
      refine z_aload_n dX10_count_96 rfl ?_
      refine gf_X10_349 dX10_count_97 rfl (sR_0 hE) (cR_0 hE) ?_
      exact z_iret dX10_count_100 rfl ⟨_, rfl, hyp⟩
    exact z_tsIn (i := 4) (tgt := 96) dX10_count_6 (c_6.trans (by decide)) (by decide) rfl (by decide) hgo
  by_cases c_7 : x1 = 5
  · have hyp := hyp.2.2.2.2.2.1 c_7
    have hgo : zG E mX10_count (d + 1) 101 [zR 0, zI x1] [] h_1 (qI K) := by
      refine z_aload_n dX10_count_101 rfl ?_
      refine gf_X10_355 dX10_count_102 rfl (sR_0 hE) (cR_0 hE) ?_
      exact z_iret dX10_count_105 rfl ⟨_, rfl, hyp⟩
    exact z_tsIn (i := 5) (tgt := 101) dX10_count_6 (c_7.trans (by decide)) (by decide) rfl (by decide) hgo
  by_cases c_8 : x1 = 6
  · have hyp := hyp.2.2.2.2.2.2.1 c_8
    have hgo : zG E mX10_count (d + 1) 106 [zR 0, zI x1] [] h_1 (qI K) := by
      refine z_aload_n dX10_count_106 rfl ?_
      refine cl_X10_379 dX10_count_107 rfl (sR_0 hE) (cR_0 hE) (Nat.le_of_ble_eq_true rfl) (zC_mono ?_ hyp)
      rintro _ h_9 ⟨r_9, rfl, hyp⟩
      refine ⟨r_9, rfl, ?_⟩
      exact z_iret dX10_count_110 rfl ⟨_, rfl, hyp⟩
    exact z_tsIn (i := 6) (tgt := 106) dX10_count_6 (c_8.trans (by decide)) (by decide) rfl (by decide) hgo
  by_cases c_10 : x1 = 7
  · have hyp := hyp.2.2.2.2.2.2.2.1 c_10
    have hgo : zG E mX10_count (d + 1) 111 [zR 0, zI x1] [] h_1 (qI K) := by
      refine z_aload_n dX10_count_111 rfl ?_
      refine gf_X10_352 dX10_count_112 rfl (sR_0 hE) (cR_0 hE) ?_
      exact z_iret dX10_count_115 rfl ⟨_, rfl, hyp⟩
    exact z_tsIn (i := 7) (tgt := 111) dX10_count_6 (c_10.trans (by decide)) (by decide) rfl (by decide) hgo
  by_cases c_11 : x1 = 8
  · have hyp := hyp.2.2.2.2.2.2.2.2.1 c_11
    have hgo : zG E mX10_count (d + 1) 116 [zR 0, zI x1] [] h_1 (qI K) := by
      refine z_aload_n dX10_count_116 rfl ?_
      refine gf_X10_76 dX10_count_117 rfl (sR_0 hE) (cR_0 hE) ?_
      exact z_iret dX10_count_120 rfl ⟨_, rfl, hyp⟩
    exact z_tsIn (i := 8) (tgt := 116) dX10_count_6 (c_11.trans (by decide)) (by decide) rfl (by decide) hgo
  by_cases c_12 : x1 = 9
  · have hyp := hyp.2.2.2.2.2.2.2.2.2.1 c_12
    have hgo : zG E mX10_count (d + 1) 121 [zR 0, zI x1] [] h_1 (qI K) := by
      refine z_aload_n dX10_count_121 rfl ?_
      refine gf_X10_80 dX10_count_122 rfl (sR_0 hE) (cR_0 hE) ?_
      exact z_iret dX10_count_125 rfl ⟨_, rfl, hyp⟩
    exact z_tsIn (i := 9) (tgt := 121) dX10_count_6 (c_12.trans (by decide)) (by decide) rfl (by decide) hgo
  by_cases c_13 : x1 = 10
  · have hyp := hyp.2.2.2.2.2.2.2.2.2.2.1 c_13
    have hgo : zG E mX10_count (d + 1) 126 [zR 0, zI x1] [] h_1 (qI K) := by
      refine z_aload_n dX10_count_126 rfl ?_
      refine gf_X10_83 dX10_count_127 rfl (sR_0 hE) (cR_0 hE) ?_
      exact z_iret dX10_count_130 rfl ⟨_, rfl, hyp⟩
    exact z_tsIn (i := 10) (tgt := 126) dX10_count_6 (c_13.trans (by decide)) (by decide) rfl (by decide) hgo
  by_cases c_14 : x1 = 11
  · have hyp := hyp.2.2.2.2.2.2.2.2.2.2.2.1 c_14
    have hgo : zG E mX10_count (d + 1) 131 [zR 0, zI x1] [] h_1 (qI K) := by
      refine z_aload_n dX10_count_131 rfl ?_
      refine gf_X10_373 dX10_count_132 rfl (sR_0 hE) (cR_0 hE) ?_
      exact z_iret dX10_count_135 rfl ⟨_, rfl, hyp⟩
    exact z_tsIn (i := 11) (tgt := 131) dX10_count_6 (c_14.trans (by decide)) (by decide) rfl (by decide) hgo
  by_cases c_15 : x1 = 12
  · have hyp := hyp.2.2.2.2.2.2.2.2.2.2.2.2.1 c_15
    have hgo : zG E mX10_count (d + 1) 136 [zR 0, zI x1] [] h_1 (qI K) := by
      refine z_aload_n dX10_count_136 rfl ?_
      refine gf_X10_376 dX10_count_137 rfl (sR_0 hE) (cR_0 hE) ?_
      refine z_if_eq (tgt := 147) dX10_count_140 (by decide) (fun c_16 => ?_) (fun c_16 => ?_)
      · have hyp := hyp.1 c_16
        refine z_iconst dX10_count_147 (r32d rfl) ?_
        exact z_iret dX10_count_148 rfl ⟨_, rfl, hyp⟩
      · have hyp := hyp.2 c_16
        refine z_iconst dX10_count_143 (r32d rfl) ?_
        refine z_goto (tgt := 148) dX10_count_144 (by decide) ?_
        exact z_iret dX10_count_148 rfl ⟨_, rfl, hyp⟩
    exact z_tsIn (i := 12) (tgt := 136) dX10_count_6 (c_15.trans (by decide)) (by decide) rfl (by decide) hgo
  by_cases c_17 : x1 = 13
  · have hyp := hyp.2.2.2.2.2.2.2.2.2.2.2.2.2.1 c_17
    have hgo : zG E mX10_count (d + 1) 149 [zR 0, zI x1] [] h_1 (qI K) := by
      refine z_goto (tgt := 154) dX10_count_149 (by decide) ?_
      refine z_aload_n dX10_count_154 rfl ?_
      refine cl_X10_440 dX10_count_155 rfl (sR_0 hE) (cR_0 hE) (Nat.le_of_ble_eq_true rfl) (zC_mono ?_ hyp)
      rintro _ h_18 ⟨rfl, hyp⟩
      refine ⟨rfl, ?_⟩
      refine z_aload_n dX10_count_158 rfl ?_
      refine z_iconst dX10_count_159 (r32d rfl) ?_
      refine z_iconst dX10_count_160 (r32d rfl) ?_
      refine cl_X10_493 dX10_count_161 rfl (sR_0 hE) (cR_0 hE) (Nat.le_of_ble_eq_true rfl) (zC_mono ?_ hyp)
      rintro _ h_19 ⟨rfl, hyp⟩
      refine ⟨rfl, ?_⟩
      refine z_aload_n dX10_count_164 rfl ?_
      refine cl_X10_507 dX10_count_165 rfl (sR_0 hE) (cR_0 hE) (Nat.le_of_ble_eq_true rfl) (zC_mono ?_ hyp)
      rintro _ h_20 ⟨r_20, rfl, hyp⟩
      refine ⟨r_20, rfl, ?_⟩
      exact z_iret dX10_count_168 rfl ⟨_, rfl, hyp⟩
    exact z_tsIn (i := 13) (tgt := 149) dX10_count_6 (c_17.trans (by decide)) (by decide) rfl (by decide) hgo
  exact absurd (tsbs (tsbs (tsbs (tsbs (tsbs (tsbs (tsbs (tsbs (tsbs (tsbs (tsbs (tsbs (tsbs (tsbs (tsb1 cr) c_2) c_3) c_4) c_5) c_6) c_7) c_8) c_10) c_11) c_12) c_13) c_14) c_15) c_17) (tsb2 cr)
set_option maxRecDepth 20000 in
theorem bX10_expression_4 {E : zE} (hE : isR E) {d : Nat} {h : zH} {K : zH → Prop} (hyp :
  zCI E mX10_isWord d [zR 0, zI 12] h (fun r_1 h_1 =>
    ((r_1 = 0 →
      K h_1) ∧
    (¬ (r_1 = 0) →
      zCV E mX10_knot d [zR 0] h_1 (fun h_3 =>
        zCV E mX10_goOn d [zR 0] h_3 (fun h_4 =>
          zCV E mX10_conjunction d [zR 0] h_4 (fun h_5 =>
            zCV E mX10_puts d [zR 0, zI 2, zI 262] h_5 (fun h_6 =>
              zG E mX10_expression (d + 1) 4 [zR 0] [] h_6 (qV K))))))))) :
  zG E mX10_expression (d + 1) 4 [zR 0] [] h (qV K) := by
  refine z_aload_n dX10_expression_4 rfl ?_
  refine z_bipush dX10_expression_5 (r32d rfl) (by decide) ?_
  refine cl_X10_279 dX10_expression_7 rfl (sR_0 hE) (cR_0 hE) (Nat.le_of_ble_eq_true rfl) (zC_mono ?_ hyp)
  rintro _ h_1 ⟨r_1, rfl, hyp⟩
  refine ⟨r_1, rfl, ?_⟩
  refine z_if_eq (tgt := 36) dX10_expression_10 (by decide) (fun c_2 => ?_) (fun c_2 => ?_)
  · have hyp := hyp.1 c_2
    exact z_vret dX10_expression_36 rfl ⟨rfl, hyp⟩
  · have hyp := hyp.2 c_2
    refine z_aload_n dX10_expression_13 rfl ?_
    refine cl_X10_306 dX10_expression_14 rfl (sR_0 hE) (cR_0 hE) (Nat.le_of_ble_eq_true rfl) (zC_mono ?_ hyp)
    rintro _ h_3 ⟨rfl, hyp⟩
    refine ⟨rfl, ?_⟩
    refine z_aload_n dX10_expression_17 rfl ?_
    refine cl_X10_282 dX10_expression_18 rfl (sR_0 hE) (cR_0 hE) (Nat.le_of_ble_eq_true rfl) (zC_mono ?_ hyp)
    rintro _ h_4 ⟨rfl, hyp⟩
    refine ⟨rfl, ?_⟩
    refine z_aload_n dX10_expression_21 rfl ?_
    refine cl_X10_303 dX10_expression_22 rfl (sR_0 hE) (cR_0 hE) (Nat.le_of_ble_eq_true rfl) (zC_mono ?_ hyp)
    rintro _ h_5 ⟨rfl, hyp⟩
    refine ⟨rfl, ?_⟩
    refine z_aload_n dX10_expression_25 rfl ?_
    refine z_iconst dX10_expression_26 (r32d rfl) ?_
    refine z_sipush dX10_expression_27 (r32d rfl) (by decide) ?_
    refine cl_X10_309 dX10_expression_30 rfl (sR_0 hE) (cR_0 hE) (Nat.le_of_ble_eq_true rfl) (zC_mono ?_ hyp)
    rintro _ h_6 ⟨rfl, hyp⟩
    refine ⟨rfl, ?_⟩
    refine z_goto (tgt := 4) dX10_expression_33 (by decide) ?_
    exact hyp
set_option maxRecDepth 20000 in
theorem eX10_expression {E : zE} (hE : isR E) {d : Nat} {h : zH} {K : zH → Prop} (hyp :
  zCV E mX10_conjunction d [zR 0] h (fun h_1 =>
    zG E mX10_expression (d + 1) 4 [zR 0] [] h_1 (qV K))) :
  zCV E mX10_expression (d + 1) [zR 0] h K := by
  refine zC_in (L0 := [zR 0]) pn_X10 rfl (Nat.le_of_ble_eq_true rfl) ?_
  refine z_aload_n dX10_expression_0 rfl ?_
  refine cl_X10_303 dX10_expression_1 rfl (sR_0 hE) (cR_0 hE) (Nat.le_of_ble_eq_true rfl) (zC_mono ?_ hyp)
  rintro _ h_1 ⟨rfl, hyp⟩
  refine ⟨rfl, ?_⟩
  exact hyp
set_option maxRecDepth 20000 in
theorem eX10_fault {E : zE} (hE : isR E) {d : Nat} {x1 : Int} {h : zH} {K : Int → zH → Prop} (hyp :
  ∀ h_1 : zH, h_1 = hset h 0 0 0 →
  ((x1 ≠ 0 →
    ((x1 ≠ 1 →
      K (-1) h_1) ∧
    (¬ (x1 ≠ 1) →
      K (h_1 0 52) h_1))) ∧
  (¬ (x1 ≠ 0) →
    K (h_1 0 51) h_1))) :
  zCI E mX10_fault d [zR 0, zI x1] h K := by
  refine zC_in (L0 := [zR 0, zI x1]) pn_X10 rfl (Nat.le_of_ble_eq_true rfl) ?_
  refine z_aload_n dX10_fault_0 rfl ?_
  refine z_iconst dX10_fault_1 (r32d rfl) ?_
  refine pf_X10_153 dX10_fault_2 rfl (sR_0 hE) (cR_0 hE) ?_
  generalize eh_1 : hset h 0 0 _ = h_1
  have hyp := hyp h_1 eh_1.symm
  refine z_iload_n dX10_fault_5 rfl ?_
  refine z_if_ne (tgt := 16) dX10_fault_6 (by decide) (fun c_2 => ?_) (fun c_2 => ?_)
  · have hyp := hyp.1 c_2
    refine z_iload_n dX10_fault_16 rfl ?_
    refine z_iconst dX10_fault_17 (r32d rfl) ?_
    refine z_icmp_ne (tgt := 28) dX10_fault_18 (by decide) (fun c_3 => ?_) (fun c_3 => ?_)
    · have hyp := hyp.1 c_3
      refine z_iconst dX10_fault_28 (r32d rfl) ?_
      exact z_iret dX10_fault_29 rfl ⟨_, rfl, hyp⟩
    · have hyp := hyp.2 c_3
      refine z_aload_n dX10_fault_21 rfl ?_
      refine gf_X10_86 dX10_fault_22 rfl (sR_0 hE) (cR_0 hE) ?_
      refine z_goto (tgt := 29) dX10_fault_25 (by decide) ?_
      exact z_iret dX10_fault_29 rfl ⟨_, rfl, hyp⟩
  · have hyp := hyp.2 c_2
    refine z_aload_n dX10_fault_9 rfl ?_
    refine gf_X10_331 dX10_fault_10 rfl (sR_0 hE) (cR_0 hE) ?_
    refine z_goto (tgt := 29) dX10_fault_13 (by decide) ?_
    exact z_iret dX10_fault_29 rfl ⟨_, rfl, hyp⟩
set_option maxRecDepth 20000 in
theorem bX10_feed_20 {E : zE} (hE : isR E) {d : Nat} {x1 x2 x3 x4 x5 x6 : Int} {h : zH} {K : Int → zH → Prop} (hyp :
  ((20 ≤ x6 →
    ∀ h_2 : zH, h_2 = hset h 0 2 (w32 ((h 0 2) + 20)) →
    K (h_2 0 2) h_2) ∧
  (¬ (20 ≤ x6) →
    ((4 ≤ x6 →
      ((8 ≤ x6 →
        ((12 ≤ x6 →
          ((16 ≤ x6 →
            zG E mX10_feed d 73 [zR 0, zI x1, zI x2, zI x3, zI x4, zI x5, zI x6, zU] [zI x5] h (qI K)) ∧
          (¬ (16 ≤ x6) →
            zG E mX10_feed d 73 [zR 0, zI x1, zI x2, zI x3, zI x4, zI x5, zI x6, zU] [zI x4] h (qI K)))) ∧
        (¬ (12 ≤ x6) →
          zG E mX10_feed d 73 [zR 0, zI x1, zI x2, zI x3, zI x4, zI x5, zI x6, zU] [zI x3] h (qI K)))) ∧
      (¬ (8 ≤ x6) →
        zG E mX10_feed d 73 [zR 0, zI x1, zI x2, zI x3, zI x4, zI x5, zI x6, zU] [zI x2] h (qI K)))) ∧
    (¬ (4 ≤ x6) →
      zG E mX10_feed d 73 [zR 0, zI x1, zI x2, zI x3, zI x4, zI x5, zI x6, zU] [zI x1] h (qI K)))))) :
  zG E mX10_feed d 20 [zR 0, zI x1, zI x2, zI x3, zI x4, zI x5, zI x6, zU] [] h (qI K) := by
  refine z_iload dX10_feed_20 rfl ?_
  refine z_bipush dX10_feed_22 (r32d rfl) (by decide) ?_
  refine z_icmp_ge (tgt := 110) dX10_feed_24 (by decide) (fun c_1 => ?_) (fun c_1 => ?_)
  · have hyp := hyp.1 c_1
    refine z_aload_n dX10_feed_110 rfl ?_
    refine z_dup dX10_feed_111 rfl ?_
    refine gf_X10_156 dX10_feed_112 rfl (sR_0 hE) (cR_0 hE) ?_
    refine z_bipush dX10_feed_115 (r32d rfl) (by decide) ?_
    refine z_iadd dX10_feed_117 ?_
    refine pf_X10_156 dX10_feed_118 rfl (sR_0 hE) (cR_0 hE) ?_
    generalize eh_2 : hset h 0 2 _ = h_2
    have hyp := hyp h_2 eh_2.symm
    refine z_aload_n dX10_feed_121 rfl ?_
    refine gf_X10_156 dX10_feed_122 rfl (sR_0 hE) (cR_0 hE) ?_
    exact z_iret dX10_feed_125 rfl ⟨_, rfl, hyp⟩
  · have hyp := hyp.2 c_1
    refine z_iload dX10_feed_27 rfl ?_
    refine z_iconst dX10_feed_29 (r32d rfl) ?_
    refine z_icmp_ge (tgt := 37) dX10_feed_30 (by decide) (fun c_3 => ?_) (fun c_3 => ?_)
    · have hyp := hyp.1 c_3
      refine z_iload dX10_feed_37 rfl ?_
      refine z_bipush dX10_feed_39 (r32d rfl) (by decide) ?_
      refine z_icmp_ge (tgt := 48) dX10_feed_41 (by decide) (fun c_4 => ?_) (fun c_4 => ?_)
      · have hyp := hyp.1 c_4
        refine z_iload dX10_feed_48 rfl ?_
        refine z_bipush dX10_feed_50 (r32d rfl) (by decide) ?_
        refine z_icmp_ge (tgt := 59) dX10_feed_52 (by decide) (fun c_5 => ?_) (fun c_5 => ?_)
        · have hyp := hyp.1 c_5
          refine z_iload dX10_feed_59 rfl ?_
          refine z_bipush dX10_feed_61 (r32d rfl) (by decide) ?_
          refine z_icmp_ge (tgt := 71) dX10_feed_63 (by decide) (fun c_6 => ?_) (fun c_6 => ?_)
          · have hyp := hyp.1 c_6
            refine z_iload dX10_feed_71 rfl ?_
            exact hyp
          · have hyp := hyp.2 c_6
            refine z_iload dX10_feed_66 rfl ?_
            refine z_goto (tgt := 73) dX10_feed_68 (by decide) ?_
            exact hyp
        · have hyp := hyp.2 c_5
          refine z_iload_n dX10_feed_55 rfl ?_
          refine z_goto (tgt := 73) dX10_feed_56 (by decide) ?_
          exact hyp
      · have hyp := hyp.2 c_4
        refine z_iload_n dX10_feed_44 rfl ?_
        refine z_goto (tgt := 73) dX10_feed_45 (by decide) ?_
        exact hyp
    · have hyp := hyp.2 c_3
      refine z_iload_n dX10_feed_33 rfl ?_
      refine z_goto (tgt := 73) dX10_feed_34 (by decide) ?_
      exact hyp
set_option maxRecDepth 20000 in
theorem bX10_feed_73 {E : zE} (hE : isR E) {d : Nat} {x1 x2 x3 x4 x5 x6 s0 : Int} {h : zH} {K : Int → zH → Prop} (hyp :
  ((0 : Int) ≤ w32 ((h 0 2) + x6) ∧ w32 ((h 0 2) + x6) < (900 : Int)) ∧
  ∀ h_1 : zH, h_1 = hset h 1 ((w32 ((h 0 2) + x6)).toNat) (zand (zshr s0 (w32 (24 - (w32 (8 * (w32 (Int.tmod x6 4))))))) 255) →
  ∀ x_2 : Int, x_2 = w32 (x6 + 1) →
  zG E mX10_feed d 20 [zR 0, zI x1, zI x2, zI x3, zI x4, zI x5, zI x_2, zU] [] h_1 (qI K)) :
  zG E mX10_feed d 73 [zR 0, zI x1, zI x2, zI x3, zI x4, zI x5, zI x6, zU] [zI s0] h (qI K) := by
  refine z_istore dX10_feed_73 (by decide) rfl ?_
  refine z_aload_n dX10_feed_75 rfl ?_
  refine gf_X10_9 (c2 := 1) dX10_feed_76 rfl (sR_0 hE) (cR_0 hE) rfl ?_
  refine z_aload_n dX10_feed_79 rfl ?_
  refine gf_X10_156 dX10_feed_80 rfl (sR_0 hE) (cR_0 hE) ?_
  refine z_iload dX10_feed_83 rfl ?_
  refine z_iadd dX10_feed_85 ?_
  refine z_iload dX10_feed_86 rfl ?_
  refine z_bipush dX10_feed_88 (r32d rfl) (by decide) ?_
  refine z_bipush dX10_feed_90 (r32d rfl) (by decide) ?_
  refine z_iload dX10_feed_92 rfl ?_
  refine z_iconst dX10_feed_94 (r32d rfl) ?_
  refine z_irem (by decide) dX10_feed_95 ?_
  refine z_imul dX10_feed_96 ?_
  refine z_isub dX10_feed_97 ?_
  refine z_ishr dX10_feed_98 ?_
  refine z_sipush dX10_feed_99 (r32d rfl) (by decide) ?_
  refine z_iand dX10_feed_102 ?_
  obtain ⟨⟨hi0, hi1⟩, hyp⟩ := hyp
  refine z_iastore dX10_feed_103 (sR_1 hE) (cR_1 hE) hi0 hi1 ?_
  generalize eh_1 : hset h 1 _ (zand (zshr s0 (w32 (24 - (w32 (8 * (w32 (Int.tmod x6 4))))))) 255) = h_1
  have hyp := hyp h_1 eh_1.symm
  refine z_iinc dX10_feed_104 rfl (by decide) rfl ?_
  generalize ex_2 : w32 (x6 + 1) = x_2
  have hyp := hyp x_2 ex_2.symm
  refine z_goto (tgt := 20) dX10_feed_107 (by decide) ?_
  exact z_forget [true, true, true, true, true, true, true, false] rfl hyp
set_option maxRecDepth 20000 in
theorem eX10_feed {E : zE} (hE : isR E) {d : Nat} {x1 x2 x3 x4 x5 : Int} {h : zH} {K : Int → zH → Prop} (hyp :
  ∀ h_1 : zH, h_1 = hset h 0 0 0 →
  (((h_1 0 2) ≤ 880 →
    zG E mX10_feed d 20 [zR 0, zI x1, zI x2, zI x3, zI x4, zI x5, zI 0, zU] [] h_1 (qI K)) ∧
  (¬ ((h_1 0 2) ≤ 880) →
    K (-1) h_1))) :
  zCI E mX10_feed d [zR 0, zI x1, zI x2, zI x3, zI x4, zI x5] h K := by
  refine zC_in (L0 := [zR 0, zI x1, zI x2, zI x3, zI x4, zI x5, zU, zU]) pn_X10 rfl (Nat.le_of_ble_eq_true rfl) ?_
  refine z_aload_n dX10_feed_0 rfl ?_
  refine z_iconst dX10_feed_1 (r32d rfl) ?_
  refine pf_X10_153 dX10_feed_2 rfl (sR_0 hE) (cR_0 hE) ?_
  generalize eh_1 : hset h 0 0 _ = h_1
  have hyp := hyp h_1 eh_1.symm
  refine z_aload_n dX10_feed_5 rfl ?_
  refine gf_X10_156 dX10_feed_6 rfl (sR_0 hE) (cR_0 hE) ?_
  refine z_sipush dX10_feed_9 (r32d rfl) (by decide) ?_
  refine z_icmp_le (tgt := 17) dX10_feed_12 (by decide) (fun c_2 => ?_) (fun c_2 => ?_)
  · have hyp := hyp.1 c_2
    refine z_iconst dX10_feed_17 (r32d rfl) ?_
    refine z_istore dX10_feed_18 (by decide) rfl ?_
    exact hyp
  · have hyp := hyp.2 c_2
    refine z_iconst dX10_feed_15 (r32d rfl) ?_
    exact z_iret dX10_feed_16 rfl ⟨_, rfl, hyp⟩
set_option maxRecDepth 20000 in
theorem bX10_fit_43 {E : zE} (hE : isR E) {d : Nat} {x1 x2 x3 x4 : Int} {h : zH} {K : Int → zH → Prop} (hyp :
  ((x4 < 0 →
    zG E mX10_fit (d + 1) 54 [zU, zU, zU, zU, zU] [] h (qI K)) ∧
  (¬ (x4 < 0) →
    ((x4 ≤ 3 →
      zCI E mX10_knownNotes d [zR 0] h (fun r_3 h_3 =>
        zCV E mX10_stones d [zR 0, zI r_3] h_3 (fun h_4 =>
          zCV E mX10_stands d [zR 0, zI x1] h_4 (fun h_5 =>
            ((3 ≤ (h_5 0 68) →
              zCV E mX10_fits d [zR 0, zI x2, zI x3] h_5 (fun h_7 =>
                ((x4 ≠ 0 →
                  ((x4 ≠ 1 →
                    ((x4 ≠ 2 →
                      K (h_7 0 73) h_7) ∧
                    (¬ (x4 ≠ 2) →
                      K (h_7 0 72) h_7))) ∧
                  (¬ (x4 ≠ 1) →
                    K (h_7 0 71) h_7))) ∧
                (¬ (x4 ≠ 0) →
                  K (w32 (2 * (h_7 0 70))) h_7)))) ∧
            (¬ (3 ≤ (h_5 0 68)) →
              K (-2147483648) h_5)))))) ∧
    (¬ (x4 ≤ 3) →
      zG E mX10_fit (d + 1) 54 [zU, zU, zU, zU, zU] [] h (qI K)))))) :
  zG E mX10_fit (d + 1) 43 [zR 0, zI x1, zI x2, zI x3, zI x4] [] h (qI K) := by
  refine z_iload dX10_fit_43 rfl ?_
  refine z_if_lt (tgt := 54) dX10_fit_45 (by decide) (fun c_1 => ?_) (fun c_1 => ?_)
  · have hyp := hyp.1 c_1
    exact z_forget [false, false, false, false, false] rfl hyp
  · have hyp := hyp.2 c_1
    refine z_iload dX10_fit_48 rfl ?_
    refine z_iconst dX10_fit_50 (r32d rfl) ?_
    refine z_icmp_le (tgt := 58) dX10_fit_51 (by decide) (fun c_2 => ?_) (fun c_2 => ?_)
    · have hyp := hyp.1 c_2
      refine z_aload_n dX10_fit_58 rfl ?_
      refine z_aload_n dX10_fit_59 rfl ?_
      refine cl_X10_379 dX10_fit_60 rfl (sR_0 hE) (cR_0 hE) (Nat.le_of_ble_eq_true rfl) (zC_mono ?_ hyp)
      rintro _ h_3 ⟨r_3, rfl, hyp⟩
      refine ⟨r_3, rfl, ?_⟩
      refine cl_X10_382 dX10_fit_63 rfl (sR_0 hE) (cR_0 hE) (Nat.le_of_ble_eq_true rfl) (zC_mono ?_ hyp)
      rintro _ h_4 ⟨rfl, hyp⟩
      refine ⟨rfl, ?_⟩
      refine z_aload_n dX10_fit_66 rfl ?_
      refine z_iload_n dX10_fit_67 rfl ?_
      refine cl_X10_388 dX10_fit_68 rfl (sR_0 hE) (cR_0 hE) (Nat.le_of_ble_eq_true rfl) (zC_mono ?_ hyp)
      rintro _ h_5 ⟨rfl, hyp⟩
      refine ⟨rfl, ?_⟩
      refine z_aload_n dX10_fit_71 rfl ?_
      refine gf_X10_385 dX10_fit_72 rfl (sR_0 hE) (cR_0 hE) ?_
      refine z_iconst dX10_fit_75 (r32d rfl) ?_
      refine z_icmp_ge (tgt := 83) dX10_fit_76 (by decide) (fun c_6 => ?_) (fun c_6 => ?_)
      · have hyp := hyp.1 c_6
        refine z_aload_n dX10_fit_83 rfl ?_
        refine z_iload_n dX10_fit_84 rfl ?_
        refine z_iload_n dX10_fit_85 rfl ?_
        refine cl_X10_431 dX10_fit_86 rfl (sR_0 hE) (cR_0 hE) (Nat.le_of_ble_eq_true rfl) (zC_mono ?_ hyp)
        rintro _ h_7 ⟨rfl, hyp⟩
        refine ⟨rfl, ?_⟩
        refine z_iload dX10_fit_89 rfl ?_
        refine z_if_ne (tgt := 103) dX10_fit_91 (by decide) (fun c_8 => ?_) (fun c_8 => ?_)
        · have hyp := hyp.1 c_8
          refine z_iload dX10_fit_103 rfl ?_
          refine z_iconst dX10_fit_105 (r32d rfl) ?_
          refine z_icmp_ne (tgt := 116) dX10_fit_106 (by decide) (fun c_9 => ?_) (fun c_9 => ?_)
          · have hyp := hyp.1 c_9
            refine z_iload dX10_fit_116 rfl ?_
            refine z_iconst dX10_fit_118 (r32d rfl) ?_
            refine z_icmp_ne (tgt := 129) dX10_fit_119 (by decide) (fun c_10 => ?_) (fun c_10 => ?_)
            · have hyp := hyp.1 c_10
              refine z_aload_n dX10_fit_129 rfl ?_
              refine gf_X10_427 dX10_fit_130 rfl (sR_0 hE) (cR_0 hE) ?_
              exact z_iret dX10_fit_133 rfl ⟨_, rfl, hyp⟩
            · have hyp := hyp.2 c_10
              refine z_aload_n dX10_fit_122 rfl ?_
              refine gf_X10_424 dX10_fit_123 rfl (sR_0 hE) (cR_0 hE) ?_
              refine z_goto (tgt := 133) dX10_fit_126 (by decide) ?_
              exact z_iret dX10_fit_133 rfl ⟨_, rfl, hyp⟩
          · have hyp := hyp.2 c_9
            refine z_aload_n dX10_fit_109 rfl ?_
            refine gf_X10_407 dX10_fit_110 rfl (sR_0 hE) (cR_0 hE) ?_
            refine z_goto (tgt := 133) dX10_fit_113 (by decide) ?_
            exact z_iret dX10_fit_133 rfl ⟨_, rfl, hyp⟩
        · have hyp := hyp.2 c_8
          refine z_iconst dX10_fit_94 (r32d rfl) ?_
          refine z_aload_n dX10_fit_95 rfl ?_
          refine gf_X10_421 dX10_fit_96 rfl (sR_0 hE) (cR_0 hE) ?_
          refine z_imul dX10_fit_99 ?_
          refine z_goto (tgt := 133) dX10_fit_100 (by decide) ?_
          exact z_iret dX10_fit_133 rfl ⟨_, rfl, hyp⟩
      · have hyp := hyp.2 c_6
        refine z_ldcw (x := (-2147483648)) dX10_fit_79 rfl wk_X10_430 (by decide) (r32d rfl) ?_
        exact z_iret dX10_fit_82 rfl ⟨_, rfl, hyp⟩
    · have hyp := hyp.2 c_2
      exact z_forget [false, false, false, false, false] rfl hyp
set_option maxRecDepth 20000 in
theorem bX10_fit_54 {E : zE} (hE : isR E) {d : Nat} {h : zH} {K : Int → zH → Prop} (hyp :
  K (-2147483648) h) :
  zG E mX10_fit (d + 1) 54 [zU, zU, zU, zU, zU] [] h (qI K) := by
  refine z_ldcw (x := (-2147483648)) dX10_fit_54 rfl wk_X10_430 (by decide) (r32d rfl) ?_
  exact z_iret dX10_fit_57 rfl ⟨_, rfl, hyp⟩
set_option maxRecDepth 20000 in
theorem eX10_fit {E : zE} (hE : isR E) {d : Nat} {x1 x2 x3 x4 : Int} {h : zH} {K : Int → zH → Prop} (hyp :
  ∀ h_1 : zH, h_1 = hset h 0 0 0 →
  ((x1 < 0 →
    zG E mX10_fit (d + 1) 54 [zU, zU, zU, zU, zU] [] h_1 (qI K)) ∧
  (¬ (x1 < 0) →
    (((h_1 0 24) ≤ x1 →
      zG E mX10_fit (d + 1) 54 [zU, zU, zU, zU, zU] [] h_1 (qI K)) ∧
    (¬ ((h_1 0 24) ≤ x1) →
      ((x2 < 0 →
        zG E mX10_fit (d + 1) 54 [zU, zU, zU, zU, zU] [] h_1 (qI K)) ∧
      (¬ (x2 < 0) →
        ((2 < x2 →
          zG E mX10_fit (d + 1) 54 [zU, zU, zU, zU, zU] [] h_1 (qI K)) ∧
        (¬ (2 < x2) →
          ((x3 < 0 →
            zG E mX10_fit (d + 1) 54 [zU, zU, zU, zU, zU] [] h_1 (qI K)) ∧
          (¬ (x3 < 0) →
            ((3 < x3 →
              zG E mX10_fit (d + 1) 54 [zU, zU, zU, zU, zU] [] h_1 (qI K)) ∧
            (¬ (3 < x3) →
              ((x2 ≠ 0 →
                zG E mX10_fit (d + 1) 43 [zR 0, zI x1, zI x2, zI x3, zI x4] [] h_1 (qI K)) ∧
              (¬ (x2 ≠ 0) →
                ((x3 ≠ 0 →
                  zG E mX10_fit (d + 1) 54 [zU, zU, zU, zU, zU] [] h_1 (qI K)) ∧
                (¬ (x3 ≠ 0) →
                  zG E mX10_fit (d + 1) 43 [zR 0, zI x1, zI x2, zI x3, zI x4] [] h_1 (qI K)))))))))))))))))) :
  zCI E mX10_fit (d + 1) [zR 0, zI x1, zI x2, zI x3, zI x4] h K := by
  refine zC_in (L0 := [zR 0, zI x1, zI x2, zI x3, zI x4]) pn_X10 rfl (Nat.le_of_ble_eq_true rfl) ?_
  refine z_aload_n dX10_fit_0 rfl ?_
  refine z_iconst dX10_fit_1 (r32d rfl) ?_
  refine pf_X10_153 dX10_fit_2 rfl (sR_0 hE) (cR_0 hE) ?_
  generalize eh_1 : hset h 0 0 _ = h_1
  have hyp := hyp h_1 eh_1.symm
  refine z_iload_n dX10_fit_5 rfl ?_
  refine z_if_lt (tgt := 54) dX10_fit_6 (by decide) (fun c_2 => ?_) (fun c_2 => ?_)
  · have hyp := hyp.1 c_2
    exact z_forget [false, false, false, false, false] rfl hyp
  · have hyp := hyp.2 c_2
    refine z_iload_n dX10_fit_9 rfl ?_
    refine z_aload_n dX10_fit_10 rfl ?_
    refine gf_X10_340 dX10_fit_11 rfl (sR_0 hE) (cR_0 hE) ?_
    refine z_icmp_ge (tgt := 54) dX10_fit_14 (by decide) (fun c_3 => ?_) (fun c_3 => ?_)
    · have hyp := hyp.1 c_3
      exact z_forget [false, false, false, false, false] rfl hyp
    · have hyp := hyp.2 c_3
      refine z_iload_n dX10_fit_17 rfl ?_
      refine z_if_lt (tgt := 54) dX10_fit_18 (by decide) (fun c_4 => ?_) (fun c_4 => ?_)
      · have hyp := hyp.1 c_4
        exact z_forget [false, false, false, false, false] rfl hyp
      · have hyp := hyp.2 c_4
        refine z_iload_n dX10_fit_21 rfl ?_
        refine z_iconst dX10_fit_22 (r32d rfl) ?_
        refine z_icmp_gt (tgt := 54) dX10_fit_23 (by decide) (fun c_5 => ?_) (fun c_5 => ?_)
        · have hyp := hyp.1 c_5
          exact z_forget [false, false, false, false, false] rfl hyp
        · have hyp := hyp.2 c_5
          refine z_iload_n dX10_fit_26 rfl ?_
          refine z_if_lt (tgt := 54) dX10_fit_27 (by decide) (fun c_6 => ?_) (fun c_6 => ?_)
          · have hyp := hyp.1 c_6
            exact z_forget [false, false, false, false, false] rfl hyp
          · have hyp := hyp.2 c_6
            refine z_iload_n dX10_fit_30 rfl ?_
            refine z_iconst dX10_fit_31 (r32d rfl) ?_
            refine z_icmp_gt (tgt := 54) dX10_fit_32 (by decide) (fun c_7 => ?_) (fun c_7 => ?_)
            · have hyp := hyp.1 c_7
              exact z_forget [false, false, false, false, false] rfl hyp
            · have hyp := hyp.2 c_7
              refine z_iload_n dX10_fit_35 rfl ?_
              refine z_if_ne (tgt := 43) dX10_fit_36 (by decide) (fun c_8 => ?_) (fun c_8 => ?_)
              · have hyp := hyp.1 c_8
                exact hyp
              · have hyp := hyp.2 c_8
                refine z_iload_n dX10_fit_39 rfl ?_
                refine z_if_ne (tgt := 54) dX10_fit_40 (by decide) (fun c_9 => ?_) (fun c_9 => ?_)
                · have hyp := hyp.1 c_9
                  exact z_forget [false, false, false, false, false] rfl hyp
                · have hyp := hyp.2 c_9
                  exact hyp
set_option maxRecDepth 20000 in
theorem bX10_fits_8 {E : zE} (hE : isR E) {d : Nat} {x1 x2 x3 x4 x5 : Int} {h : zH} {K : zH → Prop} (hyp :
  (((h 0 68) ≤ x5 →
    0 < (h 0 68) ∧
    ∀ x_2 : Int, x_2 = x3 / (h 0 68) →
    0 < (h 0 68) ∧
    ∀ x_3 : Int, x_3 = x4 / (h 0 68) →
    ∀ h_4 : zH, h_4 = hset h 0 71 (-1) →
    ∀ x_5 : Int, x_5 = w32 (-(h_4 0 29)) →
    zG E mX10_fits (d + 1) 78 [zR 0, zI x1, zI x2, zU, zU, zI x_2, zI x_3, zI x_5, zU] [] h_4 (qV K)) ∧
  (¬ ((h 0 68) ≤ x5) →
    ((0 : Int) ≤ x5 ∧ x5 < (10 : Int)) ∧
    ∀ x_6 : Int, x_6 = w32 (x3 + (h 30 x5.toNat)) →
    ((0 : Int) ≤ x5 ∧ x5 < (10 : Int)) ∧
    ∀ x_7 : Int, x_7 = w32 (x4 + (h 31 x5.toNat)) →
    ∀ x_8 : Int, x_8 = w32 (x5 + 1) →
    zG E mX10_fits (d + 1) 8 [zR 0, zI x1, zI x2, zI x_6, zI x_7, zI x_8, zU, zU, zU] [] h (qV K)))) :
  zG E mX10_fits (d + 1) 8 [zR 0, zI x1, zI x2, zI x3, zI x4, zI x5, zU, zU, zU] [] h (qV K) := by
  refine z_iload dX10_fits_8 rfl ?_
  refine z_aload_n dX10_fits_10 rfl ?_
  refine gf_X10_385 dX10_fits_11 rfl (sR_0 hE) (cR_0 hE) ?_
  refine z_icmp_ge (tgt := 45) dX10_fits_14 (by decide) (fun c_1 => ?_) (fun c_1 => ?_)
  · have hyp := hyp.1 c_1
    refine z_iload_n dX10_fits_45 rfl ?_
    refine z_aload_n dX10_fits_46 rfl ?_
    refine gf_X10_385 dX10_fits_47 rfl (sR_0 hE) (cR_0 hE) ?_
    obtain ⟨hz, hyp⟩ := hyp
    refine cl_X10_404 dX10_fits_50 rfl hz (Nat.le_of_ble_eq_true rfl) ?_
    generalize ex_2 : x3 / (h 0 68) = x_2
    have hyp := hyp x_2 ex_2.symm
    refine z_istore dX10_fits_53 (by decide) rfl ?_
    refine z_iload dX10_fits_55 rfl ?_
    refine z_aload_n dX10_fits_57 rfl ?_
    refine gf_X10_385 dX10_fits_58 rfl (sR_0 hE) (cR_0 hE) ?_
    obtain ⟨hz, hyp⟩ := hyp
    refine cl_X10_404 dX10_fits_61 rfl hz (Nat.le_of_ble_eq_true rfl) ?_
    generalize ex_3 : x4 / (h 0 68) = x_3
    have hyp := hyp x_3 ex_3.symm
    refine z_istore dX10_fits_64 (by decide) rfl ?_
    refine z_aload_n dX10_fits_66 rfl ?_
    refine z_iconst dX10_fits_67 (r32d rfl) ?_
    refine pf_X10_407 dX10_fits_68 rfl (sR_0 hE) (cR_0 hE) ?_
    generalize eh_4 : hset h 0 71 _ = h_4
    have hyp := hyp h_4 eh_4.symm
    refine z_aload_n dX10_fits_71 rfl ?_
    refine gf_X10_76 dX10_fits_72 rfl (sR_0 hE) (cR_0 hE) ?_
    refine z_ineg dX10_fits_75 ?_
    generalize ex_5 : w32 (-(h_4 0 29)) = x_5
    have hyp := hyp x_5 ex_5.symm
    refine z_istore dX10_fits_76 (by decide) rfl ?_
    exact z_forget [true, true, true, false, false, true, true, true, false] rfl hyp
  · have hyp := hyp.2 c_1
    refine z_iload_n dX10_fits_17 rfl ?_
    refine z_aload_n dX10_fits_18 rfl ?_
    refine gf_X10_116 (c2 := 30) dX10_fits_19 rfl (sR_0 hE) (cR_0 hE) rfl ?_
    refine z_iload dX10_fits_22 rfl ?_
    obtain ⟨⟨hi0, hi1⟩, hyp⟩ := hyp
    refine z_iaload dX10_fits_24 (sR_30 hE) (cR_30 hE) hi0 hi1 ?_
    refine z_iadd dX10_fits_25 ?_
    generalize ex_6 : w32 (x3 + (h 30 x5.toNat)) = x_6
    have hyp := hyp x_6 ex_6.symm
    refine z_istore_n dX10_fits_26 rfl (by decide) rfl ?_
    refine z_iload dX10_fits_27 rfl ?_
    refine z_aload_n dX10_fits_29 rfl ?_
    refine gf_X10_119 (c2 := 31) dX10_fits_30 rfl (sR_0 hE) (cR_0 hE) rfl ?_
    refine z_iload dX10_fits_33 rfl ?_
    obtain ⟨⟨hi0, hi1⟩, hyp⟩ := hyp
    refine z_iaload dX10_fits_35 (sR_31 hE) (cR_31 hE) hi0 hi1 ?_
    refine z_iadd dX10_fits_36 ?_
    generalize ex_7 : w32 (x4 + (h 31 x5.toNat)) = x_7
    have hyp := hyp x_7 ex_7.symm
    refine z_istore dX10_fits_37 (by decide) rfl ?_
    refine z_iinc dX10_fits_39 rfl (by decide) rfl ?_
    generalize ex_8 : w32 (x5 + 1) = x_8
    have hyp := hyp x_8 ex_8.symm
    refine z_goto (tgt := 8) dX10_fits_42 (by decide) ?_
    exact hyp
set_option maxRecDepth 20000 in
theorem bX10_fits_78 {E : zE} (hE : isR E) {d : Nat} {x1 x2 x5 x6 x7 : Int} {h : zH} {K : zH → Prop} (hyp :
  (((h 0 29) < x7 →
    K h) ∧
  (¬ ((h 0 29) < x7) →
    ∀ x_2 : Int, x_2 = w32 (-(h 0 29)) →
    zG E mX10_fits (d + 1) 94 [zR 0, zI x1, zI x2, zU, zU, zI x5, zI x6, zI x7, zI x_2] [] h (qV K)))) :
  zG E mX10_fits (d + 1) 78 [zR 0, zI x1, zI x2, zU, zU, zI x5, zI x6, zI x7, zU] [] h (qV K) := by
  refine z_iload dX10_fits_78 rfl ?_
  refine z_aload_n dX10_fits_80 rfl ?_
  refine gf_X10_76 dX10_fits_81 rfl (sR_0 hE) (cR_0 hE) ?_
  refine z_icmp_gt (tgt := 141) dX10_fits_84 (by decide) (fun c_1 => ?_) (fun c_1 => ?_)
  · have hyp := hyp.1 c_1
    exact z_vret dX10_fits_141 rfl ⟨rfl, hyp⟩
  · have hyp := hyp.2 c_1
    refine z_aload_n dX10_fits_87 rfl ?_
    refine gf_X10_76 dX10_fits_88 rfl (sR_0 hE) (cR_0 hE) ?_
    refine z_ineg dX10_fits_91 ?_
    generalize ex_2 : w32 (-(h 0 29)) = x_2
    have hyp := hyp x_2 ex_2.symm
    refine z_istore dX10_fits_92 (by decide) rfl ?_
    exact hyp
set_option maxRecDepth 20000 in
theorem bX10_fits_94 {E : zE} (hE : isR E) {d : Nat} {x1 x2 x5 x6 x7 x8 : Int} {h : zH} {K : zH → Prop} (hyp :
  (((h 0 29) < x8 →
    ∀ x_2 : Int, x_2 = w32 (x7 + 1) →
    zG E mX10_fits (d + 1) 78 [zR 0, zI x1, zI x2, zU, zU, zI x5, zI x6, zI x_2, zU] [] h (qV K)) ∧
  (¬ ((h 0 29) < x8) →
    zCV E mX10_tries d [zR 0, zI (w32 (x5 + (w32 (x7 * (h 0 30))))), zI (w32 (x6 + (w32 (x8 * (h 0 30))))), zI x1, zI x2] h (fun h_3 =>
      ∀ x_4 : Int, x_4 = w32 (x8 + 1) →
      zG E mX10_fits (d + 1) 94 [zR 0, zI x1, zI x2, zU, zU, zI x5, zI x6, zI x7, zI x_4] [] h_3 (qV K))))) :
  zG E mX10_fits (d + 1) 94 [zR 0, zI x1, zI x2, zU, zU, zI x5, zI x6, zI x7, zI x8] [] h (qV K) := by
  refine z_iload dX10_fits_94 rfl ?_
  refine z_aload_n dX10_fits_96 rfl ?_
  refine gf_X10_76 dX10_fits_97 rfl (sR_0 hE) (cR_0 hE) ?_
  refine z_icmp_gt (tgt := 135) dX10_fits_100 (by decide) (fun c_1 => ?_) (fun c_1 => ?_)
  · have hyp := hyp.1 c_1
    refine z_iinc dX10_fits_135 rfl (by decide) rfl ?_
    generalize ex_2 : w32 (x7 + 1) = x_2
    have hyp := hyp x_2 ex_2.symm
    refine z_goto (tgt := 78) dX10_fits_138 (by decide) ?_
    exact z_forget [true, true, true, false, false, true, true, true, false] rfl hyp
  · have hyp := hyp.2 c_1
    refine z_aload_n dX10_fits_103 rfl ?_
    refine z_iload dX10_fits_104 rfl ?_
    refine z_iload dX10_fits_106 rfl ?_
    refine z_aload_n dX10_fits_108 rfl ?_
    refine gf_X10_80 dX10_fits_109 rfl (sR_0 hE) (cR_0 hE) ?_
    refine z_imul dX10_fits_112 ?_
    refine z_iadd dX10_fits_113 ?_
    refine z_iload dX10_fits_114 rfl ?_
    refine z_iload dX10_fits_116 rfl ?_
    refine z_aload_n dX10_fits_118 rfl ?_
    refine gf_X10_80 dX10_fits_119 rfl (sR_0 hE) (cR_0 hE) ?_
    refine z_imul dX10_fits_122 ?_
    refine z_iadd dX10_fits_123 ?_
    refine z_iload_n dX10_fits_124 rfl ?_
    refine z_iload_n dX10_fits_125 rfl ?_
    refine cl_X10_410 dX10_fits_126 rfl (sR_0 hE) (cR_0 hE) (Nat.le_of_ble_eq_true rfl) (zC_mono ?_ hyp)
    rintro _ h_3 ⟨rfl, hyp⟩
    refine ⟨rfl, ?_⟩
    refine z_iinc dX10_fits_129 rfl (by decide) rfl ?_
    generalize ex_4 : w32 (x8 + 1) = x_4
    have hyp := hyp x_4 ex_4.symm
    refine z_goto (tgt := 94) dX10_fits_132 (by decide) ?_
    exact hyp
set_option maxRecDepth 20000 in
theorem eX10_fits {E : zE} (hE : isR E) {d : Nat} {x1 x2 : Int} {h : zH} {K : zH → Prop} (hyp :
  zG E mX10_fits (d + 1) 8 [zR 0, zI x1, zI x2, zI 0, zI 0, zI 0, zU, zU, zU] [] h (qV K)) :
  zCV E mX10_fits (d + 1) [zR 0, zI x1, zI x2] h K := by
  refine zC_in (L0 := [zR 0, zI x1, zI x2, zU, zU, zU, zU, zU, zU]) pn_X10 rfl (Nat.le_of_ble_eq_true rfl) ?_
  refine z_iconst dX10_fits_0 (r32d rfl) ?_
  refine z_istore_n dX10_fits_1 rfl (by decide) rfl ?_
  refine z_iconst dX10_fits_2 (r32d rfl) ?_
  refine z_istore dX10_fits_3 (by decide) rfl ?_
  refine z_iconst dX10_fits_5 (r32d rfl) ?_
  refine z_istore dX10_fits_6 (by decide) rfl ?_
  exact hyp
set_option maxRecDepth 20000 in
theorem bX10_found_3 {E : zE} (hE : isR E) {a0 na0 : Nat} (ha0 : zsh E a0 = (20, na0) ∧ a0 < zN E ∧ na0 < 2147483648) {d : Nat} {x1 x2 x3 x4 : Int} {h : zH} {K : Int → zH → Prop} (hyp :
  ((x2 ≤ x4 →
    K (-1) h) ∧
  (¬ (x2 ≤ x4) →
    ((0 : Int) ≤ w32 (x1 + x4) ∧ w32 (x1 + x4) < (na0 : Int)) ∧
    (((h a0 (w32 (x1 + x4)).toNat) ≠ x3 →
      ∀ x_3 : Int, x_3 = w32 (x4 + 1) →
      zG E mX10_found d 3 [zR a0, zI x1, zI x2, zI x3, zI x_3] [] h (qI K)) ∧
    (¬ ((h a0 (w32 (x1 + x4)).toNat) ≠ x3) →
      K x4 h))))) :
  zG E mX10_found d 3 [zR a0, zI x1, zI x2, zI x3, zI x4] [] h (qI K) := by
  refine z_iload dX10_found_3 rfl ?_
  refine z_iload_n dX10_found_5 rfl ?_
  refine z_icmp_ge (tgt := 28) dX10_found_6 (by decide) (fun c_1 => ?_) (fun c_1 => ?_)
  · have hyp := hyp.1 c_1
    refine z_iconst dX10_found_28 (r32d rfl) ?_
    exact z_iret dX10_found_29 rfl ⟨_, rfl, hyp⟩
  · have hyp := hyp.2 c_1
    refine z_aload_n dX10_found_9 rfl ?_
    refine z_iload_n dX10_found_10 rfl ?_
    refine z_iload dX10_found_11 rfl ?_
    refine z_iadd dX10_found_13 ?_
    obtain ⟨⟨hi0, hi1⟩, hyp⟩ := hyp
    refine z_iaload dX10_found_14 (ha0.1) (ha0.2.1) hi0 hi1 ?_
    refine z_iload_n dX10_found_15 rfl ?_
    refine z_icmp_ne (tgt := 22) dX10_found_16 (by decide) (fun c_2 => ?_) (fun c_2 => ?_)
    · have hyp := hyp.1 c_2
      refine z_iinc dX10_found_22 rfl (by decide) rfl ?_
      generalize ex_3 : w32 (x4 + 1) = x_3
      have hyp := hyp x_3 ex_3.symm
      refine z_goto (tgt := 3) dX10_found_25 (by decide) ?_
      exact hyp
    · have hyp := hyp.2 c_2
      refine z_iload dX10_found_19 rfl ?_
      exact z_iret dX10_found_21 rfl ⟨_, rfl, hyp⟩
set_option maxRecDepth 20000 in
theorem eX10_found {E : zE} (hE : isR E) {a0 na0 : Nat} (ha0 : zsh E a0 = (20, na0) ∧ a0 < zN E ∧ na0 < 2147483648) {d : Nat} {x1 x2 x3 : Int} {h : zH} {K : Int → zH → Prop} (hyp :
  zG E mX10_found d 3 [zR a0, zI x1, zI x2, zI x3, zI 0] [] h (qI K)) :
  zCI E mX10_found d [zR a0, zI x1, zI x2, zI x3] h K := by
  refine zC_in (L0 := [zR a0, zI x1, zI x2, zI x3, zU]) pn_X10 rfl (Nat.le_of_ble_eq_true rfl) ?_
  refine z_iconst dX10_found_0 (r32d rfl) ?_
  refine z_istore dX10_found_1 (by decide) rfl ?_
  exact hyp
set_option maxRecDepth 20000 in
theorem bX10_fresh_44 {E : zE} (hE : isR E) {a1 na1 : Nat} (ha1 : zsh E a1 = (20, na1) ∧ a1 < zN E ∧ na1 < 2147483648) {d : Nat} {h : zH} {K : Int → zH → Prop} (hyp :
  (((h 0 49) = 0 →
    ∀ x_2 : Int, x_2 = h 0 48 →
    zCV E mX10_token d [zR 0] h (fun h_3 =>
      K x_2 h_3)) ∧
  (¬ ((h 0 49) = 0) →
    K 0 h))) :
  zG E mX10_fresh (d + 1) 44 [zR 0, zU, zU, zU, zU] [] h (qI K) := by
  refine z_aload_n dX10_fresh_44 rfl ?_
  refine gf_X10_207 dX10_fresh_45 rfl (sR_0 hE) (cR_0 hE) ?_
  refine z_if_eq (tgt := 53) dX10_fresh_48 (by decide) (fun c_1 => ?_) (fun c_1 => ?_)
  · have hyp := hyp.1 c_1
    refine z_aload_n dX10_fresh_53 rfl ?_
    refine gf_X10_182 dX10_fresh_54 rfl (sR_0 hE) (cR_0 hE) ?_
    generalize ex_2 : h 0 48 = x_2
    have hyp := hyp x_2 ex_2.symm
    refine z_istore dX10_fresh_57 (by decide) rfl ?_
    refine z_aload_n dX10_fresh_59 rfl ?_
    refine cl_X10_213 dX10_fresh_60 rfl (sR_0 hE) (cR_0 hE) (Nat.le_of_ble_eq_true rfl) (zC_mono ?_ hyp)
    rintro _ h_3 ⟨rfl, hyp⟩
    refine ⟨rfl, ?_⟩
    refine z_iload dX10_fresh_63 rfl ?_
    exact z_iret dX10_fresh_65 rfl ⟨_, rfl, hyp⟩
  · have hyp := hyp.2 c_1
    refine z_iconst dX10_fresh_51 (r32d rfl) ?_
    exact z_iret dX10_fresh_52 rfl ⟨_, rfl, hyp⟩
set_option maxRecDepth 20000 in
theorem eX10_fresh {E : zE} (hE : isR E) {a1 na1 : Nat} (ha1 : zsh E a1 = (20, na1) ∧ a1 < zN E ∧ na1 < 2147483648) {d : Nat} {x2 x3 : Int} {h : zH} {K : Int → zH → Prop} (hyp :
  (((h 0 49) = 0 →
    (((h 0 47) = 1 →
      zCI E mX10_found d [zR a1, zI x2, zI x3, zI (h 0 48)] h (fun r_3 h_3 =>
        ((r_3 = (-1) →
          zG E mX10_fresh (d + 1) 44 [zR 0, zU, zU, zU, zU] [] h_3 (qI K)) ∧
        (¬ (r_3 = (-1)) →
          zCV E mX10_wrong d [zR 0, zI 3] h_3 (fun h_5 =>
            zG E mX10_fresh (d + 1) 44 [zR 0, zU, zU, zU, zU] [] h_5 (qI K)))))) ∧
    (¬ ((h 0 47) = 1) →
      zCV E mX10_wrong d [zR 0, zI 1] h (fun h_6 =>
        zG E mX10_fresh (d + 1) 44 [zR 0, zU, zU, zU, zU] [] h_6 (qI K))))) ∧
  (¬ ((h 0 49) = 0) →
    K 0 h))) :
  zCI E mX10_fresh (d + 1) [zR 0, zR a1, zI x2, zI x3] h K := by
  refine zC_in (L0 := [zR 0, zR a1, zI x2, zI x3, zU]) pn_X10 rfl (Nat.le_of_ble_eq_true rfl) ?_
  refine z_aload_n dX10_fresh_0 rfl ?_
  refine gf_X10_207 dX10_fresh_1 rfl (sR_0 hE) (cR_0 hE) ?_
  refine z_if_eq (tgt := 9) dX10_fresh_4 (by decide) (fun c_1 => ?_) (fun c_1 => ?_)
  · have hyp := hyp.1 c_1
    refine z_aload_n dX10_fresh_9 rfl ?_
    refine gf_X10_172 dX10_fresh_10 rfl (sR_0 hE) (cR_0 hE) ?_
    refine z_iconst dX10_fresh_13 (r32d rfl) ?_
    refine z_icmp_eq (tgt := 25) dX10_fresh_14 (by decide) (fun c_2 => ?_) (fun c_2 => ?_)
    · have hyp := hyp.1 c_2
      refine z_aload_n dX10_fresh_25 rfl ?_
      refine z_iload_n dX10_fresh_26 rfl ?_
      refine z_iload_n dX10_fresh_27 rfl ?_
      refine z_aload_n dX10_fresh_28 rfl ?_
      refine gf_X10_182 dX10_fresh_29 rfl (sR_0 hE) (cR_0 hE) ?_
      refine cl_X10_226 dX10_fresh_32 rfl (Nat.le_of_ble_eq_true rfl) (zC_mono ?_ hyp)
      rintro _ h_3 ⟨r_3, rfl, hyp⟩
      refine ⟨r_3, rfl, ?_⟩
      refine z_iconst dX10_fresh_35 (r32d rfl) ?_
      refine z_icmp_eq (tgt := 44) dX10_fresh_36 (by decide) (fun c_4 => ?_) (fun c_4 => ?_)
      · have hyp := hyp.1 c_4
        exact z_forget [true, false, false, false, false] rfl hyp
      · have hyp := hyp.2 c_4
        refine z_aload_n dX10_fresh_39 rfl ?_
        refine z_iconst dX10_fresh_40 (r32d rfl) ?_
        refine cl_X10_216 dX10_fresh_41 rfl (sR_0 hE) (cR_0 hE) (Nat.le_of_ble_eq_true rfl) (zC_mono ?_ hyp)
        rintro _ h_5 ⟨rfl, hyp⟩
        refine ⟨rfl, ?_⟩
        exact z_forget [true, false, false, false, false] rfl hyp
    · have hyp := hyp.2 c_2
      refine z_aload_n dX10_fresh_17 rfl ?_
      refine z_iconst dX10_fresh_18 (r32d rfl) ?_
      refine cl_X10_216 dX10_fresh_19 rfl (sR_0 hE) (cR_0 hE) (Nat.le_of_ble_eq_true rfl) (zC_mono ?_ hyp)
      rintro _ h_6 ⟨rfl, hyp⟩
      refine ⟨rfl, ?_⟩
      refine z_goto (tgt := 44) dX10_fresh_22 (by decide) ?_
      exact z_forget [true, false, false, false, false] rfl hyp
  · have hyp := hyp.2 c_1
    refine z_iconst dX10_fresh_7 (r32d rfl) ?_
    exact z_iret dX10_fresh_8 rfl ⟨_, rfl, hyp⟩
set_option maxRecDepth 20000 in
theorem eX10_goOn {E : zE} (hE : isR E) {d : Nat} {h : zH} {K : zH → Prop} (hyp :
  (((h 0 49) ≠ 0 →
    K h) ∧
  (¬ ((h 0 49) ≠ 0) →
    zCV E mX10_token d [zR 0] h (fun h_2 =>
      K h_2)))) :
  zCV E mX10_goOn (d + 1) [zR 0] h K := by
  refine zC_in (L0 := [zR 0]) pn_X10 rfl (Nat.le_of_ble_eq_true rfl) ?_
  refine z_aload_n dX10_goOn_0 rfl ?_
  refine gf_X10_207 dX10_goOn_1 rfl (sR_0 hE) (cR_0 hE) ?_
  refine z_if_ne (tgt := 11) dX10_goOn_4 (by decide) (fun c_1 => ?_) (fun c_1 => ?_)
  · have hyp := hyp.1 c_1
    exact z_vret dX10_goOn_11 rfl ⟨rfl, hyp⟩
  · have hyp := hyp.2 c_1
    refine z_aload_n dX10_goOn_7 rfl ?_
    refine cl_X10_213 dX10_goOn_8 rfl (sR_0 hE) (cR_0 hE) (Nat.le_of_ble_eq_true rfl) (zC_mono ?_ hyp)
    rintro _ h_2 ⟨rfl, hyp⟩
    refine ⟨rfl, ?_⟩
    exact z_vret dX10_goOn_11 rfl ⟨rfl, hyp⟩
set_option maxRecDepth 20000 in
theorem eX10_gone {E : zE} (hE : isR E) {d : Nat} {x1 x2 x3 : Int} {h : zH} {K : Int → zH → Prop} (hyp :
  ∀ h_1 : zH, h_1 = hset h 0 0 0 →
  zCI E mX10_isStone d [zR 0, zI x1, zI x2] h_1 (fun r_2 h_2 =>
    ((r_2 = 0 →
      K (-1) h_2) ∧
    (¬ (r_2 = 0) →
      (((h_2 0 54) ≠ 60 →
        ((x3 = 0 →
          zCI E mX10_noted d [zR 0, zI 1, zI (w32 ((w32 (10 * x1)) + x2)), zI 0, zI 0] h_2 (fun r_6 h_6 =>
            K r_6 h_6)) ∧
        (¬ (x3 = 0) →
          zCI E mX10_noted d [zR 0, zI 1, zI (w32 ((w32 (10 * x1)) + x2)), zI 1, zI 0] h_2 (fun r_7 h_7 =>
            K r_7 h_7)))) ∧
      (¬ ((h_2 0 54) ≠ 60) →
        K (-1) h_2)))))) :
  zCI E mX10_gone (d + 1) [zR 0, zI x1, zI x2, zI x3] h K := by
  refine zC_in (L0 := [zR 0, zI x1, zI x2, zI x3]) pn_X10 rfl (Nat.le_of_ble_eq_true rfl) ?_
  refine z_aload_n dX10_gone_0 rfl ?_
  refine z_iconst dX10_gone_1 (r32d rfl) ?_
  refine pf_X10_153 dX10_gone_2 rfl (sR_0 hE) (cR_0 hE) ?_
  generalize eh_1 : hset h 0 0 _ = h_1
  have hyp := hyp h_1 eh_1.symm
  refine z_aload_n dX10_gone_5 rfl ?_
  refine z_iload_n dX10_gone_6 rfl ?_
  refine z_iload_n dX10_gone_7 rfl ?_
  refine cl_X10_362 dX10_gone_8 rfl (sR_0 hE) (cR_0 hE) (Nat.le_of_ble_eq_true rfl) (zC_mono ?_ hyp)
  rintro _ h_2 ⟨r_2, rfl, hyp⟩
  refine ⟨r_2, rfl, ?_⟩
  refine z_if_eq (tgt := 23) dX10_gone_11 (by decide) (fun c_3 => ?_) (fun c_3 => ?_)
  · have hyp := hyp.1 c_3
    refine z_iconst dX10_gone_23 (r32d rfl) ?_
    refine z_goto (tgt := 48) dX10_gone_24 (by decide) ?_
    exact z_iret dX10_gone_48 rfl ⟨_, rfl, hyp⟩
  · have hyp := hyp.2 c_3
    refine z_aload_n dX10_gone_14 rfl ?_
    refine gf_X10_355 dX10_gone_15 rfl (sR_0 hE) (cR_0 hE) ?_
    refine z_bipush dX10_gone_18 (r32d rfl) (by decide) ?_
    refine z_icmp_ne (tgt := 27) dX10_gone_20 (by decide) (fun c_4 => ?_) (fun c_4 => ?_)
    · have hyp := hyp.1 c_4
      refine z_aload_n dX10_gone_27 rfl ?_
      refine z_iconst dX10_gone_28 (r32d rfl) ?_
      refine z_bipush dX10_gone_29 (r32d rfl) (by decide) ?_
      refine z_iload_n dX10_gone_31 rfl ?_
      refine z_imul dX10_gone_32 ?_
      refine z_iload_n dX10_gone_33 rfl ?_
      refine z_iadd dX10_gone_34 ?_
      refine z_iload_n dX10_gone_35 rfl ?_
      refine z_if_eq (tgt := 43) dX10_gone_36 (by decide) (fun c_5 => ?_) (fun c_5 => ?_)
      · have hyp := hyp.1 c_5
        refine z_iconst dX10_gone_43 (r32d rfl) ?_
        refine z_iconst dX10_gone_44 (r32d rfl) ?_
        refine cl_X10_369 dX10_gone_45 rfl (sR_0 hE) (cR_0 hE) (Nat.le_of_ble_eq_true rfl) (zC_mono ?_ hyp)
        rintro _ h_6 ⟨r_6, rfl, hyp⟩
        refine ⟨r_6, rfl, ?_⟩
        exact z_iret dX10_gone_48 rfl ⟨_, rfl, hyp⟩
      · have hyp := hyp.2 c_5
        refine z_iconst dX10_gone_39 (r32d rfl) ?_
        refine z_goto (tgt := 44) dX10_gone_40 (by decide) ?_
        refine z_iconst dX10_gone_44 (r32d rfl) ?_
        refine cl_X10_369 dX10_gone_45 rfl (sR_0 hE) (cR_0 hE) (Nat.le_of_ble_eq_true rfl) (zC_mono ?_ hyp)
        rintro _ h_7 ⟨r_7, rfl, hyp⟩
        refine ⟨r_7, rfl, ?_⟩
        exact z_iret dX10_gone_48 rfl ⟨_, rfl, hyp⟩
    · have hyp := hyp.2 c_4
      refine z_iconst dX10_gone_23 (r32d rfl) ?_
      refine z_goto (tgt := 48) dX10_gone_24 (by decide) ?_
      exact z_iret dX10_gone_48 rfl ⟨_, rfl, hyp⟩
set_option maxRecDepth 20000 in
theorem eX10_hasFit {E : zE} (hE : isR E) {d : Nat} {x1 : Int} {h : zH} {K : Int → zH → Prop} (hyp :
  ((0 : Int) ≤ x1 ∧ x1 < (8 : Int)) ∧
  (((h 35 x1.toNat) = (-1) →
    K 0 h) ∧
  (¬ ((h 35 x1.toNat) = (-1)) →
    K 1 h))) :
  zCI E mX10_hasFit d [zR 0, zI x1] h K := by
  refine zC_in (L0 := [zR 0, zI x1]) pn_X10 rfl (Nat.le_of_ble_eq_true rfl) ?_
  refine z_aload_n dX10_hasFit_0 rfl ?_
  refine gf_X10_131 (c2 := 35) dX10_hasFit_1 rfl (sR_0 hE) (cR_0 hE) rfl ?_
  refine z_iload_n dX10_hasFit_4 rfl ?_
  obtain ⟨⟨hi0, hi1⟩, hyp⟩ := hyp
  refine z_iaload dX10_hasFit_5 (sR_35 hE) (cR_35 hE) hi0 hi1 ?_
  refine z_iconst dX10_hasFit_6 (r32d rfl) ?_
  refine z_icmp_eq (tgt := 14) dX10_hasFit_7 (by decide) (fun c_1 => ?_) (fun c_1 => ?_)
  · have hyp := hyp.1 c_1
    refine z_iconst dX10_hasFit_14 (r32d rfl) ?_
    exact z_zret dX10_hasFit_15 rfl (Or.inl rfl) ⟨_, rfl, hyp⟩
  · have hyp := hyp.2 c_1
    refine z_iconst dX10_hasFit_10 (r32d rfl) ?_
    refine z_goto (tgt := 15) dX10_hasFit_11 (by decide) ?_
    exact z_zret dX10_hasFit_15 rfl (Or.inr rfl) ⟨_, rfl, hyp⟩
set_option maxRecDepth 20000 in
theorem eX10_here {E : zE} (hE : isR E) {d : Nat} {h : zH} {K : Int → zH → Prop} (hyp :
  (((h 0 44) ≤ (h 0 45) →
    K (-1) h) ∧
  (¬ ((h 0 44) ≤ (h 0 45)) →
    ((0 : Int) ≤ h 0 45 ∧ h 0 45 < (900 : Int)) ∧
    K (h 1 (h 0 45).toNat) h))) :
  zCI E mX10_here d [zR 0] h K := by
  refine zC_in (L0 := [zR 0]) pn_X10 rfl (Nat.le_of_ble_eq_true rfl) ?_
  refine z_aload_n dX10_here_0 rfl ?_
  refine gf_X10_159 dX10_here_1 rfl (sR_0 hE) (cR_0 hE) ?_
  refine z_aload_n dX10_here_4 rfl ?_
  refine gf_X10_162 dX10_here_5 rfl (sR_0 hE) (cR_0 hE) ?_
  refine z_icmp_ge (tgt := 23) dX10_here_8 (by decide) (fun c_1 => ?_) (fun c_1 => ?_)
  · have hyp := hyp.1 c_1
    refine z_iconst dX10_here_23 (r32d rfl) ?_
    exact z_iret dX10_here_24 rfl ⟨_, rfl, hyp⟩
  · have hyp := hyp.2 c_1
    refine z_aload_n dX10_here_11 rfl ?_
    refine gf_X10_9 (c2 := 1) dX10_here_12 rfl (sR_0 hE) (cR_0 hE) rfl ?_
    refine z_aload_n dX10_here_15 rfl ?_
    refine gf_X10_159 dX10_here_16 rfl (sR_0 hE) (cR_0 hE) ?_
    obtain ⟨⟨hi0, hi1⟩, hyp⟩ := hyp
    refine z_iaload dX10_here_19 (sR_1 hE) (cR_1 hE) hi0 hi1 ?_
    refine z_goto (tgt := 24) dX10_here_20 (by decide) ?_
    exact z_iret dX10_here_24 rfl ⟨_, rfl, hyp⟩
set_option maxRecDepth 20000 in
theorem bX10_hump_33 {E : zE} (hE : isR E) {d : Nat} {x1 x2 x3 x4 : Int} {h : zH} {K : Int → zH → Prop} (hyp :
  (((h 0 24) ≤ x4 →
    K x3 h) ∧
  (¬ ((h 0 24) ≤ x4) →
    zCI E mX10_hasFit d [zR 0, zI x4] h (fun r_2 h_2 =>
      ((r_2 = 0 →
        ∀ x_4 : Int, x_4 = w32 (x3 + 0) →
        ∀ x_5 : Int, x_5 = w32 (x4 + 1) →
        zG E mX10_hump (d + 1) 33 [zR 0, zI x1, zI x2, zI x_4, zI x_5] [] h_2 (qI K)) ∧
      (¬ (r_2 = 0) →
        zCI E mX10_binOfRing d [zR 0, zI x4, zI x1] h_2 (fun r_6 h_6 =>
          ((r_6 ≠ x2 →
            ∀ x_8 : Int, x_8 = w32 (x3 + 0) →
            ∀ x_9 : Int, x_9 = w32 (x4 + 1) →
            zG E mX10_hump (d + 1) 33 [zR 0, zI x1, zI x2, zI x_8, zI x_9] [] h_6 (qI K)) ∧
          (¬ (r_6 ≠ x2) →
            ∀ x_10 : Int, x_10 = w32 (x3 + 1) →
            ∀ x_11 : Int, x_11 = w32 (x4 + 1) →
            zG E mX10_hump (d + 1) 33 [zR 0, zI x1, zI x2, zI x_10, zI x_11] [] h_6 (qI K)))))))))) :
  zG E mX10_hump (d + 1) 33 [zR 0, zI x1, zI x2, zI x3, zI x4] [] h (qI K) := by
  refine z_iload dX10_hump_33 rfl ?_
  refine z_aload_n dX10_hump_35 rfl ?_
  refine gf_X10_340 dX10_hump_36 rfl (sR_0 hE) (cR_0 hE) ?_
  refine z_icmp_ge (tgt := 76) dX10_hump_39 (by decide) (fun c_1 => ?_) (fun c_1 => ?_)
  · have hyp := hyp.1 c_1
    refine z_iload_n dX10_hump_76 rfl ?_
    exact z_iret dX10_hump_77 rfl ⟨_, rfl, hyp⟩
  · have hyp := hyp.2 c_1
    refine z_iload_n dX10_hump_42 rfl ?_
    refine z_aload_n dX10_hump_43 rfl ?_
    refine z_iload dX10_hump_44 rfl ?_
    refine cl_X10_443 dX10_hump_46 rfl (sR_0 hE) (cR_0 hE) (Nat.le_of_ble_eq_true rfl) (zC_mono ?_ hyp)
    rintro _ h_2 ⟨r_2, rfl, hyp⟩
    refine ⟨r_2, rfl, ?_⟩
    refine z_if_eq (tgt := 67) dX10_hump_49 (by decide) (fun c_3 => ?_) (fun c_3 => ?_)
    · have hyp := hyp.1 c_3
      refine z_iconst dX10_hump_67 (r32d rfl) ?_
      refine z_iadd dX10_hump_68 ?_
      generalize ex_4 : w32 (x3 + 0) = x_4
      have hyp := hyp x_4 ex_4.symm
      refine z_istore_n dX10_hump_69 rfl (by decide) rfl ?_
      refine z_iinc dX10_hump_70 rfl (by decide) rfl ?_
      generalize ex_5 : w32 (x4 + 1) = x_5
      have hyp := hyp x_5 ex_5.symm
      refine z_goto (tgt := 33) dX10_hump_73 (by decide) ?_
      exact hyp
    · have hyp := hyp.2 c_3
      refine z_aload_n dX10_hump_52 rfl ?_
      refine z_iload dX10_hump_53 rfl ?_
      refine z_iload_n dX10_hump_55 rfl ?_
      refine cl_X10_516 dX10_hump_56 rfl (sR_0 hE) (cR_0 hE) (Nat.le_of_ble_eq_true rfl) (zC_mono ?_ hyp)
      rintro _ h_6 ⟨r_6, rfl, hyp⟩
      refine ⟨r_6, rfl, ?_⟩
      refine z_iload_n dX10_hump_59 rfl ?_
      refine z_icmp_ne (tgt := 67) dX10_hump_60 (by decide) (fun c_7 => ?_) (fun c_7 => ?_)
      · have hyp := hyp.1 c_7
        refine z_iconst dX10_hump_67 (r32d rfl) ?_
        refine z_iadd dX10_hump_68 ?_
        generalize ex_8 : w32 (x3 + 0) = x_8
        have hyp := hyp x_8 ex_8.symm
        refine z_istore_n dX10_hump_69 rfl (by decide) rfl ?_
        refine z_iinc dX10_hump_70 rfl (by decide) rfl ?_
        generalize ex_9 : w32 (x4 + 1) = x_9
        have hyp := hyp x_9 ex_9.symm
        refine z_goto (tgt := 33) dX10_hump_73 (by decide) ?_
        exact hyp
      · have hyp := hyp.2 c_7
        refine z_iconst dX10_hump_63 (r32d rfl) ?_
        refine z_goto (tgt := 68) dX10_hump_64 (by decide) ?_
        refine z_iadd dX10_hump_68 ?_
        generalize ex_10 : w32 (x3 + 1) = x_10
        have hyp := hyp x_10 ex_10.symm
        refine z_istore_n dX10_hump_69 rfl (by decide) rfl ?_
        refine z_iinc dX10_hump_70 rfl (by decide) rfl ?_
        generalize ex_11 : w32 (x4 + 1) = x_11
        have hyp := hyp x_11 ex_11.symm
        refine z_goto (tgt := 33) dX10_hump_73 (by decide) ?_
        exact hyp
set_option maxRecDepth 20000 in
theorem eX10_hump {E : zE} (hE : isR E) {d : Nat} {x1 x2 : Int} {h : zH} {K : Int → zH → Prop} (hyp :
  ∀ h_1 : zH, h_1 = hset h 0 0 0 →
  zCI E mX10_isUnit d [zI x1] h_1 (fun r_2 h_2 =>
    ((r_2 = 0 →
      K (-1) h_2) ∧
    (¬ (r_2 = 0) →
      ((x2 < 0 →
        K (-1) h_2) ∧
      (¬ (x2 < 0) →
        ((x2 < 6 →
          zCV E mX10_laid d [zR 0] h_2 (fun h_6 =>
            zG E mX10_hump (d + 1) 33 [zR 0, zI x1, zI x2, zI 0, zI 0] [] h_6 (qI K))) ∧
        (¬ (x2 < 6) →
          K (-1) h_2)))))))) :
  zCI E mX10_hump (d + 1) [zR 0, zI x1, zI x2] h K := by
  refine zC_in (L0 := [zR 0, zI x1, zI x2, zU, zU]) pn_X10 rfl (Nat.le_of_ble_eq_true rfl) ?_
  refine z_aload_n dX10_hump_0 rfl ?_
  refine z_iconst dX10_hump_1 (r32d rfl) ?_
  refine pf_X10_153 dX10_hump_2 rfl (sR_0 hE) (cR_0 hE) ?_
  generalize eh_1 : hset h 0 0 _ = h_1
  have hyp := hyp h_1 eh_1.symm
  refine z_iload_n dX10_hump_5 rfl ?_
  refine cl_X10_460 dX10_hump_6 rfl (Nat.le_of_ble_eq_true rfl) (zC_mono ?_ hyp)
  rintro _ h_2 ⟨r_2, rfl, hyp⟩
  refine ⟨r_2, rfl, ?_⟩
  refine z_if_eq (tgt := 22) dX10_hump_9 (by decide) (fun c_3 => ?_) (fun c_3 => ?_)
  · have hyp := hyp.1 c_3
    refine z_iconst dX10_hump_22 (r32d rfl) ?_
    exact z_iret dX10_hump_23 rfl ⟨_, rfl, hyp⟩
  · have hyp := hyp.2 c_3
    refine z_iload_n dX10_hump_12 rfl ?_
    refine z_if_lt (tgt := 22) dX10_hump_13 (by decide) (fun c_4 => ?_) (fun c_4 => ?_)
    · have hyp := hyp.1 c_4
      refine z_iconst dX10_hump_22 (r32d rfl) ?_
      exact z_iret dX10_hump_23 rfl ⟨_, rfl, hyp⟩
    · have hyp := hyp.2 c_4
      refine z_iload_n dX10_hump_16 rfl ?_
      refine z_bipush dX10_hump_17 (r32d rfl) (by decide) ?_
      refine z_icmp_lt (tgt := 24) dX10_hump_19 (by decide) (fun c_5 => ?_) (fun c_5 => ?_)
      · have hyp := hyp.1 c_5
        refine z_aload_n dX10_hump_24 rfl ?_
        refine cl_X10_440 dX10_hump_25 rfl (sR_0 hE) (cR_0 hE) (Nat.le_of_ble_eq_true rfl) (zC_mono ?_ hyp)
        rintro _ h_6 ⟨rfl, hyp⟩
        refine ⟨rfl, ?_⟩
        refine z_iconst dX10_hump_28 (r32d rfl) ?_
        refine z_istore_n dX10_hump_29 rfl (by decide) rfl ?_
        refine z_iconst dX10_hump_30 (r32d rfl) ?_
        refine z_istore dX10_hump_31 (by decide) rfl ?_
        exact hyp
      · have hyp := hyp.2 c_5
        refine z_iconst dX10_hump_22 (r32d rfl) ?_
        exact z_iret dX10_hump_23 rfl ⟨_, rfl, hyp⟩
set_option maxRecDepth 20000 in
theorem eX10_is {E : zE} (hE : isR E) {d : Nat} {x0 : Int} {h : zH} {K : Int → zH → Prop} (hyp :
  ((x0 = 0 →
    K 0 h) ∧
  (¬ (x0 = 0) →
    K 1 h))) :
  zCJ E mX10_is d [zI x0] h K := by
  refine zC_in (L0 := [zI x0]) pn_X10 rfl (Nat.le_of_ble_eq_true rfl) ?_
  refine z_iload_n dX10_is_0 rfl ?_
  refine z_if_eq (tgt := 8) dX10_is_1 (by decide) (fun c_1 => ?_) (fun c_1 => ?_)
  · have hyp := hyp.1 c_1
    refine z_lconst (x := 0) dX10_is_8 (by decide) (r64d rfl) ?_
    exact z_lret dX10_is_9 rfl ⟨_, rfl, hyp⟩
  · have hyp := hyp.2 c_1
    refine z_lconst (x := 1) dX10_is_4 (by decide) (r64d rfl) ?_
    refine z_goto (tgt := 9) dX10_is_5 (by decide) ?_
    exact z_lret dX10_is_9 rfl ⟨_, rfl, hyp⟩
set_option maxRecDepth 20000 in
theorem eX10_isDigit {E : zE} (hE : isR E) {d : Nat} {x0 : Int} {h : zH} {K : Int → zH → Prop} (hyp :
  ((x0 < 48 →
    K 0 h) ∧
  (¬ (x0 < 48) →
    ((57 < x0 →
      K 0 h) ∧
    (¬ (57 < x0) →
      K 1 h))))) :
  zCI E mX10_isDigit d [zI x0] h K := by
  refine zC_in (L0 := [zI x0]) pn_X10 rfl (Nat.le_of_ble_eq_true rfl) ?_
  refine z_iload_n dX10_isDigit_0 rfl ?_
  refine z_bipush dX10_isDigit_1 (r32d rfl) (by decide) ?_
  refine z_icmp_lt (tgt := 16) dX10_isDigit_3 (by decide) (fun c_1 => ?_) (fun c_1 => ?_)
  · have hyp := hyp.1 c_1
    refine z_iconst dX10_isDigit_16 (r32d rfl) ?_
    exact z_zret dX10_isDigit_17 rfl (Or.inl rfl) ⟨_, rfl, hyp⟩
  · have hyp := hyp.2 c_1
    refine z_iload_n dX10_isDigit_6 rfl ?_
    refine z_bipush dX10_isDigit_7 (r32d rfl) (by decide) ?_
    refine z_icmp_gt (tgt := 16) dX10_isDigit_9 (by decide) (fun c_2 => ?_) (fun c_2 => ?_)
    · have hyp := hyp.1 c_2
      refine z_iconst dX10_isDigit_16 (r32d rfl) ?_
      exact z_zret dX10_isDigit_17 rfl (Or.inl rfl) ⟨_, rfl, hyp⟩
    · have hyp := hyp.2 c_2
      refine z_iconst dX10_isDigit_12 (r32d rfl) ?_
      refine z_goto (tgt := 17) dX10_isDigit_13 (by decide) ?_
      exact z_zret dX10_isDigit_17 rfl (Or.inr rfl) ⟨_, rfl, hyp⟩
set_option maxRecDepth 20000 in
theorem bX10_isFull_26 {E : zE} (hE : isR E) {d : Nat} {x1 : Int} {h : zH} {K : Int → zH → Prop} (hyp :
  ((x1 ≠ 2 →
    ((x1 ≠ 4 →
      K 0 h) ∧
    (¬ (x1 ≠ 4) →
      (((h 0 35) ≠ 20 →
        K 0 h) ∧
      (¬ ((h 0 35) ≠ 20) →
        K 1 h))))) ∧
  (¬ (x1 ≠ 2) →
    (((h 0 34) = 5 →
      K 1 h) ∧
    (¬ ((h 0 34) = 5) →
      ((x1 ≠ 4 →
        K 0 h) ∧
      (¬ (x1 ≠ 4) →
        (((h 0 35) ≠ 20 →
          K 0 h) ∧
        (¬ ((h 0 35) ≠ 20) →
          K 1 h))))))))) :
  zG E mX10_isFull d 26 [zR 0, zI x1] [] h (qI K) := by
  refine z_iload_n dX10_isFull_26 rfl ?_
  refine z_iconst dX10_isFull_27 (r32d rfl) ?_
  refine z_icmp_ne (tgt := 39) dX10_isFull_28 (by decide) (fun c_1 => ?_) (fun c_1 => ?_)
  · have hyp := hyp.1 c_1
    refine z_iload_n dX10_isFull_39 rfl ?_
    refine z_iconst dX10_isFull_40 (r32d rfl) ?_
    refine z_icmp_ne (tgt := 57) dX10_isFull_41 (by decide) (fun c_2 => ?_) (fun c_2 => ?_)
    · have hyp := hyp.1 c_2
      refine z_iconst dX10_isFull_57 (r32d rfl) ?_
      exact z_zret dX10_isFull_58 rfl (Or.inl rfl) ⟨_, rfl, hyp⟩
    · have hyp := hyp.2 c_2
      refine z_aload_n dX10_isFull_44 rfl ?_
      refine gf_X10_239 dX10_isFull_45 rfl (sR_0 hE) (cR_0 hE) ?_
      refine z_bipush dX10_isFull_48 (r32d rfl) (by decide) ?_
      refine z_icmp_ne (tgt := 57) dX10_isFull_50 (by decide) (fun c_3 => ?_) (fun c_3 => ?_)
      · have hyp := hyp.1 c_3
        refine z_iconst dX10_isFull_57 (r32d rfl) ?_
        exact z_zret dX10_isFull_58 rfl (Or.inl rfl) ⟨_, rfl, hyp⟩
      · have hyp := hyp.2 c_3
        refine z_iconst dX10_isFull_53 (r32d rfl) ?_
        refine z_goto (tgt := 58) dX10_isFull_54 (by decide) ?_
        exact z_zret dX10_isFull_58 rfl (Or.inr rfl) ⟨_, rfl, hyp⟩
  · have hyp := hyp.2 c_1
    refine z_aload_n dX10_isFull_31 rfl ?_
    refine gf_X10_236 dX10_isFull_32 rfl (sR_0 hE) (cR_0 hE) ?_
    refine z_iconst dX10_isFull_35 (r32d rfl) ?_
    refine z_icmp_eq (tgt := 53) dX10_isFull_36 (by decide) (fun c_4 => ?_) (fun c_4 => ?_)
    · have hyp := hyp.1 c_4
      refine z_iconst dX10_isFull_53 (r32d rfl) ?_
      refine z_goto (tgt := 58) dX10_isFull_54 (by decide) ?_
      exact z_zret dX10_isFull_58 rfl (Or.inr rfl) ⟨_, rfl, hyp⟩
    · have hyp := hyp.2 c_4
      refine z_iload_n dX10_isFull_39 rfl ?_
      refine z_iconst dX10_isFull_40 (r32d rfl) ?_
      refine z_icmp_ne (tgt := 57) dX10_isFull_41 (by decide) (fun c_5 => ?_) (fun c_5 => ?_)
      · have hyp := hyp.1 c_5
        refine z_iconst dX10_isFull_57 (r32d rfl) ?_
        exact z_zret dX10_isFull_58 rfl (Or.inl rfl) ⟨_, rfl, hyp⟩
      · have hyp := hyp.2 c_5
        refine z_aload_n dX10_isFull_44 rfl ?_
        refine gf_X10_239 dX10_isFull_45 rfl (sR_0 hE) (cR_0 hE) ?_
        refine z_bipush dX10_isFull_48 (r32d rfl) (by decide) ?_
        refine z_icmp_ne (tgt := 57) dX10_isFull_50 (by decide) (fun c_6 => ?_) (fun c_6 => ?_)
        · have hyp := hyp.1 c_6
          refine z_iconst dX10_isFull_57 (r32d rfl) ?_
          exact z_zret dX10_isFull_58 rfl (Or.inl rfl) ⟨_, rfl, hyp⟩
        · have hyp := hyp.2 c_6
          refine z_iconst dX10_isFull_53 (r32d rfl) ?_
          refine z_goto (tgt := 58) dX10_isFull_54 (by decide) ?_
          exact z_zret dX10_isFull_58 rfl (Or.inr rfl) ⟨_, rfl, hyp⟩
set_option maxRecDepth 20000 in
theorem eX10_isFull {E : zE} (hE : isR E) {d : Nat} {x1 : Int} {h : zH} {K : Int → zH → Prop} (hyp :
  ((x1 ≠ 0 →
    ((x1 ≠ 1 →
      zG E mX10_isFull d 26 [zR 0, zI x1] [] h (qI K)) ∧
    (¬ (x1 ≠ 1) →
      (((h 0 33) = 8 →
        K 1 h) ∧
      (¬ ((h 0 33) = 8) →
        zG E mX10_isFull d 26 [zR 0, zI x1] [] h (qI K)))))) ∧
  (¬ (x1 ≠ 0) →
    (((h 0 32) = 4 →
      K 1 h) ∧
    (¬ ((h 0 32) = 4) →
      ((x1 ≠ 1 →
        zG E mX10_isFull d 26 [zR 0, zI x1] [] h (qI K)) ∧
      (¬ (x1 ≠ 1) →
        (((h 0 33) = 8 →
          K 1 h) ∧
        (¬ ((h 0 33) = 8) →
          zG E mX10_isFull d 26 [zR 0, zI x1] [] h (qI K)))))))))) :
  zCI E mX10_isFull d [zR 0, zI x1] h K := by
  refine zC_in (L0 := [zR 0, zI x1]) pn_X10 rfl (Nat.le_of_ble_eq_true rfl) ?_
  refine z_iload_n dX10_isFull_0 rfl ?_
  refine z_if_ne (tgt := 12) dX10_isFull_1 (by decide) (fun c_1 => ?_) (fun c_1 => ?_)
  · have hyp := hyp.1 c_1
    refine z_iload_n dX10_isFull_12 rfl ?_
    refine z_iconst dX10_isFull_13 (r32d rfl) ?_
    refine z_icmp_ne (tgt := 26) dX10_isFull_14 (by decide) (fun c_2 => ?_) (fun c_2 => ?_)
    · have hyp := hyp.1 c_2
      exact hyp
    · have hyp := hyp.2 c_2
      refine z_aload_n dX10_isFull_17 rfl ?_
      refine gf_X10_233 dX10_isFull_18 rfl (sR_0 hE) (cR_0 hE) ?_
      refine z_bipush dX10_isFull_21 (r32d rfl) (by decide) ?_
      refine z_icmp_eq (tgt := 53) dX10_isFull_23 (by decide) (fun c_3 => ?_) (fun c_3 => ?_)
      · have hyp := hyp.1 c_3
        refine z_iconst dX10_isFull_53 (r32d rfl) ?_
        refine z_goto (tgt := 58) dX10_isFull_54 (by decide) ?_
        exact z_zret dX10_isFull_58 rfl (Or.inr rfl) ⟨_, rfl, hyp⟩
      · have hyp := hyp.2 c_3
        exact hyp
  · have hyp := hyp.2 c_1
    refine z_aload_n dX10_isFull_4 rfl ?_
    refine gf_X10_230 dX10_isFull_5 rfl (sR_0 hE) (cR_0 hE) ?_
    refine z_iconst dX10_isFull_8 (r32d rfl) ?_
    refine z_icmp_eq (tgt := 53) dX10_isFull_9 (by decide) (fun c_4 => ?_) (fun c_4 => ?_)
    · have hyp := hyp.1 c_4
      refine z_iconst dX10_isFull_53 (r32d rfl) ?_
      refine z_goto (tgt := 58) dX10_isFull_54 (by decide) ?_
      exact z_zret dX10_isFull_58 rfl (Or.inr rfl) ⟨_, rfl, hyp⟩
    · have hyp := hyp.2 c_4
      refine z_iload_n dX10_isFull_12 rfl ?_
      refine z_iconst dX10_isFull_13 (r32d rfl) ?_
      refine z_icmp_ne (tgt := 26) dX10_isFull_14 (by decide) (fun c_5 => ?_) (fun c_5 => ?_)
      · have hyp := hyp.1 c_5
        exact hyp
      · have hyp := hyp.2 c_5
        refine z_aload_n dX10_isFull_17 rfl ?_
        refine gf_X10_233 dX10_isFull_18 rfl (sR_0 hE) (cR_0 hE) ?_
        refine z_bipush dX10_isFull_21 (r32d rfl) (by decide) ?_
        refine z_icmp_eq (tgt := 53) dX10_isFull_23 (by decide) (fun c_6 => ?_) (fun c_6 => ?_)
        · have hyp := hyp.1 c_6
          refine z_iconst dX10_isFull_53 (r32d rfl) ?_
          refine z_goto (tgt := 58) dX10_isFull_54 (by decide) ?_
          exact z_zret dX10_isFull_58 rfl (Or.inr rfl) ⟨_, rfl, hyp⟩
        · have hyp := hyp.2 c_6
          exact hyp
set_option maxRecDepth 20000 in
theorem bX10_isNear_110 {E : zE} (hE : isR E) {d : Nat} {x5 : Int} {h : zH} {K : Int → zH → Prop} (hyp :
  (((h 0 28) ≤ x5 →
    (((h 37 0) = 0 →
      K 0 h) ∧
    (¬ ((h 37 0) = 0) →
      K 1 h))) ∧
  (¬ ((h 0 28) ≤ x5) →
    ((0 : Int) ≤ x5 ∧ x5 < (128 : Int)) ∧
    (((h 20 x5.toNat) ≠ 2 →
      ((0 : Int) ≤ x5 ∧ x5 < (128 : Int)) ∧
      (((h 20 x5.toNat) ≠ 0 →
        ((0 : Int) ≤ x5 ∧ x5 < (128 : Int)) ∧
        ((0 : Int) ≤ h 21 x5.toNat ∧ h 21 x5.toNat < (6 : Int)) ∧
        ((0 : Int) ≤ h 0 81 ∧ h 0 81 < (64 : Int)) ∧
        ∀ h_5 : zH, h_5 = hset h 37 ((h 0 81).toNat) (h 38 (h 21 x5.toNat).toNat) →
        ∀ h_6 : zH, h_6 = hset h_5 0 81 (w32 ((h_5 0 81) + 1)) →
        ∀ x_7 : Int, x_7 = w32 (x5 + 1) →
        zG E mX10_isNear (d + 1) 110 [zR 0, zU, zU, zU, zU, zI x_7] [] h_6 (qI K)) ∧
      (¬ ((h 20 x5.toNat) ≠ 0) →
        ((0 : Int) ≤ x5 ∧ x5 < (128 : Int)) ∧
        ((0 : Int) ≤ h 0 81 ∧ h 0 81 < (64 : Int)) ∧
        ∀ h_8 : zH, h_8 = hset h 37 ((h 0 81).toNat) (h 21 x5.toNat) →
        ∀ h_9 : zH, h_9 = hset h_8 0 81 (w32 ((h_8 0 81) + 1)) →
        ∀ x_10 : Int, x_10 = w32 (x5 + 1) →
        zG E mX10_isNear (d + 1) 110 [zR 0, zU, zU, zU, zU, zI x_10] [] h_9 (qI K)))) ∧
    (¬ ((h 20 x5.toNat) ≠ 2) →
      ((0 : Int) ≤ x5 ∧ x5 < (128 : Int)) ∧
      zCI E mX10_works d [zR 0, zI (h 21 x5.toNat)] h (fun r_11 h_11 =>
        ((r_11 ≠ 0 →
          ∀ x_13 : Int, x_13 = w32 (x5 + 1) →
          zG E mX10_isNear (d + 1) 110 [zR 0, zU, zU, zU, zU, zI x_13] [] h_11 (qI K)) ∧
        (¬ (r_11 ≠ 0) →
          K 0 h_11)))))))) :
  zG E mX10_isNear (d + 1) 110 [zR 0, zU, zU, zU, zU, zI x5] [] h (qI K) := by
  refine z_iload dX10_isNear_110 rfl ?_
  refine z_aload_n dX10_isNear_112 rfl ?_
  refine gf_X10_352 dX10_isNear_113 rfl (sR_0 hE) (cR_0 hE) ?_
  refine z_icmp_ge (tgt := 204) dX10_isNear_116 (by decide) (fun c_1 => ?_) (fun c_1 => ?_)
  · have hyp := hyp.1 c_1
    refine z_aload_n dX10_isNear_204 rfl ?_
    refine gf_X10_137 (c2 := 37) dX10_isNear_205 rfl (sR_0 hE) (cR_0 hE) rfl ?_
    refine z_iconst dX10_isNear_208 (r32d rfl) ?_
    refine z_laload dX10_isNear_209 (sR_37 hE) (cR_37 hE) (by decide) (by decide) ?_
    refine z_lconst (x := 0) dX10_isNear_210 (by decide) (r64d rfl) ?_
    refine z_lc_eq (tgt := 219) dX10_isNear_211 dX10_isNear_212 (by decide) (fun c_2 => ?_) (fun c_2 => ?_)
    · have hyp := hyp.1 c_2
      refine z_iconst dX10_isNear_219 (r32d rfl) ?_
      exact z_zret dX10_isNear_220 rfl (Or.inl rfl) ⟨_, rfl, hyp⟩
    · have hyp := hyp.2 c_2
      refine z_iconst dX10_isNear_215 (r32d rfl) ?_
      refine z_goto (tgt := 220) dX10_isNear_216 (by decide) ?_
      exact z_zret dX10_isNear_220 rfl (Or.inr rfl) ⟨_, rfl, hyp⟩
  · have hyp := hyp.2 c_1
    refine z_aload_n dX10_isNear_119 rfl ?_
    refine gf_X10_70 (c2 := 20) dX10_isNear_120 rfl (sR_0 hE) (cR_0 hE) rfl ?_
    refine z_iload dX10_isNear_123 rfl ?_
    obtain ⟨⟨hi0, hi1⟩, hyp⟩ := hyp
    refine z_iaload dX10_isNear_125 (sR_20 hE) (cR_20 hE) hi0 hi1 ?_
    refine z_iconst dX10_isNear_126 (r32d rfl) ?_
    refine z_icmp_ne (tgt := 146) dX10_isNear_127 (by decide) (fun c_3 => ?_) (fun c_3 => ?_)
    · have hyp := hyp.1 c_3
      refine z_aload_n dX10_isNear_146 rfl ?_
      refine gf_X10_137 (c2 := 37) dX10_isNear_147 rfl (sR_0 hE) (cR_0 hE) rfl ?_
      refine z_aload_n dX10_isNear_150 rfl ?_
      refine gf_X10_472 dX10_isNear_151 rfl (sR_0 hE) (cR_0 hE) ?_
      refine z_aload_n dX10_isNear_154 rfl ?_
      refine gf_X10_70 (c2 := 20) dX10_isNear_155 rfl (sR_0 hE) (cR_0 hE) rfl ?_
      refine z_iload dX10_isNear_158 rfl ?_
      obtain ⟨⟨hi0, hi1⟩, hyp⟩ := hyp
      refine z_iaload dX10_isNear_160 (sR_20 hE) (cR_20 hE) hi0 hi1 ?_
      refine z_if_ne (tgt := 175) dX10_isNear_161 (by decide) (fun c_4 => ?_) (fun c_4 => ?_)
      · have hyp := hyp.1 c_4
        refine z_aload_n dX10_isNear_175 rfl ?_
        refine gf_X10_141 (c2 := 38) dX10_isNear_176 rfl (sR_0 hE) (cR_0 hE) rfl ?_
        refine z_aload_n dX10_isNear_179 rfl ?_
        refine gf_X10_73 (c2 := 21) dX10_isNear_180 rfl (sR_0 hE) (cR_0 hE) rfl ?_
        refine z_iload dX10_isNear_183 rfl ?_
        obtain ⟨⟨hi0, hi1⟩, hyp⟩ := hyp
        refine z_iaload dX10_isNear_185 (sR_21 hE) (cR_21 hE) hi0 hi1 ?_
        obtain ⟨⟨hi0, hi1⟩, hyp⟩ := hyp
        refine z_laload dX10_isNear_186 (sR_38 hE) (cR_38 hE) hi0 hi1 ?_
        obtain ⟨⟨hi0, hi1⟩, hyp⟩ := hyp
        refine z_lastore dX10_isNear_187 (sR_37 hE) (cR_37 hE) hi0 hi1 ?_
        generalize eh_5 : hset h 37 _ (h 38 (h 21 x5.toNat).toNat) = h_5
        have hyp := hyp h_5 eh_5.symm
        refine z_aload_n dX10_isNear_188 rfl ?_
        refine z_dup dX10_isNear_189 rfl ?_
        refine gf_X10_472 dX10_isNear_190 rfl (sR_0 hE) (cR_0 hE) ?_
        refine z_iconst dX10_isNear_193 (r32d rfl) ?_
        refine z_iadd dX10_isNear_194 ?_
        refine pf_X10_472 dX10_isNear_195 rfl (sR_0 hE) (cR_0 hE) ?_
        generalize eh_6 : hset h_5 0 81 _ = h_6
        have hyp := hyp h_6 eh_6.symm
        refine z_iinc dX10_isNear_198 rfl (by decide) rfl ?_
        generalize ex_7 : w32 (x5 + 1) = x_7
        have hyp := hyp x_7 ex_7.symm
        refine z_goto (tgt := 110) dX10_isNear_201 (by decide) ?_
        exact hyp
      · have hyp := hyp.2 c_4
        refine z_aload_n dX10_isNear_164 rfl ?_
        refine gf_X10_73 (c2 := 21) dX10_isNear_165 rfl (sR_0 hE) (cR_0 hE) rfl ?_
        refine z_iload dX10_isNear_168 rfl ?_
        obtain ⟨⟨hi0, hi1⟩, hyp⟩ := hyp
        refine z_iaload dX10_isNear_170 (sR_21 hE) (cR_21 hE) hi0 hi1 ?_
        refine z_i2l dX10_isNear_171 ?_
        refine z_goto (tgt := 187) dX10_isNear_172 (by decide) ?_
        obtain ⟨⟨hi0, hi1⟩, hyp⟩ := hyp
        refine z_lastore dX10_isNear_187 (sR_37 hE) (cR_37 hE) hi0 hi1 ?_
        generalize eh_8 : hset h 37 _ (h 21 x5.toNat) = h_8
        have hyp := hyp h_8 eh_8.symm
        refine z_aload_n dX10_isNear_188 rfl ?_
        refine z_dup dX10_isNear_189 rfl ?_
        refine gf_X10_472 dX10_isNear_190 rfl (sR_0 hE) (cR_0 hE) ?_
        refine z_iconst dX10_isNear_193 (r32d rfl) ?_
        refine z_iadd dX10_isNear_194 ?_
        refine pf_X10_472 dX10_isNear_195 rfl (sR_0 hE) (cR_0 hE) ?_
        generalize eh_9 : hset h_8 0 81 _ = h_9
        have hyp := hyp h_9 eh_9.symm
        refine z_iinc dX10_isNear_198 rfl (by decide) rfl ?_
        generalize ex_10 : w32 (x5 + 1) = x_10
        have hyp := hyp x_10 ex_10.symm
        refine z_goto (tgt := 110) dX10_isNear_201 (by decide) ?_
        exact hyp
    · have hyp := hyp.2 c_3
      refine z_aload_n dX10_isNear_130 rfl ?_
      refine z_aload_n dX10_isNear_131 rfl ?_
      refine gf_X10_73 (c2 := 21) dX10_isNear_132 rfl (sR_0 hE) (cR_0 hE) rfl ?_
      refine z_iload dX10_isNear_135 rfl ?_
      obtain ⟨⟨hi0, hi1⟩, hyp⟩ := hyp
      refine z_iaload dX10_isNear_137 (sR_21 hE) (cR_21 hE) hi0 hi1 ?_
      refine cl_X10_486 dX10_isNear_138 rfl (sR_0 hE) (cR_0 hE) (Nat.le_of_ble_eq_true rfl) (zC_mono ?_ hyp)
      rintro _ h_11 ⟨r_11, rfl, hyp⟩
      refine ⟨r_11, rfl, ?_⟩
      refine z_if_ne (tgt := 198) dX10_isNear_141 (by decide) (fun c_12 => ?_) (fun c_12 => ?_)
      · have hyp := hyp.1 c_12
        refine z_iinc dX10_isNear_198 rfl (by decide) rfl ?_
        generalize ex_13 : w32 (x5 + 1) = x_13
        have hyp := hyp x_13 ex_13.symm
        refine z_goto (tgt := 110) dX10_isNear_201 (by decide) ?_
        exact hyp
      · have hyp := hyp.2 c_12
        refine z_iconst dX10_isNear_144 (r32d rfl) ?_
        exact z_zret dX10_isNear_145 rfl (Or.inl rfl) ⟨_, rfl, hyp⟩
set_option maxRecDepth 20000 in
theorem eX10_isNear {E : zE} (hE : isR E) {d : Nat} {x1 x2 x3 : Int} {h : zH} {K : Int → zH → Prop} (hyp :
  zCI E mX10_part d [zR 0, zI x3] h (fun r_1 h_1 =>
    zCI E mX10_offBy d [zI x2, zI r_1] h_1 (fun r_2 h_2 =>
      (((h_2 0 28) ≠ 0 →
        ∀ h_4 : zH, h_4 = hset h_2 38 0 r_2 →
        ∀ h_5 : zH, h_5 = hset h_4 38 1 x3 →
        ∀ h_6 : zH, h_6 = hset h_5 38 2 x2 →
        zCI E mX10_part d [zR 0, zI x3] h_6 (fun r_7 h_7 =>
          zCI E mX10_timesBy d [zI x2, zI r_7] h_7 (fun r_8 h_8 =>
            ∀ h_9 : zH, h_9 = hset h_8 38 3 r_8 →
            ((0 : Int) ≤ x1 ∧ x1 < (8 : Int)) ∧
            ∀ h_10 : zH, h_10 = hset h_9 38 4 (h_9 36 x1.toNat) →
            ((0 : Int) ≤ x1 ∧ x1 < (8 : Int)) ∧
            ∀ h_11 : zH, h_11 = hset h_10 38 5 (w32 (Int.tdiv (h_10 35 x1.toNat) 4)) →
            ∀ h_12 : zH, h_12 = hset h_11 0 81 0 →
            zG E mX10_isNear (d + 1) 110 [zR 0, zU, zU, zU, zU, zI 0] [] h_12 (qI K)))) ∧
      (¬ ((h_2 0 28) ≠ 0) →
        ((x3 < (w32 (8 * r_2)) →
          K 0 h_2) ∧
        (¬ (x3 < (w32 (8 * r_2))) →
          K 1 h_2))))))) :
  zCI E mX10_isNear (d + 1) [zR 0, zI x1, zI x2, zI x3] h K := by
  refine zC_in (L0 := [zR 0, zI x1, zI x2, zI x3, zU, zU]) pn_X10 rfl (Nat.le_of_ble_eq_true rfl) ?_
  refine z_iload_n dX10_isNear_0 rfl ?_
  refine z_aload_n dX10_isNear_1 rfl ?_
  refine z_iload_n dX10_isNear_2 rfl ?_
  refine cl_X10_463 dX10_isNear_3 rfl (sR_0 hE) (cR_0 hE) (Nat.le_of_ble_eq_true rfl) (zC_mono ?_ hyp)
  rintro _ h_1 ⟨r_1, rfl, hyp⟩
  refine ⟨r_1, rfl, ?_⟩
  refine cl_X10_466 dX10_isNear_6 rfl (Nat.le_of_ble_eq_true rfl) (zC_mono ?_ hyp)
  rintro _ h_2 ⟨r_2, rfl, hyp⟩
  refine ⟨r_2, rfl, ?_⟩
  refine z_istore dX10_isNear_9 (by decide) rfl ?_
  refine z_aload_n dX10_isNear_11 rfl ?_
  refine gf_X10_352 dX10_isNear_12 rfl (sR_0 hE) (cR_0 hE) ?_
  refine z_if_ne (tgt := 33) dX10_isNear_15 (by decide) (fun c_3 => ?_) (fun c_3 => ?_)
  · have hyp := hyp.1 c_3
    refine z_aload_n dX10_isNear_33 rfl ?_
    refine gf_X10_141 (c2 := 38) dX10_isNear_34 rfl (sR_0 hE) (cR_0 hE) rfl ?_
    refine z_iconst dX10_isNear_37 (r32d rfl) ?_
    refine z_iload dX10_isNear_38 rfl ?_
    refine z_i2l dX10_isNear_40 ?_
    refine z_lastore dX10_isNear_41 (sR_38 hE) (cR_38 hE) (by decide) (by decide) ?_
    generalize eh_4 : hset h_2 38 _ r_2 = h_4
    have hyp := hyp h_4 eh_4.symm
    refine z_aload_n dX10_isNear_42 rfl ?_
    refine gf_X10_141 (c2 := 38) dX10_isNear_43 rfl (sR_0 hE) (cR_0 hE) rfl ?_
    refine z_iconst dX10_isNear_46 (r32d rfl) ?_
    refine z_iload_n dX10_isNear_47 rfl ?_
    refine z_i2l dX10_isNear_48 ?_
    refine z_lastore dX10_isNear_49 (sR_38 hE) (cR_38 hE) (by decide) (by decide) ?_
    generalize eh_5 : hset h_4 38 _ x3 = h_5
    have hyp := hyp h_5 eh_5.symm
    refine z_aload_n dX10_isNear_50 rfl ?_
    refine gf_X10_141 (c2 := 38) dX10_isNear_51 rfl (sR_0 hE) (cR_0 hE) rfl ?_
    refine z_iconst dX10_isNear_54 (r32d rfl) ?_
    refine z_iload_n dX10_isNear_55 rfl ?_
    refine z_i2l dX10_isNear_56 ?_
    refine z_lastore dX10_isNear_57 (sR_38 hE) (cR_38 hE) (by decide) (by decide) ?_
    generalize eh_6 : hset h_5 38 _ x2 = h_6
    have hyp := hyp h_6 eh_6.symm
    refine z_aload_n dX10_isNear_58 rfl ?_
    refine gf_X10_141 (c2 := 38) dX10_isNear_59 rfl (sR_0 hE) (cR_0 hE) rfl ?_
    refine z_iconst dX10_isNear_62 (r32d rfl) ?_
    refine z_iload_n dX10_isNear_63 rfl ?_
    refine z_aload_n dX10_isNear_64 rfl ?_
    refine z_iload_n dX10_isNear_65 rfl ?_
    refine cl_X10_463 dX10_isNear_66 rfl (sR_0 hE) (cR_0 hE) (Nat.le_of_ble_eq_true rfl) (zC_mono ?_ hyp)
    rintro _ h_7 ⟨r_7, rfl, hyp⟩
    refine ⟨r_7, rfl, ?_⟩
    refine cl_X10_469 dX10_isNear_69 rfl (Nat.le_of_ble_eq_true rfl) (zC_mono ?_ hyp)
    rintro _ h_8 ⟨r_8, rfl, hyp⟩
    refine ⟨r_8, rfl, ?_⟩
    refine z_i2l dX10_isNear_72 ?_
    refine z_lastore dX10_isNear_73 (sR_38 hE) (cR_38 hE) (by decide) (by decide) ?_
    generalize eh_9 : hset h_8 38 _ r_8 = h_9
    have hyp := hyp h_9 eh_9.symm
    refine z_aload_n dX10_isNear_74 rfl ?_
    refine gf_X10_141 (c2 := 38) dX10_isNear_75 rfl (sR_0 hE) (cR_0 hE) rfl ?_
    refine z_iconst dX10_isNear_78 (r32d rfl) ?_
    refine z_aload_n dX10_isNear_79 rfl ?_
    refine gf_X10_134 (c2 := 36) dX10_isNear_80 rfl (sR_0 hE) (cR_0 hE) rfl ?_
    refine z_iload_n dX10_isNear_83 rfl ?_
    obtain ⟨⟨hi0, hi1⟩, hyp⟩ := hyp
    refine z_iaload dX10_isNear_84 (sR_36 hE) (cR_36 hE) hi0 hi1 ?_
    refine z_i2l dX10_isNear_85 ?_
    refine z_lastore dX10_isNear_86 (sR_38 hE) (cR_38 hE) (by decide) (by decide) ?_
    generalize eh_10 : hset h_9 38 _ (h_9 36 x1.toNat) = h_10
    have hyp := hyp h_10 eh_10.symm
    refine z_aload_n dX10_isNear_87 rfl ?_
    refine gf_X10_141 (c2 := 38) dX10_isNear_88 rfl (sR_0 hE) (cR_0 hE) rfl ?_
    refine z_iconst dX10_isNear_91 (r32d rfl) ?_
    refine z_aload_n dX10_isNear_92 rfl ?_
    refine gf_X10_131 (c2 := 35) dX10_isNear_93 rfl (sR_0 hE) (cR_0 hE) rfl ?_
    refine z_iload_n dX10_isNear_96 rfl ?_
    obtain ⟨⟨hi0, hi1⟩, hyp⟩ := hyp
    refine z_iaload dX10_isNear_97 (sR_35 hE) (cR_35 hE) hi0 hi1 ?_
    refine z_iconst dX10_isNear_98 (r32d rfl) ?_
    refine z_idiv (by decide) dX10_isNear_99 ?_
    refine z_i2l dX10_isNear_100 ?_
    refine z_lastore dX10_isNear_101 (sR_38 hE) (cR_38 hE) (by decide) (by decide) ?_
    generalize eh_11 : hset h_10 38 _ (w32 (Int.tdiv (h_10 35 x1.toNat) 4)) = h_11
    have hyp := hyp h_11 eh_11.symm
    refine z_aload_n dX10_isNear_102 rfl ?_
    refine z_iconst dX10_isNear_103 (r32d rfl) ?_
    refine pf_X10_472 dX10_isNear_104 rfl (sR_0 hE) (cR_0 hE) ?_
    generalize eh_12 : hset h_11 0 81 _ = h_12
    have hyp := hyp h_12 eh_12.symm
    refine z_iconst dX10_isNear_107 (r32d rfl) ?_
    refine z_istore dX10_isNear_108 (by decide) rfl ?_
    exact z_forget [true, false, false, false, false, true] rfl hyp
  · have hyp := hyp.2 c_3
    refine z_bipush dX10_isNear_18 (r32d rfl) (by decide) ?_
    refine z_iload dX10_isNear_20 rfl ?_
    refine z_imul dX10_isNear_22 ?_
    refine z_iload_n dX10_isNear_23 rfl ?_
    refine z_icmp_gt (tgt := 31) dX10_isNear_24 (by decide) (fun c_13 => ?_) (fun c_13 => ?_)
    · have hyp := hyp.1 c_13
      refine z_iconst dX10_isNear_31 (r32d rfl) ?_
      exact z_zret dX10_isNear_32 rfl (Or.inl rfl) ⟨_, rfl, hyp⟩
    · have hyp := hyp.2 c_13
      refine z_iconst dX10_isNear_27 (r32d rfl) ?_
      refine z_goto (tgt := 32) dX10_isNear_28 (by decide) ?_
      exact z_zret dX10_isNear_32 rfl (Or.inr rfl) ⟨_, rfl, hyp⟩
set_option maxRecDepth 20000 in
theorem eX10_isPlace {E : zE} (hE : isR E) {d : Nat} {x0 : Int} {h : zH} {K : Int → zH → Prop} (hyp :
  ((x0 < (-999) →
    K 0 h) ∧
  (¬ (x0 < (-999)) →
    ((999 < x0 →
      K 0 h) ∧
    (¬ (999 < x0) →
      K 1 h))))) :
  zCI E mX10_isPlace d [zI x0] h K := by
  refine zC_in (L0 := [zI x0]) pn_X10 rfl (Nat.le_of_ble_eq_true rfl) ?_
  refine z_iload_n dX10_isPlace_0 rfl ?_
  refine z_sipush dX10_isPlace_1 (r32d rfl) (by decide) ?_
  refine z_icmp_lt (tgt := 18) dX10_isPlace_4 (by decide) (fun c_1 => ?_) (fun c_1 => ?_)
  · have hyp := hyp.1 c_1
    refine z_iconst dX10_isPlace_18 (r32d rfl) ?_
    exact z_zret dX10_isPlace_19 rfl (Or.inl rfl) ⟨_, rfl, hyp⟩
  · have hyp := hyp.2 c_1
    refine z_iload_n dX10_isPlace_7 rfl ?_
    refine z_sipush dX10_isPlace_8 (r32d rfl) (by decide) ?_
    refine z_icmp_gt (tgt := 18) dX10_isPlace_11 (by decide) (fun c_2 => ?_) (fun c_2 => ?_)
    · have hyp := hyp.1 c_2
      refine z_iconst dX10_isPlace_18 (r32d rfl) ?_
      exact z_zret dX10_isPlace_19 rfl (Or.inl rfl) ⟨_, rfl, hyp⟩
    · have hyp := hyp.2 c_2
      refine z_iconst dX10_isPlace_14 (r32d rfl) ?_
      refine z_goto (tgt := 19) dX10_isPlace_15 (by decide) ?_
      exact z_zret dX10_isPlace_19 rfl (Or.inr rfl) ⟨_, rfl, hyp⟩
set_option maxRecDepth 20000 in
theorem eX10_isRing {E : zE} (hE : isR E) {d : Nat} {x1 : Int} {h : zH} {K : Int → zH → Prop} (hyp :
  ((x1 < 0 →
    K 0 h) ∧
  (¬ (x1 < 0) →
    (((h 0 24) ≤ x1 →
      K 0 h) ∧
    (¬ ((h 0 24) ≤ x1) →
      K 1 h))))) :
  zCI E mX10_isRing d [zR 0, zI x1] h K := by
  refine zC_in (L0 := [zR 0, zI x1]) pn_X10 rfl (Nat.le_of_ble_eq_true rfl) ?_
  refine z_iload_n dX10_isRing_0 rfl ?_
  refine z_if_lt (tgt := 16) dX10_isRing_1 (by decide) (fun c_1 => ?_) (fun c_1 => ?_)
  · have hyp := hyp.1 c_1
    refine z_iconst dX10_isRing_16 (r32d rfl) ?_
    exact z_zret dX10_isRing_17 rfl (Or.inl rfl) ⟨_, rfl, hyp⟩
  · have hyp := hyp.2 c_1
    refine z_iload_n dX10_isRing_4 rfl ?_
    refine z_aload_n dX10_isRing_5 rfl ?_
    refine gf_X10_340 dX10_isRing_6 rfl (sR_0 hE) (cR_0 hE) ?_
    refine z_icmp_ge (tgt := 16) dX10_isRing_9 (by decide) (fun c_2 => ?_) (fun c_2 => ?_)
    · have hyp := hyp.1 c_2
      refine z_iconst dX10_isRing_16 (r32d rfl) ?_
      exact z_zret dX10_isRing_17 rfl (Or.inl rfl) ⟨_, rfl, hyp⟩
    · have hyp := hyp.2 c_2
      refine z_iconst dX10_isRing_12 (r32d rfl) ?_
      refine z_goto (tgt := 17) dX10_isRing_13 (by decide) ?_
      exact z_zret dX10_isRing_17 rfl (Or.inr rfl) ⟨_, rfl, hyp⟩
set_option maxRecDepth 20000 in
theorem eX10_isSign {E : zE} (hE : isR E) {d : Nat} {x1 : Int} {h : zH} {K : Int → zH → Prop} (hyp :
  (((h 0 49) ≠ 0 →
    K 0 h) ∧
  (¬ ((h 0 49) ≠ 0) →
    (((h 0 47) ≠ 3 →
      K 0 h) ∧
    (¬ ((h 0 47) ≠ 3) →
      (((h 0 48) ≠ x1 →
        K 0 h) ∧
      (¬ ((h 0 48) ≠ x1) →
        K 1 h))))))) :
  zCI E mX10_isSign d [zR 0, zI x1] h K := by
  refine zC_in (L0 := [zR 0, zI x1]) pn_X10 rfl (Nat.le_of_ble_eq_true rfl) ?_
  refine z_aload_n dX10_isSign_0 rfl ?_
  refine gf_X10_207 dX10_isSign_1 rfl (sR_0 hE) (cR_0 hE) ?_
  refine z_if_ne (tgt := 27) dX10_isSign_4 (by decide) (fun c_1 => ?_) (fun c_1 => ?_)
  · have hyp := hyp.1 c_1
    refine z_iconst dX10_isSign_27 (r32d rfl) ?_
    exact z_zret dX10_isSign_28 rfl (Or.inl rfl) ⟨_, rfl, hyp⟩
  · have hyp := hyp.2 c_1
    refine z_aload_n dX10_isSign_7 rfl ?_
    refine gf_X10_172 dX10_isSign_8 rfl (sR_0 hE) (cR_0 hE) ?_
    refine z_iconst dX10_isSign_11 (r32d rfl) ?_
    refine z_icmp_ne (tgt := 27) dX10_isSign_12 (by decide) (fun c_2 => ?_) (fun c_2 => ?_)
    · have hyp := hyp.1 c_2
      refine z_iconst dX10_isSign_27 (r32d rfl) ?_
      exact z_zret dX10_isSign_28 rfl (Or.inl rfl) ⟨_, rfl, hyp⟩
    · have hyp := hyp.2 c_2
      refine z_aload_n dX10_isSign_15 rfl ?_
      refine gf_X10_182 dX10_isSign_16 rfl (sR_0 hE) (cR_0 hE) ?_
      refine z_iload_n dX10_isSign_19 rfl ?_
      refine z_icmp_ne (tgt := 27) dX10_isSign_20 (by decide) (fun c_3 => ?_) (fun c_3 => ?_)
      · have hyp := hyp.1 c_3
        refine z_iconst dX10_isSign_27 (r32d rfl) ?_
        exact z_zret dX10_isSign_28 rfl (Or.inl rfl) ⟨_, rfl, hyp⟩
      · have hyp := hyp.2 c_3
        refine z_iconst dX10_isSign_23 (r32d rfl) ?_
        refine z_goto (tgt := 28) dX10_isSign_24 (by decide) ?_
        exact z_zret dX10_isSign_28 rfl (Or.inr rfl) ⟨_, rfl, hyp⟩
set_option maxRecDepth 20000 in
theorem eX10_isSmall {E : zE} (hE : isR E) {d : Nat} {x0 : Int} {h : zH} {K : Int → zH → Prop} (hyp :
  ((x0 < 97 →
    K 0 h) ∧
  (¬ (x0 < 97) →
    ((122 < x0 →
      K 0 h) ∧
    (¬ (122 < x0) →
      K 1 h))))) :
  zCI E mX10_isSmall d [zI x0] h K := by
  refine zC_in (L0 := [zI x0]) pn_X10 rfl (Nat.le_of_ble_eq_true rfl) ?_
  refine z_iload_n dX10_isSmall_0 rfl ?_
  refine z_bipush dX10_isSmall_1 (r32d rfl) (by decide) ?_
  refine z_icmp_lt (tgt := 16) dX10_isSmall_3 (by decide) (fun c_1 => ?_) (fun c_1 => ?_)
  · have hyp := hyp.1 c_1
    refine z_iconst dX10_isSmall_16 (r32d rfl) ?_
    exact z_zret dX10_isSmall_17 rfl (Or.inl rfl) ⟨_, rfl, hyp⟩
  · have hyp := hyp.2 c_1
    refine z_iload_n dX10_isSmall_6 rfl ?_
    refine z_bipush dX10_isSmall_7 (r32d rfl) (by decide) ?_
    refine z_icmp_gt (tgt := 16) dX10_isSmall_9 (by decide) (fun c_2 => ?_) (fun c_2 => ?_)
    · have hyp := hyp.1 c_2
      refine z_iconst dX10_isSmall_16 (r32d rfl) ?_
      exact z_zret dX10_isSmall_17 rfl (Or.inl rfl) ⟨_, rfl, hyp⟩
    · have hyp := hyp.2 c_2
      refine z_iconst dX10_isSmall_12 (r32d rfl) ?_
      refine z_goto (tgt := 17) dX10_isSmall_13 (by decide) ?_
      exact z_zret dX10_isSmall_17 rfl (Or.inr rfl) ⟨_, rfl, hyp⟩
set_option maxRecDepth 20000 in
theorem eX10_isStone {E : zE} (hE : isR E) {d : Nat} {x1 x2 : Int} {h : zH} {K : Int → zH → Prop} (hyp :
  ((x1 < 0 →
    K 0 h) ∧
  (¬ (x1 < 0) →
    (((h 0 24) ≤ x1 →
      K 0 h) ∧
    (¬ ((h 0 24) ≤ x1) →
      ((x2 < 0 →
        K 0 h) ∧
      (¬ (x2 < 0) →
        ((0 : Int) ≤ x1 ∧ x1 < (16 : Int)) ∧
        (((h 5 x1.toNat) ≤ x2 →
          K 0 h) ∧
        (¬ ((h 5 x1.toNat) ≤ x2) →
          K 1 h))))))))) :
  zCI E mX10_isStone d [zR 0, zI x1, zI x2] h K := by
  refine zC_in (L0 := [zR 0, zI x1, zI x2]) pn_X10 rfl (Nat.le_of_ble_eq_true rfl) ?_
  refine z_iload_n dX10_isStone_0 rfl ?_
  refine z_if_lt (tgt := 30) dX10_isStone_1 (by decide) (fun c_1 => ?_) (fun c_1 => ?_)
  · have hyp := hyp.1 c_1
    refine z_iconst dX10_isStone_30 (r32d rfl) ?_
    exact z_zret dX10_isStone_31 rfl (Or.inl rfl) ⟨_, rfl, hyp⟩
  · have hyp := hyp.2 c_1
    refine z_iload_n dX10_isStone_4 rfl ?_
    refine z_aload_n dX10_isStone_5 rfl ?_
    refine gf_X10_340 dX10_isStone_6 rfl (sR_0 hE) (cR_0 hE) ?_
    refine z_icmp_ge (tgt := 30) dX10_isStone_9 (by decide) (fun c_2 => ?_) (fun c_2 => ?_)
    · have hyp := hyp.1 c_2
      refine z_iconst dX10_isStone_30 (r32d rfl) ?_
      exact z_zret dX10_isStone_31 rfl (Or.inl rfl) ⟨_, rfl, hyp⟩
    · have hyp := hyp.2 c_2
      refine z_iload_n dX10_isStone_12 rfl ?_
      refine z_if_lt (tgt := 30) dX10_isStone_13 (by decide) (fun c_3 => ?_) (fun c_3 => ?_)
      · have hyp := hyp.1 c_3
        refine z_iconst dX10_isStone_30 (r32d rfl) ?_
        exact z_zret dX10_isStone_31 rfl (Or.inl rfl) ⟨_, rfl, hyp⟩
      · have hyp := hyp.2 c_3
        refine z_iload_n dX10_isStone_16 rfl ?_
        refine z_aload_n dX10_isStone_17 rfl ?_
        refine gf_X10_24 (c2 := 5) dX10_isStone_18 rfl (sR_0 hE) (cR_0 hE) rfl ?_
        refine z_iload_n dX10_isStone_21 rfl ?_
        obtain ⟨⟨hi0, hi1⟩, hyp⟩ := hyp
        refine z_iaload dX10_isStone_22 (sR_5 hE) (cR_5 hE) hi0 hi1 ?_
        refine z_icmp_ge (tgt := 30) dX10_isStone_23 (by decide) (fun c_4 => ?_) (fun c_4 => ?_)
        · have hyp := hyp.1 c_4
          refine z_iconst dX10_isStone_30 (r32d rfl) ?_
          exact z_zret dX10_isStone_31 rfl (Or.inl rfl) ⟨_, rfl, hyp⟩
        · have hyp := hyp.2 c_4
          refine z_iconst dX10_isStone_26 (r32d rfl) ?_
          refine z_goto (tgt := 31) dX10_isStone_27 (by decide) ?_
          exact z_zret dX10_isStone_31 rfl (Or.inr rfl) ⟨_, rfl, hyp⟩
set_option maxRecDepth 20000 in
theorem eX10_isUnit {E : zE} (hE : isR E) {d : Nat} {x0 : Int} {h : zH} {K : Int → zH → Prop} (hyp :
  ((x0 < 100 →
    K 0 h) ∧
  (¬ (x0 < 100) →
    ((9999 < x0 →
      K 0 h) ∧
    (¬ (9999 < x0) →
      K 1 h))))) :
  zCI E mX10_isUnit d [zI x0] h K := by
  refine zC_in (L0 := [zI x0]) pn_X10 rfl (Nat.le_of_ble_eq_true rfl) ?_
  refine z_iload_n dX10_isUnit_0 rfl ?_
  refine z_bipush dX10_isUnit_1 (r32d rfl) (by decide) ?_
  refine z_icmp_lt (tgt := 17) dX10_isUnit_3 (by decide) (fun c_1 => ?_) (fun c_1 => ?_)
  · have hyp := hyp.1 c_1
    refine z_iconst dX10_isUnit_17 (r32d rfl) ?_
    exact z_zret dX10_isUnit_18 rfl (Or.inl rfl) ⟨_, rfl, hyp⟩
  · have hyp := hyp.2 c_1
    refine z_iload_n dX10_isUnit_6 rfl ?_
    refine z_sipush dX10_isUnit_7 (r32d rfl) (by decide) ?_
    refine z_icmp_gt (tgt := 17) dX10_isUnit_10 (by decide) (fun c_2 => ?_) (fun c_2 => ?_)
    · have hyp := hyp.1 c_2
      refine z_iconst dX10_isUnit_17 (r32d rfl) ?_
      exact z_zret dX10_isUnit_18 rfl (Or.inl rfl) ⟨_, rfl, hyp⟩
    · have hyp := hyp.2 c_2
      refine z_iconst dX10_isUnit_13 (r32d rfl) ?_
      refine z_goto (tgt := 18) dX10_isUnit_14 (by decide) ?_
      exact z_zret dX10_isUnit_18 rfl (Or.inr rfl) ⟨_, rfl, hyp⟩
set_option maxRecDepth 20000 in
theorem bX10_isWell_9 {E : zE} (hE : isR E) {d : Nat} {x1 x2 : Int} {h : zH} {K : Int → zH → Prop} (hyp :
  ((0 : Int) ≤ w32 ((w32 (12 * x1)) + x2) ∧ w32 ((w32 (12 * x1)) + x2) < (96 : Int)) ∧
  ((0 : Int) ≤ x1 ∧ x1 < (8 : Int)) ∧
  ((0 : Int) ≤ w32 ((w32 (12 * x1)) + (h 35 x1.toNat)) ∧ w32 ((w32 (12 * x1)) + (h 35 x1.toNat)) < (96 : Int)) ∧
  (((w32 ((h 34 (w32 ((w32 (12 * x1)) + (h 35 x1.toNat))).toNat) + (h 0 31))) < (h 34 (w32 ((w32 (12 * x1)) + x2)).toNat) →
    K 0 h) ∧
  (¬ ((w32 ((h 34 (w32 ((w32 (12 * x1)) + (h 35 x1.toNat))).toNat) + (h 0 31))) < (h 34 (w32 ((w32 (12 * x1)) + x2)).toNat)) →
    K 1 h))) :
  zG E mX10_isWell d 9 [zR 0, zI x1, zI x2] [] h (qI K) := by
  refine z_aload_n dX10_isWell_9 rfl ?_
  refine gf_X10_128 (c2 := 34) dX10_isWell_10 rfl (sR_0 hE) (cR_0 hE) rfl ?_
  refine z_bipush dX10_isWell_13 (r32d rfl) (by decide) ?_
  refine z_iload_n dX10_isWell_15 rfl ?_
  refine z_imul dX10_isWell_16 ?_
  refine z_iload_n dX10_isWell_17 rfl ?_
  refine z_iadd dX10_isWell_18 ?_
  obtain ⟨⟨hi0, hi1⟩, hyp⟩ := hyp
  refine z_iaload dX10_isWell_19 (sR_34 hE) (cR_34 hE) hi0 hi1 ?_
  refine z_aload_n dX10_isWell_20 rfl ?_
  refine gf_X10_128 (c2 := 34) dX10_isWell_21 rfl (sR_0 hE) (cR_0 hE) rfl ?_
  refine z_bipush dX10_isWell_24 (r32d rfl) (by decide) ?_
  refine z_iload_n dX10_isWell_26 rfl ?_
  refine z_imul dX10_isWell_27 ?_
  refine z_aload_n dX10_isWell_28 rfl ?_
  refine gf_X10_131 (c2 := 35) dX10_isWell_29 rfl (sR_0 hE) (cR_0 hE) rfl ?_
  refine z_iload_n dX10_isWell_32 rfl ?_
  obtain ⟨⟨hi0, hi1⟩, hyp⟩ := hyp
  refine z_iaload dX10_isWell_33 (sR_35 hE) (cR_35 hE) hi0 hi1 ?_
  refine z_iadd dX10_isWell_34 ?_
  obtain ⟨⟨hi0, hi1⟩, hyp⟩ := hyp
  refine z_iaload dX10_isWell_35 (sR_34 hE) (cR_34 hE) hi0 hi1 ?_
  refine z_aload_n dX10_isWell_36 rfl ?_
  refine gf_X10_83 dX10_isWell_37 rfl (sR_0 hE) (cR_0 hE) ?_
  refine z_iadd dX10_isWell_40 ?_
  refine z_icmp_gt (tgt := 48) dX10_isWell_41 (by decide) (fun c_1 => ?_) (fun c_1 => ?_)
  · have hyp := hyp.1 c_1
    refine z_iconst dX10_isWell_48 (r32d rfl) ?_
    exact z_zret dX10_isWell_49 rfl (Or.inl rfl) ⟨_, rfl, hyp⟩
  · have hyp := hyp.2 c_1
    refine z_iconst dX10_isWell_44 (r32d rfl) ?_
    refine z_goto (tgt := 49) dX10_isWell_45 (by decide) ?_
    exact z_zret dX10_isWell_49 rfl (Or.inr rfl) ⟨_, rfl, hyp⟩
set_option maxRecDepth 20000 in
theorem eX10_isWell {E : zE} (hE : isR E) {d : Nat} {x1 x2 : Int} {h : zH} {K : Int → zH → Prop} (hyp :
  ((x2 = 0 →
    zG E mX10_isWell d 9 [zR 0, zI x1, zI x2] [] h (qI K)) ∧
  (¬ (x2 = 0) →
    ((x2 ≤ 3 →
      K 0 h) ∧
    (¬ (x2 ≤ 3) →
      zG E mX10_isWell d 9 [zR 0, zI x1, zI x2] [] h (qI K)))))) :
  zCI E mX10_isWell d [zR 0, zI x1, zI x2] h K := by
  refine zC_in (L0 := [zR 0, zI x1, zI x2]) pn_X10 rfl (Nat.le_of_ble_eq_true rfl) ?_
  refine z_iload_n dX10_isWell_0 rfl ?_
  refine z_if_eq (tgt := 9) dX10_isWell_1 (by decide) (fun c_1 => ?_) (fun c_1 => ?_)
  · have hyp := hyp.1 c_1
    exact hyp
  · have hyp := hyp.2 c_1
    refine z_iload_n dX10_isWell_4 rfl ?_
    refine z_iconst dX10_isWell_5 (r32d rfl) ?_
    refine z_icmp_le (tgt := 48) dX10_isWell_6 (by decide) (fun c_2 => ?_) (fun c_2 => ?_)
    · have hyp := hyp.1 c_2
      refine z_iconst dX10_isWell_48 (r32d rfl) ?_
      exact z_zret dX10_isWell_49 rfl (Or.inl rfl) ⟨_, rfl, hyp⟩
    · have hyp := hyp.2 c_2
      exact hyp
set_option maxRecDepth 20000 in
theorem eX10_isWord {E : zE} (hE : isR E) {d : Nat} {x1 : Int} {h : zH} {K : Int → zH → Prop} (hyp :
  (((h 0 49) ≠ 0 →
    K 0 h) ∧
  (¬ ((h 0 49) ≠ 0) →
    (((h 0 47) ≠ 0 →
      K 0 h) ∧
    (¬ ((h 0 47) ≠ 0) →
      (((h 0 48) ≠ x1 →
        K 0 h) ∧
      (¬ ((h 0 48) ≠ x1) →
        K 1 h))))))) :
  zCI E mX10_isWord d [zR 0, zI x1] h K := by
  refine zC_in (L0 := [zR 0, zI x1]) pn_X10 rfl (Nat.le_of_ble_eq_true rfl) ?_
  refine z_aload_n dX10_isWord_0 rfl ?_
  refine gf_X10_207 dX10_isWord_1 rfl (sR_0 hE) (cR_0 hE) ?_
  refine z_if_ne (tgt := 26) dX10_isWord_4 (by decide) (fun c_1 => ?_) (fun c_1 => ?_)
  · have hyp := hyp.1 c_1
    refine z_iconst dX10_isWord_26 (r32d rfl) ?_
    exact z_zret dX10_isWord_27 rfl (Or.inl rfl) ⟨_, rfl, hyp⟩
  · have hyp := hyp.2 c_1
    refine z_aload_n dX10_isWord_7 rfl ?_
    refine gf_X10_172 dX10_isWord_8 rfl (sR_0 hE) (cR_0 hE) ?_
    refine z_if_ne (tgt := 26) dX10_isWord_11 (by decide) (fun c_2 => ?_) (fun c_2 => ?_)
    · have hyp := hyp.1 c_2
      refine z_iconst dX10_isWord_26 (r32d rfl) ?_
      exact z_zret dX10_isWord_27 rfl (Or.inl rfl) ⟨_, rfl, hyp⟩
    · have hyp := hyp.2 c_2
      refine z_aload_n dX10_isWord_14 rfl ?_
      refine gf_X10_182 dX10_isWord_15 rfl (sR_0 hE) (cR_0 hE) ?_
      refine z_iload_n dX10_isWord_18 rfl ?_
      refine z_icmp_ne (tgt := 26) dX10_isWord_19 (by decide) (fun c_3 => ?_) (fun c_3 => ?_)
      · have hyp := hyp.1 c_3
        refine z_iconst dX10_isWord_26 (r32d rfl) ?_
        exact z_zret dX10_isWord_27 rfl (Or.inl rfl) ⟨_, rfl, hyp⟩
      · have hyp := hyp.2 c_3
        refine z_iconst dX10_isWord_22 (r32d rfl) ?_
        refine z_goto (tgt := 27) dX10_isWord_23 (by decide) ?_
        exact z_zret dX10_isWord_27 rfl (Or.inr rfl) ⟨_, rfl, hyp⟩
set_option maxRecDepth 20000 in
theorem eX10_knot {E : zE} (hE : isR E) {d : Nat} {h : zH} {K : zH → Prop} (hyp :
  (((h 0 49) = 0 →
    (((h 0 41) ≠ 64 →
      ∀ h_3 : zH, h_3 = hset h 0 41 (w32 ((h 0 41) + 1)) →
      K h_3) ∧
    (¬ ((h 0 41) ≠ 64) →
      zCV E mX10_wrong d [zR 0, zI 2] h (fun h_4 =>
        K h_4)))) ∧
  (¬ ((h 0 49) = 0) →
    K h))) :
  zCV E mX10_knot (d + 1) [zR 0] h K := by
  refine zC_in (L0 := [zR 0]) pn_X10 rfl (Nat.le_of_ble_eq_true rfl) ?_
  refine z_aload_n dX10_knot_0 rfl ?_
  refine gf_X10_207 dX10_knot_1 rfl (sR_0 hE) (cR_0 hE) ?_
  refine z_if_eq (tgt := 8) dX10_knot_4 (by decide) (fun c_1 => ?_) (fun c_1 => ?_)
  · have hyp := hyp.1 c_1
    refine z_aload_n dX10_knot_8 rfl ?_
    refine gf_X10_300 dX10_knot_9 rfl (sR_0 hE) (cR_0 hE) ?_
    refine z_bipush dX10_knot_12 (r32d rfl) (by decide) ?_
    refine z_icmp_ne (tgt := 25) dX10_knot_14 (by decide) (fun c_2 => ?_) (fun c_2 => ?_)
    · have hyp := hyp.1 c_2
      refine z_aload_n dX10_knot_25 rfl ?_
      refine z_dup dX10_knot_26 rfl ?_
      refine gf_X10_300 dX10_knot_27 rfl (sR_0 hE) (cR_0 hE) ?_
      refine z_iconst dX10_knot_30 (r32d rfl) ?_
      refine z_iadd dX10_knot_31 ?_
      refine pf_X10_300 dX10_knot_32 rfl (sR_0 hE) (cR_0 hE) ?_
      generalize eh_3 : hset h 0 41 _ = h_3
      have hyp := hyp h_3 eh_3.symm
      exact z_vret dX10_knot_35 rfl ⟨rfl, hyp⟩
    · have hyp := hyp.2 c_2
      refine z_aload_n dX10_knot_17 rfl ?_
      refine z_iconst dX10_knot_18 (r32d rfl) ?_
      refine cl_X10_216 dX10_knot_19 rfl (sR_0 hE) (cR_0 hE) (Nat.le_of_ble_eq_true rfl) (zC_mono ?_ hyp)
      rintro _ h_4 ⟨rfl, hyp⟩
      refine ⟨rfl, ?_⟩
      refine z_goto (tgt := 35) dX10_knot_22 (by decide) ?_
      exact z_vret dX10_knot_35 rfl ⟨rfl, hyp⟩
  · have hyp := hyp.2 c_1
    exact z_vret dX10_knot_7 rfl ⟨rfl, hyp⟩
set_option maxRecDepth 20000 in
theorem eX10_known {E : zE} (hE : isR E) {d : Nat} {x1 : Int} {h : zH} {K : Int → zH → Prop} (hyp :
  ∀ h_1 : zH, h_1 = hset h 0 0 0 →
  ((x1 < (-1) →
    K 0 h_1) ∧
  (¬ (x1 < (-1)) →
    ((x1 ≤ (h_1 0 54) →
      ∀ h_4 : zH, h_4 = hset h_1 0 55 x1 →
      ∀ h_5 : zH, h_5 = hset h_4 0 74 0 →
      K 1 h_5) ∧
    (¬ (x1 ≤ (h_1 0 54)) →
      K 0 h_1))))) :
  zCI E mX10_known d [zR 0, zI x1] h K := by
  refine zC_in (L0 := [zR 0, zI x1]) pn_X10 rfl (Nat.le_of_ble_eq_true rfl) ?_
  refine z_aload_n dX10_known_0 rfl ?_
  refine z_iconst dX10_known_1 (r32d rfl) ?_
  refine pf_X10_153 dX10_known_2 rfl (sR_0 hE) (cR_0 hE) ?_
  generalize eh_1 : hset h 0 0 _ = h_1
  have hyp := hyp h_1 eh_1.symm
  refine z_iload_n dX10_known_5 rfl ?_
  refine z_iconst dX10_known_6 (r32d rfl) ?_
  refine z_icmp_lt (tgt := 18) dX10_known_7 (by decide) (fun c_2 => ?_) (fun c_2 => ?_)
  · have hyp := hyp.1 c_2
    refine z_iconst dX10_known_18 (r32d rfl) ?_
    exact z_zret dX10_known_19 rfl (Or.inl rfl) ⟨_, rfl, hyp⟩
  · have hyp := hyp.2 c_2
    refine z_iload_n dX10_known_10 rfl ?_
    refine z_aload_n dX10_known_11 rfl ?_
    refine gf_X10_355 dX10_known_12 rfl (sR_0 hE) (cR_0 hE) ?_
    refine z_icmp_le (tgt := 20) dX10_known_15 (by decide) (fun c_3 => ?_) (fun c_3 => ?_)
    · have hyp := hyp.1 c_3
      refine z_aload_n dX10_known_20 rfl ?_
      refine z_iload_n dX10_known_21 rfl ?_
      refine pf_X10_89 dX10_known_22 rfl (sR_0 hE) (cR_0 hE) ?_
      generalize eh_4 : hset h_1 0 55 _ = h_4
      have hyp := hyp h_4 eh_4.symm
      refine z_aload_n dX10_known_25 rfl ?_
      refine z_iconst dX10_known_26 (r32d rfl) ?_
      refine pf_X10_358 dX10_known_27 rfl (sR_0 hE) (cR_0 hE) (Or.inl rfl) ?_
      generalize eh_5 : hset h_4 0 74 _ = h_5
      have hyp := hyp h_5 eh_5.symm
      refine z_iconst dX10_known_30 (r32d rfl) ?_
      exact z_zret dX10_known_31 rfl (Or.inr rfl) ⟨_, rfl, hyp⟩
    · have hyp := hyp.2 c_3
      refine z_iconst dX10_known_18 (r32d rfl) ?_
      exact z_zret dX10_known_19 rfl (Or.inl rfl) ⟨_, rfl, hyp⟩
set_option maxRecDepth 20000 in
theorem eX10_knownNotes {E : zE} (hE : isR E) {d : Nat} {h : zH} {K : Int → zH → Prop} (hyp :
  (((h 0 55) ≠ (-1) →
    K (h 0 55) h) ∧
  (¬ ((h 0 55) ≠ (-1)) →
    K (h 0 54) h))) :
  zCI E mX10_knownNotes d [zR 0] h K := by
  refine zC_in (L0 := [zR 0]) pn_X10 rfl (Nat.le_of_ble_eq_true rfl) ?_
  refine z_aload_n dX10_knownNotes_0 rfl ?_
  refine gf_X10_89 dX10_knownNotes_1 rfl (sR_0 hE) (cR_0 hE) ?_
  refine z_iconst dX10_knownNotes_4 (r32d rfl) ?_
  refine z_icmp_ne (tgt := 15) dX10_knownNotes_5 (by decide) (fun c_1 => ?_) (fun c_1 => ?_)
  · have hyp := hyp.1 c_1
    refine z_aload_n dX10_knownNotes_15 rfl ?_
    refine gf_X10_89 dX10_knownNotes_16 rfl (sR_0 hE) (cR_0 hE) ?_
    exact z_iret dX10_knownNotes_19 rfl ⟨_, rfl, hyp⟩
  · have hyp := hyp.2 c_1
    refine z_aload_n dX10_knownNotes_8 rfl ?_
    refine gf_X10_355 dX10_knownNotes_9 rfl (sR_0 hE) (cR_0 hE) ?_
    refine z_goto (tgt := 19) dX10_knownNotes_12 (by decide) ?_
    exact z_iret dX10_knownNotes_19 rfl ⟨_, rfl, hyp⟩
set_option maxRecDepth 20000 in
theorem eX10_laid {E : zE} (hE : isR E) {d : Nat} {h : zH} {K : zH → Prop} (hyp :
  (((h 0 74) = 0 →
    zCI E mX10_knownNotes d [zR 0] h (fun r_2 h_2 =>
      zCV E mX10_shapes d [zR 0, zI r_2] h_2 (fun h_3 =>
        ∀ h_4 : zH, h_4 = hset h_3 0 74 1 →
        K h_4))) ∧
  (¬ ((h 0 74) = 0) →
    K h))) :
  zCV E mX10_laid (d + 1) [zR 0] h K := by
  refine zC_in (L0 := [zR 0]) pn_X10 rfl (Nat.le_of_ble_eq_true rfl) ?_
  refine z_aload_n dX10_laid_0 rfl ?_
  refine gf_X10_358 dX10_laid_1 rfl (sR_0 hE) (cR_0 hE) ?_
  refine z_if_eq (tgt := 8) dX10_laid_4 (by decide) (fun c_1 => ?_) (fun c_1 => ?_)
  · have hyp := hyp.1 c_1
    refine z_aload_n dX10_laid_8 rfl ?_
    refine z_aload_n dX10_laid_9 rfl ?_
    refine cl_X10_379 dX10_laid_10 rfl (sR_0 hE) (cR_0 hE) (Nat.le_of_ble_eq_true rfl) (zC_mono ?_ hyp)
    rintro _ h_2 ⟨r_2, rfl, hyp⟩
    refine ⟨r_2, rfl, ?_⟩
    refine cl_X10_434 dX10_laid_13 rfl (sR_0 hE) (cR_0 hE) (Nat.le_of_ble_eq_true rfl) (zC_mono ?_ hyp)
    rintro _ h_3 ⟨rfl, hyp⟩
    refine ⟨rfl, ?_⟩
    refine z_aload_n dX10_laid_16 rfl ?_
    refine z_iconst dX10_laid_17 (r32d rfl) ?_
    refine pf_X10_358 dX10_laid_18 rfl (sR_0 hE) (cR_0 hE) (Or.inr rfl) ?_
    generalize eh_4 : hset h_3 0 74 _ = h_4
    have hyp := hyp h_4 eh_4.symm
    exact z_vret dX10_laid_21 rfl ⟨rfl, hyp⟩
  · have hyp := hyp.2 c_1
    exact z_vret dX10_laid_7 rfl ⟨rfl, hyp⟩
set_option maxRecDepth 20000 in
theorem eX10_land {E : zE} (hE : isR E) {d : Nat} {x1 x2 x3 x4 : Int} {h : zH} {K : Int → zH → Prop} (hyp :
  ∀ h_1 : zH, h_1 = hset h 0 0 0 →
  ((x1 < 0 →
    K (-1) h_1) ∧
  (¬ (x1 < 0) →
    (((h_1 0 23) ≤ x1 →
      K (-1) h_1) ∧
    (¬ ((h_1 0 23) ≤ x1) →
      zCI E mX10_areUnits d [zI x2, zI x3, zI x4, zI 1000] h_1 (fun r_4 h_4 =>
        ((r_4 ≠ 0 →
          zCV E mX10_laid d [zR 0] h_4 (fun h_6 =>
            zCI E mX10_landUnit d [zR 0, zI x1, zI x2, zI x3, zI x4] h_6 (fun r_7 h_7 =>
              K r_7 h_7))) ∧
        (¬ (r_4 ≠ 0) →
          K (-1) h_4)))))))) :
  zCI E mX10_land (d + 1) [zR 0, zI x1, zI x2, zI x3, zI x4] h K := by
  refine zC_in (L0 := [zR 0, zI x1, zI x2, zI x3, zI x4]) pn_X10 rfl (Nat.le_of_ble_eq_true rfl) ?_
  refine z_aload_n dX10_land_0 rfl ?_
  refine z_iconst dX10_land_1 (r32d rfl) ?_
  refine pf_X10_153 dX10_land_2 rfl (sR_0 hE) (cR_0 hE) ?_
  generalize eh_1 : hset h 0 0 _ = h_1
  have hyp := hyp h_1 eh_1.symm
  refine z_iload_n dX10_land_5 rfl ?_
  refine z_if_lt (tgt := 30) dX10_land_6 (by decide) (fun c_2 => ?_) (fun c_2 => ?_)
  · have hyp := hyp.1 c_2
    refine z_iconst dX10_land_30 (r32d rfl) ?_
    exact z_iret dX10_land_31 rfl ⟨_, rfl, hyp⟩
  · have hyp := hyp.2 c_2
    refine z_iload_n dX10_land_9 rfl ?_
    refine z_aload_n dX10_land_10 rfl ?_
    refine gf_X10_337 dX10_land_11 rfl (sR_0 hE) (cR_0 hE) ?_
    refine z_icmp_ge (tgt := 30) dX10_land_14 (by decide) (fun c_3 => ?_) (fun c_3 => ?_)
    · have hyp := hyp.1 c_3
      refine z_iconst dX10_land_30 (r32d rfl) ?_
      exact z_iret dX10_land_31 rfl ⟨_, rfl, hyp⟩
    · have hyp := hyp.2 c_3
      refine z_iload_n dX10_land_17 rfl ?_
      refine z_iload_n dX10_land_18 rfl ?_
      refine z_iload dX10_land_19 rfl ?_
      refine z_sipush dX10_land_21 (r32d rfl) (by decide) ?_
      refine cl_X10_499 dX10_land_24 rfl (Nat.le_of_ble_eq_true rfl) (zC_mono ?_ hyp)
      rintro _ h_4 ⟨r_4, rfl, hyp⟩
      refine ⟨r_4, rfl, ?_⟩
      refine z_if_ne (tgt := 32) dX10_land_27 (by decide) (fun c_5 => ?_) (fun c_5 => ?_)
      · have hyp := hyp.1 c_5
        refine z_aload_n dX10_land_32 rfl ?_
        refine cl_X10_440 dX10_land_33 rfl (sR_0 hE) (cR_0 hE) (Nat.le_of_ble_eq_true rfl) (zC_mono ?_ hyp)
        rintro _ h_6 ⟨rfl, hyp⟩
        refine ⟨rfl, ?_⟩
        refine z_aload_n dX10_land_36 rfl ?_
        refine z_iload_n dX10_land_37 rfl ?_
        refine z_iload_n dX10_land_38 rfl ?_
        refine z_iload_n dX10_land_39 rfl ?_
        refine z_iload dX10_land_40 rfl ?_
        refine cl_X10_529 dX10_land_42 rfl (sR_0 hE) (cR_0 hE) (Nat.le_of_ble_eq_true rfl) (zC_mono ?_ hyp)
        rintro _ h_7 ⟨r_7, rfl, hyp⟩
        refine ⟨r_7, rfl, ?_⟩
        exact z_iret dX10_land_45 rfl ⟨_, rfl, hyp⟩
      · have hyp := hyp.2 c_5
        refine z_iconst dX10_land_30 (r32d rfl) ?_
        exact z_iret dX10_land_31 rfl ⟨_, rfl, hyp⟩
set_option maxRecDepth 20000 in
theorem eX10_landUnit {E : zE} (hE : isR E) {d : Nat} {x1 x2 x3 x4 : Int} {h : zH} {K : Int → zH → Prop} (hyp :
  zCV E mX10_reckon d [zR 0, zI x1, zI (-1)] h (fun h_1 =>
    zCI E mX10_reckonedMany d [zR 0] h_1 (fun r_2 h_2 =>
      ((r_2 ≠ 0 →
        zCI E mX10_bestOf d [zR 0, zI x2, zI x3, zI x4] h_2 (fun r_4 h_4 =>
          K r_4 h_4)) ∧
      (¬ (r_2 ≠ 0) →
        K (-1) h_2))))) :
  zCI E mX10_landUnit (d + 1) [zR 0, zI x1, zI x2, zI x3, zI x4] h K := by
  refine zC_in (L0 := [zR 0, zI x1, zI x2, zI x3, zI x4]) pn_X10 rfl (Nat.le_of_ble_eq_true rfl) ?_
  refine z_aload_n dX10_landUnit_0 rfl ?_
  refine z_iload_n dX10_landUnit_1 rfl ?_
  refine z_iconst dX10_landUnit_2 (r32d rfl) ?_
  refine cl_X10_493 dX10_landUnit_3 rfl (sR_0 hE) (cR_0 hE) (Nat.le_of_ble_eq_true rfl) (zC_mono ?_ hyp)
  rintro _ h_1 ⟨rfl, hyp⟩
  refine ⟨rfl, ?_⟩
  refine z_aload_n dX10_landUnit_6 rfl ?_
  refine cl_X10_507 dX10_landUnit_7 rfl (sR_0 hE) (cR_0 hE) (Nat.le_of_ble_eq_true rfl) (zC_mono ?_ hyp)
  rintro _ h_2 ⟨r_2, rfl, hyp⟩
  refine ⟨r_2, rfl, ?_⟩
  refine z_if_ne (tgt := 17) dX10_landUnit_10 (by decide) (fun c_3 => ?_) (fun c_3 => ?_)
  · have hyp := hyp.1 c_3
    refine z_aload_n dX10_landUnit_17 rfl ?_
    refine z_iload_n dX10_landUnit_18 rfl ?_
    refine z_iload_n dX10_landUnit_19 rfl ?_
    refine z_iload dX10_landUnit_20 rfl ?_
    refine cl_X10_503 dX10_landUnit_22 rfl (sR_0 hE) (cR_0 hE) (Nat.le_of_ble_eq_true rfl) (zC_mono ?_ hyp)
    rintro _ h_4 ⟨r_4, rfl, hyp⟩
    refine ⟨r_4, rfl, ?_⟩
    exact z_iret dX10_landUnit_25 rfl ⟨_, rfl, hyp⟩
  · have hyp := hyp.2 c_3
    refine z_iconst dX10_landUnit_13 (r32d rfl) ?_
    refine z_goto (tgt := 25) dX10_landUnit_14 (by decide) ?_
    exact z_iret dX10_landUnit_25 rfl ⟨_, rfl, hyp⟩
set_option maxRecDepth 20000 in
theorem bX10_lays_89 {E : zE} (hE : isR E) {d : Nat} {x1 : Int} {h : zH} {K : zH → Prop} (hyp :
  ((4 ≤ x1 →
    zG E mX10_lays d 116 [zR 0, zI 0] [] h (qV K)) ∧
  (¬ (4 ≤ x1) →
    ((0 : Int) ≤ w32 (4 + x1) ∧ w32 (4 + x1) < (8 : Int)) ∧
    ((0 : Int) ≤ x1 ∧ x1 < (8 : Int)) ∧
    ∀ h_2 : zH, h_2 = hset h 2 (x1.toNat) (h 2 (w32 (4 + x1)).toNat) →
    ∀ x_3 : Int, x_3 = w32 (x1 + 1) →
    zG E mX10_lays d 89 [zR 0, zI x_3] [] h_2 (qV K)))) :
  zG E mX10_lays d 89 [zR 0, zI x1] [] h (qV K) := by
  refine z_iload_n dX10_lays_89 rfl ?_
  refine z_iconst dX10_lays_90 (r32d rfl) ?_
  refine z_icmp_ge (tgt := 114) dX10_lays_91 (by decide) (fun c_1 => ?_) (fun c_1 => ?_)
  · have hyp := hyp.1 c_1
    refine z_iconst dX10_lays_114 (r32d rfl) ?_
    refine z_istore_n dX10_lays_115 rfl (by decide) rfl ?_
    exact hyp
  · have hyp := hyp.2 c_1
    refine z_aload_n dX10_lays_94 rfl ?_
    refine gf_X10_15 (c2 := 2) dX10_lays_95 rfl (sR_0 hE) (cR_0 hE) rfl ?_
    refine z_iload_n dX10_lays_98 rfl ?_
    refine z_aload_n dX10_lays_99 rfl ?_
    refine gf_X10_15 (c2 := 2) dX10_lays_100 rfl (sR_0 hE) (cR_0 hE) rfl ?_
    refine z_iconst dX10_lays_103 (r32d rfl) ?_
    refine z_iload_n dX10_lays_104 rfl ?_
    refine z_iadd dX10_lays_105 ?_
    obtain ⟨⟨hi0, hi1⟩, hyp⟩ := hyp
    refine z_iaload dX10_lays_106 (sR_2 hE) (cR_2 hE) hi0 hi1 ?_
    obtain ⟨⟨hi0, hi1⟩, hyp⟩ := hyp
    refine z_iastore dX10_lays_107 (sR_2 hE) (cR_2 hE) hi0 hi1 ?_
    generalize eh_2 : hset h 2 _ (h 2 (w32 (4 + x1)).toNat) = h_2
    have hyp := hyp h_2 eh_2.symm
    refine z_iinc dX10_lays_108 rfl (by decide) rfl ?_
    generalize ex_3 : w32 (x1 + 1) = x_3
    have hyp := hyp x_3 ex_3.symm
    refine z_goto (tgt := 89) dX10_lays_111 (by decide) ?_
    exact hyp
set_option maxRecDepth 20000 in
theorem bX10_lays_116 {E : zE} (hE : isR E) {d : Nat} {x1 : Int} {h : zH} {K : zH → Prop} (hyp :
  ((8 ≤ x1 →
    zG E mX10_lays d 175 [zR 0, zI 0] [] h (qV K)) ∧
  (¬ (8 ≤ x1) →
    ((0 : Int) ≤ w32 (8 + x1) ∧ w32 (8 + x1) < (16 : Int)) ∧
    ((0 : Int) ≤ x1 ∧ x1 < (16 : Int)) ∧
    ∀ h_2 : zH, h_2 = hset h 3 (x1.toNat) (h 3 (w32 (8 + x1)).toNat) →
    ((0 : Int) ≤ w32 (8 + x1) ∧ w32 (8 + x1) < (16 : Int)) ∧
    ((0 : Int) ≤ x1 ∧ x1 < (16 : Int)) ∧
    ∀ h_3 : zH, h_3 = hset h_2 4 (x1.toNat) (h_2 4 (w32 (8 + x1)).toNat) →
    ((0 : Int) ≤ w32 (8 + x1) ∧ w32 (8 + x1) < (16 : Int)) ∧
    ((0 : Int) ≤ x1 ∧ x1 < (16 : Int)) ∧
    ∀ h_4 : zH, h_4 = hset h_3 5 (x1.toNat) (h_3 5 (w32 (8 + x1)).toNat) →
    ∀ x_5 : Int, x_5 = w32 (x1 + 1) →
    zG E mX10_lays d 116 [zR 0, zI x_5] [] h_4 (qV K)))) :
  zG E mX10_lays d 116 [zR 0, zI x1] [] h (qV K) := by
  refine z_iload_n dX10_lays_116 rfl ?_
  refine z_bipush dX10_lays_117 (r32d rfl) (by decide) ?_
  refine z_icmp_ge (tgt := 173) dX10_lays_119 (by decide) (fun c_1 => ?_) (fun c_1 => ?_)
  · have hyp := hyp.1 c_1
    refine z_iconst dX10_lays_173 (r32d rfl) ?_
    refine z_istore_n dX10_lays_174 rfl (by decide) rfl ?_
    exact hyp
  · have hyp := hyp.2 c_1
    refine z_aload_n dX10_lays_122 rfl ?_
    refine gf_X10_18 (c2 := 3) dX10_lays_123 rfl (sR_0 hE) (cR_0 hE) rfl ?_
    refine z_iload_n dX10_lays_126 rfl ?_
    refine z_aload_n dX10_lays_127 rfl ?_
    refine gf_X10_18 (c2 := 3) dX10_lays_128 rfl (sR_0 hE) (cR_0 hE) rfl ?_
    refine z_bipush dX10_lays_131 (r32d rfl) (by decide) ?_
    refine z_iload_n dX10_lays_133 rfl ?_
    refine z_iadd dX10_lays_134 ?_
    obtain ⟨⟨hi0, hi1⟩, hyp⟩ := hyp
    refine z_iaload dX10_lays_135 (sR_3 hE) (cR_3 hE) hi0 hi1 ?_
    obtain ⟨⟨hi0, hi1⟩, hyp⟩ := hyp
    refine z_iastore dX10_lays_136 (sR_3 hE) (cR_3 hE) hi0 hi1 ?_
    generalize eh_2 : hset h 3 _ (h 3 (w32 (8 + x1)).toNat) = h_2
    have hyp := hyp h_2 eh_2.symm
    refine z_aload_n dX10_lays_137 rfl ?_
    refine gf_X10_21 (c2 := 4) dX10_lays_138 rfl (sR_0 hE) (cR_0 hE) rfl ?_
    refine z_iload_n dX10_lays_141 rfl ?_
    refine z_aload_n dX10_lays_142 rfl ?_
    refine gf_X10_21 (c2 := 4) dX10_lays_143 rfl (sR_0 hE) (cR_0 hE) rfl ?_
    refine z_bipush dX10_lays_146 (r32d rfl) (by decide) ?_
    refine z_iload_n dX10_lays_148 rfl ?_
    refine z_iadd dX10_lays_149 ?_
    obtain ⟨⟨hi0, hi1⟩, hyp⟩ := hyp
    refine z_iaload dX10_lays_150 (sR_4 hE) (cR_4 hE) hi0 hi1 ?_
    obtain ⟨⟨hi0, hi1⟩, hyp⟩ := hyp
    refine z_iastore dX10_lays_151 (sR_4 hE) (cR_4 hE) hi0 hi1 ?_
    generalize eh_3 : hset h_2 4 _ (h_2 4 (w32 (8 + x1)).toNat) = h_3
    have hyp := hyp h_3 eh_3.symm
    refine z_aload_n dX10_lays_152 rfl ?_
    refine gf_X10_24 (c2 := 5) dX10_lays_153 rfl (sR_0 hE) (cR_0 hE) rfl ?_
    refine z_iload_n dX10_lays_156 rfl ?_
    refine z_aload_n dX10_lays_157 rfl ?_
    refine gf_X10_24 (c2 := 5) dX10_lays_158 rfl (sR_0 hE) (cR_0 hE) rfl ?_
    refine z_bipush dX10_lays_161 (r32d rfl) (by decide) ?_
    refine z_iload_n dX10_lays_163 rfl ?_
    refine z_iadd dX10_lays_164 ?_
    obtain ⟨⟨hi0, hi1⟩, hyp⟩ := hyp
    refine z_iaload dX10_lays_165 (sR_5 hE) (cR_5 hE) hi0 hi1 ?_
    obtain ⟨⟨hi0, hi1⟩, hyp⟩ := hyp
    refine z_iastore dX10_lays_166 (sR_5 hE) (cR_5 hE) hi0 hi1 ?_
    generalize eh_4 : hset h_3 5 _ (h_3 5 (w32 (8 + x1)).toNat) = h_4
    have hyp := hyp h_4 eh_4.symm
    refine z_iinc dX10_lays_167 rfl (by decide) rfl ?_
    generalize ex_5 : w32 (x1 + 1) = x_5
    have hyp := hyp x_5 ex_5.symm
    refine z_goto (tgt := 116) dX10_lays_170 (by decide) ?_
    exact hyp
set_option maxRecDepth 20000 in
theorem bX10_lays_175 {E : zE} (hE : isR E) {d : Nat} {x1 : Int} {h : zH} {K : zH → Prop} (hyp :
  ((80 ≤ x1 →
    zG E mX10_lays d 279 [zR 0, zI 0] [] h (qV K)) ∧
  (¬ (80 ≤ x1) →
    ((0 : Int) ≤ w32 (80 + x1) ∧ w32 (80 + x1) < (160 : Int)) ∧
    ((0 : Int) ≤ x1 ∧ x1 < (160 : Int)) ∧
    ∀ h_2 : zH, h_2 = hset h 6 (x1.toNat) (h 6 (w32 (80 + x1)).toNat) →
    ((0 : Int) ≤ w32 (80 + x1) ∧ w32 (80 + x1) < (160 : Int)) ∧
    ((0 : Int) ≤ x1 ∧ x1 < (160 : Int)) ∧
    ∀ h_3 : zH, h_3 = hset h_2 7 (x1.toNat) (h_2 7 (w32 (80 + x1)).toNat) →
    ((0 : Int) ≤ w32 (80 + x1) ∧ w32 (80 + x1) < (160 : Int)) ∧
    ((0 : Int) ≤ x1 ∧ x1 < (160 : Int)) ∧
    ∀ h_4 : zH, h_4 = hset h_3 8 (x1.toNat) (h_3 8 (w32 (80 + x1)).toNat) →
    ((0 : Int) ≤ w32 (80 + x1) ∧ w32 (80 + x1) < (160 : Int)) ∧
    ((0 : Int) ≤ x1 ∧ x1 < (160 : Int)) ∧
    ∀ h_5 : zH, h_5 = hset h_4 9 (x1.toNat) (h_4 9 (w32 (80 + x1)).toNat) →
    ((0 : Int) ≤ w32 (80 + x1) ∧ w32 (80 + x1) < (160 : Int)) ∧
    ((0 : Int) ≤ x1 ∧ x1 < (160 : Int)) ∧
    (h_5 10 (w32 (80 + x1)).toNat = 0 ∨ h_5 10 (w32 (80 + x1)).toNat = 1) ∧
    ∀ h_6 : zH, h_6 = hset h_5 10 (x1.toNat) (h_5 10 (w32 (80 + x1)).toNat) →
    ((0 : Int) ≤ w32 (80 + x1) ∧ w32 (80 + x1) < (160 : Int)) ∧
    ((0 : Int) ≤ x1 ∧ x1 < (160 : Int)) ∧
    (h_6 11 (w32 (80 + x1)).toNat = 0 ∨ h_6 11 (w32 (80 + x1)).toNat = 1) ∧
    ∀ h_7 : zH, h_7 = hset h_6 11 (x1.toNat) (h_6 11 (w32 (80 + x1)).toNat) →
    ∀ x_8 : Int, x_8 = w32 (x1 + 1) →
    zG E mX10_lays d 175 [zR 0, zI x_8] [] h_7 (qV K)))) :
  zG E mX10_lays d 175 [zR 0, zI x1] [] h (qV K) := by
  refine z_iload_n dX10_lays_175 rfl ?_
  refine z_bipush dX10_lays_176 (r32d rfl) (by decide) ?_
  refine z_icmp_ge (tgt := 277) dX10_lays_178 (by decide) (fun c_1 => ?_) (fun c_1 => ?_)
  · have hyp := hyp.1 c_1
    refine z_iconst dX10_lays_277 (r32d rfl) ?_
    refine z_istore_n dX10_lays_278 rfl (by decide) rfl ?_
    exact hyp
  · have hyp := hyp.2 c_1
    refine z_aload_n dX10_lays_181 rfl ?_
    refine gf_X10_27 (c2 := 6) dX10_lays_182 rfl (sR_0 hE) (cR_0 hE) rfl ?_
    refine z_iload_n dX10_lays_185 rfl ?_
    refine z_aload_n dX10_lays_186 rfl ?_
    refine gf_X10_27 (c2 := 6) dX10_lays_187 rfl (sR_0 hE) (cR_0 hE) rfl ?_
    refine z_bipush dX10_lays_190 (r32d rfl) (by decide) ?_
    refine z_iload_n dX10_lays_192 rfl ?_
    refine z_iadd dX10_lays_193 ?_
    obtain ⟨⟨hi0, hi1⟩, hyp⟩ := hyp
    refine z_iaload dX10_lays_194 (sR_6 hE) (cR_6 hE) hi0 hi1 ?_
    obtain ⟨⟨hi0, hi1⟩, hyp⟩ := hyp
    refine z_iastore dX10_lays_195 (sR_6 hE) (cR_6 hE) hi0 hi1 ?_
    generalize eh_2 : hset h 6 _ (h 6 (w32 (80 + x1)).toNat) = h_2
    have hyp := hyp h_2 eh_2.symm
    refine z_aload_n dX10_lays_196 rfl ?_
    refine gf_X10_30 (c2 := 7) dX10_lays_197 rfl (sR_0 hE) (cR_0 hE) rfl ?_
    refine z_iload_n dX10_lays_200 rfl ?_
    refine z_aload_n dX10_lays_201 rfl ?_
    refine gf_X10_30 (c2 := 7) dX10_lays_202 rfl (sR_0 hE) (cR_0 hE) rfl ?_
    refine z_bipush dX10_lays_205 (r32d rfl) (by decide) ?_
    refine z_iload_n dX10_lays_207 rfl ?_
    refine z_iadd dX10_lays_208 ?_
    obtain ⟨⟨hi0, hi1⟩, hyp⟩ := hyp
    refine z_iaload dX10_lays_209 (sR_7 hE) (cR_7 hE) hi0 hi1 ?_
    obtain ⟨⟨hi0, hi1⟩, hyp⟩ := hyp
    refine z_iastore dX10_lays_210 (sR_7 hE) (cR_7 hE) hi0 hi1 ?_
    generalize eh_3 : hset h_2 7 _ (h_2 7 (w32 (80 + x1)).toNat) = h_3
    have hyp := hyp h_3 eh_3.symm
    refine z_aload_n dX10_lays_211 rfl ?_
    refine gf_X10_33 (c2 := 8) dX10_lays_212 rfl (sR_0 hE) (cR_0 hE) rfl ?_
    refine z_iload_n dX10_lays_215 rfl ?_
    refine z_aload_n dX10_lays_216 rfl ?_
    refine gf_X10_33 (c2 := 8) dX10_lays_217 rfl (sR_0 hE) (cR_0 hE) rfl ?_
    refine z_bipush dX10_lays_220 (r32d rfl) (by decide) ?_
    refine z_iload_n dX10_lays_222 rfl ?_
    refine z_iadd dX10_lays_223 ?_
    obtain ⟨⟨hi0, hi1⟩, hyp⟩ := hyp
    refine z_iaload dX10_lays_224 (sR_8 hE) (cR_8 hE) hi0 hi1 ?_
    obtain ⟨⟨hi0, hi1⟩, hyp⟩ := hyp
    refine z_iastore dX10_lays_225 (sR_8 hE) (cR_8 hE) hi0 hi1 ?_
    generalize eh_4 : hset h_3 8 _ (h_3 8 (w32 (80 + x1)).toNat) = h_4
    have hyp := hyp h_4 eh_4.symm
    refine z_aload_n dX10_lays_226 rfl ?_
    refine gf_X10_36 (c2 := 9) dX10_lays_227 rfl (sR_0 hE) (cR_0 hE) rfl ?_
    refine z_iload_n dX10_lays_230 rfl ?_
    refine z_aload_n dX10_lays_231 rfl ?_
    refine gf_X10_36 (c2 := 9) dX10_lays_232 rfl (sR_0 hE) (cR_0 hE) rfl ?_
    refine z_bipush dX10_lays_235 (r32d rfl) (by decide) ?_
    refine z_iload_n dX10_lays_237 rfl ?_
    refine z_iadd dX10_lays_238 ?_
    obtain ⟨⟨hi0, hi1⟩, hyp⟩ := hyp
    refine z_iaload dX10_lays_239 (sR_9 hE) (cR_9 hE) hi0 hi1 ?_
    obtain ⟨⟨hi0, hi1⟩, hyp⟩ := hyp
    refine z_iastore dX10_lays_240 (sR_9 hE) (cR_9 hE) hi0 hi1 ?_
    generalize eh_5 : hset h_4 9 _ (h_4 9 (w32 (80 + x1)).toNat) = h_5
    have hyp := hyp h_5 eh_5.symm
    refine z_aload_n dX10_lays_241 rfl ?_
    refine gf_X10_39 (c2 := 10) dX10_lays_242 rfl (sR_0 hE) (cR_0 hE) rfl ?_
    refine z_iload_n dX10_lays_245 rfl ?_
    refine z_aload_n dX10_lays_246 rfl ?_
    refine gf_X10_39 (c2 := 10) dX10_lays_247 rfl (sR_0 hE) (cR_0 hE) rfl ?_
    refine z_bipush dX10_lays_250 (r32d rfl) (by decide) ?_
    refine z_iload_n dX10_lays_252 rfl ?_
    refine z_iadd dX10_lays_253 ?_
    obtain ⟨⟨hi0, hi1⟩, hyp⟩ := hyp
    refine z_baload dX10_lays_254 (sR_10 hE) (cR_10 hE) hi0 hi1 ?_
    obtain ⟨⟨hi0, hi1⟩, hyp⟩ := hyp
    obtain ⟨hx0, hyp⟩ := hyp
    refine z_bastore dX10_lays_255 (sR_10 hE) (cR_10 hE) hi0 hi1 hx0 ?_
    generalize eh_6 : hset h_5 10 _ (h_5 10 (w32 (80 + x1)).toNat) = h_6
    have hyp := hyp h_6 eh_6.symm
    refine z_aload_n dX10_lays_256 rfl ?_
    refine gf_X10_43 (c2 := 11) dX10_lays_257 rfl (sR_0 hE) (cR_0 hE) rfl ?_
    refine z_iload_n dX10_lays_260 rfl ?_
    refine z_aload_n dX10_lays_261 rfl ?_
    refine gf_X10_43 (c2 := 11) dX10_lays_262 rfl (sR_0 hE) (cR_0 hE) rfl ?_
    refine z_bipush dX10_lays_265 (r32d rfl) (by decide) ?_
    refine z_iload_n dX10_lays_267 rfl ?_
    refine z_iadd dX10_lays_268 ?_
    obtain ⟨⟨hi0, hi1⟩, hyp⟩ := hyp
    refine z_baload dX10_lays_269 (sR_11 hE) (cR_11 hE) hi0 hi1 ?_
    obtain ⟨⟨hi0, hi1⟩, hyp⟩ := hyp
    obtain ⟨hx0, hyp⟩ := hyp
    refine z_bastore dX10_lays_270 (sR_11 hE) (cR_11 hE) hi0 hi1 hx0 ?_
    generalize eh_7 : hset h_6 11 _ (h_6 11 (w32 (80 + x1)).toNat) = h_7
    have hyp := hyp h_7 eh_7.symm
    refine z_iinc dX10_lays_271 rfl (by decide) rfl ?_
    generalize ex_8 : w32 (x1 + 1) = x_8
    have hyp := hyp x_8 ex_8.symm
    refine z_goto (tgt := 175) dX10_lays_274 (by decide) ?_
    exact hyp
set_option maxRecDepth 20000 in
theorem bX10_lays_279 {E : zE} (hE : isR E) {d : Nat} {x1 : Int} {h : zH} {K : zH → Prop} (hyp :
  ((5 ≤ x1 →
    zG E mX10_lays d 320 [zR 0, zI 0] [] h (qV K)) ∧
  (¬ (5 ≤ x1) →
    ((0 : Int) ≤ w32 (5 + x1) ∧ w32 (5 + x1) < (10 : Int)) ∧
    ((0 : Int) ≤ x1 ∧ x1 < (10 : Int)) ∧
    ∀ h_2 : zH, h_2 = hset h 12 (x1.toNat) (h 12 (w32 (5 + x1)).toNat) →
    ((0 : Int) ≤ w32 (5 + x1) ∧ w32 (5 + x1) < (10 : Int)) ∧
    ((0 : Int) ≤ x1 ∧ x1 < (10 : Int)) ∧
    ∀ h_3 : zH, h_3 = hset h_2 13 (x1.toNat) (h_2 13 (w32 (5 + x1)).toNat) →
    ∀ x_4 : Int, x_4 = w32 (x1 + 1) →
    zG E mX10_lays d 279 [zR 0, zI x_4] [] h_3 (qV K)))) :
  zG E mX10_lays d 279 [zR 0, zI x1] [] h (qV K) := by
  refine z_iload_n dX10_lays_279 rfl ?_
  refine z_iconst dX10_lays_280 (r32d rfl) ?_
  refine z_icmp_ge (tgt := 318) dX10_lays_281 (by decide) (fun c_1 => ?_) (fun c_1 => ?_)
  · have hyp := hyp.1 c_1
    refine z_iconst dX10_lays_318 (r32d rfl) ?_
    refine z_istore_n dX10_lays_319 rfl (by decide) rfl ?_
    exact hyp
  · have hyp := hyp.2 c_1
    refine z_aload_n dX10_lays_284 rfl ?_
    refine gf_X10_46 (c2 := 12) dX10_lays_285 rfl (sR_0 hE) (cR_0 hE) rfl ?_
    refine z_iload_n dX10_lays_288 rfl ?_
    refine z_aload_n dX10_lays_289 rfl ?_
    refine gf_X10_46 (c2 := 12) dX10_lays_290 rfl (sR_0 hE) (cR_0 hE) rfl ?_
    refine z_iconst dX10_lays_293 (r32d rfl) ?_
    refine z_iload_n dX10_lays_294 rfl ?_
    refine z_iadd dX10_lays_295 ?_
    obtain ⟨⟨hi0, hi1⟩, hyp⟩ := hyp
    refine z_iaload dX10_lays_296 (sR_12 hE) (cR_12 hE) hi0 hi1 ?_
    obtain ⟨⟨hi0, hi1⟩, hyp⟩ := hyp
    refine z_iastore dX10_lays_297 (sR_12 hE) (cR_12 hE) hi0 hi1 ?_
    generalize eh_2 : hset h 12 _ (h 12 (w32 (5 + x1)).toNat) = h_2
    have hyp := hyp h_2 eh_2.symm
    refine z_aload_n dX10_lays_298 rfl ?_
    refine gf_X10_49 (c2 := 13) dX10_lays_299 rfl (sR_0 hE) (cR_0 hE) rfl ?_
    refine z_iload_n dX10_lays_302 rfl ?_
    refine z_aload_n dX10_lays_303 rfl ?_
    refine gf_X10_49 (c2 := 13) dX10_lays_304 rfl (sR_0 hE) (cR_0 hE) rfl ?_
    refine z_iconst dX10_lays_307 (r32d rfl) ?_
    refine z_iload_n dX10_lays_308 rfl ?_
    refine z_iadd dX10_lays_309 ?_
    obtain ⟨⟨hi0, hi1⟩, hyp⟩ := hyp
    refine z_iaload dX10_lays_310 (sR_13 hE) (cR_13 hE) hi0 hi1 ?_
    obtain ⟨⟨hi0, hi1⟩, hyp⟩ := hyp
    refine z_iastore dX10_lays_311 (sR_13 hE) (cR_13 hE) hi0 hi1 ?_
    generalize eh_3 : hset h_2 13 _ (h_2 13 (w32 (5 + x1)).toNat) = h_3
    have hyp := hyp h_3 eh_3.symm
    refine z_iinc dX10_lays_312 rfl (by decide) rfl ?_
    generalize ex_4 : w32 (x1 + 1) = x_4
    have hyp := hyp x_4 ex_4.symm
    refine z_goto (tgt := 279) dX10_lays_315 (by decide) ?_
    exact hyp
set_option maxRecDepth 20000 in
theorem bX10_lays_320 {E : zE} (hE : isR E) {d : Nat} {x1 : Int} {h : zH} {K : zH → Prop} (hyp :
  ((30 ≤ x1 →
    zG E mX10_lays d 349 [zR 0, zI 0] [] h (qV K)) ∧
  (¬ (30 ≤ x1) →
    ((0 : Int) ≤ w32 (30 + x1) ∧ w32 (30 + x1) < (60 : Int)) ∧
    ((0 : Int) ≤ x1 ∧ x1 < (60 : Int)) ∧
    ∀ h_2 : zH, h_2 = hset h 14 (x1.toNat) (h 14 (w32 (30 + x1)).toNat) →
    ∀ x_3 : Int, x_3 = w32 (x1 + 1) →
    zG E mX10_lays d 320 [zR 0, zI x_3] [] h_2 (qV K)))) :
  zG E mX10_lays d 320 [zR 0, zI x1] [] h (qV K) := by
  refine z_iload_n dX10_lays_320 rfl ?_
  refine z_bipush dX10_lays_321 (r32d rfl) (by decide) ?_
  refine z_icmp_ge (tgt := 347) dX10_lays_323 (by decide) (fun c_1 => ?_) (fun c_1 => ?_)
  · have hyp := hyp.1 c_1
    refine z_iconst dX10_lays_347 (r32d rfl) ?_
    refine z_istore_n dX10_lays_348 rfl (by decide) rfl ?_
    exact hyp
  · have hyp := hyp.2 c_1
    refine z_aload_n dX10_lays_326 rfl ?_
    refine gf_X10_52 (c2 := 14) dX10_lays_327 rfl (sR_0 hE) (cR_0 hE) rfl ?_
    refine z_iload_n dX10_lays_330 rfl ?_
    refine z_aload_n dX10_lays_331 rfl ?_
    refine gf_X10_52 (c2 := 14) dX10_lays_332 rfl (sR_0 hE) (cR_0 hE) rfl ?_
    refine z_bipush dX10_lays_335 (r32d rfl) (by decide) ?_
    refine z_iload_n dX10_lays_337 rfl ?_
    refine z_iadd dX10_lays_338 ?_
    obtain ⟨⟨hi0, hi1⟩, hyp⟩ := hyp
    refine z_iaload dX10_lays_339 (sR_14 hE) (cR_14 hE) hi0 hi1 ?_
    obtain ⟨⟨hi0, hi1⟩, hyp⟩ := hyp
    refine z_iastore dX10_lays_340 (sR_14 hE) (cR_14 hE) hi0 hi1 ?_
    generalize eh_2 : hset h 14 _ (h 14 (w32 (30 + x1)).toNat) = h_2
    have hyp := hyp h_2 eh_2.symm
    refine z_iinc dX10_lays_341 rfl (by decide) rfl ?_
    generalize ex_3 : w32 (x1 + 1) = x_3
    have hyp := hyp x_3 ex_3.symm
    refine z_goto (tgt := 320) dX10_lays_344 (by decide) ?_
    exact hyp
set_option maxRecDepth 20000 in
theorem bX10_lays_349 {E : zE} (hE : isR E) {d : Nat} {x1 : Int} {h : zH} {K : zH → Prop} (hyp :
  ((6 ≤ x1 →
    zG E mX10_lays d 378 [zR 0, zI 0] [] h (qV K)) ∧
  (¬ (6 ≤ x1) →
    ((0 : Int) ≤ w32 (6 + x1) ∧ w32 (6 + x1) < (12 : Int)) ∧
    ((0 : Int) ≤ x1 ∧ x1 < (12 : Int)) ∧
    ∀ h_2 : zH, h_2 = hset h 15 (x1.toNat) (h 15 (w32 (6 + x1)).toNat) →
    ∀ x_3 : Int, x_3 = w32 (x1 + 1) →
    zG E mX10_lays d 349 [zR 0, zI x_3] [] h_2 (qV K)))) :
  zG E mX10_lays d 349 [zR 0, zI x1] [] h (qV K) := by
  refine z_iload_n dX10_lays_349 rfl ?_
  refine z_bipush dX10_lays_350 (r32d rfl) (by decide) ?_
  refine z_icmp_ge (tgt := 376) dX10_lays_352 (by decide) (fun c_1 => ?_) (fun c_1 => ?_)
  · have hyp := hyp.1 c_1
    refine z_iconst dX10_lays_376 (r32d rfl) ?_
    refine z_istore_n dX10_lays_377 rfl (by decide) rfl ?_
    exact hyp
  · have hyp := hyp.2 c_1
    refine z_aload_n dX10_lays_355 rfl ?_
    refine gf_X10_55 (c2 := 15) dX10_lays_356 rfl (sR_0 hE) (cR_0 hE) rfl ?_
    refine z_iload_n dX10_lays_359 rfl ?_
    refine z_aload_n dX10_lays_360 rfl ?_
    refine gf_X10_55 (c2 := 15) dX10_lays_361 rfl (sR_0 hE) (cR_0 hE) rfl ?_
    refine z_bipush dX10_lays_364 (r32d rfl) (by decide) ?_
    refine z_iload_n dX10_lays_366 rfl ?_
    refine z_iadd dX10_lays_367 ?_
    obtain ⟨⟨hi0, hi1⟩, hyp⟩ := hyp
    refine z_iaload dX10_lays_368 (sR_15 hE) (cR_15 hE) hi0 hi1 ?_
    obtain ⟨⟨hi0, hi1⟩, hyp⟩ := hyp
    refine z_iastore dX10_lays_369 (sR_15 hE) (cR_15 hE) hi0 hi1 ?_
    generalize eh_2 : hset h 15 _ (h 15 (w32 (6 + x1)).toNat) = h_2
    have hyp := hyp h_2 eh_2.symm
    refine z_iinc dX10_lays_370 rfl (by decide) rfl ?_
    generalize ex_3 : w32 (x1 + 1) = x_3
    have hyp := hyp x_3 ex_3.symm
    refine z_goto (tgt := 349) dX10_lays_373 (by decide) ?_
    exact hyp
set_option maxRecDepth 20000 in
theorem bX10_lays_378 {E : zE} (hE : isR E) {d : Nat} {x1 : Int} {h : zH} {K : zH → Prop} (hyp :
  ((20 ≤ x1 →
    zG E mX10_lays d 452 [zR 0, zI 0] [] h (qV K)) ∧
  (¬ (20 ≤ x1) →
    ((0 : Int) ≤ w32 (20 + x1) ∧ w32 (20 + x1) < (40 : Int)) ∧
    ((0 : Int) ≤ x1 ∧ x1 < (40 : Int)) ∧
    ∀ h_2 : zH, h_2 = hset h 16 (x1.toNat) (h 16 (w32 (20 + x1)).toNat) →
    ((0 : Int) ≤ w32 (20 + x1) ∧ w32 (20 + x1) < (40 : Int)) ∧
    ((0 : Int) ≤ x1 ∧ x1 < (40 : Int)) ∧
    ∀ h_3 : zH, h_3 = hset h_2 17 (x1.toNat) (h_2 17 (w32 (20 + x1)).toNat) →
    ((0 : Int) ≤ w32 (20 + x1) ∧ w32 (20 + x1) < (40 : Int)) ∧
    ((0 : Int) ≤ x1 ∧ x1 < (40 : Int)) ∧
    ∀ h_4 : zH, h_4 = hset h_3 18 (x1.toNat) (h_3 18 (w32 (20 + x1)).toNat) →
    ((0 : Int) ≤ w32 (20 + x1) ∧ w32 (20 + x1) < (40 : Int)) ∧
    ((0 : Int) ≤ x1 ∧ x1 < (40 : Int)) ∧
    (h_4 19 (w32 (20 + x1)).toNat = 0 ∨ h_4 19 (w32 (20 + x1)).toNat = 1) ∧
    ∀ h_5 : zH, h_5 = hset h_4 19 (x1.toNat) (h_4 19 (w32 (20 + x1)).toNat) →
    ∀ x_6 : Int, x_6 = w32 (x1 + 1) →
    zG E mX10_lays d 378 [zR 0, zI x_6] [] h_5 (qV K)))) :
  zG E mX10_lays d 378 [zR 0, zI x1] [] h (qV K) := by
  refine z_iload_n dX10_lays_378 rfl ?_
  refine z_bipush dX10_lays_379 (r32d rfl) (by decide) ?_
  refine z_icmp_ge (tgt := 450) dX10_lays_381 (by decide) (fun c_1 => ?_) (fun c_1 => ?_)
  · have hyp := hyp.1 c_1
    refine z_iconst dX10_lays_450 (r32d rfl) ?_
    refine z_istore_n dX10_lays_451 rfl (by decide) rfl ?_
    exact hyp
  · have hyp := hyp.2 c_1
    refine z_aload_n dX10_lays_384 rfl ?_
    refine gf_X10_58 (c2 := 16) dX10_lays_385 rfl (sR_0 hE) (cR_0 hE) rfl ?_
    refine z_iload_n dX10_lays_388 rfl ?_
    refine z_aload_n dX10_lays_389 rfl ?_
    refine gf_X10_58 (c2 := 16) dX10_lays_390 rfl (sR_0 hE) (cR_0 hE) rfl ?_
    refine z_bipush dX10_lays_393 (r32d rfl) (by decide) ?_
    refine z_iload_n dX10_lays_395 rfl ?_
    refine z_iadd dX10_lays_396 ?_
    obtain ⟨⟨hi0, hi1⟩, hyp⟩ := hyp
    refine z_iaload dX10_lays_397 (sR_16 hE) (cR_16 hE) hi0 hi1 ?_
    obtain ⟨⟨hi0, hi1⟩, hyp⟩ := hyp
    refine z_iastore dX10_lays_398 (sR_16 hE) (cR_16 hE) hi0 hi1 ?_
    generalize eh_2 : hset h 16 _ (h 16 (w32 (20 + x1)).toNat) = h_2
    have hyp := hyp h_2 eh_2.symm
    refine z_aload_n dX10_lays_399 rfl ?_
    refine gf_X10_61 (c2 := 17) dX10_lays_400 rfl (sR_0 hE) (cR_0 hE) rfl ?_
    refine z_iload_n dX10_lays_403 rfl ?_
    refine z_aload_n dX10_lays_404 rfl ?_
    refine gf_X10_61 (c2 := 17) dX10_lays_405 rfl (sR_0 hE) (cR_0 hE) rfl ?_
    refine z_bipush dX10_lays_408 (r32d rfl) (by decide) ?_
    refine z_iload_n dX10_lays_410 rfl ?_
    refine z_iadd dX10_lays_411 ?_
    obtain ⟨⟨hi0, hi1⟩, hyp⟩ := hyp
    refine z_iaload dX10_lays_412 (sR_17 hE) (cR_17 hE) hi0 hi1 ?_
    obtain ⟨⟨hi0, hi1⟩, hyp⟩ := hyp
    refine z_iastore dX10_lays_413 (sR_17 hE) (cR_17 hE) hi0 hi1 ?_
    generalize eh_3 : hset h_2 17 _ (h_2 17 (w32 (20 + x1)).toNat) = h_3
    have hyp := hyp h_3 eh_3.symm
    refine z_aload_n dX10_lays_414 rfl ?_
    refine gf_X10_64 (c2 := 18) dX10_lays_415 rfl (sR_0 hE) (cR_0 hE) rfl ?_
    refine z_iload_n dX10_lays_418 rfl ?_
    refine z_aload_n dX10_lays_419 rfl ?_
    refine gf_X10_64 (c2 := 18) dX10_lays_420 rfl (sR_0 hE) (cR_0 hE) rfl ?_
    refine z_bipush dX10_lays_423 (r32d rfl) (by decide) ?_
    refine z_iload_n dX10_lays_425 rfl ?_
    refine z_iadd dX10_lays_426 ?_
    obtain ⟨⟨hi0, hi1⟩, hyp⟩ := hyp
    refine z_iaload dX10_lays_427 (sR_18 hE) (cR_18 hE) hi0 hi1 ?_
    obtain ⟨⟨hi0, hi1⟩, hyp⟩ := hyp
    refine z_iastore dX10_lays_428 (sR_18 hE) (cR_18 hE) hi0 hi1 ?_
    generalize eh_4 : hset h_3 18 _ (h_3 18 (w32 (20 + x1)).toNat) = h_4
    have hyp := hyp h_4 eh_4.symm
    refine z_aload_n dX10_lays_429 rfl ?_
    refine gf_X10_67 (c2 := 19) dX10_lays_430 rfl (sR_0 hE) (cR_0 hE) rfl ?_
    refine z_iload_n dX10_lays_433 rfl ?_
    refine z_aload_n dX10_lays_434 rfl ?_
    refine gf_X10_67 (c2 := 19) dX10_lays_435 rfl (sR_0 hE) (cR_0 hE) rfl ?_
    refine z_bipush dX10_lays_438 (r32d rfl) (by decide) ?_
    refine z_iload_n dX10_lays_440 rfl ?_
    refine z_iadd dX10_lays_441 ?_
    obtain ⟨⟨hi0, hi1⟩, hyp⟩ := hyp
    refine z_baload dX10_lays_442 (sR_19 hE) (cR_19 hE) hi0 hi1 ?_
    obtain ⟨⟨hi0, hi1⟩, hyp⟩ := hyp
    obtain ⟨hx0, hyp⟩ := hyp
    refine z_bastore dX10_lays_443 (sR_19 hE) (cR_19 hE) hi0 hi1 hx0 ?_
    generalize eh_5 : hset h_4 19 _ (h_4 19 (w32 (20 + x1)).toNat) = h_5
    have hyp := hyp h_5 eh_5.symm
    refine z_iinc dX10_lays_444 rfl (by decide) rfl ?_
    generalize ex_6 : w32 (x1 + 1) = x_6
    have hyp := hyp x_6 ex_6.symm
    refine z_goto (tgt := 378) dX10_lays_447 (by decide) ?_
    exact hyp
set_option maxRecDepth 20000 in
theorem bX10_lays_452 {E : zE} (hE : isR E) {d : Nat} {x1 : Int} {h : zH} {K : zH → Prop} (hyp :
  ((64 ≤ x1 →
    K h) ∧
  (¬ (64 ≤ x1) →
    ((0 : Int) ≤ w32 (64 + x1) ∧ w32 (64 + x1) < (128 : Int)) ∧
    ((0 : Int) ≤ x1 ∧ x1 < (128 : Int)) ∧
    ∀ h_2 : zH, h_2 = hset h 20 (x1.toNat) (h 20 (w32 (64 + x1)).toNat) →
    ((0 : Int) ≤ w32 (64 + x1) ∧ w32 (64 + x1) < (128 : Int)) ∧
    ((0 : Int) ≤ x1 ∧ x1 < (128 : Int)) ∧
    ∀ h_3 : zH, h_3 = hset h_2 21 (x1.toNat) (h_2 21 (w32 (64 + x1)).toNat) →
    ∀ x_4 : Int, x_4 = w32 (x1 + 1) →
    zG E mX10_lays d 452 [zR 0, zI x_4] [] h_3 (qV K)))) :
  zG E mX10_lays d 452 [zR 0, zI x1] [] h (qV K) := by
  refine z_iload_n dX10_lays_452 rfl ?_
  refine z_bipush dX10_lays_453 (r32d rfl) (by decide) ?_
  refine z_icmp_ge (tgt := 494) dX10_lays_455 (by decide) (fun c_1 => ?_) (fun c_1 => ?_)
  · have hyp := hyp.1 c_1
    exact z_vret dX10_lays_494 rfl ⟨rfl, hyp⟩
  · have hyp := hyp.2 c_1
    refine z_aload_n dX10_lays_458 rfl ?_
    refine gf_X10_70 (c2 := 20) dX10_lays_459 rfl (sR_0 hE) (cR_0 hE) rfl ?_
    refine z_iload_n dX10_lays_462 rfl ?_
    refine z_aload_n dX10_lays_463 rfl ?_
    refine gf_X10_70 (c2 := 20) dX10_lays_464 rfl (sR_0 hE) (cR_0 hE) rfl ?_
    refine z_bipush dX10_lays_467 (r32d rfl) (by decide) ?_
    refine z_iload_n dX10_lays_469 rfl ?_
    refine z_iadd dX10_lays_470 ?_
    obtain ⟨⟨hi0, hi1⟩, hyp⟩ := hyp
    refine z_iaload dX10_lays_471 (sR_20 hE) (cR_20 hE) hi0 hi1 ?_
    obtain ⟨⟨hi0, hi1⟩, hyp⟩ := hyp
    refine z_iastore dX10_lays_472 (sR_20 hE) (cR_20 hE) hi0 hi1 ?_
    generalize eh_2 : hset h 20 _ (h 20 (w32 (64 + x1)).toNat) = h_2
    have hyp := hyp h_2 eh_2.symm
    refine z_aload_n dX10_lays_473 rfl ?_
    refine gf_X10_73 (c2 := 21) dX10_lays_474 rfl (sR_0 hE) (cR_0 hE) rfl ?_
    refine z_iload_n dX10_lays_477 rfl ?_
    refine z_aload_n dX10_lays_478 rfl ?_
    refine gf_X10_73 (c2 := 21) dX10_lays_479 rfl (sR_0 hE) (cR_0 hE) rfl ?_
    refine z_bipush dX10_lays_482 (r32d rfl) (by decide) ?_
    refine z_iload_n dX10_lays_484 rfl ?_
    refine z_iadd dX10_lays_485 ?_
    obtain ⟨⟨hi0, hi1⟩, hyp⟩ := hyp
    refine z_iaload dX10_lays_486 (sR_21 hE) (cR_21 hE) hi0 hi1 ?_
    obtain ⟨⟨hi0, hi1⟩, hyp⟩ := hyp
    refine z_iastore dX10_lays_487 (sR_21 hE) (cR_21 hE) hi0 hi1 ?_
    generalize eh_3 : hset h_2 21 _ (h_2 21 (w32 (64 + x1)).toNat) = h_3
    have hyp := hyp h_3 eh_3.symm
    refine z_iinc dX10_lays_488 rfl (by decide) rfl ?_
    generalize ex_4 : w32 (x1 + 1) = x_4
    have hyp := hyp x_4 ex_4.symm
    refine z_goto (tgt := 452) dX10_lays_491 (by decide) ?_
    exact hyp
set_option maxRecDepth 20000 in
theorem eX10_lays {E : zE} (hE : isR E) {d : Nat} {h : zH} {K : zH → Prop} (hyp :
  ∀ h_1 : zH, h_1 = hset h 0 23 (h 0 32) →
  ∀ h_2 : zH, h_2 = hset h_1 0 24 (h_1 0 33) →
  ∀ h_3 : zH, h_3 = hset h_2 0 25 (h_2 0 34) →
  ∀ h_4 : zH, h_4 = hset h_3 0 26 (h_3 0 35) →
  ∀ h_5 : zH, h_5 = hset h_4 0 27 (h_4 0 36) →
  ∀ h_6 : zH, h_6 = hset h_5 0 28 (h_5 0 37) →
  ∀ h_7 : zH, h_7 = hset h_6 0 29 (h_6 0 38) →
  ∀ h_8 : zH, h_8 = hset h_7 0 30 (h_7 0 39) →
  ∀ h_9 : zH, h_9 = hset h_8 0 31 (h_8 0 40) →
  ∀ h_10 : zH, h_10 = hset h_9 0 54 0 →
  ∀ h_11 : zH, h_11 = hset h_10 0 55 (-1) →
  ∀ h_12 : zH, h_12 = hset h_11 0 74 0 →
  zG E mX10_lays d 89 [zR 0, zI 0] [] h_12 (qV K)) :
  zCV E mX10_lays d [zR 0] h K := by
  refine zC_in (L0 := [zR 0, zU]) pn_X10 rfl (Nat.le_of_ble_eq_true rfl) ?_
  refine z_aload_n dX10_lays_0 rfl ?_
  refine z_aload_n dX10_lays_1 rfl ?_
  refine gf_X10_230 dX10_lays_2 rfl (sR_0 hE) (cR_0 hE) ?_
  refine pf_X10_337 dX10_lays_5 rfl (sR_0 hE) (cR_0 hE) ?_
  generalize eh_1 : hset h 0 23 _ = h_1
  have hyp := hyp h_1 eh_1.symm
  refine z_aload_n dX10_lays_8 rfl ?_
  refine z_aload_n dX10_lays_9 rfl ?_
  refine gf_X10_233 dX10_lays_10 rfl (sR_0 hE) (cR_0 hE) ?_
  refine pf_X10_340 dX10_lays_13 rfl (sR_0 hE) (cR_0 hE) ?_
  generalize eh_2 : hset h_1 0 24 _ = h_2
  have hyp := hyp h_2 eh_2.symm
  refine z_aload_n dX10_lays_16 rfl ?_
  refine z_aload_n dX10_lays_17 rfl ?_
  refine gf_X10_236 dX10_lays_18 rfl (sR_0 hE) (cR_0 hE) ?_
  refine pf_X10_343 dX10_lays_21 rfl (sR_0 hE) (cR_0 hE) ?_
  generalize eh_3 : hset h_2 0 25 _ = h_3
  have hyp := hyp h_3 eh_3.symm
  refine z_aload_n dX10_lays_24 rfl ?_
  refine z_aload_n dX10_lays_25 rfl ?_
  refine gf_X10_239 dX10_lays_26 rfl (sR_0 hE) (cR_0 hE) ?_
  refine pf_X10_346 dX10_lays_29 rfl (sR_0 hE) (cR_0 hE) ?_
  generalize eh_4 : hset h_3 0 26 _ = h_4
  have hyp := hyp h_4 eh_4.symm
  refine z_aload_n dX10_lays_32 rfl ?_
  refine z_aload_n dX10_lays_33 rfl ?_
  refine gf_X10_294 dX10_lays_34 rfl (sR_0 hE) (cR_0 hE) ?_
  refine pf_X10_349 dX10_lays_37 rfl (sR_0 hE) (cR_0 hE) ?_
  generalize eh_5 : hset h_4 0 27 _ = h_5
  have hyp := hyp h_5 eh_5.symm
  refine z_aload_n dX10_lays_40 rfl ?_
  refine z_aload_n dX10_lays_41 rfl ?_
  refine gf_X10_297 dX10_lays_42 rfl (sR_0 hE) (cR_0 hE) ?_
  refine pf_X10_352 dX10_lays_45 rfl (sR_0 hE) (cR_0 hE) ?_
  generalize eh_6 : hset h_5 0 28 _ = h_6
  have hyp := hyp h_6 eh_6.symm
  refine z_aload_n dX10_lays_48 rfl ?_
  refine z_aload_n dX10_lays_49 rfl ?_
  refine gf_X10_264 dX10_lays_50 rfl (sR_0 hE) (cR_0 hE) ?_
  refine pf_X10_76 dX10_lays_53 rfl (sR_0 hE) (cR_0 hE) ?_
  generalize eh_7 : hset h_6 0 29 _ = h_7
  have hyp := hyp h_7 eh_7.symm
  refine z_aload_n dX10_lays_56 rfl ?_
  refine z_aload_n dX10_lays_57 rfl ?_
  refine gf_X10_267 dX10_lays_58 rfl (sR_0 hE) (cR_0 hE) ?_
  refine pf_X10_80 dX10_lays_61 rfl (sR_0 hE) (cR_0 hE) ?_
  generalize eh_8 : hset h_7 0 30 _ = h_8
  have hyp := hyp h_8 eh_8.symm
  refine z_aload_n dX10_lays_64 rfl ?_
  refine z_aload_n dX10_lays_65 rfl ?_
  refine gf_X10_270 dX10_lays_66 rfl (sR_0 hE) (cR_0 hE) ?_
  refine pf_X10_83 dX10_lays_69 rfl (sR_0 hE) (cR_0 hE) ?_
  generalize eh_9 : hset h_8 0 31 _ = h_9
  have hyp := hyp h_9 eh_9.symm
  refine z_aload_n dX10_lays_72 rfl ?_
  refine z_iconst dX10_lays_73 (r32d rfl) ?_
  refine pf_X10_355 dX10_lays_74 rfl (sR_0 hE) (cR_0 hE) ?_
  generalize eh_10 : hset h_9 0 54 _ = h_10
  have hyp := hyp h_10 eh_10.symm
  refine z_aload_n dX10_lays_77 rfl ?_
  refine z_iconst dX10_lays_78 (r32d rfl) ?_
  refine pf_X10_89 dX10_lays_79 rfl (sR_0 hE) (cR_0 hE) ?_
  generalize eh_11 : hset h_10 0 55 _ = h_11
  have hyp := hyp h_11 eh_11.symm
  refine z_aload_n dX10_lays_82 rfl ?_
  refine z_iconst dX10_lays_83 (r32d rfl) ?_
  refine pf_X10_358 dX10_lays_84 rfl (sR_0 hE) (cR_0 hE) (Or.inl rfl) ?_
  generalize eh_12 : hset h_11 0 74 _ = h_12
  have hyp := hyp h_12 eh_12.symm
  refine z_iconst dX10_lays_87 (r32d rfl) ?_
  refine z_istore_n dX10_lays_88 rfl (by decide) rfl ?_
  exact hyp
set_option maxRecDepth 20000 in
theorem bX10_lean_42 {E : zE} (hE : isR E) {d : Nat} {x1 x2 y3 y5 x7 : Int} {h : zH} {K : Int → zH → Prop} (hyp :
  (((h 0 26) ≤ x7 →
    ((y5 ≠ 0 →
      zCJ E mX10_common d [zJ y3, zJ y5] h (fun r_3 h_3 =>
        ((x2 ≠ 0 →
          ¬ r_3 = 0 ∧
          K (w32 (w64 (Int.tdiv y5 r_3))) h_3) ∧
        (¬ (x2 ≠ 0) →
          ¬ r_3 = 0 ∧
          K (w32 (w64 (Int.tdiv y3 r_3))) h_3)))) ∧
    (¬ (y5 ≠ 0) →
      K 0 h))) ∧
  (¬ ((h 0 26) ≤ x7) →
    ((0 : Int) ≤ x7 ∧ x7 < (40 : Int)) ∧
    (((h 16 x7.toNat) ≠ x1 →
      ∀ x_6 : Int, x_6 = w32 (x7 + 1) →
      zG E mX10_lean (d + 1) 42 [zR 0, zI x1, zI x2, zJ y3, zU, zJ y5, zU, zI x_6, zU] [] h (qI K)) ∧
    (¬ ((h 16 x7.toNat) ≠ x1) →
      ((0 : Int) ≤ x7 ∧ x7 < (40 : Int)) ∧
      zCI E mX10_hasFit d [zR 0, zI (h 17 x7.toNat)] h (fun r_7 h_7 =>
        ((r_7 ≠ 0 →
          ((0 : Int) ≤ x7 ∧ x7 < (40 : Int)) ∧
          ((0 : Int) ≤ x7 ∧ x7 < (40 : Int)) ∧
          zCI E mX10_sizeOf d [zR 0, zI (h_7 17 x7.toNat)] h_7 (fun r_9 h_9 =>
            ∀ y_10 : Int, y_10 = w64 (y3 + (w32 ((h_7 18 x7.toNat) - r_9))) →
            ∀ y_11 : Int, y_11 = w64 (y5 + 1) →
            ∀ x_12 : Int, x_12 = w32 (x7 + 1) →
            zG E mX10_lean (d + 1) 42 [zR 0, zI x1, zI x2, zJ y_10, zU, zJ y_11, zU, zI x_12, zU] [] h_9 (qI K))) ∧
        (¬ (r_7 ≠ 0) →
          ∀ x_13 : Int, x_13 = w32 (x7 + 1) →
          zG E mX10_lean (d + 1) 42 [zR 0, zI x1, zI x2, zJ y3, zU, zJ y5, zU, zI x_13, zU] [] h_7 (qI K))))))))) :
  zG E mX10_lean (d + 1) 42 [zR 0, zI x1, zI x2, zJ y3, zU, zJ y5, zU, zI x7, zU] [] h (qI K) := by
  refine z_iload dX10_lean_42 rfl ?_
  refine z_aload_n dX10_lean_44 rfl ?_
  refine gf_X10_346 dX10_lean_45 rfl (sR_0 hE) (cR_0 hE) ?_
  refine z_icmp_ge (tgt := 114) dX10_lean_48 (by decide) (fun c_1 => ?_) (fun c_1 => ?_)
  · have hyp := hyp.1 c_1
    refine z_lload dX10_lean_114 rfl ?_
    refine z_lconst (x := 0) dX10_lean_116 (by decide) (r64d rfl) ?_
    refine z_lc_ne (tgt := 123) dX10_lean_117 dX10_lean_118 (by decide) (fun c_2 => ?_) (fun c_2 => ?_)
    · have hyp := hyp.1 c_2
      refine z_lload_n dX10_lean_123 rfl ?_
      refine z_lload dX10_lean_124 rfl ?_
      refine cl_X10_525 dX10_lean_126 rfl (Nat.le_of_ble_eq_true rfl) (zC_mono ?_ hyp)
      rintro _ h_3 ⟨r_3, rfl, hyp⟩
      refine ⟨r_3, rfl, ?_⟩
      refine z_lstore dX10_lean_129 (by decide) rfl ?_
      refine z_iload_n dX10_lean_131 rfl ?_
      refine z_if_ne (tgt := 142) dX10_lean_132 (by decide) (fun c_4 => ?_) (fun c_4 => ?_)
      · have hyp := hyp.1 c_4
        refine z_lload dX10_lean_142 rfl ?_
        refine z_lload dX10_lean_144 rfl ?_
        obtain ⟨hz, hyp⟩ := hyp
        refine z_ldiv hz dX10_lean_146 ?_
        refine z_l2i dX10_lean_147 ?_
        exact z_iret dX10_lean_148 rfl ⟨_, rfl, hyp⟩
      · have hyp := hyp.2 c_4
        refine z_lload_n dX10_lean_135 rfl ?_
        refine z_lload dX10_lean_136 rfl ?_
        obtain ⟨hz, hyp⟩ := hyp
        refine z_ldiv hz dX10_lean_138 ?_
        refine z_goto (tgt := 147) dX10_lean_139 (by decide) ?_
        refine z_l2i dX10_lean_147 ?_
        exact z_iret dX10_lean_148 rfl ⟨_, rfl, hyp⟩
    · have hyp := hyp.2 c_2
      refine z_iconst dX10_lean_121 (r32d rfl) ?_
      exact z_iret dX10_lean_122 rfl ⟨_, rfl, hyp⟩
  · have hyp := hyp.2 c_1
    refine z_aload_n dX10_lean_51 rfl ?_
    refine gf_X10_58 (c2 := 16) dX10_lean_52 rfl (sR_0 hE) (cR_0 hE) rfl ?_
    refine z_iload dX10_lean_55 rfl ?_
    obtain ⟨⟨hi0, hi1⟩, hyp⟩ := hyp
    refine z_iaload dX10_lean_57 (sR_16 hE) (cR_16 hE) hi0 hi1 ?_
    refine z_iload_n dX10_lean_58 rfl ?_
    refine z_icmp_ne (tgt := 108) dX10_lean_59 (by decide) (fun c_5 => ?_) (fun c_5 => ?_)
    · have hyp := hyp.1 c_5
      refine z_iinc dX10_lean_108 rfl (by decide) rfl ?_
      generalize ex_6 : w32 (x7 + 1) = x_6
      have hyp := hyp x_6 ex_6.symm
      refine z_goto (tgt := 42) dX10_lean_111 (by decide) ?_
      exact hyp
    · have hyp := hyp.2 c_5
      refine z_aload_n dX10_lean_62 rfl ?_
      refine z_aload_n dX10_lean_63 rfl ?_
      refine gf_X10_61 (c2 := 17) dX10_lean_64 rfl (sR_0 hE) (cR_0 hE) rfl ?_
      refine z_iload dX10_lean_67 rfl ?_
      obtain ⟨⟨hi0, hi1⟩, hyp⟩ := hyp
      refine z_iaload dX10_lean_69 (sR_17 hE) (cR_17 hE) hi0 hi1 ?_
      refine cl_X10_443 dX10_lean_70 rfl (sR_0 hE) (cR_0 hE) (Nat.le_of_ble_eq_true rfl) (zC_mono ?_ hyp)
      rintro _ h_7 ⟨r_7, rfl, hyp⟩
      refine ⟨r_7, rfl, ?_⟩
      refine z_if_ne (tgt := 79) dX10_lean_73 (by decide) (fun c_8 => ?_) (fun c_8 => ?_)
      · have hyp := hyp.1 c_8
        refine z_lload_n dX10_lean_79 rfl ?_
        refine z_aload_n dX10_lean_80 rfl ?_
        refine gf_X10_64 (c2 := 18) dX10_lean_81 rfl (sR_0 hE) (cR_0 hE) rfl ?_
        refine z_iload dX10_lean_84 rfl ?_
        obtain ⟨⟨hi0, hi1⟩, hyp⟩ := hyp
        refine z_iaload dX10_lean_86 (sR_18 hE) (cR_18 hE) hi0 hi1 ?_
        refine z_aload_n dX10_lean_87 rfl ?_
        refine z_aload_n dX10_lean_88 rfl ?_
        refine gf_X10_61 (c2 := 17) dX10_lean_89 rfl (sR_0 hE) (cR_0 hE) rfl ?_
        refine z_iload dX10_lean_92 rfl ?_
        obtain ⟨⟨hi0, hi1⟩, hyp⟩ := hyp
        refine z_iaload dX10_lean_94 (sR_17 hE) (cR_17 hE) hi0 hi1 ?_
        refine cl_X10_446 dX10_lean_95 rfl (sR_0 hE) (cR_0 hE) (Nat.le_of_ble_eq_true rfl) (zC_mono ?_ hyp)
        rintro _ h_9 ⟨r_9, rfl, hyp⟩
        refine ⟨r_9, rfl, ?_⟩
        refine z_isub dX10_lean_98 ?_
        refine z_i2l dX10_lean_99 ?_
        refine z_ladd dX10_lean_100 ?_
        generalize ey_10 : w64 (y3 + (w32 ((h_7 18 x7.toNat) - r_9))) = y_10
        have hyp := hyp y_10 ey_10.symm
        refine z_lstore_n dX10_lean_101 rfl (by decide) rfl ?_
        refine z_lload dX10_lean_102 rfl ?_
        refine z_lconst (x := 1) dX10_lean_104 (by decide) (r64d rfl) ?_
        refine z_ladd dX10_lean_105 ?_
        generalize ey_11 : w64 (y5 + 1) = y_11
        have hyp := hyp y_11 ey_11.symm
        refine z_lstore dX10_lean_106 (by decide) rfl ?_
        refine z_iinc dX10_lean_108 rfl (by decide) rfl ?_
        generalize ex_12 : w32 (x7 + 1) = x_12
        have hyp := hyp x_12 ex_12.symm
        refine z_goto (tgt := 42) dX10_lean_111 (by decide) ?_
        exact hyp
      · have hyp := hyp.2 c_8
        refine z_goto (tgt := 108) dX10_lean_76 (by decide) ?_
        refine z_iinc dX10_lean_108 rfl (by decide) rfl ?_
        generalize ex_13 : w32 (x7 + 1) = x_13
        have hyp := hyp x_13 ex_13.symm
        refine z_goto (tgt := 42) dX10_lean_111 (by decide) ?_
        exact hyp
set_option maxRecDepth 20000 in
theorem eX10_lean {E : zE} (hE : isR E) {d : Nat} {x1 x2 : Int} {h : zH} {K : Int → zH → Prop} (hyp :
  ∀ h_1 : zH, h_1 = hset h 0 0 0 →
  ((x1 < 0 →
    K (-2147483648) h_1) ∧
  (¬ (x1 < 0) →
    (((h_1 0 27) ≤ x1 →
      K (-2147483648) h_1) ∧
    (¬ ((h_1 0 27) ≤ x1) →
      ((x2 < 0 →
        K (-2147483648) h_1) ∧
      (¬ (x2 < 0) →
        ((x2 ≤ 1 →
          zCV E mX10_laid d [zR 0] h_1 (fun h_6 =>
            zG E mX10_lean (d + 1) 42 [zR 0, zI x1, zI x2, zJ 0, zU, zJ 0, zU, zI 0, zU] [] h_6 (qI K))) ∧
        (¬ (x2 ≤ 1) →
          K (-2147483648) h_1))))))))) :
  zCI E mX10_lean (d + 1) [zR 0, zI x1, zI x2] h K := by
  refine zC_in (L0 := [zR 0, zI x1, zI x2, zU, zU, zU, zU, zU, zU]) pn_X10 rfl (Nat.le_of_ble_eq_true rfl) ?_
  refine z_aload_n dX10_lean_0 rfl ?_
  refine z_iconst dX10_lean_1 (r32d rfl) ?_
  refine pf_X10_153 dX10_lean_2 rfl (sR_0 hE) (cR_0 hE) ?_
  generalize eh_1 : hset h 0 0 _ = h_1
  have hyp := hyp h_1 eh_1.symm
  refine z_iload_n dX10_lean_5 rfl ?_
  refine z_if_lt (tgt := 26) dX10_lean_6 (by decide) (fun c_2 => ?_) (fun c_2 => ?_)
  · have hyp := hyp.1 c_2
    refine z_ldcw (x := (-2147483648)) dX10_lean_26 rfl wk_X10_430 (by decide) (r32d rfl) ?_
    exact z_iret dX10_lean_29 rfl ⟨_, rfl, hyp⟩
  · have hyp := hyp.2 c_2
    refine z_iload_n dX10_lean_9 rfl ?_
    refine z_aload_n dX10_lean_10 rfl ?_
    refine gf_X10_349 dX10_lean_11 rfl (sR_0 hE) (cR_0 hE) ?_
    refine z_icmp_ge (tgt := 26) dX10_lean_14 (by decide) (fun c_3 => ?_) (fun c_3 => ?_)
    · have hyp := hyp.1 c_3
      refine z_ldcw (x := (-2147483648)) dX10_lean_26 rfl wk_X10_430 (by decide) (r32d rfl) ?_
      exact z_iret dX10_lean_29 rfl ⟨_, rfl, hyp⟩
    · have hyp := hyp.2 c_3
      refine z_iload_n dX10_lean_17 rfl ?_
      refine z_if_lt (tgt := 26) dX10_lean_18 (by decide) (fun c_4 => ?_) (fun c_4 => ?_)
      · have hyp := hyp.1 c_4
        refine z_ldcw (x := (-2147483648)) dX10_lean_26 rfl wk_X10_430 (by decide) (r32d rfl) ?_
        exact z_iret dX10_lean_29 rfl ⟨_, rfl, hyp⟩
      · have hyp := hyp.2 c_4
        refine z_iload_n dX10_lean_21 rfl ?_
        refine z_iconst dX10_lean_22 (r32d rfl) ?_
        refine z_icmp_le (tgt := 30) dX10_lean_23 (by decide) (fun c_5 => ?_) (fun c_5 => ?_)
        · have hyp := hyp.1 c_5
          refine z_aload_n dX10_lean_30 rfl ?_
          refine cl_X10_440 dX10_lean_31 rfl (sR_0 hE) (cR_0 hE) (Nat.le_of_ble_eq_true rfl) (zC_mono ?_ hyp)
          rintro _ h_6 ⟨rfl, hyp⟩
          refine ⟨rfl, ?_⟩
          refine z_lconst (x := 0) dX10_lean_34 (by decide) (r64d rfl) ?_
          refine z_lstore_n dX10_lean_35 rfl (by decide) rfl ?_
          refine z_lconst (x := 0) dX10_lean_36 (by decide) (r64d rfl) ?_
          refine z_lstore dX10_lean_37 (by decide) rfl ?_
          refine z_iconst dX10_lean_39 (r32d rfl) ?_
          refine z_istore dX10_lean_40 (by decide) rfl ?_
          exact hyp
        · have hyp := hyp.2 c_5
          refine z_ldcw (x := (-2147483648)) dX10_lean_26 rfl wk_X10_430 (by decide) (r32d rfl) ?_
          exact z_iret dX10_lean_29 rfl ⟨_, rfl, hyp⟩
set_option maxRecDepth 20000 in
theorem bX10_line_53 {E : zE} (hE : isR E) {d : Nat} {x1 : Int} {h : zH} {K : zH → Prop} (hyp :
  (((zand (zshr (h 0 42) x1) 1) ≠ 1 →
    zG E mX10_line (d + 1) 70 [zR 0, zI x1] [] h (qV K)) ∧
  (¬ ((zand (zshr (h 0 42) x1) 1) ≠ 1) →
    zCV E mX10_wrong d [zR 0, zI 3] h (fun h_2 =>
      zG E mX10_line (d + 1) 70 [zR 0, zI x1] [] h_2 (qV K))))) :
  zG E mX10_line (d + 1) 53 [zR 0, zI x1] [] h (qV K) := by
  refine z_aload_n dX10_line_53 rfl ?_
  refine gf_X10_245 dX10_line_54 rfl (sR_0 hE) (cR_0 hE) ?_
  refine z_iload_n dX10_line_57 rfl ?_
  refine z_ishr dX10_line_58 ?_
  refine z_iconst dX10_line_59 (r32d rfl) ?_
  refine z_iand dX10_line_60 ?_
  refine z_iconst dX10_line_61 (r32d rfl) ?_
  refine z_icmp_ne (tgt := 70) dX10_line_62 (by decide) (fun c_1 => ?_) (fun c_1 => ?_)
  · have hyp := hyp.1 c_1
    exact hyp
  · have hyp := hyp.2 c_1
    refine z_aload_n dX10_line_65 rfl ?_
    refine z_iconst dX10_line_66 (r32d rfl) ?_
    refine cl_X10_216 dX10_line_67 rfl (sR_0 hE) (cR_0 hE) (Nat.le_of_ble_eq_true rfl) (zC_mono ?_ hyp)
    rintro _ h_2 ⟨rfl, hyp⟩
    refine ⟨rfl, ?_⟩
    exact hyp
set_option maxRecDepth 20000 in
theorem bX10_line_70 {E : zE} (hE : isR E) {d : Nat} {x1 : Int} {h : zH} {K : zH → Prop} (hyp :
  (((h 0 49) = 0 →
    ∀ h_2 : zH, h_2 = hset h 0 42 (zor (h 0 42) (zshl 1 x1)) →
    zCV E mX10_token d [zR 0] h_2 (fun h_3 =>
      ((x1 = 0) →
          zCI E mX10_fresh d [zR 0, zR 2, zI 4, zI (h_3 0 32)] h_3 (fun r_7 h_7 =>
            ((0 : Int) ≤ w32 (4 + (h_3 0 32)) ∧ w32 (4 + (h_3 0 32)) < (8 : Int)) ∧
            ∀ h_8 : zH, h_8 = hset h_7 2 ((w32 (4 + (h_3 0 32))).toNat) r_7 →
            ∀ h_9 : zH, h_9 = hset h_8 0 32 (w32 ((h_8 0 32) + 1)) →
            zG E mX10_line (d + 1) 254 [zR 0, zU] [] h_9 (qV K))) ∧
      ((x1 = 1) →
          zCV E mX10_ringLine d [zR 0, zI (w32 (8 + (h_3 0 33)))] h_3 (fun h_11 =>
            zG E mX10_line (d + 1) 254 [zR 0, zU] [] h_11 (qV K))) ∧
      ((x1 = 2) →
          zCV E mX10_wayLine d [zR 0, zI (w32 (5 + (h_3 0 34)))] h_3 (fun h_13 =>
            zG E mX10_line (d + 1) 254 [zR 0, zU] [] h_13 (qV K))) ∧
      ((x1 = 3) →
          zCV E mX10_expression d [zR 0] h_3 (fun h_15 =>
            zG E mX10_line (d + 1) 254 [zR 0, zU] [] h_15 (qV K))) ∧
      ((x1 = 4) →
          zCV E mX10_saidLine d [zR 0, zI (w32 (20 + (h_3 0 35)))] h_3 (fun h_17 =>
            zG E mX10_line (d + 1) 254 [zR 0, zU] [] h_17 (qV K))) ∧
      ((x1 = 5) →
          zCI E mX10_numeral d [zR 0, zI 0, zI 9] h_3 (fun r_19 h_19 =>
            ∀ h_20 : zH, h_20 = hset h_19 0 38 r_19 →
            zCI E mX10_numeral d [zR 0, zI 1, zI 20] h_20 (fun r_21 h_21 =>
              ∀ h_22 : zH, h_22 = hset h_21 0 39 r_21 →
              zG E mX10_line (d + 1) 254 [zR 0, zU] [] h_22 (qV K)))) ∧
      ((x1 ≠ 0 ∧ x1 ≠ 1 ∧ x1 ≠ 2 ∧ x1 ≠ 3 ∧ x1 ≠ 4 ∧ x1 ≠ 5) →
        zCI E mX10_numeral d [zR 0, zI 0, zI 9999] h_3 (fun r_4 h_4 =>
          ∀ h_5 : zH, h_5 = hset h_4 0 40 r_4 →
          zG E mX10_line (d + 1) 254 [zR 0, zU] [] h_5 (qV K))))) ∧
  (¬ ((h 0 49) = 0) →
    K h))) :
  zG E mX10_line (d + 1) 70 [zR 0, zI x1] [] h (qV K) := by
  refine z_aload_n dX10_line_70 rfl ?_
  refine gf_X10_207 dX10_line_71 rfl (sR_0 hE) (cR_0 hE) ?_
  refine z_if_eq (tgt := 78) dX10_line_74 (by decide) (fun c_1 => ?_) (fun c_1 => ?_)
  · have hyp := hyp.1 c_1
    refine z_aload_n dX10_line_78 rfl ?_
    refine z_dup dX10_line_79 rfl ?_
    refine gf_X10_245 dX10_line_80 rfl (sR_0 hE) (cR_0 hE) ?_
    refine z_iconst dX10_line_83 (r32d rfl) ?_
    refine z_iload_n dX10_line_84 rfl ?_
    refine z_ishl dX10_line_85 ?_
    refine z_ior dX10_line_86 ?_
    refine pf_X10_245 dX10_line_87 rfl (sR_0 hE) (cR_0 hE) ?_
    generalize eh_2 : hset h 0 42 _ = h_2
    have hyp := hyp h_2 eh_2.symm
    refine z_aload_n dX10_line_90 rfl ?_
    refine cl_X10_213 dX10_line_91 rfl (sR_0 hE) (cR_0 hE) (Nat.le_of_ble_eq_true rfl) (zC_mono ?_ hyp)
    rintro _ h_3 ⟨rfl, hyp⟩
    refine ⟨rfl, ?_⟩
    refine z_iload_n dX10_line_94 rfl ?_
    have hgo : (x1 ≠ 0 ∧ x1 ≠ 1 ∧ x1 ≠ 2 ∧ x1 ≠ 3 ∧ x1 ≠ 4 ∧ x1 ≠ 5) → zG E mX10_line (d + 1) 242 [zR 0, zI x1] [] h_3 (qV K) := by
      intro hcc
      have hyp := hyp.2.2.2.2.2.2 hcc
      refine z_aload_n dX10_line_242 rfl ?_
      refine z_aload_n dX10_line_243 rfl ?_
      refine z_iconst dX10_line_244 (r32d rfl) ?_
      refine z_sipush dX10_line_245 (r32d rfl) (by decide) ?_
      refine cl_X10_222 dX10_line_248 rfl (sR_0 hE) (cR_0 hE) (Nat.le_of_ble_eq_true rfl) (zC_mono ?_ hyp)
      rintro _ h_4 ⟨r_4, rfl, hyp⟩
      refine ⟨r_4, rfl, ?_⟩
      refine pf_X10_270 dX10_line_251 rfl (sR_0 hE) (cR_0 hE) ?_
      generalize eh_5 : hset h_4 0 40 _ = h_5
      have hyp := hyp h_5 eh_5.symm
      exact z_forget [true, false] rfl hyp
    by_cases cr : x1 < 0 ∨ 5 < x1
    · exact z_tsOut (tgt := 242) dX10_line_95 cr (by decide) (hgo ⟨tsne cr (by decide) (by decide), tsne cr (by decide) (by decide), tsne cr (by decide) (by decide), tsne cr (by decide) (by decide), tsne cr (by decide) (by decide), tsne cr (by decide) (by decide)⟩)
    by_cases c_6 : x1 = 0
    · have hyp := hyp.1 c_6
      have hgo : zG E mX10_line (d + 1) 132 [zR 0, zI x1] [] h_3 (qV K) := by
        refine z_aload_n dX10_line_132 rfl ?_
        refine gf_X10_15 (c2 := 2) dX10_line_133 rfl (sR_0 hE) (cR_0 hE) rfl ?_
        refine z_iconst dX10_line_136 (r32d rfl) ?_
        refine z_aload_n dX10_line_137 rfl ?_
        refine gf_X10_230 dX10_line_138 rfl (sR_0 hE) (cR_0 hE) ?_
        refine z_iadd dX10_line_141 ?_
        refine z_aload_n dX10_line_142 rfl ?_
        refine z_aload_n dX10_line_143 rfl ?_
        refine gf_X10_15 (c2 := 2) dX10_line_144 rfl (sR_0 hE) (cR_0 hE) rfl ?_
        refine z_iconst dX10_line_147 (r32d rfl) ?_
        refine z_aload_n dX10_line_148 rfl ?_
        refine gf_X10_230 dX10_line_149 rfl (sR_0 hE) (cR_0 hE) ?_
        refine cl_X10_248 dX10_line_152 rfl (sR_0 hE) (cR_0 hE) (Nat.le_of_ble_eq_true rfl) (zC_mono ?_ hyp)
        rintro _ h_7 ⟨r_7, rfl, hyp⟩
        refine ⟨r_7, rfl, ?_⟩
        obtain ⟨⟨hi0, hi1⟩, hyp⟩ := hyp
        refine z_iastore dX10_line_155 (sR_2 hE) (cR_2 hE) hi0 hi1 ?_
        generalize eh_8 : hset h_7 2 _ r_7 = h_8
        have hyp := hyp h_8 eh_8.symm
        refine z_aload_n dX10_line_156 rfl ?_
        refine z_dup dX10_line_157 rfl ?_
        refine gf_X10_230 dX10_line_158 rfl (sR_0 hE) (cR_0 hE) ?_
        refine z_iconst dX10_line_161 (r32d rfl) ?_
        refine z_iadd dX10_line_162 ?_
        refine pf_X10_230 dX10_line_163 rfl (sR_0 hE) (cR_0 hE) ?_
        generalize eh_9 : hset h_8 0 32 _ = h_9
        have hyp := hyp h_9 eh_9.symm
        refine z_goto (tgt := 254) dX10_line_166 (by decide) ?_
        exact z_forget [true, false] rfl hyp
      exact z_tsIn (i := 0) (tgt := 132) dX10_line_95 (c_6.trans (by decide)) (by decide) rfl (by decide) hgo
    by_cases c_10 : x1 = 1
    · have hyp := hyp.2.1 c_10
      have hgo : zG E mX10_line (d + 1) 169 [zR 0, zI x1] [] h_3 (qV K) := by
        refine z_aload_n dX10_line_169 rfl ?_
        refine z_bipush dX10_line_170 (r32d rfl) (by decide) ?_
        refine z_aload_n dX10_line_172 rfl ?_
        refine gf_X10_233 dX10_line_173 rfl (sR_0 hE) (cR_0 hE) ?_
        refine z_iadd dX10_line_176 ?_
        refine cl_X10_252 dX10_line_177 rfl (sR_0 hE) (cR_0 hE) (Nat.le_of_ble_eq_true rfl) (zC_mono ?_ hyp)
        rintro _ h_11 ⟨rfl, hyp⟩
        refine ⟨rfl, ?_⟩
        refine z_goto (tgt := 254) dX10_line_180 (by decide) ?_
        exact z_forget [true, false] rfl hyp
      exact z_tsIn (i := 1) (tgt := 169) dX10_line_95 (c_10.trans (by decide)) (by decide) rfl (by decide) hgo
    by_cases c_12 : x1 = 2
    · have hyp := hyp.2.2.1 c_12
      have hgo : zG E mX10_line (d + 1) 183 [zR 0, zI x1] [] h_3 (qV K) := by
        refine z_aload_n dX10_line_183 rfl ?_
        refine z_iconst dX10_line_184 (r32d rfl) ?_
        refine z_aload_n dX10_line_185 rfl ?_
        refine gf_X10_236 dX10_line_186 rfl (sR_0 hE) (cR_0 hE) ?_
        refine z_iadd dX10_line_189 ?_
        refine cl_X10_255 dX10_line_190 rfl (sR_0 hE) (cR_0 hE) (Nat.le_of_ble_eq_true rfl) (zC_mono ?_ hyp)
        rintro _ h_13 ⟨rfl, hyp⟩
        refine ⟨rfl, ?_⟩
        refine z_goto (tgt := 254) dX10_line_193 (by decide) ?_
        exact z_forget [true, false] rfl hyp
      exact z_tsIn (i := 2) (tgt := 183) dX10_line_95 (c_12.trans (by decide)) (by decide) rfl (by decide) hgo
    by_cases c_14 : x1 = 3
    · have hyp := hyp.2.2.2.1 c_14
      have hgo : zG E mX10_line (d + 1) 196 [zR 0, zI x1] [] h_3 (qV K) := by
        refine z_aload_n dX10_line_196 rfl ?_
        refine cl_X10_258 dX10_line_197 rfl (sR_0 hE) (cR_0 hE) (Nat.le_of_ble_eq_true rfl) (zC_mono ?_ hyp)
        rintro _ h_15 ⟨rfl, hyp⟩
        refine ⟨rfl, ?_⟩
        refine z_goto (tgt := 254) dX10_line_200 (by decide) ?_
        exact z_forget [true, false] rfl hyp
      exact z_tsIn (i := 3) (tgt := 196) dX10_line_95 (c_14.trans (by decide)) (by decide) rfl (by decide) hgo
    by_cases c_16 : x1 = 4
    · have hyp := hyp.2.2.2.2.1 c_16
      have hgo : zG E mX10_line (d + 1) 203 [zR 0, zI x1] [] h_3 (qV K) := by
        refine z_aload_n dX10_line_203 rfl ?_
        refine z_bipush dX10_line_204 (r32d rfl) (by decide) ?_
        refine z_aload_n dX10_line_206 rfl ?_
        refine gf_X10_239 dX10_line_207 rfl (sR_0 hE) (cR_0 hE) ?_
        refine z_iadd dX10_line_210 ?_
        refine cl_X10_261 dX10_line_211 rfl (sR_0 hE) (cR_0 hE) (Nat.le_of_ble_eq_true rfl) (zC_mono ?_ hyp)
        rintro _ h_17 ⟨rfl, hyp⟩
        refine ⟨rfl, ?_⟩
        refine z_goto (tgt := 254) dX10_line_214 (by decide) ?_
        exact z_forget [true, false] rfl hyp
      exact z_tsIn (i := 4) (tgt := 203) dX10_line_95 (c_16.trans (by decide)) (by decide) rfl (by decide) hgo
    by_cases c_18 : x1 = 5
    · have hyp := hyp.2.2.2.2.2.1 c_18
      have hgo : zG E mX10_line (d + 1) 217 [zR 0, zI x1] [] h_3 (qV K) := by
        refine z_aload_n dX10_line_217 rfl ?_
        refine z_aload_n dX10_line_218 rfl ?_
        refine z_iconst dX10_line_219 (r32d rfl) ?_
        refine z_bipush dX10_line_220 (r32d rfl) (by decide) ?_
        refine cl_X10_222 dX10_line_222 rfl (sR_0 hE) (cR_0 hE) (Nat.le_of_ble_eq_true rfl) (zC_mono ?_ hyp)
        rintro _ h_19 ⟨r_19, rfl, hyp⟩
        refine ⟨r_19, rfl, ?_⟩
        refine pf_X10_264 dX10_line_225 rfl (sR_0 hE) (cR_0 hE) ?_
        generalize eh_20 : hset h_19 0 38 _ = h_20
        have hyp := hyp h_20 eh_20.symm
        refine z_aload_n dX10_line_228 rfl ?_
        refine z_aload_n dX10_line_229 rfl ?_
        refine z_iconst dX10_line_230 (r32d rfl) ?_
        refine z_bipush dX10_line_231 (r32d rfl) (by decide) ?_
        refine cl_X10_222 dX10_line_233 rfl (sR_0 hE) (cR_0 hE) (Nat.le_of_ble_eq_true rfl) (zC_mono ?_ hyp)
        rintro _ h_21 ⟨r_21, rfl, hyp⟩
        refine ⟨r_21, rfl, ?_⟩
        refine pf_X10_267 dX10_line_236 rfl (sR_0 hE) (cR_0 hE) ?_
        generalize eh_22 : hset h_21 0 39 _ = h_22
        have hyp := hyp h_22 eh_22.symm
        refine z_goto (tgt := 254) dX10_line_239 (by decide) ?_
        exact z_forget [true, false] rfl hyp
      exact z_tsIn (i := 5) (tgt := 217) dX10_line_95 (c_18.trans (by decide)) (by decide) rfl (by decide) hgo
    exact absurd (tsbs (tsbs (tsbs (tsbs (tsbs (tsbs (tsb1 cr) c_6) c_10) c_12) c_14) c_16) c_18) (tsb2 cr)
  · have hyp := hyp.2 c_1
    exact z_vret dX10_line_77 rfl ⟨rfl, hyp⟩
set_option maxRecDepth 20000 in
theorem bX10_line_254 {E : zE} (hE : isR E) {d : Nat} {h : zH} {K : zH → Prop} (hyp :
  (((h 0 49) = 0 →
    zCI E mX10_isSign d [zR 0, zI 59] h (fun r_2 h_2 =>
      ((r_2 ≠ 0 →
        zCV E mX10_token d [zR 0] h_2 (fun h_4 =>
          ∀ h_5 : zH, h_5 = hset h_4 0 43 (w32 ((h_4 0 43) + 1)) →
          K h_5)) ∧
      (¬ (r_2 ≠ 0) →
        zCV E mX10_wrong d [zR 0, zI 1] h_2 (fun h_6 =>
          ∀ h_7 : zH, h_7 = hset h_6 0 43 (w32 ((h_6 0 43) + 1)) →
          K h_7))))) ∧
  (¬ ((h 0 49) = 0) →
    K h))) :
  zG E mX10_line (d + 1) 254 [zR 0, zU] [] h (qV K) := by
  refine z_aload_n dX10_line_254 rfl ?_
  refine gf_X10_207 dX10_line_255 rfl (sR_0 hE) (cR_0 hE) ?_
  refine z_if_eq (tgt := 262) dX10_line_258 (by decide) (fun c_1 => ?_) (fun c_1 => ?_)
  · have hyp := hyp.1 c_1
    refine z_aload_n dX10_line_262 rfl ?_
    refine z_bipush dX10_line_263 (r32d rfl) (by decide) ?_
    refine cl_X10_219 dX10_line_265 rfl (sR_0 hE) (cR_0 hE) (Nat.le_of_ble_eq_true rfl) (zC_mono ?_ hyp)
    rintro _ h_2 ⟨r_2, rfl, hyp⟩
    refine ⟨r_2, rfl, ?_⟩
    refine z_if_ne (tgt := 279) dX10_line_268 (by decide) (fun c_3 => ?_) (fun c_3 => ?_)
    · have hyp := hyp.1 c_3
      refine z_aload_n dX10_line_279 rfl ?_
      refine cl_X10_213 dX10_line_280 rfl (sR_0 hE) (cR_0 hE) (Nat.le_of_ble_eq_true rfl) (zC_mono ?_ hyp)
      rintro _ h_4 ⟨rfl, hyp⟩
      refine ⟨rfl, ?_⟩
      refine z_aload_n dX10_line_283 rfl ?_
      refine z_dup dX10_line_284 rfl ?_
      refine gf_X10_273 dX10_line_285 rfl (sR_0 hE) (cR_0 hE) ?_
      refine z_iconst dX10_line_288 (r32d rfl) ?_
      refine z_iadd dX10_line_289 ?_
      refine pf_X10_273 dX10_line_290 rfl (sR_0 hE) (cR_0 hE) ?_
      generalize eh_5 : hset h_4 0 43 _ = h_5
      have hyp := hyp h_5 eh_5.symm
      exact z_vret dX10_line_293 rfl ⟨rfl, hyp⟩
    · have hyp := hyp.2 c_3
      refine z_aload_n dX10_line_271 rfl ?_
      refine z_iconst dX10_line_272 (r32d rfl) ?_
      refine cl_X10_216 dX10_line_273 rfl (sR_0 hE) (cR_0 hE) (Nat.le_of_ble_eq_true rfl) (zC_mono ?_ hyp)
      rintro _ h_6 ⟨rfl, hyp⟩
      refine ⟨rfl, ?_⟩
      refine z_goto (tgt := 283) dX10_line_276 (by decide) ?_
      refine z_aload_n dX10_line_283 rfl ?_
      refine z_dup dX10_line_284 rfl ?_
      refine gf_X10_273 dX10_line_285 rfl (sR_0 hE) (cR_0 hE) ?_
      refine z_iconst dX10_line_288 (r32d rfl) ?_
      refine z_iadd dX10_line_289 ?_
      refine pf_X10_273 dX10_line_290 rfl (sR_0 hE) (cR_0 hE) ?_
      generalize eh_7 : hset h_6 0 43 _ = h_7
      have hyp := hyp h_7 eh_7.symm
      exact z_vret dX10_line_293 rfl ⟨rfl, hyp⟩
  · have hyp := hyp.2 c_1
    exact z_vret dX10_line_261 rfl ⟨rfl, hyp⟩
set_option maxRecDepth 20000 in
theorem eX10_line {E : zE} (hE : isR E) {d : Nat} {h : zH} {K : zH → Prop} (hyp :
  (((h 0 47) ≠ 0 →
    zCV E mX10_wrong d [zR 0, zI 1] h (fun h_2 =>
      K h_2)) ∧
  (¬ ((h 0 47) ≠ 0) →
    (((h 0 48) ≤ 6 →
      ∀ x_4 : Int, x_4 = h 0 48 →
      zCI E mX10_isFull d [zR 0, zI x_4] h (fun r_5 h_5 =>
        ((r_5 = 0 →
          ((x_4 = 3 →
            zG E mX10_line (d + 1) 53 [zR 0, zI x_4] [] h_5 (qV K)) ∧
          (¬ (x_4 = 3) →
            ((x_4 < 5 →
              zG E mX10_line (d + 1) 70 [zR 0, zI x_4] [] h_5 (qV K)) ∧
            (¬ (x_4 < 5) →
              zG E mX10_line (d + 1) 53 [zR 0, zI x_4] [] h_5 (qV K)))))) ∧
        (¬ (r_5 = 0) →
          zCV E mX10_wrong d [zR 0, zI 2] h_5 (fun h_9 =>
            zG E mX10_line (d + 1) 70 [zR 0, zI x_4] [] h_9 (qV K)))))) ∧
    (¬ ((h 0 48) ≤ 6) →
      zCV E mX10_wrong d [zR 0, zI 1] h (fun h_10 =>
        K h_10)))))) :
  zCV E mX10_line (d + 1) [zR 0] h K := by
  refine zC_in (L0 := [zR 0, zU]) pn_X10 rfl (Nat.le_of_ble_eq_true rfl) ?_
  refine z_aload_n dX10_line_0 rfl ?_
  refine gf_X10_172 dX10_line_1 rfl (sR_0 hE) (cR_0 hE) ?_
  refine z_if_ne (tgt := 16) dX10_line_4 (by decide) (fun c_1 => ?_) (fun c_1 => ?_)
  · have hyp := hyp.1 c_1
    refine z_aload_n dX10_line_16 rfl ?_
    refine z_iconst dX10_line_17 (r32d rfl) ?_
    refine cl_X10_216 dX10_line_18 rfl (sR_0 hE) (cR_0 hE) (Nat.le_of_ble_eq_true rfl) (zC_mono ?_ hyp)
    rintro _ h_2 ⟨rfl, hyp⟩
    refine ⟨rfl, ?_⟩
    exact z_vret dX10_line_21 rfl ⟨rfl, hyp⟩
  · have hyp := hyp.2 c_1
    refine z_aload_n dX10_line_7 rfl ?_
    refine gf_X10_182 dX10_line_8 rfl (sR_0 hE) (cR_0 hE) ?_
    refine z_bipush dX10_line_11 (r32d rfl) (by decide) ?_
    refine z_icmp_le (tgt := 22) dX10_line_13 (by decide) (fun c_3 => ?_) (fun c_3 => ?_)
    · have hyp := hyp.1 c_3
      refine z_aload_n dX10_line_22 rfl ?_
      refine gf_X10_182 dX10_line_23 rfl (sR_0 hE) (cR_0 hE) ?_
      generalize ex_4 : h 0 48 = x_4
      have hyp := hyp x_4 ex_4.symm
      refine z_istore_n dX10_line_26 rfl (by decide) rfl ?_
      refine z_aload_n dX10_line_27 rfl ?_
      refine z_iload_n dX10_line_28 rfl ?_
      refine cl_X10_242 dX10_line_29 rfl (sR_0 hE) (cR_0 hE) (Nat.le_of_ble_eq_true rfl) (zC_mono ?_ hyp)
      rintro _ h_5 ⟨r_5, rfl, hyp⟩
      refine ⟨r_5, rfl, ?_⟩
      refine z_if_eq (tgt := 43) dX10_line_32 (by decide) (fun c_6 => ?_) (fun c_6 => ?_)
      · have hyp := hyp.1 c_6
        refine z_iload_n dX10_line_43 rfl ?_
        refine z_iconst dX10_line_44 (r32d rfl) ?_
        refine z_icmp_eq (tgt := 53) dX10_line_45 (by decide) (fun c_7 => ?_) (fun c_7 => ?_)
        · have hyp := hyp.1 c_7
          exact hyp
        · have hyp := hyp.2 c_7
          refine z_iload_n dX10_line_48 rfl ?_
          refine z_iconst dX10_line_49 (r32d rfl) ?_
          refine z_icmp_lt (tgt := 70) dX10_line_50 (by decide) (fun c_8 => ?_) (fun c_8 => ?_)
          · have hyp := hyp.1 c_8
            exact hyp
          · have hyp := hyp.2 c_8
            exact hyp
      · have hyp := hyp.2 c_6
        refine z_aload_n dX10_line_35 rfl ?_
        refine z_iconst dX10_line_36 (r32d rfl) ?_
        refine cl_X10_216 dX10_line_37 rfl (sR_0 hE) (cR_0 hE) (Nat.le_of_ble_eq_true rfl) (zC_mono ?_ hyp)
        rintro _ h_9 ⟨rfl, hyp⟩
        refine ⟨rfl, ?_⟩
        refine z_goto (tgt := 70) dX10_line_40 (by decide) ?_
        exact hyp
    · have hyp := hyp.2 c_3
      refine z_aload_n dX10_line_16 rfl ?_
      refine z_iconst dX10_line_17 (r32d rfl) ?_
      refine cl_X10_216 dX10_line_18 rfl (sR_0 hE) (cR_0 hE) (Nat.le_of_ble_eq_true rfl) (zC_mono ?_ hyp)
      rintro _ h_10 ⟨rfl, hyp⟩
      refine ⟨rfl, ?_⟩
      exact z_vret dX10_line_21 rfl ⟨rfl, hyp⟩
