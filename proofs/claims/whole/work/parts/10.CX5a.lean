set_option maxRecDepth 20000 in
theorem bX5_holds_57 {E : zE} (hE : isC E) {q : Nat} (hq : isRu E q) {d : Nat} {x7 x8 : Int} {h : zH} {K : Int → zH → Prop} (hyp :
  (((h q 4) ≤ x8 →
    zG E mX5_holds (d + 1) 260 [zR q, zU, zU, zU, zU, zU, zU, zI x7, zU, zU] [] h (qI K)) ∧
  (¬ ((h q 4) ≤ x8) →
    ((64 ≤ x8 →
      zG E mX5_holds (d + 1) 260 [zR q, zU, zU, zU, zU, zU, zU, zI x7, zU, zU] [] h (qI K)) ∧
    (¬ (64 ≤ x8) →
      ((0 : Int) ≤ x8 ∧ x8 < (64 : Int)) ∧
      ∀ x_3 : Int, x_3 = h (q + 1) x8.toNat →
      zCI E mX5_isOperand d [zI x_3] h (fun r_4 h_4 =>
        ((r_4 = 0 →
          ((x_3 ≠ 34 →
            ((x7 < 2 →
              K 0 h_4) ∧
            (¬ (x7 < 2) →
              ((0 : Int) ≤ w32 (x7 - 2) ∧ w32 (x7 - 2) < (64 : Int)) ∧
              ((0 : Int) ≤ w32 (x7 - 1) ∧ w32 (x7 - 1) < (64 : Int)) ∧
              zCI E mX5_isError d [zI x_3, zJ (h_4 (q + 3) (w32 (x7 - 2)).toNat), zJ (h_4 (q + 3) (w32 (x7 - 1)).toNat)] h_4 (fun r_8 h_8 =>
                ((r_8 = 0 →
                  ((0 : Int) ≤ w32 (x7 - 2) ∧ w32 (x7 - 2) < (64 : Int)) ∧
                  ((0 : Int) ≤ w32 (x7 - 1) ∧ w32 (x7 - 1) < (64 : Int)) ∧
                  zCJ E mX5_join d [zI x_3, zJ (h_8 (q + 3) (w32 (x7 - 2)).toNat), zJ (h_8 (q + 3) (w32 (x7 - 1)).toNat)] h_8 (fun r_10 h_10 =>
                    ((0 : Int) ≤ w32 (x7 - 2) ∧ w32 (x7 - 2) < (64 : Int)) ∧
                    ∀ h_11 : zH, h_11 = hset h_10 (q + 3) ((w32 (x7 - 2)).toNat) r_10 →
                    ∀ x_12 : Int, x_12 = w32 (x7 + (-1)) →
                    ∀ x_13 : Int, x_13 = w32 (x8 + 1) →
                    zG E mX5_holds (d + 1) 57 [zR q, zU, zU, zU, zU, zU, zU, zI x_12, zI x_13, zU] [] h_11 (qI K))) ∧
                (¬ (r_8 = 0) →
                  K 0 h_8)))))) ∧
          (¬ (x_3 ≠ 34) →
            ((1 ≤ x7 →
              ((0 : Int) ≤ w32 (x7 - 1) ∧ w32 (x7 - 1) < (64 : Int)) ∧
              (((h_4 (q + 3) (w32 (x7 - 1)).toNat) ≠ 0 →
                ((0 : Int) ≤ w32 (x7 - 1) ∧ w32 (x7 - 1) < (64 : Int)) ∧
                ∀ h_16 : zH, h_16 = hset h_4 (q + 3) ((w32 (x7 - 1)).toNat) 0 →
                ∀ x_17 : Int, x_17 = w32 (x8 + 1) →
                zG E mX5_holds (d + 1) 57 [zR q, zU, zU, zU, zU, zU, zU, zI x7, zI x_17, zU] [] h_16 (qI K)) ∧
              (¬ ((h_4 (q + 3) (w32 (x7 - 1)).toNat) ≠ 0) →
                ((0 : Int) ≤ w32 (x7 - 1) ∧ w32 (x7 - 1) < (64 : Int)) ∧
                ∀ h_18 : zH, h_18 = hset h_4 (q + 3) ((w32 (x7 - 1)).toNat) 1 →
                ∀ x_19 : Int, x_19 = w32 (x8 + 1) →
                zG E mX5_holds (d + 1) 57 [zR q, zU, zU, zU, zU, zU, zU, zI x7, zI x_19, zU] [] h_18 (qI K)))) ∧
            (¬ (1 ≤ x7) →
              K 0 h_4))))) ∧
        (¬ (r_4 = 0) →
          ((x7 < 64 →
            ((x_3 ≠ 3 →
              ((0 : Int) ≤ w32 (x_3 - 35) ∧ w32 (x_3 - 35) < (6 : Int)) ∧
              ((0 : Int) ≤ x7 ∧ x7 < (64 : Int)) ∧
              ∀ h_22 : zH, h_22 = hset h_4 (q + 3) (x7.toNat) (h_4 (q + 4) (w32 (x_3 - 35)).toNat) →
              ∀ x_23 : Int, x_23 = w32 (x7 + 1) →
              ∀ x_24 : Int, x_24 = w32 (x8 + 1) →
              zG E mX5_holds (d + 1) 57 [zR q, zU, zU, zU, zU, zU, zU, zI x_23, zI x_24, zU] [] h_22 (qI K)) ∧
            (¬ (x_3 ≠ 3) →
              ((0 : Int) ≤ x8 ∧ x8 < (64 : Int)) ∧
              ((0 : Int) ≤ x7 ∧ x7 < (64 : Int)) ∧
              ∀ h_25 : zH, h_25 = hset h_4 (q + 3) (x7.toNat) (h_4 (q + 2) x8.toNat) →
              ∀ x_26 : Int, x_26 = w32 (x7 + 1) →
              ∀ x_27 : Int, x_27 = w32 (x8 + 1) →
              zG E mX5_holds (d + 1) 57 [zR q, zU, zU, zU, zU, zU, zU, zI x_26, zI x_27, zU] [] h_25 (qI K)))) ∧
          (¬ (x7 < 64) →
            K 0 h_4)))))))))) :
  zG E mX5_holds (d + 1) 57 [zR q, zU, zU, zU, zU, zU, zU, zI x7, zI x8, zU] [] h (qI K) := by
  refine z_iload dX5_holds_57 rfl ?_
  refine z_aload_n dX5_holds_59 rfl ?_
  refine gf_X5_25 dX5_holds_60 rfl ((hq.2.1)) (Nat.lt_of_le_of_lt (Nat.le_add_right q 4) hq.1) ?_
  refine z_icmp_ge (tgt := 260) dX5_holds_63 (by decide) (fun c_1 => ?_) (fun c_1 => ?_)
  · have hyp := hyp.1 c_1
    exact z_forget [true, false, false, false, false, false, false, true, false, false] rfl hyp
  · have hyp := hyp.2 c_1
    refine z_iload dX5_holds_66 rfl ?_
    refine z_bipush dX5_holds_68 (r32d rfl) (by decide) ?_
    refine z_icmp_ge (tgt := 260) dX5_holds_70 (by decide) (fun c_2 => ?_) (fun c_2 => ?_)
    · have hyp := hyp.1 c_2
      exact z_forget [true, false, false, false, false, false, false, true, false, false] rfl hyp
    · have hyp := hyp.2 c_2
      refine z_aload_n dX5_holds_73 rfl ?_
      refine gf_X5_9 (c2 := (q + 1)) dX5_holds_74 rfl ((hq.2.1)) (Nat.lt_of_le_of_lt (Nat.le_add_right q 4) hq.1) rfl ?_
      refine z_iload dX5_holds_77 rfl ?_
      obtain ⟨⟨hi0, hi1⟩, hyp⟩ := hyp
      refine z_iaload dX5_holds_79 ((hq.2.2.1)) (Nat.lt_of_le_of_lt (Nat.add_le_add_left (Nat.le_of_ble_eq_true rfl : 1 ≤ 4) q) hq.1) hi0 hi1 ?_
      generalize ex_3 : h (q + 1) x8.toNat = x_3
      have hyp := hyp x_3 ex_3.symm
      refine z_istore dX5_holds_80 (by decide) rfl ?_
      refine z_iload dX5_holds_82 rfl ?_
      refine cl_X5_29 dX5_holds_84 rfl (Nat.le_of_ble_eq_true rfl) (zC_mono ?_ hyp)
      rintro _ h_4 ⟨r_4, rfl, hyp⟩
      refine ⟨r_4, rfl, ?_⟩
      refine z_if_eq (tgt := 139) dX5_holds_87 (by decide) (fun c_5 => ?_) (fun c_5 => ?_)
      · have hyp := hyp.1 c_5
        refine z_iload dX5_holds_139 rfl ?_
        refine z_bipush dX5_holds_141 (r32d rfl) (by decide) ?_
        refine z_icmp_ne (tgt := 185) dX5_holds_143 (by decide) (fun c_6 => ?_) (fun c_6 => ?_)
        · have hyp := hyp.1 c_6
          refine z_iload dX5_holds_185 rfl ?_
          refine z_iconst dX5_holds_187 (r32d rfl) ?_
          refine z_icmp_lt (tgt := 217) dX5_holds_188 (by decide) (fun c_7 => ?_) (fun c_7 => ?_)
          · have hyp := hyp.1 c_7
            refine z_iconst dX5_holds_217 (r32d rfl) ?_
            exact z_zret dX5_holds_218 rfl (Or.inl rfl) ⟨_, rfl, hyp⟩
          · have hyp := hyp.2 c_7
            refine z_iload dX5_holds_191 rfl ?_
            refine z_aload_n dX5_holds_193 rfl ?_
            refine gf_X5_18 (c2 := (q + 3)) dX5_holds_194 rfl ((hq.2.1)) (Nat.lt_of_le_of_lt (Nat.le_add_right q 4) hq.1) rfl ?_
            refine z_iload dX5_holds_197 rfl ?_
            refine z_iconst dX5_holds_199 (r32d rfl) ?_
            refine z_isub dX5_holds_200 ?_
            obtain ⟨⟨hi0, hi1⟩, hyp⟩ := hyp
            refine z_laload dX5_holds_201 ((hq.2.2.2.2.1)) (Nat.lt_of_le_of_lt (Nat.add_le_add_left (Nat.le_of_ble_eq_true rfl : 3 ≤ 4) q) hq.1) hi0 hi1 ?_
            refine z_aload_n dX5_holds_202 rfl ?_
            refine gf_X5_18 (c2 := (q + 3)) dX5_holds_203 rfl ((hq.2.1)) (Nat.lt_of_le_of_lt (Nat.le_add_right q 4) hq.1) rfl ?_
            refine z_iload dX5_holds_206 rfl ?_
            refine z_iconst dX5_holds_208 (r32d rfl) ?_
            refine z_isub dX5_holds_209 ?_
            obtain ⟨⟨hi0, hi1⟩, hyp⟩ := hyp
            refine z_laload dX5_holds_210 ((hq.2.2.2.2.1)) (Nat.lt_of_le_of_lt (Nat.add_le_add_left (Nat.le_of_ble_eq_true rfl : 3 ≤ 4) q) hq.1) hi0 hi1 ?_
            refine cl_X5_33 dX5_holds_211 rfl (Nat.le_of_ble_eq_true rfl) (zC_mono ?_ hyp)
            rintro _ h_8 ⟨r_8, rfl, hyp⟩
            refine ⟨r_8, rfl, ?_⟩
            refine z_if_eq (tgt := 219) dX5_holds_214 (by decide) (fun c_9 => ?_) (fun c_9 => ?_)
            · have hyp := hyp.1 c_9
              refine z_aload_n dX5_holds_219 rfl ?_
              refine gf_X5_18 (c2 := (q + 3)) dX5_holds_220 rfl ((hq.2.1)) (Nat.lt_of_le_of_lt (Nat.le_add_right q 4) hq.1) rfl ?_
              refine z_iload dX5_holds_223 rfl ?_
              refine z_iconst dX5_holds_225 (r32d rfl) ?_
              refine z_isub dX5_holds_226 ?_
              refine z_iload dX5_holds_227 rfl ?_
              refine z_aload_n dX5_holds_229 rfl ?_
              refine gf_X5_18 (c2 := (q + 3)) dX5_holds_230 rfl ((hq.2.1)) (Nat.lt_of_le_of_lt (Nat.le_add_right q 4) hq.1) rfl ?_
              refine z_iload dX5_holds_233 rfl ?_
              refine z_iconst dX5_holds_235 (r32d rfl) ?_
              refine z_isub dX5_holds_236 ?_
              obtain ⟨⟨hi0, hi1⟩, hyp⟩ := hyp
              refine z_laload dX5_holds_237 ((hq.2.2.2.2.1)) (Nat.lt_of_le_of_lt (Nat.add_le_add_left (Nat.le_of_ble_eq_true rfl : 3 ≤ 4) q) hq.1) hi0 hi1 ?_
              refine z_aload_n dX5_holds_238 rfl ?_
              refine gf_X5_18 (c2 := (q + 3)) dX5_holds_239 rfl ((hq.2.1)) (Nat.lt_of_le_of_lt (Nat.le_add_right q 4) hq.1) rfl ?_
              refine z_iload dX5_holds_242 rfl ?_
              refine z_iconst dX5_holds_244 (r32d rfl) ?_
              refine z_isub dX5_holds_245 ?_
              obtain ⟨⟨hi0, hi1⟩, hyp⟩ := hyp
              refine z_laload dX5_holds_246 ((hq.2.2.2.2.1)) (Nat.lt_of_le_of_lt (Nat.add_le_add_left (Nat.le_of_ble_eq_true rfl : 3 ≤ 4) q) hq.1) hi0 hi1 ?_
              refine cl_X5_37 dX5_holds_247 rfl (Nat.le_of_ble_eq_true rfl) (zC_mono ?_ hyp)
              rintro _ h_10 ⟨r_10, rfl, hyp⟩
              refine ⟨r_10, rfl, ?_⟩
              obtain ⟨⟨hi0, hi1⟩, hyp⟩ := hyp
              refine z_lastore dX5_holds_250 ((hq.2.2.2.2.1)) (Nat.lt_of_le_of_lt (Nat.add_le_add_left (Nat.le_of_ble_eq_true rfl : 3 ≤ 4) q) hq.1) hi0 hi1 ?_
              generalize eh_11 : hset h_10 (q + 3) _ r_10 = h_11
              have hyp := hyp h_11 eh_11.symm
              refine z_iinc dX5_holds_251 rfl (by decide) rfl ?_
              generalize ex_12 : w32 (x7 + (-1)) = x_12
              have hyp := hyp x_12 ex_12.symm
              refine z_iinc dX5_holds_254 rfl (by decide) rfl ?_
              generalize ex_13 : w32 (x8 + 1) = x_13
              have hyp := hyp x_13 ex_13.symm
              refine z_goto (tgt := 57) dX5_holds_257 (by decide) ?_
              exact z_forget [true, false, false, false, false, false, false, true, true, false] rfl hyp
            · have hyp := hyp.2 c_9
              refine z_iconst dX5_holds_217 (r32d rfl) ?_
              exact z_zret dX5_holds_218 rfl (Or.inl rfl) ⟨_, rfl, hyp⟩
        · have hyp := hyp.2 c_6
          refine z_iload dX5_holds_146 rfl ?_
          refine z_iconst dX5_holds_148 (r32d rfl) ?_
          refine z_icmp_ge (tgt := 154) dX5_holds_149 (by decide) (fun c_14 => ?_) (fun c_14 => ?_)
          · have hyp := hyp.1 c_14
            refine z_aload_n dX5_holds_154 rfl ?_
            refine gf_X5_18 (c2 := (q + 3)) dX5_holds_155 rfl ((hq.2.1)) (Nat.lt_of_le_of_lt (Nat.le_add_right q 4) hq.1) rfl ?_
            refine z_iload dX5_holds_158 rfl ?_
            refine z_iconst dX5_holds_160 (r32d rfl) ?_
            refine z_isub dX5_holds_161 ?_
            refine z_aload_n dX5_holds_162 rfl ?_
            refine gf_X5_18 (c2 := (q + 3)) dX5_holds_163 rfl ((hq.2.1)) (Nat.lt_of_le_of_lt (Nat.le_add_right q 4) hq.1) rfl ?_
            refine z_iload dX5_holds_166 rfl ?_
            refine z_iconst dX5_holds_168 (r32d rfl) ?_
            refine z_isub dX5_holds_169 ?_
            obtain ⟨⟨hi0, hi1⟩, hyp⟩ := hyp
            refine z_laload dX5_holds_170 ((hq.2.2.2.2.1)) (Nat.lt_of_le_of_lt (Nat.add_le_add_left (Nat.le_of_ble_eq_true rfl : 3 ≤ 4) q) hq.1) hi0 hi1 ?_
            refine z_lconst (x := 0) dX5_holds_171 (by decide) (r64d rfl) ?_
            refine z_lc_ne (tgt := 180) dX5_holds_172 dX5_holds_173 (by decide) (fun c_15 => ?_) (fun c_15 => ?_)
            · have hyp := hyp.1 c_15
              refine z_lconst (x := 0) dX5_holds_180 (by decide) (r64d rfl) ?_
              obtain ⟨⟨hi0, hi1⟩, hyp⟩ := hyp
              refine z_lastore dX5_holds_181 ((hq.2.2.2.2.1)) (Nat.lt_of_le_of_lt (Nat.add_le_add_left (Nat.le_of_ble_eq_true rfl : 3 ≤ 4) q) hq.1) hi0 hi1 ?_
              generalize eh_16 : hset h_4 (q + 3) _ 0 = h_16
              have hyp := hyp h_16 eh_16.symm
              refine z_goto (tgt := 254) dX5_holds_182 (by decide) ?_
              refine z_iinc dX5_holds_254 rfl (by decide) rfl ?_
              generalize ex_17 : w32 (x8 + 1) = x_17
              have hyp := hyp x_17 ex_17.symm
              refine z_goto (tgt := 57) dX5_holds_257 (by decide) ?_
              exact z_forget [true, false, false, false, false, false, false, true, true, false] rfl hyp
            · have hyp := hyp.2 c_15
              refine z_lconst (x := 1) dX5_holds_176 (by decide) (r64d rfl) ?_
              refine z_goto (tgt := 181) dX5_holds_177 (by decide) ?_
              obtain ⟨⟨hi0, hi1⟩, hyp⟩ := hyp
              refine z_lastore dX5_holds_181 ((hq.2.2.2.2.1)) (Nat.lt_of_le_of_lt (Nat.add_le_add_left (Nat.le_of_ble_eq_true rfl : 3 ≤ 4) q) hq.1) hi0 hi1 ?_
              generalize eh_18 : hset h_4 (q + 3) _ 1 = h_18
              have hyp := hyp h_18 eh_18.symm
              refine z_goto (tgt := 254) dX5_holds_182 (by decide) ?_
              refine z_iinc dX5_holds_254 rfl (by decide) rfl ?_
              generalize ex_19 : w32 (x8 + 1) = x_19
              have hyp := hyp x_19 ex_19.symm
              refine z_goto (tgt := 57) dX5_holds_257 (by decide) ?_
              exact z_forget [true, false, false, false, false, false, false, true, true, false] rfl hyp
          · have hyp := hyp.2 c_14
            refine z_iconst dX5_holds_152 (r32d rfl) ?_
            exact z_zret dX5_holds_153 rfl (Or.inl rfl) ⟨_, rfl, hyp⟩
      · have hyp := hyp.2 c_5
        refine z_iload dX5_holds_90 rfl ?_
        refine z_bipush dX5_holds_92 (r32d rfl) (by decide) ?_
        refine z_icmp_lt (tgt := 99) dX5_holds_94 (by decide) (fun c_20 => ?_) (fun c_20 => ?_)
        · have hyp := hyp.1 c_20
          refine z_aload_n dX5_holds_99 rfl ?_
          refine gf_X5_18 (c2 := (q + 3)) dX5_holds_100 rfl ((hq.2.1)) (Nat.lt_of_le_of_lt (Nat.le_add_right q 4) hq.1) rfl ?_
          refine z_iload dX5_holds_103 rfl ?_
          refine z_iload dX5_holds_105 rfl ?_
          refine z_iconst dX5_holds_107 (r32d rfl) ?_
          refine z_icmp_ne (tgt := 122) dX5_holds_108 (by decide) (fun c_21 => ?_) (fun c_21 => ?_)
          · have hyp := hyp.1 c_21
            refine z_aload_n dX5_holds_122 rfl ?_
            refine gf_X5_22 (c2 := (q + 4)) dX5_holds_123 rfl ((hq.2.1)) (Nat.lt_of_le_of_lt (Nat.le_add_right q 4) hq.1) rfl ?_
            refine z_iload dX5_holds_126 rfl ?_
            refine z_bipush dX5_holds_128 (r32d rfl) (by decide) ?_
            refine z_isub dX5_holds_130 ?_
            obtain ⟨⟨hi0, hi1⟩, hyp⟩ := hyp
            refine z_laload dX5_holds_131 ((hq.2.2.2.2.2)) (Nat.lt_of_le_of_lt (Nat.add_le_add_left (Nat.le_of_ble_eq_true rfl : 4 ≤ 4) q) hq.1) hi0 hi1 ?_
            obtain ⟨⟨hi0, hi1⟩, hyp⟩ := hyp
            refine z_lastore dX5_holds_132 ((hq.2.2.2.2.1)) (Nat.lt_of_le_of_lt (Nat.add_le_add_left (Nat.le_of_ble_eq_true rfl : 3 ≤ 4) q) hq.1) hi0 hi1 ?_
            generalize eh_22 : hset h_4 (q + 3) _ (h_4 (q + 4) (w32 (x_3 - 35)).toNat) = h_22
            have hyp := hyp h_22 eh_22.symm
            refine z_iinc dX5_holds_133 rfl (by decide) rfl ?_
            generalize ex_23 : w32 (x7 + 1) = x_23
            have hyp := hyp x_23 ex_23.symm
            refine z_goto (tgt := 254) dX5_holds_136 (by decide) ?_
            refine z_iinc dX5_holds_254 rfl (by decide) rfl ?_
            generalize ex_24 : w32 (x8 + 1) = x_24
            have hyp := hyp x_24 ex_24.symm
            refine z_goto (tgt := 57) dX5_holds_257 (by decide) ?_
            exact z_forget [true, false, false, false, false, false, false, true, true, false] rfl hyp
          · have hyp := hyp.2 c_21
            refine z_aload_n dX5_holds_111 rfl ?_
            refine gf_X5_15 (c2 := (q + 2)) dX5_holds_112 rfl ((hq.2.1)) (Nat.lt_of_le_of_lt (Nat.le_add_right q 4) hq.1) rfl ?_
            refine z_iload dX5_holds_115 rfl ?_
            obtain ⟨⟨hi0, hi1⟩, hyp⟩ := hyp
            refine z_iaload dX5_holds_117 ((hq.2.2.2.1)) (Nat.lt_of_le_of_lt (Nat.add_le_add_left (Nat.le_of_ble_eq_true rfl : 2 ≤ 4) q) hq.1) hi0 hi1 ?_
            refine z_i2l dX5_holds_118 ?_
            refine z_goto (tgt := 132) dX5_holds_119 (by decide) ?_
            obtain ⟨⟨hi0, hi1⟩, hyp⟩ := hyp
            refine z_lastore dX5_holds_132 ((hq.2.2.2.2.1)) (Nat.lt_of_le_of_lt (Nat.add_le_add_left (Nat.le_of_ble_eq_true rfl : 3 ≤ 4) q) hq.1) hi0 hi1 ?_
            generalize eh_25 : hset h_4 (q + 3) _ (h_4 (q + 2) x8.toNat) = h_25
            have hyp := hyp h_25 eh_25.symm
            refine z_iinc dX5_holds_133 rfl (by decide) rfl ?_
            generalize ex_26 : w32 (x7 + 1) = x_26
            have hyp := hyp x_26 ex_26.symm
            refine z_goto (tgt := 254) dX5_holds_136 (by decide) ?_
            refine z_iinc dX5_holds_254 rfl (by decide) rfl ?_
            generalize ex_27 : w32 (x8 + 1) = x_27
            have hyp := hyp x_27 ex_27.symm
            refine z_goto (tgt := 57) dX5_holds_257 (by decide) ?_
            exact z_forget [true, false, false, false, false, false, false, true, true, false] rfl hyp
        · have hyp := hyp.2 c_20
          refine z_iconst dX5_holds_97 (r32d rfl) ?_
          exact z_zret dX5_holds_98 rfl (Or.inl rfl) ⟨_, rfl, hyp⟩
set_option maxRecDepth 20000 in
theorem bX5_holds_260 {E : zE} (hE : isC E) {q : Nat} (hq : isRu E q) {d : Nat} {x7 : Int} {h : zH} {K : Int → zH → Prop} (hyp :
  ((x7 ≠ 1 →
    K 0 h) ∧
  (¬ (x7 ≠ 1) →
    (((h (q + 3) 0) = 0 →
      K 0 h) ∧
    (¬ ((h (q + 3) 0) = 0) →
      K 1 h))))) :
  zG E mX5_holds (d + 1) 260 [zR q, zU, zU, zU, zU, zU, zU, zI x7, zU, zU] [] h (qI K) := by
  refine z_iload dX5_holds_260 rfl ?_
  refine z_iconst dX5_holds_262 (r32d rfl) ?_
  refine z_icmp_ne (tgt := 281) dX5_holds_263 (by decide) (fun c_1 => ?_) (fun c_1 => ?_)
  · have hyp := hyp.1 c_1
    refine z_iconst dX5_holds_281 (r32d rfl) ?_
    exact z_zret dX5_holds_282 rfl (Or.inl rfl) ⟨_, rfl, hyp⟩
  · have hyp := hyp.2 c_1
    refine z_aload_n dX5_holds_266 rfl ?_
    refine gf_X5_18 (c2 := (q + 3)) dX5_holds_267 rfl ((hq.2.1)) (Nat.lt_of_le_of_lt (Nat.le_add_right q 4) hq.1) rfl ?_
    refine z_iconst dX5_holds_270 (r32d rfl) ?_
    refine z_laload dX5_holds_271 ((hq.2.2.2.2.1)) (Nat.lt_of_le_of_lt (Nat.add_le_add_left (Nat.le_of_ble_eq_true rfl : 3 ≤ 4) q) hq.1) (by decide) (by decide) ?_
    refine z_lconst (x := 0) dX5_holds_272 (by decide) (r64d rfl) ?_
    refine z_lc_eq (tgt := 281) dX5_holds_273 dX5_holds_274 (by decide) (fun c_2 => ?_) (fun c_2 => ?_)
    · have hyp := hyp.1 c_2
      refine z_iconst dX5_holds_281 (r32d rfl) ?_
      exact z_zret dX5_holds_282 rfl (Or.inl rfl) ⟨_, rfl, hyp⟩
    · have hyp := hyp.2 c_2
      refine z_iconst dX5_holds_277 (r32d rfl) ?_
      refine z_goto (tgt := 282) dX5_holds_278 (by decide) ?_
      exact z_zret dX5_holds_282 rfl (Or.inr rfl) ⟨_, rfl, hyp⟩
set_option maxRecDepth 20000 in
theorem eX5_holds {E : zE} (hE : isC E) {q : Nat} (hq : isRu E q) {d : Nat} {x1 x2 x3 x4 x5 x6 : Int} {h : zH} {K : Int → zH → Prop} (hyp :
  ∀ h_1 : zH, h_1 = hset h (q + 4) 0 x1 →
  ∀ h_2 : zH, h_2 = hset h_1 (q + 4) 1 x2 →
  ∀ h_3 : zH, h_3 = hset h_2 (q + 4) 2 x3 →
  ∀ h_4 : zH, h_4 = hset h_3 (q + 4) 3 x4 →
  ∀ h_5 : zH, h_5 = hset h_4 (q + 4) 4 x5 →
  ∀ h_6 : zH, h_6 = hset h_5 (q + 4) 5 x6 →
  zG E mX5_holds (d + 1) 57 [zR q, zU, zU, zU, zU, zU, zU, zI 0, zI 0, zU] [] h_6 (qI K)) :
  zCI E mX5_holds (d + 1) [zR q, zI x1, zI x2, zI x3, zI x4, zI x5, zI x6] h K := by
  refine zC_in (L0 := [zR q, zI x1, zI x2, zI x3, zI x4, zI x5, zI x6, zU, zU, zU]) pn_X5 rfl (Nat.le_of_ble_eq_true rfl) ?_
  refine z_aload_n dX5_holds_0 rfl ?_
  refine gf_X5_22 (c2 := (q + 4)) dX5_holds_1 rfl ((hq.2.1)) (Nat.lt_of_le_of_lt (Nat.le_add_right q 4) hq.1) rfl ?_
  refine z_iconst dX5_holds_4 (r32d rfl) ?_
  refine z_iload_n dX5_holds_5 rfl ?_
  refine z_i2l dX5_holds_6 ?_
  refine z_lastore dX5_holds_7 ((hq.2.2.2.2.2)) (Nat.lt_of_le_of_lt (Nat.add_le_add_left (Nat.le_of_ble_eq_true rfl : 4 ≤ 4) q) hq.1) (by decide) (by decide) ?_
  generalize eh_1 : hset h (q + 4) _ x1 = h_1
  have hyp := hyp h_1 eh_1.symm
  refine z_aload_n dX5_holds_8 rfl ?_
  refine gf_X5_22 (c2 := (q + 4)) dX5_holds_9 rfl ((hq.2.1)) (Nat.lt_of_le_of_lt (Nat.le_add_right q 4) hq.1) rfl ?_
  refine z_iconst dX5_holds_12 (r32d rfl) ?_
  refine z_iload_n dX5_holds_13 rfl ?_
  refine z_i2l dX5_holds_14 ?_
  refine z_lastore dX5_holds_15 ((hq.2.2.2.2.2)) (Nat.lt_of_le_of_lt (Nat.add_le_add_left (Nat.le_of_ble_eq_true rfl : 4 ≤ 4) q) hq.1) (by decide) (by decide) ?_
  generalize eh_2 : hset h_1 (q + 4) _ x2 = h_2
  have hyp := hyp h_2 eh_2.symm
  refine z_aload_n dX5_holds_16 rfl ?_
  refine gf_X5_22 (c2 := (q + 4)) dX5_holds_17 rfl ((hq.2.1)) (Nat.lt_of_le_of_lt (Nat.le_add_right q 4) hq.1) rfl ?_
  refine z_iconst dX5_holds_20 (r32d rfl) ?_
  refine z_iload_n dX5_holds_21 rfl ?_
  refine z_i2l dX5_holds_22 ?_
  refine z_lastore dX5_holds_23 ((hq.2.2.2.2.2)) (Nat.lt_of_le_of_lt (Nat.add_le_add_left (Nat.le_of_ble_eq_true rfl : 4 ≤ 4) q) hq.1) (by decide) (by decide) ?_
  generalize eh_3 : hset h_2 (q + 4) _ x3 = h_3
  have hyp := hyp h_3 eh_3.symm
  refine z_aload_n dX5_holds_24 rfl ?_
  refine gf_X5_22 (c2 := (q + 4)) dX5_holds_25 rfl ((hq.2.1)) (Nat.lt_of_le_of_lt (Nat.le_add_right q 4) hq.1) rfl ?_
  refine z_iconst dX5_holds_28 (r32d rfl) ?_
  refine z_iload dX5_holds_29 rfl ?_
  refine z_i2l dX5_holds_31 ?_
  refine z_lastore dX5_holds_32 ((hq.2.2.2.2.2)) (Nat.lt_of_le_of_lt (Nat.add_le_add_left (Nat.le_of_ble_eq_true rfl : 4 ≤ 4) q) hq.1) (by decide) (by decide) ?_
  generalize eh_4 : hset h_3 (q + 4) _ x4 = h_4
  have hyp := hyp h_4 eh_4.symm
  refine z_aload_n dX5_holds_33 rfl ?_
  refine gf_X5_22 (c2 := (q + 4)) dX5_holds_34 rfl ((hq.2.1)) (Nat.lt_of_le_of_lt (Nat.le_add_right q 4) hq.1) rfl ?_
  refine z_iconst dX5_holds_37 (r32d rfl) ?_
  refine z_iload dX5_holds_38 rfl ?_
  refine z_i2l dX5_holds_40 ?_
  refine z_lastore dX5_holds_41 ((hq.2.2.2.2.2)) (Nat.lt_of_le_of_lt (Nat.add_le_add_left (Nat.le_of_ble_eq_true rfl : 4 ≤ 4) q) hq.1) (by decide) (by decide) ?_
  generalize eh_5 : hset h_4 (q + 4) _ x5 = h_5
  have hyp := hyp h_5 eh_5.symm
  refine z_aload_n dX5_holds_42 rfl ?_
  refine gf_X5_22 (c2 := (q + 4)) dX5_holds_43 rfl ((hq.2.1)) (Nat.lt_of_le_of_lt (Nat.le_add_right q 4) hq.1) rfl ?_
  refine z_iconst dX5_holds_46 (r32d rfl) ?_
  refine z_iload dX5_holds_47 rfl ?_
  refine z_i2l dX5_holds_49 ?_
  refine z_lastore dX5_holds_50 ((hq.2.2.2.2.2)) (Nat.lt_of_le_of_lt (Nat.add_le_add_left (Nat.le_of_ble_eq_true rfl : 4 ≤ 4) q) hq.1) (by decide) (by decide) ?_
  generalize eh_6 : hset h_5 (q + 4) _ x6 = h_6
  have hyp := hyp h_6 eh_6.symm
  refine z_iconst dX5_holds_51 (r32d rfl) ?_
  refine z_istore dX5_holds_52 (by decide) rfl ?_
  refine z_iconst dX5_holds_54 (r32d rfl) ?_
  refine z_istore dX5_holds_55 (by decide) rfl ?_
  exact z_forget [true, false, false, false, false, false, false, true, true, false] rfl hyp
set_option maxRecDepth 20000 in
theorem eX5_isError {E : zE} (hE : isC E) {d : Nat} {x0 y1 y3 : Int} {h : zH} {K : Int → zH → Prop} (hyp :
  ((x0 = 7) →
      (((zabsJ (w64 (y1 + y3))) ≤ 1000000000000 →
        K 0 h) ∧
      (¬ ((zabsJ (w64 (y1 + y3))) ≤ 1000000000000) →
        K 1 h))) ∧
  ((x0 = 8) →
      (((zabsJ (w64 (y1 - y3))) ≤ 1000000000000 →
        K 0 h) ∧
      (¬ ((zabsJ (w64 (y1 - y3))) ≤ 1000000000000) →
        K 1 h))) ∧
  ((x0 = 9) →
      ((y1 = 0 →
        K 0 h) ∧
      (¬ (y1 = 0) →
        ¬ (zabsJ y1) = 0 ∧
        (((zabsJ y3) ≤ (w64 (Int.tdiv 1000000000000 (zabsJ y1))) →
          K 0 h) ∧
        (¬ ((zabsJ y3) ≤ (w64 (Int.tdiv 1000000000000 (zabsJ y1)))) →
          K 1 h))))) ∧
  ((x0 = 10) →
      ((y3 ≠ 0 →
        K 0 h) ∧
      (¬ (y3 ≠ 0) →
        K 1 h))) ∧
  ((x0 ≠ 7 ∧ x0 ≠ 8 ∧ x0 ≠ 9 ∧ x0 ≠ 10) →
    K 0 h)) :
  zCI E mX5_isError d [zI x0, zJ y1, zJ y3] h K := by
  refine zC_in (L0 := [zI x0, zJ y1, zU, zJ y3, zU]) pn_X5 rfl (Nat.le_of_ble_eq_true rfl) ?_
  refine z_iload_n dX5_isError_0 rfl ?_
  have hgo : (x0 ≠ 7 ∧ x0 ≠ 8 ∧ x0 ≠ 9 ∧ x0 ≠ 10) → zG E mX5_isError d 110 [zI x0, zJ y1, zU, zJ y3, zU] [] h (qI K) := by
    intro hcc
    have hyp := hyp.2.2.2.2 hcc
    refine z_iconst dX5_isError_110 (r32d rfl) ?_
    exact z_zret dX5_isError_111 rfl (Or.inl rfl) ⟨_, rfl, hyp⟩
  by_cases cr : x0 < 7 ∨ 10 < x0
  · exact z_tsOut (tgt := 110) dX5_isError_1 cr (by decide) (hgo ⟨tsne cr (by decide) (by decide), tsne cr (by decide) (by decide), tsne cr (by decide) (by decide), tsne cr (by decide) (by decide)⟩)
  by_cases c_1 : x0 = 7
  · have hyp := hyp.1 c_1
    have hgo : zG E mX5_isError d 32 [zI x0, zJ y1, zU, zJ y3, zU] [] h (qI K) := by
      refine z_lload_n dX5_isError_32 rfl ?_
      refine z_lload_n dX5_isError_33 rfl ?_
      refine z_ladd dX5_isError_34 ?_
      refine cl_X5_41 dX5_isError_35 rfl (Nat.le_of_ble_eq_true rfl) ?_
      refine z_ldc2 (x := 1000000000000) dX5_isError_38 rfl wk_X5_47 (by decide) (r64d rfl) ?_
      refine z_lc_le (tgt := 49) dX5_isError_41 dX5_isError_42 (by decide) (fun c_2 => ?_) (fun c_2 => ?_)
      · have hyp := hyp.1 c_2
        refine z_iconst dX5_isError_49 (r32d rfl) ?_
        exact z_zret dX5_isError_50 rfl (Or.inl rfl) ⟨_, rfl, hyp⟩
      · have hyp := hyp.2 c_2
        refine z_iconst dX5_isError_45 (r32d rfl) ?_
        refine z_goto (tgt := 50) dX5_isError_46 (by decide) ?_
        exact z_zret dX5_isError_50 rfl (Or.inr rfl) ⟨_, rfl, hyp⟩
    exact z_tsIn (i := 0) (tgt := 32) dX5_isError_1 (c_1.trans (by decide)) (by decide) rfl (by decide) hgo
  by_cases c_3 : x0 = 8
  · have hyp := hyp.2.1 c_3
    have hgo : zG E mX5_isError d 51 [zI x0, zJ y1, zU, zJ y3, zU] [] h (qI K) := by
      refine z_lload_n dX5_isError_51 rfl ?_
      refine z_lload_n dX5_isError_52 rfl ?_
      refine z_lsub dX5_isError_53 ?_
      refine cl_X5_41 dX5_isError_54 rfl (Nat.le_of_ble_eq_true rfl) ?_
      refine z_ldc2 (x := 1000000000000) dX5_isError_57 rfl wk_X5_47 (by decide) (r64d rfl) ?_
      refine z_lc_le (tgt := 68) dX5_isError_60 dX5_isError_61 (by decide) (fun c_4 => ?_) (fun c_4 => ?_)
      · have hyp := hyp.1 c_4
        refine z_iconst dX5_isError_68 (r32d rfl) ?_
        exact z_zret dX5_isError_69 rfl (Or.inl rfl) ⟨_, rfl, hyp⟩
      · have hyp := hyp.2 c_4
        refine z_iconst dX5_isError_64 (r32d rfl) ?_
        refine z_goto (tgt := 69) dX5_isError_65 (by decide) ?_
        exact z_zret dX5_isError_69 rfl (Or.inr rfl) ⟨_, rfl, hyp⟩
    exact z_tsIn (i := 1) (tgt := 51) dX5_isError_1 (c_3.trans (by decide)) (by decide) rfl (by decide) hgo
  by_cases c_5 : x0 = 9
  · have hyp := hyp.2.2.1 c_5
    have hgo : zG E mX5_isError d 70 [zI x0, zJ y1, zU, zJ y3, zU] [] h (qI K) := by
      refine z_lload_n dX5_isError_70 rfl ?_
      refine z_lconst (x := 0) dX5_isError_71 (by decide) (r64d rfl) ?_
      refine z_lc_eq (tgt := 96) dX5_isError_72 dX5_isError_73 (by decide) (fun c_6 => ?_) (fun c_6 => ?_)
      · have hyp := hyp.1 c_6
        refine z_iconst dX5_isError_96 (r32d rfl) ?_
        exact z_zret dX5_isError_97 rfl (Or.inl rfl) ⟨_, rfl, hyp⟩
      · have hyp := hyp.2 c_6
        refine z_lload_n dX5_isError_76 rfl ?_
        refine cl_X5_41 dX5_isError_77 rfl (Nat.le_of_ble_eq_true rfl) ?_
        refine z_ldc2 (x := 1000000000000) dX5_isError_80 rfl wk_X5_47 (by decide) (r64d rfl) ?_
        refine z_lload_n dX5_isError_83 rfl ?_
        refine cl_X5_41 dX5_isError_84 rfl (Nat.le_of_ble_eq_true rfl) ?_
        obtain ⟨hz, hyp⟩ := hyp
        refine z_ldiv hz dX5_isError_87 ?_
        refine z_lc_le (tgt := 96) dX5_isError_88 dX5_isError_89 (by decide) (fun c_7 => ?_) (fun c_7 => ?_)
        · have hyp := hyp.1 c_7
          refine z_iconst dX5_isError_96 (r32d rfl) ?_
          exact z_zret dX5_isError_97 rfl (Or.inl rfl) ⟨_, rfl, hyp⟩
        · have hyp := hyp.2 c_7
          refine z_iconst dX5_isError_92 (r32d rfl) ?_
          refine z_goto (tgt := 97) dX5_isError_93 (by decide) ?_
          exact z_zret dX5_isError_97 rfl (Or.inr rfl) ⟨_, rfl, hyp⟩
    exact z_tsIn (i := 2) (tgt := 70) dX5_isError_1 (c_5.trans (by decide)) (by decide) rfl (by decide) hgo
  by_cases c_8 : x0 = 10
  · have hyp := hyp.2.2.2.1 c_8
    have hgo : zG E mX5_isError d 98 [zI x0, zJ y1, zU, zJ y3, zU] [] h (qI K) := by
      refine z_lload_n dX5_isError_98 rfl ?_
      refine z_lconst (x := 0) dX5_isError_99 (by decide) (r64d rfl) ?_
      refine z_lc_ne (tgt := 108) dX5_isError_100 dX5_isError_101 (by decide) (fun c_9 => ?_) (fun c_9 => ?_)
      · have hyp := hyp.1 c_9
        refine z_iconst dX5_isError_108 (r32d rfl) ?_
        exact z_zret dX5_isError_109 rfl (Or.inl rfl) ⟨_, rfl, hyp⟩
      · have hyp := hyp.2 c_9
        refine z_iconst dX5_isError_104 (r32d rfl) ?_
        refine z_goto (tgt := 109) dX5_isError_105 (by decide) ?_
        exact z_zret dX5_isError_109 rfl (Or.inr rfl) ⟨_, rfl, hyp⟩
    exact z_tsIn (i := 3) (tgt := 98) dX5_isError_1 (c_8.trans (by decide)) (by decide) rfl (by decide) hgo
  exact absurd (tsbs (tsbs (tsbs (tsbs (tsb1 cr) c_1) c_3) c_5) c_8) (tsb2 cr)
set_option maxRecDepth 20000 in
theorem eX5_isOperand {E : zE} (hE : isC E) {d : Nat} {x0 : Int} {h : zH} {K : Int → zH → Prop} (hyp :
  ((x0 = 3 →
    K 1 h) ∧
  (¬ (x0 = 3) →
    ((x0 < 35 →
      K 0 h) ∧
    (¬ (x0 < 35) →
      ((40 < x0 →
        K 0 h) ∧
      (¬ (40 < x0) →
        K 1 h))))))) :
  zCI E mX5_isOperand d [zI x0] h K := by
  refine zC_in (L0 := [zI x0]) pn_X5 rfl (Nat.le_of_ble_eq_true rfl) ?_
  refine z_iload_n dX5_isOperand_0 rfl ?_
  refine z_iconst dX5_isOperand_1 (r32d rfl) ?_
  refine z_icmp_eq (tgt := 17) dX5_isOperand_2 (by decide) (fun c_1 => ?_) (fun c_1 => ?_)
  · have hyp := hyp.1 c_1
    refine z_iconst dX5_isOperand_17 (r32d rfl) ?_
    refine z_goto (tgt := 22) dX5_isOperand_18 (by decide) ?_
    exact z_zret dX5_isOperand_22 rfl (Or.inr rfl) ⟨_, rfl, hyp⟩
  · have hyp := hyp.2 c_1
    refine z_iload_n dX5_isOperand_5 rfl ?_
    refine z_bipush dX5_isOperand_6 (r32d rfl) (by decide) ?_
    refine z_icmp_lt (tgt := 21) dX5_isOperand_8 (by decide) (fun c_2 => ?_) (fun c_2 => ?_)
    · have hyp := hyp.1 c_2
      refine z_iconst dX5_isOperand_21 (r32d rfl) ?_
      exact z_zret dX5_isOperand_22 rfl (Or.inl rfl) ⟨_, rfl, hyp⟩
    · have hyp := hyp.2 c_2
      refine z_iload_n dX5_isOperand_11 rfl ?_
      refine z_bipush dX5_isOperand_12 (r32d rfl) (by decide) ?_
      refine z_icmp_gt (tgt := 21) dX5_isOperand_14 (by decide) (fun c_3 => ?_) (fun c_3 => ?_)
      · have hyp := hyp.1 c_3
        refine z_iconst dX5_isOperand_21 (r32d rfl) ?_
        exact z_zret dX5_isOperand_22 rfl (Or.inl rfl) ⟨_, rfl, hyp⟩
      · have hyp := hyp.2 c_3
        refine z_iconst dX5_isOperand_17 (r32d rfl) ?_
        refine z_goto (tgt := 22) dX5_isOperand_18 (by decide) ?_
        exact z_zret dX5_isOperand_22 rfl (Or.inr rfl) ⟨_, rfl, hyp⟩
set_option maxRecDepth 20000 in
theorem bX5_join_258 {E : zE} (hE : isC E) {d : Nat} {h : zH} {K : Int → zH → Prop} (hyp :
  K 0 h) :
  zG E mX5_join d 258 [zU, zU, zU, zU, zU] [] h (qJ K) := by
  refine z_lconst (x := 0) dX5_join_258 (by decide) (r64d rfl) ?_
  exact z_lret dX5_join_259 rfl ⟨_, rfl, hyp⟩
set_option maxRecDepth 20000 in
theorem eX5_join {E : zE} (hE : isC E) {d : Nat} {x0 y1 y3 : Int} {h : zH} {K : Int → zH → Prop} (hyp :
  ((x0 = 7) →
      K (w64 (y1 + y3)) h) ∧
  ((x0 = 8) →
      K (w64 (y1 - y3)) h) ∧
  ((x0 = 9) →
      K (w64 (y1 * y3)) h) ∧
  ((x0 = 10) →
      ((y3 ≠ 0 →
        ¬ y3 = 0 ∧
        K (w64 (Int.tdiv y1 y3)) h) ∧
      (¬ (y3 ≠ 0) →
        K 0 h))) ∧
  ((x0 = 11) →
      ((y3 ≤ y1 →
        K 0 h) ∧
      (¬ (y3 ≤ y1) →
        K 1 h))) ∧
  ((x0 = 12) →
      ((y3 < y1 →
        K 0 h) ∧
      (¬ (y3 < y1) →
        K 1 h))) ∧
  ((x0 = 13) →
      ((y1 ≠ y3 →
        K 0 h) ∧
      (¬ (y1 ≠ y3) →
        K 1 h))) ∧
  ((x0 = 14) →
      ((y1 = y3 →
        K 0 h) ∧
      (¬ (y1 = y3) →
        K 1 h))) ∧
  ((x0 = 15) →
      ((y1 < y3 →
        K 0 h) ∧
      (¬ (y1 < y3) →
        K 1 h))) ∧
  ((x0 = 16) →
      ((y1 ≤ y3 →
        K 0 h) ∧
      (¬ (y1 ≤ y3) →
        K 1 h))) ∧
  ((x0 = 32) →
      ((y1 ≠ 0 →
        K 1 h) ∧
      (¬ (y1 ≠ 0) →
        ((y3 = 0 →
          K 0 h) ∧
        (¬ (y3 = 0) →
          K 1 h))))) ∧
  ((x0 = 33) →
      ((y1 = 0 →
        K 0 h) ∧
      (¬ (y1 = 0) →
        ((y3 = 0 →
          K 0 h) ∧
        (¬ (y3 = 0) →
          K 1 h))))) ∧
  ((x0 ≠ 7 ∧ x0 ≠ 8 ∧ x0 ≠ 9 ∧ x0 ≠ 10 ∧ x0 ≠ 11 ∧ x0 ≠ 12 ∧ x0 ≠ 13 ∧ x0 ≠ 14 ∧ x0 ≠ 15 ∧ x0 ≠ 16 ∧ x0 ≠ 32 ∧ x0 ≠ 33) →
    zG E mX5_join d 258 [zU, zU, zU, zU, zU] [] h (qJ K))) :
  zCJ E mX5_join d [zI x0, zJ y1, zJ y3] h K := by
  refine zC_in (L0 := [zI x0, zJ y1, zU, zJ y3, zU]) pn_X5 rfl (Nat.le_of_ble_eq_true rfl) ?_
  refine z_iload_n dX5_join_0 rfl ?_
  have hgo : (x0 ≠ 7 ∧ x0 ≠ 8 ∧ x0 ≠ 9 ∧ x0 ≠ 10 ∧ x0 ≠ 11 ∧ x0 ≠ 12 ∧ x0 ≠ 13 ∧ x0 ≠ 14 ∧ x0 ≠ 15 ∧ x0 ≠ 16 ∧ x0 ≠ 32 ∧ x0 ≠ 33) → zG E mX5_join d 258 [zI x0, zJ y1, zU, zJ y3, zU] [] h (qJ K) := by
    intro hcc
    have hyp := hyp.2.2.2.2.2.2.2.2.2.2.2.2 hcc
    exact z_forget [false, false, false, false, false] rfl hyp
  by_cases cr : x0 < 7 ∨ 33 < x0
  · exact z_tsOut (tgt := 258) dX5_join_1 cr (by decide) (hgo ⟨tsne cr (by decide) (by decide), tsne cr (by decide) (by decide), tsne cr (by decide) (by decide), tsne cr (by decide) (by decide), tsne cr (by decide) (by decide), tsne cr (by decide) (by decide), tsne cr (by decide) (by decide), tsne cr (by decide) (by decide), tsne cr (by decide) (by decide), tsne cr (by decide) (by decide), tsne cr (by decide) (by decide), tsne cr (by decide) (by decide)⟩)
  by_cases c_1 : x0 = 7
  · have hyp := hyp.1 c_1
    have hgo : zG E mX5_join d 124 [zI x0, zJ y1, zU, zJ y3, zU] [] h (qJ K) := by
      refine z_lload_n dX5_join_124 rfl ?_
      refine z_lload_n dX5_join_125 rfl ?_
      refine z_ladd dX5_join_126 ?_
      exact z_lret dX5_join_127 rfl ⟨_, rfl, hyp⟩
    exact z_tsIn (i := 0) (tgt := 124) dX5_join_1 (c_1.trans (by decide)) (by decide) rfl (by decide) hgo
  by_cases c_2 : x0 = 8
  · have hyp := hyp.2.1 c_2
    have hgo : zG E mX5_join d 128 [zI x0, zJ y1, zU, zJ y3, zU] [] h (qJ K) := by
      refine z_lload_n dX5_join_128 rfl ?_
      refine z_lload_n dX5_join_129 rfl ?_
      refine z_lsub dX5_join_130 ?_
      exact z_lret dX5_join_131 rfl ⟨_, rfl, hyp⟩
    exact z_tsIn (i := 1) (tgt := 128) dX5_join_1 (c_2.trans (by decide)) (by decide) rfl (by decide) hgo
  by_cases c_3 : x0 = 9
  · have hyp := hyp.2.2.1 c_3
    have hgo : zG E mX5_join d 132 [zI x0, zJ y1, zU, zJ y3, zU] [] h (qJ K) := by
      refine z_lload_n dX5_join_132 rfl ?_
      refine z_lload_n dX5_join_133 rfl ?_
      refine z_lmul dX5_join_134 ?_
      exact z_lret dX5_join_135 rfl ⟨_, rfl, hyp⟩
    exact z_tsIn (i := 2) (tgt := 132) dX5_join_1 (c_3.trans (by decide)) (by decide) rfl (by decide) hgo
  by_cases c_4 : x0 = 10
  · have hyp := hyp.2.2.2.1 c_4
    have hgo : zG E mX5_join d 136 [zI x0, zJ y1, zU, zJ y3, zU] [] h (qJ K) := by
      refine z_lload_n dX5_join_136 rfl ?_
      refine z_lconst (x := 0) dX5_join_137 (by decide) (r64d rfl) ?_
      refine z_lc_ne (tgt := 146) dX5_join_138 dX5_join_139 (by decide) (fun c_5 => ?_) (fun c_5 => ?_)
      · have hyp := hyp.1 c_5
        refine z_lload_n dX5_join_146 rfl ?_
        refine z_lload_n dX5_join_147 rfl ?_
        obtain ⟨hz, hyp⟩ := hyp
        refine z_ldiv hz dX5_join_148 ?_
        exact z_lret dX5_join_149 rfl ⟨_, rfl, hyp⟩
      · have hyp := hyp.2 c_5
        refine z_lconst (x := 0) dX5_join_142 (by decide) (r64d rfl) ?_
        refine z_goto (tgt := 149) dX5_join_143 (by decide) ?_
        exact z_lret dX5_join_149 rfl ⟨_, rfl, hyp⟩
    exact z_tsIn (i := 3) (tgt := 136) dX5_join_1 (c_4.trans (by decide)) (by decide) rfl (by decide) hgo
  by_cases c_6 : x0 = 11
  · have hyp := hyp.2.2.2.2.1 c_6
    have hgo : zG E mX5_join d 150 [zI x0, zJ y1, zU, zJ y3, zU] [] h (qJ K) := by
      refine z_lload_n dX5_join_150 rfl ?_
      refine z_lload_n dX5_join_151 rfl ?_
      refine z_lc_ge (tgt := 160) dX5_join_152 dX5_join_153 (by decide) (fun c_7 => ?_) (fun c_7 => ?_)
      · have hyp := hyp.1 c_7
        refine z_lconst (x := 0) dX5_join_160 (by decide) (r64d rfl) ?_
        exact z_lret dX5_join_161 rfl ⟨_, rfl, hyp⟩
      · have hyp := hyp.2 c_7
        refine z_lconst (x := 1) dX5_join_156 (by decide) (r64d rfl) ?_
        refine z_goto (tgt := 161) dX5_join_157 (by decide) ?_
        exact z_lret dX5_join_161 rfl ⟨_, rfl, hyp⟩
    exact z_tsIn (i := 4) (tgt := 150) dX5_join_1 (c_6.trans (by decide)) (by decide) rfl (by decide) hgo
  by_cases c_8 : x0 = 12
  · have hyp := hyp.2.2.2.2.2.1 c_8
    have hgo : zG E mX5_join d 162 [zI x0, zJ y1, zU, zJ y3, zU] [] h (qJ K) := by
      refine z_lload_n dX5_join_162 rfl ?_
      refine z_lload_n dX5_join_163 rfl ?_
      refine z_lc_gt (tgt := 172) dX5_join_164 dX5_join_165 (by decide) (fun c_9 => ?_) (fun c_9 => ?_)
      · have hyp := hyp.1 c_9
        refine z_lconst (x := 0) dX5_join_172 (by decide) (r64d rfl) ?_
        exact z_lret dX5_join_173 rfl ⟨_, rfl, hyp⟩
      · have hyp := hyp.2 c_9
        refine z_lconst (x := 1) dX5_join_168 (by decide) (r64d rfl) ?_
        refine z_goto (tgt := 173) dX5_join_169 (by decide) ?_
        exact z_lret dX5_join_173 rfl ⟨_, rfl, hyp⟩
    exact z_tsIn (i := 5) (tgt := 162) dX5_join_1 (c_8.trans (by decide)) (by decide) rfl (by decide) hgo
  by_cases c_10 : x0 = 13
  · have hyp := hyp.2.2.2.2.2.2.1 c_10
    have hgo : zG E mX5_join d 174 [zI x0, zJ y1, zU, zJ y3, zU] [] h (qJ K) := by
      refine z_lload_n dX5_join_174 rfl ?_
      refine z_lload_n dX5_join_175 rfl ?_
      refine z_lc_ne (tgt := 184) dX5_join_176 dX5_join_177 (by decide) (fun c_11 => ?_) (fun c_11 => ?_)
      · have hyp := hyp.1 c_11
        refine z_lconst (x := 0) dX5_join_184 (by decide) (r64d rfl) ?_
        exact z_lret dX5_join_185 rfl ⟨_, rfl, hyp⟩
      · have hyp := hyp.2 c_11
        refine z_lconst (x := 1) dX5_join_180 (by decide) (r64d rfl) ?_
        refine z_goto (tgt := 185) dX5_join_181 (by decide) ?_
        exact z_lret dX5_join_185 rfl ⟨_, rfl, hyp⟩
    exact z_tsIn (i := 6) (tgt := 174) dX5_join_1 (c_10.trans (by decide)) (by decide) rfl (by decide) hgo
  by_cases c_12 : x0 = 14
  · have hyp := hyp.2.2.2.2.2.2.2.1 c_12
    have hgo : zG E mX5_join d 186 [zI x0, zJ y1, zU, zJ y3, zU] [] h (qJ K) := by
      refine z_lload_n dX5_join_186 rfl ?_
      refine z_lload_n dX5_join_187 rfl ?_
      refine z_lc_eq (tgt := 196) dX5_join_188 dX5_join_189 (by decide) (fun c_13 => ?_) (fun c_13 => ?_)
      · have hyp := hyp.1 c_13
        refine z_lconst (x := 0) dX5_join_196 (by decide) (r64d rfl) ?_
        exact z_lret dX5_join_197 rfl ⟨_, rfl, hyp⟩
      · have hyp := hyp.2 c_13
        refine z_lconst (x := 1) dX5_join_192 (by decide) (r64d rfl) ?_
        refine z_goto (tgt := 197) dX5_join_193 (by decide) ?_
        exact z_lret dX5_join_197 rfl ⟨_, rfl, hyp⟩
    exact z_tsIn (i := 7) (tgt := 186) dX5_join_1 (c_12.trans (by decide)) (by decide) rfl (by decide) hgo
  by_cases c_14 : x0 = 15
  · have hyp := hyp.2.2.2.2.2.2.2.2.1 c_14
    have hgo : zG E mX5_join d 198 [zI x0, zJ y1, zU, zJ y3, zU] [] h (qJ K) := by
      refine z_lload_n dX5_join_198 rfl ?_
      refine z_lload_n dX5_join_199 rfl ?_
      refine z_lc_lt (tgt := 208) dX5_join_200 dX5_join_201 (by decide) (fun c_15 => ?_) (fun c_15 => ?_)
      · have hyp := hyp.1 c_15
        refine z_lconst (x := 0) dX5_join_208 (by decide) (r64d rfl) ?_
        exact z_lret dX5_join_209 rfl ⟨_, rfl, hyp⟩
      · have hyp := hyp.2 c_15
        refine z_lconst (x := 1) dX5_join_204 (by decide) (r64d rfl) ?_
        refine z_goto (tgt := 209) dX5_join_205 (by decide) ?_
        exact z_lret dX5_join_209 rfl ⟨_, rfl, hyp⟩
    exact z_tsIn (i := 8) (tgt := 198) dX5_join_1 (c_14.trans (by decide)) (by decide) rfl (by decide) hgo
  by_cases c_16 : x0 = 16
  · have hyp := hyp.2.2.2.2.2.2.2.2.2.1 c_16
    have hgo : zG E mX5_join d 210 [zI x0, zJ y1, zU, zJ y3, zU] [] h (qJ K) := by
      refine z_lload_n dX5_join_210 rfl ?_
      refine z_lload_n dX5_join_211 rfl ?_
      refine z_lc_le (tgt := 220) dX5_join_212 dX5_join_213 (by decide) (fun c_17 => ?_) (fun c_17 => ?_)
      · have hyp := hyp.1 c_17
        refine z_lconst (x := 0) dX5_join_220 (by decide) (r64d rfl) ?_
        exact z_lret dX5_join_221 rfl ⟨_, rfl, hyp⟩
      · have hyp := hyp.2 c_17
        refine z_lconst (x := 1) dX5_join_216 (by decide) (r64d rfl) ?_
        refine z_goto (tgt := 221) dX5_join_217 (by decide) ?_
        exact z_lret dX5_join_221 rfl ⟨_, rfl, hyp⟩
    exact z_tsIn (i := 9) (tgt := 210) dX5_join_1 (c_16.trans (by decide)) (by decide) rfl (by decide) hgo
  by_cases c_18 : x0 = 32
  · have hyp := hyp.2.2.2.2.2.2.2.2.2.2.1 c_18
    have hgo : zG E mX5_join d 240 [zI x0, zJ y1, zU, zJ y3, zU] [] h (qJ K) := by
      refine z_lload_n dX5_join_240 rfl ?_
      refine z_lconst (x := 0) dX5_join_241 (by decide) (r64d rfl) ?_
      refine z_lc_ne (tgt := 252) dX5_join_242 dX5_join_243 (by decide) (fun c_19 => ?_) (fun c_19 => ?_)
      · have hyp := hyp.1 c_19
        refine z_lconst (x := 1) dX5_join_252 (by decide) (r64d rfl) ?_
        refine z_goto (tgt := 257) dX5_join_253 (by decide) ?_
        exact z_lret dX5_join_257 rfl ⟨_, rfl, hyp⟩
      · have hyp := hyp.2 c_19
        refine z_lload_n dX5_join_246 rfl ?_
        refine z_lconst (x := 0) dX5_join_247 (by decide) (r64d rfl) ?_
        refine z_lc_eq (tgt := 256) dX5_join_248 dX5_join_249 (by decide) (fun c_20 => ?_) (fun c_20 => ?_)
        · have hyp := hyp.1 c_20
          refine z_lconst (x := 0) dX5_join_256 (by decide) (r64d rfl) ?_
          exact z_lret dX5_join_257 rfl ⟨_, rfl, hyp⟩
        · have hyp := hyp.2 c_20
          refine z_lconst (x := 1) dX5_join_252 (by decide) (r64d rfl) ?_
          refine z_goto (tgt := 257) dX5_join_253 (by decide) ?_
          exact z_lret dX5_join_257 rfl ⟨_, rfl, hyp⟩
    exact z_tsIn (i := 25) (tgt := 240) dX5_join_1 (c_18.trans (by decide)) (by decide) rfl (by decide) hgo
  by_cases c_21 : x0 = 33
  · have hyp := hyp.2.2.2.2.2.2.2.2.2.2.2.1 c_21
    have hgo : zG E mX5_join d 222 [zI x0, zJ y1, zU, zJ y3, zU] [] h (qJ K) := by
      refine z_lload_n dX5_join_222 rfl ?_
      refine z_lconst (x := 0) dX5_join_223 (by decide) (r64d rfl) ?_
      refine z_lc_eq (tgt := 238) dX5_join_224 dX5_join_225 (by decide) (fun c_22 => ?_) (fun c_22 => ?_)
      · have hyp := hyp.1 c_22
        refine z_lconst (x := 0) dX5_join_238 (by decide) (r64d rfl) ?_
        exact z_lret dX5_join_239 rfl ⟨_, rfl, hyp⟩
      · have hyp := hyp.2 c_22
        refine z_lload_n dX5_join_228 rfl ?_
        refine z_lconst (x := 0) dX5_join_229 (by decide) (r64d rfl) ?_
        refine z_lc_eq (tgt := 238) dX5_join_230 dX5_join_231 (by decide) (fun c_23 => ?_) (fun c_23 => ?_)
        · have hyp := hyp.1 c_23
          refine z_lconst (x := 0) dX5_join_238 (by decide) (r64d rfl) ?_
          exact z_lret dX5_join_239 rfl ⟨_, rfl, hyp⟩
        · have hyp := hyp.2 c_23
          refine z_lconst (x := 1) dX5_join_234 (by decide) (r64d rfl) ?_
          refine z_goto (tgt := 239) dX5_join_235 (by decide) ?_
          exact z_lret dX5_join_239 rfl ⟨_, rfl, hyp⟩
    exact z_tsIn (i := 26) (tgt := 222) dX5_join_1 (c_21.trans (by decide)) (by decide) rfl (by decide) hgo
  by_cases c_24 : x0 = 17
  · exact z_tsIn (i := 10) (tgt := 258) dX5_join_1 (c_24.trans (by decide)) (by decide) rfl (by decide) (hgo (by rw [c_24]; decide))
  by_cases c_25 : x0 = 18
  · exact z_tsIn (i := 11) (tgt := 258) dX5_join_1 (c_25.trans (by decide)) (by decide) rfl (by decide) (hgo (by rw [c_25]; decide))
  by_cases c_26 : x0 = 19
  · exact z_tsIn (i := 12) (tgt := 258) dX5_join_1 (c_26.trans (by decide)) (by decide) rfl (by decide) (hgo (by rw [c_26]; decide))
  by_cases c_27 : x0 = 20
  · exact z_tsIn (i := 13) (tgt := 258) dX5_join_1 (c_27.trans (by decide)) (by decide) rfl (by decide) (hgo (by rw [c_27]; decide))
  by_cases c_28 : x0 = 21
  · exact z_tsIn (i := 14) (tgt := 258) dX5_join_1 (c_28.trans (by decide)) (by decide) rfl (by decide) (hgo (by rw [c_28]; decide))
  by_cases c_29 : x0 = 22
  · exact z_tsIn (i := 15) (tgt := 258) dX5_join_1 (c_29.trans (by decide)) (by decide) rfl (by decide) (hgo (by rw [c_29]; decide))
  by_cases c_30 : x0 = 23
  · exact z_tsIn (i := 16) (tgt := 258) dX5_join_1 (c_30.trans (by decide)) (by decide) rfl (by decide) (hgo (by rw [c_30]; decide))
  by_cases c_31 : x0 = 24
  · exact z_tsIn (i := 17) (tgt := 258) dX5_join_1 (c_31.trans (by decide)) (by decide) rfl (by decide) (hgo (by rw [c_31]; decide))
  by_cases c_32 : x0 = 25
  · exact z_tsIn (i := 18) (tgt := 258) dX5_join_1 (c_32.trans (by decide)) (by decide) rfl (by decide) (hgo (by rw [c_32]; decide))
  by_cases c_33 : x0 = 26
  · exact z_tsIn (i := 19) (tgt := 258) dX5_join_1 (c_33.trans (by decide)) (by decide) rfl (by decide) (hgo (by rw [c_33]; decide))
  by_cases c_34 : x0 = 27
  · exact z_tsIn (i := 20) (tgt := 258) dX5_join_1 (c_34.trans (by decide)) (by decide) rfl (by decide) (hgo (by rw [c_34]; decide))
  by_cases c_35 : x0 = 28
  · exact z_tsIn (i := 21) (tgt := 258) dX5_join_1 (c_35.trans (by decide)) (by decide) rfl (by decide) (hgo (by rw [c_35]; decide))
  by_cases c_36 : x0 = 29
  · exact z_tsIn (i := 22) (tgt := 258) dX5_join_1 (c_36.trans (by decide)) (by decide) rfl (by decide) (hgo (by rw [c_36]; decide))
  by_cases c_37 : x0 = 30
  · exact z_tsIn (i := 23) (tgt := 258) dX5_join_1 (c_37.trans (by decide)) (by decide) rfl (by decide) (hgo (by rw [c_37]; decide))
  by_cases c_38 : x0 = 31
  · exact z_tsIn (i := 24) (tgt := 258) dX5_join_1 (c_38.trans (by decide)) (by decide) rfl (by decide) (hgo (by rw [c_38]; decide))
  exact absurd (tsbs (tsbs (tsbs (tsbs (tsbs (tsbs (tsbs (tsbs (tsbs (tsbs (tsbs (tsbs (tsbs (tsbs (tsbs (tsbs (tsbs (tsbs (tsbs (tsbs (tsbs (tsbs (tsbs (tsbs (tsbs (tsbs (tsbs (tsb1 cr) c_1) c_2) c_3) c_4) c_6) c_8) c_10) c_12) c_14) c_16) c_24) c_25) c_26) c_27) c_28) c_29) c_30) c_31) c_32) c_33) c_34) c_35) c_36) c_37) c_38) c_18) c_21) (tsb2 cr)
set_option maxRecDepth 20000 in
theorem eX5_put {E : zE} (hE : isC E) {q : Nat} (hq : isRu E q) {d : Nat} {x1 x2 : Int} {h : zH} {K : zH → Prop} (hyp :
  ((64 ≤ (h q 4) →
    K h) ∧
  (¬ (64 ≤ (h q 4)) →
    ((0 : Int) ≤ h q 4 ∧ h q 4 < (64 : Int)) ∧
    ∀ h_2 : zH, h_2 = hset h (q + 1) ((h q 4).toNat) x1 →
    ((0 : Int) ≤ h_2 q 4 ∧ h_2 q 4 < (64 : Int)) ∧
    ∀ h_3 : zH, h_3 = hset h_2 (q + 2) ((h_2 q 4).toNat) x2 →
    ∀ h_4 : zH, h_4 = hset h_3 q 4 (w32 ((h_3 q 4) + 1)) →
    K h_4))) :
  zCV E mX5_put d [zR q, zI x1, zI x2] h K := by
  refine zC_in (L0 := [zR q, zI x1, zI x2]) pn_X5 rfl (Nat.le_of_ble_eq_true rfl) ?_
  refine z_aload_n dX5_put_0 rfl ?_
  refine gf_X5_25 dX5_put_1 rfl ((hq.2.1)) (Nat.lt_of_le_of_lt (Nat.le_add_right q 4) hq.1) ?_
  refine z_bipush dX5_put_4 (r32d rfl) (by decide) ?_
  refine z_icmp_ge (tgt := 39) dX5_put_6 (by decide) (fun c_1 => ?_) (fun c_1 => ?_)
  · have hyp := hyp.1 c_1
    exact z_vret dX5_put_39 rfl ⟨rfl, hyp⟩
  · have hyp := hyp.2 c_1
    refine z_aload_n dX5_put_9 rfl ?_
    refine gf_X5_9 (c2 := (q + 1)) dX5_put_10 rfl ((hq.2.1)) (Nat.lt_of_le_of_lt (Nat.le_add_right q 4) hq.1) rfl ?_
    refine z_aload_n dX5_put_13 rfl ?_
    refine gf_X5_25 dX5_put_14 rfl ((hq.2.1)) (Nat.lt_of_le_of_lt (Nat.le_add_right q 4) hq.1) ?_
    refine z_iload_n dX5_put_17 rfl ?_
    obtain ⟨⟨hi0, hi1⟩, hyp⟩ := hyp
    refine z_iastore dX5_put_18 ((hq.2.2.1)) (Nat.lt_of_le_of_lt (Nat.add_le_add_left (Nat.le_of_ble_eq_true rfl : 1 ≤ 4) q) hq.1) hi0 hi1 ?_
    generalize eh_2 : hset h (q + 1) _ x1 = h_2
    have hyp := hyp h_2 eh_2.symm
    refine z_aload_n dX5_put_19 rfl ?_
    refine gf_X5_15 (c2 := (q + 2)) dX5_put_20 rfl ((hq.2.1)) (Nat.lt_of_le_of_lt (Nat.le_add_right q 4) hq.1) rfl ?_
    refine z_aload_n dX5_put_23 rfl ?_
    refine gf_X5_25 dX5_put_24 rfl ((hq.2.1)) (Nat.lt_of_le_of_lt (Nat.le_add_right q 4) hq.1) ?_
    refine z_iload_n dX5_put_27 rfl ?_
    obtain ⟨⟨hi0, hi1⟩, hyp⟩ := hyp
    refine z_iastore dX5_put_28 ((hq.2.2.2.1)) (Nat.lt_of_le_of_lt (Nat.add_le_add_left (Nat.le_of_ble_eq_true rfl : 2 ≤ 4) q) hq.1) hi0 hi1 ?_
    generalize eh_3 : hset h_2 (q + 2) _ x2 = h_3
    have hyp := hyp h_3 eh_3.symm
    refine z_aload_n dX5_put_29 rfl ?_
    refine z_dup dX5_put_30 rfl ?_
    refine gf_X5_25 dX5_put_31 rfl ((hq.2.1)) (Nat.lt_of_le_of_lt (Nat.le_add_right q 4) hq.1) ?_
    refine z_iconst dX5_put_34 (r32d rfl) ?_
    refine z_iadd dX5_put_35 ?_
    refine pf_X5_25 dX5_put_36 rfl ((hq.2.1)) (Nat.lt_of_le_of_lt (Nat.le_add_right q 4) hq.1) ?_
    generalize eh_4 : hset h_3 q 4 _ = h_4
    have hyp := hyp h_4 eh_4.symm
    exact z_vret dX5_put_39 rfl ⟨rfl, hyp⟩
