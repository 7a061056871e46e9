/-! ===== topic: the reference's rule, its operands and the whole ===== -/
section TRdp
variable {E : zE} {B : Nat → Int} {n : Nat}
theorem p162f (hE : isR E) {d : Nat} {h : zH} {K : zH → Prop} (e : h 0 49 ≠ 0) (hK : K h) {x1 : Int} : zG E mX10_primary (d + 2) 162 [zR 0, zI x1] [] h (qV K) :=
  bX10_primary_162 (d := d + 1) hE (R_knot_f hE e ⟨fun _ => bX10_primary_176 (d := d + 1) hE ⟨fun _ => R_puts_f hE e (R_goOn_f hE e hK), fun _ => R_puts_f hE e (R_goOn_f hE e hK)⟩, fun _ => bX10_primary_176 (d := d + 1) hE ⟨fun _ => R_puts_f hE e (R_goOn_f hE e hK), fun _ => R_puts_f hE e (R_goOn_f hE e hK)⟩⟩)
theorem p78f (hE : isR E) {d : Nat} {h : zH} {K : zH → Prop} (e : h 0 49 ≠ 0) (hK : K h) : zG E mX10_primary (d + 1) 78 [zR 0, zU] [] h (qV K) := bX10_primary_78 hE ⟨fun c => absurd c e, fun _ => hK⟩
theorem rIx_i2 : ∀ j : Nat, j < 21 → ((15 : Int) ≤ ([0, 1, 7, 8, 9, 10, 2, 3, 4, 11, 5, 6, 12, 13, 14, 15, 16, 17, 18, 19, 20] : List Int).getD j 0 ↔ 15 ≤ j) := by decide
theorem rIx_r2 {k : Int} (h1 : 20 ≤ k) (h2 : k ≤ 40) : 15 ≤ rIx (k - 20) ↔ 35 ≤ k := by
  obtain ⟨j, hj⟩ : ∃ j : Nat, k - 20 = (j : Int) := ⟨(k - 20).toNat, by omega⟩
  unfold rIx
  rw [hj, Int.toNat_natCast, rIx_i2 j (by omega)]
  omega
theorem yOp_o {q : Nat} {W : List Int} {O : zO} {op kn : Nat} (ho : isOp (tkK B n q)) : yOp B n q W O op kn = if 64 ≤ kn ∨ (tkK B n q = 3 ∧ 9999 < tkV B n q) then .inl (.inl (2, tkP B n q)) else .inr (tkQ B n q, false, W, O ++ [(tkK B n q, tkV B n q)], op, kn + 1) := by
  unfold yOp
  have n5 : ¬ tkK B n q = 5 := by unfold isOp at ho; omega
  have n34 : ¬ tkK B n q = 34 := by unfold isOp at ho; omega
  have n1 : ¬ (¬ (tkK B n q = 34 ∧ tpR W ≤ 3) ∧ ¬ isOp (tkK B n q)) := fun z => z.2 ho
  rw [if_neg n5, if_neg n1, if_neg n34]
theorem yOp_b {q : Nat} {W : List Int} {O : zO} {op kn : Nat} (n5 : ¬ tkK B n q = 5) (ho : ¬ isOp (tkK B n q)) (hw : tkK B n q ≠ 34 ∨ 3 < tpR W) : yOp B n q W O op kn = .inl (.inl (1, tkP B n q)) := by
  unfold yOp
  have n1 : ¬ (tkK B n q = 34 ∧ tpR W ≤ 3) := by omega
  rw [if_neg n5, if_pos ⟨n1, ho⟩]
theorem lv7 (hE : isR E) {m : Nat} (sub : LvP E B n mX10_expression 1 10 m) : LvP E B n mX10_primary 7 5 (m + 1) := by
  intro q W O op kn h K d hm hd st iv pre rk
  obtain ⟨d', rfl⟩ : ∃ d', d = d' + 4 := ⟨d - 4, by omega⟩
  have a := st.1
  have hq := a.2.2.1
  have sk := a.sk
  unfold skR at sk
  have hB : ∀ j, j < n → 0 ≤ B j ∧ B j ≤ 255 := fun j hj => (a.1.2.2 j hj).2
  have i4 := iv.2.2.2.1
  have i8 := iv.2.1
  dsimp only at i4 i8
  have il := iv.ln
  refine eX10_primary (d := d' + 3) hE ⟨fun _ => R_sign hE a (kk := 5) (by decide) (by decide) (by decide) ⟨fun c5 => ?_, fun c5 => ?_⟩, fun c => absurd a.2.2.2.1 c⟩
  · have k5 : ¬ tkK B n q = 5 := bI_ne c5
    -- an operand
    have ok : isOp (tkK B n q) → ¬ (tkK B n q = 3 ∧ 9999 < tkV B n q) → ∀ x1 : Int, (x1 = if tkK B n q = 3 then 1 else 0) → zG E mX10_primary (d' + 4) 162 [zR 0, zI x1] [] h (qV K) := by
      intro ho h9 x1 ex
      have sb := yOp_o (W := W) (O := O) (op := op) (kn := kn) ho
      have fin : ¬ 64 ≤ kn → ∀ h2, frGr h h2 → RtR h2 B n q O op (kn + 1) → ∀ x y : Int, (enc (tkK B n q, tkV B n q)).1 = x → (enc (tkK B n q, tkV B n q)).2 = y → zCV E mX10_puts (d' + 3) [zR 0, zI x, zI y] h2 (fun h3 => zCV E mX10_goOn (d' + 3) [zR 0] h3 K) := by
        intro c64 h2 fr2 st2 x y exx eyy
        have nc : ¬ (64 ≤ kn ∨ (tkK B n q = 3 ∧ 9999 < tkV B n q)) := by omega
        rw [if_neg nc] at sb
        have yr := yRes_r (s := (q, true, W, O, op, kn)) hq (yStep_t.trans sb)
        dsimp only at yr
        rw [yr.1] at rk
        have iv2 := yInv_op hB hq iv sb
        refine R_puts hE st2 (by omega) exx eyy (fun h3 fr3 st3 => R_goOn (d := d') hE st3.1 (fun h4 fr4 a4 => ?_))
        refine rk.2 (tkQ B n q) [] (O ++ [(tkK B n q, tkV B n q)]) (kn + 1) h4 rfl (by omega) (by omega) (fr2.tr (fr3.tr (frGr.y fr4))) ?_ (fun k hk => absurd hk List.not_mem_nil) ⟨fun z => absurd z (by decide), fun z => absurd z (by decide), fun z => absurd z (by decide), fun z => absurd z (by decide), fun z => absurd z (by decide)⟩ iv2
        have := st3.tok fr4 a4
        change RtR h4 B n (tkQ B n q) ((O ++ [(tkK B n q, tkV B n q)]) ++ []) op (kn + 1)
        rw [List.append_nil]
        exact this
      refine bX10_primary_162 (d := d' + 3) hE (R_knot (d := d' + 2) hE st i4 (fun c64 h2 fr2 f2 => ?_) (fun c64 h2 fr2 st2 => ?_))
      · rw [if_pos (Or.inl c64)] at sb
        have e2 := f2.ne
        have kk := rk.1 _ h2 (yRes_l (yStep_t.trans sb)) fr2 f2
        exact ⟨fun _ => bX10_primary_176 (d := d' + 3) hE ⟨fun _ => R_puts_f hE e2 (R_goOn_f (d := d' + 2) hE e2 kk), fun _ => R_puts_f hE e2 (R_goOn_f (d := d' + 2) hE e2 kk)⟩, fun _ => bX10_primary_176 (d := d' + 3) hE ⟨fun _ => R_puts_f hE e2 (R_goOn_f (d := d' + 2) hE e2 kk), fun _ => R_puts_f hE e2 (R_goOn_f (d := d' + 2) hE e2 kk)⟩⟩
      · have sk2 := st2.1.sk
        unfold skR at sk2
        refine ⟨fun z => bX10_primary_176 (d := d' + 3) hE ⟨fun _ => ?_, fun y => absurd z y⟩, fun z => bX10_primary_176 (d := d' + 3) hE ⟨fun y => absurd y z, fun _ => ?_⟩⟩
        · have n3 : ¬ tkK B n q = 3 := by
            intro y
            rw [if_pos y] at ex
            omega
          have k35 : 35 ≤ tkK B n q ∧ tkK B n q ≤ 40 := by unfold isOp at ho; omega
          obtain ⟨i, hi⟩ : ∃ i : Nat, tkK B n q = (i : Int) + 20 := ⟨(tkK B n q - 20).toNat, by omega⟩
          have e48 : h2 0 48 = (i : Int) := by
            have s1 : h2 0 48 = rIx (tkK B n q - 20) := by omega
            rw [s1]
            exact (rIx_w (by omega) (by omega) (by omega) (by omega)).mpr hi
          rw [e48, w32i (by omega) (by omega)]
          refine fin c64 h2 fr2 st2 1 _ ?_ ?_
          · unfold enc
            dsimp only
            rw [if_neg n3, if_pos k35]
          · unfold enc
            dsimp only
            rw [if_neg n3, if_pos k35]
            dsimp only
            omega
        · have n3 : tkK B n q = 3 := by
            refine Decidable.not_not.mp (fun y => ?_)
            rw [if_neg y] at ex
            exact z ex
          have e48 : h2 0 48 = tkV B n q := by omega
          rw [e48]
          refine fin c64 h2 fr2 st2 0 _ ?_ ?_
          · unfold enc
            dsimp only
            rw [if_pos n3]
          · unfold enc
            dsimp only
            rw [if_pos n3]
    have bad1 : ¬ isOp (tkK B n q) → ∀ x1 : Int, zCV E mX10_wrong (d' + 3) [zR 0, zI 1] h (fun h_3 => zG E mX10_primary (d' + 4) 162 [zR 0, zI x1] [] h_3 (qV K)) := fun ho x1 => R_wrong hE a (by decide) (fun h2 fr2 f2 => p162f (d := d' + 2) hE f2.ne (rk.1 _ h2 (yRes_l (yStep_t.trans (yOp_b k5 ho (pre.2 (by decide))))) (frGr.w fr2) f2))
    refine ⟨fun c2 => bX10_primary_114 (d := d' + 3) hE ⟨fun _ => bX10_primary_137 (d := d' + 3) hE ⟨fun z => absurd rfl z, fun _ => ⟨fun c0 => bad1 ?_ 0, fun c0 => ⟨fun c15 => ok ?_ (by omega) 0 ?_, fun c15 => bad1 ?_ 0⟩⟩⟩, fun z => absurd rfl z⟩, fun c2 => bX10_primary_114 (d := d' + 3) hE ⟨fun z => absurd z (by decide), fun _ => ⟨fun c9 => bX10_primary_137 (d := d' + 3) hE ⟨fun _ => ok ?_ (by omega) 1 ?_, fun z => absurd (by decide) z⟩, fun c9 => R_wrong hE a (by decide) (fun h2 fr2 f2 => p162f (d := d' + 2) hE f2.ne (rk.1 _ h2 ?_ (frGr.w fr2) f2))⟩⟩⟩
    · unfold isOp
      omega
    · have s1 : 20 ≤ tkK B n q ∧ tkK B n q ≤ 40 ∧ h 0 48 = rIx (tkK B n q - 20) := by omega
      have r1 := rIx_r2 s1.1 s1.2.1
      unfold isOp
      omega
    · rw [if_neg (by omega)]
    · have s1 : 20 ≤ tkK B n q ∧ tkK B n q ≤ 40 ∧ h 0 48 = rIx (tkK B n q - 20) := by omega
      have r1 := rIx_r2 s1.1 s1.2.1
      unfold isOp
      omega
    · unfold isOp
      omega
    · rw [if_pos (by omega)]
    · have ho : isOp (tkK B n q) := by
        unfold isOp
        omega
      have sb := yOp_o (W := W) (O := O) (op := op) (kn := kn) ho
      have y : 64 ≤ kn ∨ (tkK B n q = 3 ∧ 9999 < tkV B n q) := by omega
      rw [if_pos y] at sb
      exact yRes_l (yStep_t.trans sb)
  · have k5 : tkK B n q = 5 := bI_e c5
    rw [st.2.2.1]
    have sb : yOp B n q W O op kn = if 8 ≤ op then .inl (.inl (2, tkP B n q)) else .inr (tkQ B n q, true, 5 :: W, O, op + 1, kn) := by
      unfold yOp
      rw [if_pos k5]
    refine ⟨fun c8 => bX10_primary_31 (d := d' + 3) hE ⟨fun _ h2 e2 => ?_, fun z => absurd a.2.2.2.1 z⟩, fun c8 => R_wrong hE a (by decide) (fun h2 fr2 f2 => ?_)⟩
    · have nc : ¬ 8 ≤ op := by omega
      rw [if_neg nc] at sb
      have yr := yRes_r (s := (q, true, W, O, op, kn)) hq (yStep_t.trans sb)
      dsimp only at yr
      rw [yr.1] at rk
      have iv2 := yInv_op hB hq iv sb
      rw [st.2.2.1, w_suc (by omega)] at e2
      have f2 : ∀ c j, ¬ (c = 0 ∧ j = 53) → h2 c j = h c j := fun c j z => by rw [e2, hset_ne z]
      have st2 : RtR h2 B n q O (op + 1) kn := ⟨a.mv (fun c j hc => f2 c j (by omega)), by rw [f2 _ _ (by omega)]; exact st.2.1, by rw [e2, hset_eq], by rw [f2 _ _ (by omega)]; exact st.2.2.2.1, fun j hj => by rw [f2 _ _ (by omega), f2 _ _ (by omega)]; exact st.2.2.2.2 j hj⟩
      have fr2 : frGr h h2 := fun c j n1 n2 => f2 c j (by omega)
      refine R_tok (d := d' + 1) hE st2.1 (fun h3 fr3 a3 => ?_)
      have st3 := st2.tok fr3 a3
      have fr23 := fr2.tr (frGr.y fr3)
      have t0 : tpR (5 :: W) = 0 := by
        have : rnk 5 = 0 := by decide
        exact this
      refine sub (tkQ B n q) (5 :: W) O (op + 1) kn h3 _ (d' + 3) (by omega) (by omega) st3 iv2 ⟨Or.inl (by omega), fun z => absurd z (by decide)⟩ ⟨fun f h4 ef fr4 f4 => ⟨fun _ => p78f hE f4.ne (rk.1 f h4 ef (fr23.tr fr4) f4), fun z => absurd f4.ne z⟩, fun q2 P2 O2 kn2 h4 er hq2 hkn fr4 st4 hP2 ps iv4 => ?_⟩
      have hq4 := st4.1.2.2.1
      refine ⟨fun z => absurd st4.1.2.2.2.1 z, fun _ => R_sign hE st4.1 (kk := 6) (by decide) (by decide) (by decide) ⟨fun c6 => ?_, fun c6 => R_wrong hE st4.1 (by decide) (fun h5 fr5 f5 => p78f hE f5.ne (rk.1 _ h5 ?_ (fr23.tr (fr4.tr (frGr.w fr5))) f5))⟩⟩
      · have k6 : tkK B n q2 = 6 := bI_e c6
        have sb2 : ySg B n q2 (P2 ++ 5 :: W) O2 (op + 1) kn2 = .inr (tkQ B n q2, false, W, O2 ++ pO P2, op, kn2) := by
          unfold ySg
          have y : tkK B n q2 = 6 ∧ 0 < op + 1 := ⟨k6, by omega⟩
          rw [if_pos y, sett_P P2 _ O2 hP2, sett_0 (by omega)]
          rfl
        have yr2 := yRes_r (s := (q2, false, P2 ++ 5 :: W, O2, op + 1, kn2)) hq4 (yStep_f.trans sb2)
        dsimp only at yr2
        rw [er, yr2.1] at rk
        have iv5 := yInv_sg iv4 sb2
        refine bX10_primary_78 (d := d' + 3) hE ⟨fun _ h5 e5 => ?_, fun z => absurd st4.1.2.2.2.1 z⟩
        have w5 : w32 (((op + 1 : Nat) : Int) - 1) = (op : Int) := by rw [w32i (by omega) (by omega)]; omega
        rw [st4.2.2.1, w5] at e5
        have f5 : ∀ c j, ¬ (c = 0 ∧ j = 53) → h5 c j = h4 c j := fun c j z => by rw [e5, hset_ne z]
        have st5 : RtR h5 B n q2 (O2 ++ pO P2) op kn2 := ⟨st4.1.mv (fun c j hc => f5 c j (by omega)), by rw [f5 _ _ (by omega)]; exact st4.2.1, by rw [e5, hset_eq], by rw [f5 _ _ (by omega)]; exact st4.2.2.2.1, fun j hj => by rw [f5 _ _ (by omega), f5 _ _ (by omega)]; exact st4.2.2.2.2 j hj⟩
        have fr5 : frGr h4 h5 := fun c j n1 n2 => f5 c j (by omega)
        refine R_tok (d := d' + 1) hE st5.1 (fun h6 fr6 a6 => ?_)
        refine rk.2 (tkQ B n q2) [] (O2 ++ pO P2) kn2 h6 rfl (by omega) (by omega) (fr23.tr (fr4.tr (fr5.tr (frGr.y fr6)))) ?_ (fun k hk => absurd hk List.not_mem_nil) ⟨fun z => absurd z (by decide), fun z => absurd z (by decide), fun z => absurd z (by decide), fun z => absurd z (by decide), fun z => absurd z (by decide)⟩ iv5
        have := st5.tok fr6 a6
        change RtR h6 B n (tkQ B n q2) ((O2 ++ pO P2) ++ []) op kn2
        rw [List.append_nil]
        exact this
      · have k6 : ¬ tkK B n q2 = 6 := bI_ne (Decidable.not_not.mp c6)
        rw [er]
        refine yRes_l (yStep_f.trans ?_)
        have p1 := ps.1 (by decide)
        have p2 := ps.2.1 (by decide)
        have p3 := ps.2.2.1 (by decide)
        have p4 := ps.2.2.2.1 (by decide)
        have p5 := ps.2.2.2.2 (by decide)
        unfold ySg
        have n1 : ¬ (tkK B n q2 = 6 ∧ 0 < op + 1) := fun z => k6 z.1
        rw [if_neg n1]
        have nz : ¬ op + 1 = 0 := by omega
        by_cases y : tkK B n q2 = 34 ∨ rnk (tkK B n q2) = 0
        · rw [if_pos y, if_neg nz]
        · have r4 : rnk (tkK B n q2) = 4 := by
            have rr := rnk_r (tkK B n q2)
            have kr := rnk_k (k := tkK B n q2) (by omega)
            exact rnk_4.mpr (by omega)
          rw [if_neg y, if_pos ⟨r4, p3 r4⟩]
    · have yc : 8 ≤ op := by omega
      rw [if_pos yc] at sb
      exact bX10_primary_31 (d := d' + 3) hE ⟨fun z => absurd z f2.ne, fun _ => rk.1 _ h2 (yRes_l (yStep_t.trans sb)) (frGr.w fr2) f2⟩
theorem lvAll (hE : isR E) : ∀ m : Nat, LvP E B n mX10_negation 3 8 m ∧ LvP E B n mX10_expression 1 10 m
  | 0 => ⟨fun _ _ _ _ _ _ _ _ hm => absurd hm (Nat.not_lt_zero _), fun _ _ _ _ _ _ _ _ hm => absurd hm (Nat.not_lt_zero _)⟩
  | m + 1 => by
    have ih := lvAll hE m
    have l5 := lv5 hE (lv6 hE (lv7 hE ih.2))
    have l3 := lv3 hE l5 ih.1
    exact ⟨l3, lv1 hE (lv2 hE l3)⟩
end TRdp
