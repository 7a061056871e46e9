/-! ===== topic: the reference's rule, level by level ===== -/
section TRdl
variable {E : zE} {B : Nat → Int} {n : Nat}
theorem np7 (hE : isR E) : NpP E mX10_primary 5 := fun h d K hd e hK => by
  obtain ⟨d', rfl⟩ : ∃ d', d = d' + 1 := ⟨d - 1, by omega⟩
  exact nop7 hE e hK
theorem np6 (hE : isR E) : NpP E mX10_product 6 := fun h d K hd e hK => by
  obtain ⟨d', rfl⟩ : ∃ d', d = d' + 2 := ⟨d - 2, by omega⟩
  exact nop6 hE e hK
theorem np5 (hE : isR E) : NpP E mX10_sum 7 := fun h d K hd e hK => by
  obtain ⟨d', rfl⟩ : ∃ d', d = d' + 3 := ⟨d - 3, by omega⟩
  exact nop5 hE e hK
theorem np3a (hE : isR E) : NpP E mX10_negation 4 := fun h d K hd e hK => by
  obtain ⟨d', rfl⟩ : ∃ d', d = d' + 4 := ⟨d - 4, by omega⟩
  exact nop3 hE e hK
theorem np3 (hE : isR E) : NpP E mX10_negation 8 := fun h d K hd e hK => np3a hE h d K (by omega) e hK
theorem np2 (hE : isR E) : NpP E mX10_conjunction 9 := fun h d K hd e hK => by
  obtain ⟨d', rfl⟩ : ∃ d', d = d' + 5 := ⟨d - 5, by omega⟩
  exact nop2 hE e hK
theorem app1 (P W : List Int) (k : Int) : (P ++ [k]) ++ W = P ++ k :: W := by rw [List.append_assoc]; rfl
theorem mem1 {P : List Int} {k : Int} {L L2 : Int} (hP : ∀ x, x ∈ P → L2 ≤ rnk x) (hL : L ≤ L2) (hk : L ≤ rnk k) : ∀ x, x ∈ P ++ [k] → L ≤ rnk x := by
  intro x hx
  rcases List.mem_append.mp hx with z | z
  · have := hP x z
    omega
  · rw [List.mem_singleton.mp z]; exact hk
theorem sgE_V {k : Int} (h1 : 4 ≤ k) (h2 : k ≤ 16) : sgE k = sgV k := by
  unfold sgE
  have n1 : ¬ k = 34 := by omega
  have n2 : ¬ k = 32 := by omega
  have n3 : ¬ k = 33 := by omega
  rw [if_neg n1, if_neg n2, if_neg n3]
theorem AtR.sg {h : zH} {q : Nat} (a : AtR h B n q) (h1 : 4 ≤ tkK B n q) (h2 : tkK B n q ≤ 16) : sgE (tkK B n q) = h 0 48 := by
  have sk := a.sk
  unfold skR at sk
  rw [sgE_V h1 h2]
  omega
theorem rnk_4 {k : Int} : rnk k = 4 ↔ 11 ≤ k ∧ k ≤ 16 := by
  unfold rnk
  repeat' split
  all_goals constructor
  all_goals omega
theorem rnk_6 {k : Int} (hk : k = 9 ∨ k = 10) : rnk k = 6 := by rcases hk with z | z <;> rw [z] <;> decide
theorem rnk_5 {k : Int} (hk : k = 7 ∨ k = 8) : rnk k = 5 := by rcases hk with z | z <;> rw [z] <;> decide
theorem bI_e {p : Prop} [Decidable p] (z : ¬ (bI p = 0)) : p := by rwa [bI_n] at z
theorem bI_ne {p : Prop} [Decidable p] (z : bI p = 0) : ¬ p := by rwa [bI_0] at z
theorem lv6 (hE : isR E) {m : Nat} (sub : LvP E B n mX10_primary 7 5 m) : LvP E B n mX10_product 6 6 m := by
  intro q W O op kn h K d hm hd st iv pre rk
  obtain ⟨d', rfl⟩ : ∃ d', d = d' + 1 := ⟨d - 1, by omega⟩
  have tw : tpR W < 6 := by have := pre.1; omega
  have loop : ∀ (f q' : Nat) (P : List Int) (O1 : zO) (kn' : Nat) (h' : zH), n - q' < f → q < q' → kn ≤ kn' → frGr h h' → yRes B n (q, true, W, O, op, kn) = yRes B n (q', false, P ++ W, O1, op, kn') → RtR h' B n q' (O1 ++ pO P) op kn' → (∀ k, k ∈ P → 6 ≤ rnk k) → pst B n 7 q' (P ++ W) O1 → yInv (q', false, P ++ W, O1, op, kn') → zG E mX10_product (d' + 1) 4 [zR 0, zU] [] h' (qV K) := by
    intro f
    induction f with
    | zero => intro q' P O1 kn' h' hf; exact absurd hf (Nat.not_lt_zero _)
    | succ f ih =>
      intro q' P O1 kn' h' hf hq' hkn fr er st' hP ps iv'
      have step : ∀ x : Int, tkK B n q' = 9 ∨ tkK B n q' = 10 → sgE (tkK B n q') = x → zCV E mX10_knot d' [zR 0] h' (fun h2 => zCV E mX10_goOn d' [zR 0] h2 (fun h3 => zCV E mX10_primary d' [zR 0] h3 (fun h4 => zCV E mX10_puts d' [zR 0, zI 2, zI x] h4 (fun h5 => zG E mX10_product (d' + 1) 4 [zR 0, zU] [] h5 (qV K))))) := by
        intro x hk hx
        have rr : rnk (tkK B n q') = 6 := rnk_6 hk
        refine rd_bin hE (by omega) sub (np7 hE) (q := q') (P := P) (W := W) (O := O1) (op := op) (kn := kn') (k := tkK B n q') rfl (by omega) (by omega) (fun x hx => by have := hP x hx; omega) (fun z => by omega) (by omega) (by omega) (by omega) (fun _ => by omega) hx st' iv' (by omega) (by omega) (fun f h2 ef fr2 fl => nop6l hE fl.ne (rk.1 f h2 (er.trans ef) (fr.tr fr2) fl)) (fun q2 P2 O2 kn2 h2 er2 hq2 hkn2 fr2 st2 hP2 ps2 iv2 => ?_)
        exact ih q2 (P2 ++ [tkK B n q']) O2 kn2 h2 (by have := st2.1.2.2.1; omega) (by omega) (by omega) (fr.tr fr2) (by rw [app1]; exact er.trans er2) st2 (mem1 hP2 (by omega) (by omega)) (by rw [app1]; exact ps2) (by rw [app1]; exact iv2)
      have go : tkK B n q' = 9 ∨ tkK B n q' = 10 → zG E mX10_product (d' + 1) 22 [zR 0, zU] [] h' (qV K) := fun hk => bX10_product_22 hE (fun x ex => step x hk (by rw [ex]; exact st'.1.sg (by omega) (by omega)))
      refine bX10_product_4 hE (R_sign hE st'.1 (kk := 9) (by decide) (by decide) (by decide) ⟨fun c => go (Or.inl (bI_e c)), fun c => R_sign hE st'.1 (kk := 10) (by decide) (by decide) (by decide) ⟨fun c2 => ?_, fun c2 => go (Or.inr (bI_e c2))⟩⟩)
      have c' := bI_ne (Decidable.not_not.mp c)
      have c2' := bI_ne c2
      exact rk.2 q' P O1 kn' h' er hq' hkn fr st' hP ⟨fun _ => ⟨c', c2'⟩, fun z => absurd z (by decide), fun z => absurd z (by decide), fun z => absurd z (by decide), fun z => absurd z (by decide)⟩ iv'
  refine eX10_product hE (sub q W O op kn h _ d' hm (by omega) st iv ⟨Or.inl (by omega), fun _ => pre.2 (by decide)⟩ ⟨fun f h' ef fr fl => nop6l hE fl.ne (rk.1 f h' ef fr fl), fun q' P O1 kn' h' er hq' hkn fr st' hP ps iv' => loop (n + 1) q' P O1 kn' h' (by omega) hq' hkn fr er st' (fun k hk => by have := hP k hk; omega) ps iv'⟩)
theorem lv5 (hE : isR E) {m : Nat} (sub : LvP E B n mX10_product 6 6 m) : LvP E B n mX10_sum 5 7 m := by
  intro q W O op kn h K d hm hd st iv pre rk
  obtain ⟨d', rfl⟩ : ∃ d', d = d' + 1 := ⟨d - 1, by omega⟩
  have tw : tpR W < 5 := by have := pre.1; omega
  have loop : ∀ (f q' : Nat) (P : List Int) (O1 : zO) (kn' : Nat) (h' : zH), n - q' < f → q < q' → kn ≤ kn' → frGr h h' → yRes B n (q, true, W, O, op, kn) = yRes B n (q', false, P ++ W, O1, op, kn') → RtR h' B n q' (O1 ++ pO P) op kn' → (∀ k, k ∈ P → 5 ≤ rnk k) → pst B n 6 q' (P ++ W) O1 → yInv (q', false, P ++ W, O1, op, kn') → zG E mX10_sum (d' + 1) 4 [zR 0, zU] [] h' (qV K) := by
    intro f
    induction f with
    | zero => intro q' P O1 kn' h' hf; exact absurd hf (Nat.not_lt_zero _)
    | succ f ih =>
      intro q' P O1 kn' h' hf hq' hkn fr er st' hP ps iv'
      have step : ∀ x : Int, tkK B n q' = 7 ∨ tkK B n q' = 8 → sgE (tkK B n q') = x → zCV E mX10_knot d' [zR 0] h' (fun h2 => zCV E mX10_goOn d' [zR 0] h2 (fun h3 => zCV E mX10_product d' [zR 0] h3 (fun h4 => zCV E mX10_puts d' [zR 0, zI 2, zI x] h4 (fun h5 => zG E mX10_sum (d' + 1) 4 [zR 0, zU] [] h5 (qV K))))) := by
        intro x hk hx
        have rr : rnk (tkK B n q') = 5 := rnk_5 hk
        refine rd_bin hE (by omega) sub (np6 hE) (q := q') (P := P) (W := W) (O := O1) (op := op) (kn := kn') (k := tkK B n q') rfl (by omega) (by omega) (fun x hx => by have := hP x hx; omega) (fun z => by omega) (by omega) (by omega) (by omega) (fun _ => by omega) hx st' iv' (by omega) (by omega) (fun f h2 ef fr2 fl => nop5l hE fl.ne (rk.1 f h2 (er.trans ef) (fr.tr fr2) fl)) (fun q2 P2 O2 kn2 h2 er2 hq2 hkn2 fr2 st2 hP2 ps2 iv2 => ?_)
        exact ih q2 (P2 ++ [tkK B n q']) O2 kn2 h2 (by have := st2.1.2.2.1; omega) (by omega) (by omega) (fr.tr fr2) (by rw [app1]; exact er.trans er2) st2 (mem1 hP2 (by omega) (by omega)) (by rw [app1]; exact ps2) (by rw [app1]; exact iv2)
      have go : tkK B n q' = 7 ∨ tkK B n q' = 8 → zG E mX10_sum (d' + 1) 22 [zR 0, zU] [] h' (qV K) := fun hk => bX10_sum_22 hE (fun x ex => step x hk (by rw [ex]; exact st'.1.sg (by omega) (by omega)))
      refine bX10_sum_4 hE (R_sign hE st'.1 (kk := 7) (by decide) (by decide) (by decide) ⟨fun c => go (Or.inl (bI_e c)), fun c => R_sign hE st'.1 (kk := 8) (by decide) (by decide) (by decide) ⟨fun c2 => ?_, fun c2 => go (Or.inr (bI_e c2))⟩⟩)
      have c' := bI_ne (Decidable.not_not.mp c)
      have c2' := bI_ne c2
      exact rk.2 q' P O1 kn' h' er hq' hkn fr st' hP ⟨fun _ => ps.1 (by decide), fun _ => ⟨c', c2'⟩, fun z => absurd z (by decide), fun z => absurd z (by decide), fun z => absurd z (by decide)⟩ iv'
  refine eX10_sum hE (sub q W O op kn h _ d' hm (by omega) st iv ⟨Or.inl (by omega), fun _ => pre.2 (by decide)⟩ ⟨fun f h' ef fr fl => nop5l hE fl.ne (rk.1 f h' ef fr fl), fun q' P O1 kn' h' er hq' hkn fr st' hP ps iv' => loop (n + 1) q' P O1 kn' h' (by omega) hq' hkn fr er st' (fun k hk => by have := hP k hk; omega) ps iv'⟩)
theorem lv2 (hE : isR E) {m : Nat} (sub : LvP E B n mX10_negation 3 8 m) : LvP E B n mX10_conjunction 2 9 m := by
  intro q W O op kn h K d hm hd st iv pre rk
  obtain ⟨d', rfl⟩ : ∃ d', d = d' + 1 := ⟨d - 1, by omega⟩
  have tw : tpR W < 2 := by have := pre.1; omega
  have loop : ∀ (f q' : Nat) (P : List Int) (O1 : zO) (kn' : Nat) (h' : zH), n - q' < f → q < q' → kn ≤ kn' → frGr h h' → yRes B n (q, true, W, O, op, kn) = yRes B n (q', false, P ++ W, O1, op, kn') → RtR h' B n q' (O1 ++ pO P) op kn' → (∀ k, k ∈ P → 2 ≤ rnk k) → pst B n 3 q' (P ++ W) O1 → yInv (q', false, P ++ W, O1, op, kn') → zG E mX10_conjunction (d' + 1) 4 [zR 0] [] h' (qV K) := by
    intro f
    induction f with
    | zero => intro q' P O1 kn' h' hf; exact absurd hf (Nat.not_lt_zero _)
    | succ f ih =>
      intro q' P O1 kn' h' hf hq' hkn fr er st' hP ps iv'
      have step : ∀ x : Int, tkK B n q' = 33 → sgE (tkK B n q') = x → zCV E mX10_knot d' [zR 0] h' (fun h2 => zCV E mX10_goOn d' [zR 0] h2 (fun h3 => zCV E mX10_negation d' [zR 0] h3 (fun h4 => zCV E mX10_puts d' [zR 0, zI 2, zI x] h4 (fun h5 => zG E mX10_conjunction (d' + 1) 4 [zR 0] [] h5 (qV K))))) := by
        intro x hk hx
        have rr : rnk (tkK B n q') = 2 := by rw [hk]; decide
        refine rd_bin hE (by omega) sub (np3 hE) (q := q') (P := P) (W := W) (O := O1) (op := op) (kn := kn') (k := tkK B n q') rfl (by omega) (by omega) (fun x hx => by have := hP x hx; omega) (fun z => by omega) (by omega) (by omega) (by omega) (fun _ => by omega) hx st' iv' (by omega) (by omega) (fun f h2 ef fr2 fl => nop2l hE fl.ne (rk.1 f h2 (er.trans ef) (fr.tr fr2) fl)) (fun q2 P2 O2 kn2 h2 er2 hq2 hkn2 fr2 st2 hP2 ps2 iv2 => ?_)
        exact ih q2 (P2 ++ [tkK B n q']) O2 kn2 h2 (by have := st2.1.2.2.1; omega) (by omega) (by omega) (fr.tr fr2) (by rw [app1]; exact er.trans er2) st2 (mem1 hP2 (by omega) (by omega)) (by rw [app1]; exact ps2) (by rw [app1]; exact iv2)
      refine bX10_conjunction_4 hE (R_word hE st'.1 (i := 13) (by decide) (by decide) rfl ⟨fun c => ?_, fun c => step 261 (bI_e c) (by rw [bI_e c]; decide)⟩)
      have c2' := bI_ne c
      exact rk.2 q' P O1 kn' h' er hq' hkn fr st' hP ⟨fun _ => ps.1 (by decide), fun _ => ps.2.1 (by decide), fun _ => ps.2.2.1 (by decide), fun _ => c2', fun z => absurd z (by decide)⟩ iv'
  refine eX10_conjunction hE (sub q W O op kn h _ d' hm (by omega) st iv ⟨Or.inl (by omega), fun z => absurd z (by decide)⟩ ⟨fun f h' ef fr fl => nop2l hE fl.ne (rk.1 f h' ef fr fl), fun q' P O1 kn' h' er hq' hkn fr st' hP ps iv' => loop (n + 1) q' P O1 kn' h' (by omega) hq' hkn fr er st' (fun k hk => by have := hP k hk; omega) ps iv'⟩)
theorem lv1 (hE : isR E) {m : Nat} (sub : LvP E B n mX10_conjunction 2 9 m) : LvP E B n mX10_expression 1 10 m := by
  intro q W O op kn h K d hm hd st iv pre rk
  obtain ⟨d', rfl⟩ : ∃ d', d = d' + 1 := ⟨d - 1, by omega⟩
  have tw : tpR W < 1 := by have := pre.1; omega
  have loop : ∀ (f q' : Nat) (P : List Int) (O1 : zO) (kn' : Nat) (h' : zH), n - q' < f → q < q' → kn ≤ kn' → frGr h h' → yRes B n (q, true, W, O, op, kn) = yRes B n (q', false, P ++ W, O1, op, kn') → RtR h' B n q' (O1 ++ pO P) op kn' → (∀ k, k ∈ P → 1 ≤ rnk k) → pst B n 2 q' (P ++ W) O1 → yInv (q', false, P ++ W, O1, op, kn') → zG E mX10_expression (d' + 1) 4 [zR 0] [] h' (qV K) := by
    intro f
    induction f with
    | zero => intro q' P O1 kn' h' hf; exact absurd hf (Nat.not_lt_zero _)
    | succ f ih =>
      intro q' P O1 kn' h' hf hq' hkn fr er st' hP ps iv'
      have step : ∀ x : Int, tkK B n q' = 32 → sgE (tkK B n q') = x → zCV E mX10_knot d' [zR 0] h' (fun h2 => zCV E mX10_goOn d' [zR 0] h2 (fun h3 => zCV E mX10_conjunction d' [zR 0] h3 (fun h4 => zCV E mX10_puts d' [zR 0, zI 2, zI x] h4 (fun h5 => zG E mX10_expression (d' + 1) 4 [zR 0] [] h5 (qV K))))) := by
        intro x hk hx
        have rr : rnk (tkK B n q') = 1 := by rw [hk]; decide
        refine rd_bin hE (by omega) sub (np2 hE) (q := q') (P := P) (W := W) (O := O1) (op := op) (kn := kn') (k := tkK B n q') rfl (by omega) (by omega) (fun x hx => by have := hP x hx; omega) (fun z => by omega) (by omega) (by omega) (by omega) (fun _ => by omega) hx st' iv' (by omega) (by omega) (fun f h2 ef fr2 fl => nop1l hE fl.ne (rk.1 f h2 (er.trans ef) (fr.tr fr2) fl)) (fun q2 P2 O2 kn2 h2 er2 hq2 hkn2 fr2 st2 hP2 ps2 iv2 => ?_)
        exact ih q2 (P2 ++ [tkK B n q']) O2 kn2 h2 (by have := st2.1.2.2.1; omega) (by omega) (by omega) (fr.tr fr2) (by rw [app1]; exact er.trans er2) st2 (mem1 hP2 (by omega) (by omega)) (by rw [app1]; exact ps2) (by rw [app1]; exact iv2)
      refine bX10_expression_4 hE (R_word hE st'.1 (i := 12) (by decide) (by decide) rfl ⟨fun c => ?_, fun c => step 262 (bI_e c) (by rw [bI_e c]; decide)⟩)
      have c2' := bI_ne c
      exact rk.2 q' P O1 kn' h' er hq' hkn fr st' hP ⟨fun _ => ps.1 (by decide), fun _ => ps.2.1 (by decide), fun _ => ps.2.2.1 (by decide), fun _ => ps.2.2.2.1 (by decide), fun _ => c2'⟩ iv'
  refine eX10_expression hE (sub q W O op kn h _ d' hm (by omega) st iv ⟨Or.inl (by omega), fun z => absurd z (by decide)⟩ ⟨fun f h' ef fr fl => nop1l hE fl.ne (rk.1 f h' ef fr fl), fun q' P O1 kn' h' er hq' hkn fr st' hP ps iv' => loop (n + 1) q' P O1 kn' h' (by omega) hq' hkn fr er st' (fun k hk => by have := hP k hk; omega) ps iv'⟩)
theorem sgV_c {k : Int} (h1 : 4 ≤ k) (h2 : k ≤ 16) : (sgV k = 60 ∨ sgV k = 62 ∨ sgV k = 61 ∨ 256 ≤ sgV k) ↔ 11 ≤ k := by
  have cs : k = 4 ∨ k = 5 ∨ k = 6 ∨ k = 7 ∨ k = 8 ∨ k = 9 ∨ k = 10 ∨ k = 11 ∨ k = 12 ∨ k = 13 ∨ k = 14 ∨ k = 15 ∨ k = 16 := by omega
  rcases cs with c | c | c | c | c | c | c | c | c | c | c | c | c <;> subst c <;> decide
theorem lv3 (hE : isR E) {m : Nat} (sub : LvP E B n mX10_sum 5 7 (m + 1)) (self : LvP E B n mX10_negation 3 8 m) : LvP E B n mX10_negation 3 8 (m + 1) := by
  intro q W O op kn h K d hm hd st iv pre rk
  obtain ⟨d', rfl⟩ : ∃ d', d = d' + 4 := ⟨d - 4, by omega⟩
  have tw : tpR W ≤ 3 := by have := pre.1; omega
  have hq := st.1.2.2.1
  refine eX10_negation (d := d' + 3) hE (R_word hE st.1 (i := 14) (by decide) (by decide) rfl ⟨fun c => ?_, fun c => ?_⟩)
  · have c34 : ¬ tkK B n q = 34 := bI_ne c
    refine sub q W O op kn h _ (d' + 3) hm (by omega) st iv ⟨Or.inl (by omega), fun _ => Or.inl c34⟩ ⟨fun f h' ef fr fl => ⟨fun _ => rk.1 f h' ef fr fl, fun z => absurd fl.ne z⟩, fun q' P O1 kn' h' er hq' hkn fr st' hP ps iv' => ?_⟩
    have sk := st'.1.sk
    unfold skR at sk
    have done : ¬ (11 ≤ tkK B n q' ∧ tkK B n q' ≤ 16) → K h' := fun z => rk.2 q' P O1 kn' h' er hq' hkn fr st' (fun k hk => by have := hP k hk; omega) ⟨fun _ => ps.1 (by decide), fun _ => ps.2.1 (by decide), fun _ y => absurd (rnk_4.mp y) z, fun z => absurd z (by decide), fun z => absurd z (by decide)⟩ iv'
    have go : 11 ≤ tkK B n q' ∧ tkK B n q' ≤ 16 → zG E mX10_negation (d' + 4) 87 [zR 0, zU] [] h' (qV K) := by
      intro z
      have r4 := rnk_4.mpr z
      refine bX10_negation_87 (d := d' + 3) hE (fun x ex => rd_bin hE (by omega) sub (np5 hE) (q := q') (P := P) (W := W) (O := O1) (op := op) (kn := kn') (k := tkK B n q') rfl (by omega) (by omega) (fun x hx => by have := hP x hx; omega) (fun _ => hP) (by omega) (by omega) (by omega) (fun _ => by omega) (by rw [ex]; exact st'.1.sg (by omega) (by omega)) st' iv' (by omega) (by omega) (fun f h2 ef fr2 fl => rk.1 f h2 (er.trans ef) (fr.tr fr2) fl) (fun q2 P2 O2 kn2 h2 er2 hq2 hkn2 fr2 st2 hP2 ps2 iv2 => ?_))
      refine rk.2 q2 (P2 ++ [tkK B n q']) O2 kn2 h2 (by rw [app1]; exact er.trans er2) (by omega) (by omega) (fr.tr fr2) st2 (mem1 hP2 (by decide) (by omega)) ⟨fun _ => ps2.1 (by decide), fun _ => ps2.2.1 (by decide), fun _ _ => ?_, fun z => absurd z (by decide), fun z => absurd z (by decide)⟩ (by rw [app1]; exact iv2)
      have t4 : tpR (tkK B n q' :: W) = 4 := r4
      rw [app1, sett_P P2 _ O2 hP2, sett_0 (by omega)]
      exact t4
    have g2 : h' 0 47 = 3 → (h' 0 48 = 60 ∨ h' 0 48 = 62 ∨ h' 0 48 = 61 ∨ 256 ≤ h' 0 48) → zG E mX10_negation (d' + 4) 87 [zR 0, zU] [] h' (qV K) := by
      intro e3 e
      have s1 : 4 ≤ tkK B n q' ∧ tkK B n q' ≤ 16 ∧ h' 0 48 = sgV (tkK B n q') := by omega
      rw [s1.2.2, sgV_c s1.1 s1.2.1] at e
      exact go ⟨e, s1.2.1⟩
    refine ⟨fun z => absurd st'.1.2.2.2.1 z, fun _ => ⟨fun z => done (by omega), fun z3 => ?_⟩⟩
    have e3 := Decidable.not_not.mp z3
    refine ⟨fun z => g2 e3 (Or.inl z), fun z60 => ⟨fun z => g2 e3 (Or.inr (Or.inl z)), fun z62 => ⟨fun z => g2 e3 (Or.inr (Or.inr (Or.inl z))), fun z61 => ⟨fun z => g2 e3 (Or.inr (Or.inr (Or.inr z))), fun z256 => done (fun y => ?_)⟩⟩⟩⟩
    have s1 : 4 ≤ tkK B n q' ∧ tkK B n q' ≤ 16 ∧ h' 0 48 = sgV (tkK B n q') := by omega
    have := (sgV_c s1.1 s1.2.1).mpr y.1
    rw [← s1.2.2] at this
    omega
  · have c34 : tkK B n q = 34 := bI_e c
    have i4 := iv.2.2.2.1
    dsimp only at i4
    have sb : yOp B n q W O op kn = if 64 ≤ kn then .inl (.inl (2, tkP B n q)) else .inr (tkQ B n q, true, 34 :: W, O, op, kn + 1) := by
      unfold yOp
      rw [c34]
      have n5 : ¬ (34 : Int) = 5 := by decide
      have n1 : ¬ (¬ ((34 : Int) = 34 ∧ tpR W ≤ 3) ∧ ¬ isOp 34) := fun z => z.1 ⟨rfl, tw⟩
      rw [if_neg n5, if_neg n1]
      by_cases z : 64 ≤ kn
      · rw [if_pos (Or.inl z), if_pos z]
      · have z2 : ¬ (64 ≤ kn ∨ ((34 : Int) = 3 ∧ 9999 < tkV B n q)) := by omega
        rw [if_neg z2, if_neg z, if_pos rfl]
    refine R_knot (d := d' + 2) hE st i4 (fun c64 h2 fr2 f2 => ?_) (fun c64 h2 fr2 st2 => ?_)
    · rw [if_pos c64] at sb
      have e2 := f2.ne
      exact R_goOn_f (d := d' + 2) hE e2 (np3a hE h2 _ _ (by omega) e2 (R_puts_f hE e2 (rk.1 _ h2 (yRes_l (yStep_t.trans sb)) fr2 f2)))
    · rw [if_neg c64] at sb
      have yr := yRes_r (s := (q, true, W, O, op, kn)) hq (yStep_t.trans sb)
      dsimp only at yr
      rw [yr.1] at rk
      have iv2 := yInv_op (fun j hj => (st.1.1.2.2 j hj).2) hq iv sb
      refine R_goOn (d := d') hE st2.1 (fun h3 fr3 a3 => ?_)
      have st3 := st2.tok fr3 a3
      have fr23 := fr2.tr (frGr.y fr3)
      have t3 : tpR (34 :: W) = 3 := by
        have : rnk 34 = 3 := by decide
        exact this
      refine self (tkQ B n q) (34 :: W) O op (kn + 1) h3 _ (d' + 3) (by omega) (by omega) st3 iv2 ⟨Or.inr ⟨rfl, by omega⟩, fun z => absurd z (by decide)⟩ ⟨fun f h4 ef fr4 f4 => R_puts_f hE f4.ne (rk.1 f h4 ef (fr23.tr fr4) f4), fun q2 P2 O2 kn2 h4 er hq2 hkn fr4 st4 hP2 ps iv4 => ?_⟩
      have il4 := iv4.ln
      have cs := cS_P (W := 34 :: W) P2 (fun x hx => by have := hP2 x hx; omega)
      have r34 : 1 ≤ rnk 34 := by decide
      have r34' : 3 ≤ rnk 34 := by decide
      have cs1 := (cS_sg (W := W) r34).1
      refine R_puts hE st4 (by rw [List.length_append, pO_l]; omega) (k := 34) (v := 0) (by decide) (by decide) (fun h5 fr5 st5 => rk.2 q2 (P2 ++ [34]) O2 kn2 h5 (by rw [app1]; exact er) (by omega) (by omega) (fr23.tr (fr4.tr fr5)) (by rw [pO_a, ← List.append_assoc]; exact st5) (mem1 hP2 (by decide) r34') ⟨fun _ => ps.1 (by decide), fun _ => ps.2.1 (by decide), fun _ => by rw [app1]; exact ps.2.2.1 (by decide), fun z => absurd z (by decide), fun z => absurd z (by decide)⟩ (by rw [app1]; exact iv4))
end TRdl
