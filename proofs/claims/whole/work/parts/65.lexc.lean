/-! ===== topic: the class's lexer: numbers, signs, advance ===== -/
section TLexc
variable {E : zE} {d : Nat} {h : zH}
theorem nuV_r {B : Nat → Int} {p : Nat} : ∀ k, (∀ j, j < k → 48 ≤ B (p + j)) → 0 ≤ nuV B p k ∧ nuV B p k ≤ 999999
  | 0, _ => by unfold nuV; omega
  | k + 1, hh => by
    have ih := nuV_r k (fun j hj => hh j (by omega))
    have := hh k (by omega)
    unfold nuV
    omega
theorem X1_takeNumber (hE : isC E) {B : Nat → Int} {n p : Nat} (t : TxC h B n) (hp : p < n) (e3 : h 3 3 = (p : Int)) (e6 : h 3 6 = 0) {K : zH → Prop}
    (hK : ∀ h', frX h h' → h' 3 5 = h 3 5 → h' 3 3 = (seB isDg B n p : Int) → h' 3 4 = 3 → h' 3 6 = nuV B p (seB isDg B n p - p) → K h') : zCV E mX1_takeNumber d [zR 3] h K := by
  have h900 := t.2.2.1
  generalize he : seB isDg B n p = e at hK
  have loop : ∀ (m k : Nat), p + k + m = n → seB isDg B n (p + k) = e → (∀ j, j < k → 48 ≤ B (p + j)) → ∀ h1 : zH, frX h h1 → h1 3 5 = h 3 5 → h1 3 3 = ((p + k : Nat) : Int) → h1 3 4 = 3 → h1 3 6 = nuV B p k → zG E mX1_takeNumber d 5 [zR 3] [] h1 (qV K) := by
    intro m
    induction m with
    | zero =>
      intro k hk hs hl h1 fr1 g5 g3 g4 g6
      have t1 := t.mv fr1
      have e0 : e = p + k := by rw [← hs]; exact seB_no (by omega)
      refine bX1_takeNumber_5 hE ⟨fun _ => hK h1 fr1 g5 (by rw [e0]; exact g3) g4 (by rw [e0, show p + k - p = k by omega]; exact g6), fun c => absurd (by rw [t1.2.1, g3]; omega) c⟩
    | succ m ih =>
      intro k hk hs hl h1 fr1 g5 g3 g4 g6
      have t1 := t.mv fr1
      have hB := t1.2.2.2.1 (p + k) (by omega)
      have nr := nuV_r (B := B) (p := p) k hl
      refine bX1_takeNumber_5 hE ⟨fun c => absurd c (by rw [t1.2.1, g3]; omega), fun _ => ?_⟩
      rw [g3, Int.toNat_natCast, hB.1, g6]
      have stop : ¬ (48 ≤ B (p + k) ∧ B (p + k) ≤ 57) → K h1 := by
        intro q
        have e0 : e = p + k := by
          rw [← hs]
          refine seB_no (fun z => q ?_)
          have := z.2
          unfold isDg at this
          exact of_decide_eq_true this
        exact hK h1 fr1 g5 (by rw [e0]; exact g3) g4 (by rw [e0, show p + k - p = k by omega]; exact g6)
      have b9 : (0 : Int) ≤ ((p + k : Nat) : Int) ∧ ((p + k : Nat) : Int) < 900 := nat_in (n := 900) (by omega)
      refine ⟨t1.1, b9, fun c => stop (by omega), fun c => ⟨t1.1, b9, fun c2 => stop (by omega), fun c2 => ⟨t1.1, b9, fun h4 e4 => ?_⟩⟩⟩
      have hlk : 48 ≤ B (p + k) ∧ B (p + k) ≤ 57 := by omega
      have hs2 : seB isDg B n (p + (k + 1)) = e := by
        rw [← hs]
        exact (seB_go (p := p + k) (by omega) (by unfold isDg; exact decide_eq_true hlk)).symm
      have hl2 : ∀ j, j < k + 1 → 48 ≤ B (p + j) := fun j hj => by
        by_cases z : j = k
        · subst z; exact hlk.1
        · exact hl j (by omega)
      rw [w32i (x := nuV B p k * 10) (by omega) (by omega), w32i (x := B (p + k) - 48) (by omega) (by omega), w32i (by omega) (by omega)] at e4
      have q6 : h4 3 6 = nuV B p k * 10 + (B (p + k) - 48) := by rw [e4, hset_eq]
      have q3 : h4 3 3 = ((p + k : Nat) : Int) := by rw [e4, hset_ne (by omega)]; exact g3
      have ew : w32 (((p + k : Nat) : Int) + 1) = ((p + (k + 1) : Nat) : Int) := w_suc (by omega)
      have ev : nuV B p (k + 1) = min 999999 (nuV B p k * 10 + (B (p + k) - 48)) := rfl
      have fr4 : frX h h4 := by rw [e4]; exact fr1.set (by omega)
      rw [q6]
      refine ⟨fun c3 h6 e6' => ?_, fun c3 h7 e7 h8 e8 => ?_⟩
      · rw [q3, ew] at e6'
        exact ih (k + 1) (by omega) hs2 hl2 h6 (by rw [e6']; exact fr4.set (by omega)) (by rw [e6', hset_ne (by omega), e4, hset_ne (by omega)]; exact g5) (by rw [e6', hset_eq]) (by rw [e6', hset_ne (by omega), e4, hset_ne (by omega)]; exact g4) (by rw [e6', hset_ne (by omega), q6, ev]; omega)
      · have q7 : h7 3 3 = ((p + k : Nat) : Int) := by rw [e7, hset_ne (by omega)]; exact q3
        rw [q7, ew] at e8
        exact ih (k + 1) (by omega) hs2 hl2 h8 (by rw [e8, e7]; exact (fr4.set (by omega)).set (by omega)) (by rw [e8, hset_ne (by omega), e7, hset_ne (by omega), e4, hset_ne (by omega)]; exact g5) (by rw [e8, hset_eq]) (by rw [e8, hset_ne (by omega), e7, hset_ne (by omega), e4, hset_ne (by omega)]; exact g4) (by rw [e8, hset_ne (by omega), e7, hset_eq, ev]; omega)
  refine eX1_takeNumber hE (fun h1 e1 => ?_)
  exact loop (n - p) 0 (by omega) he (fun j hj => absurd hj (by omega)) h1 (by rw [e1]; exact (frX.rf h).set (by omega)) (by rw [e1, hset_ne (by omega)]) (by rw [e1, hset_ne (by omega)]; exact e3) (by rw [e1, hset_eq]) (by rw [e1, hset_ne (by omega)]; exact e6)
theorem X1_takeSign (hE : isC E) {B : Nat → Int} {n p : Nat} (t : TxC h B n) (hp : p < n) (e3 : h 3 3 = ((p + 1 : Nat) : Int)) {c : Int} {K : zH → Prop}
    (hK : ∀ h', frX h h' → h' 3 5 = h 3 5 → h' 3 6 = h 3 6 → h' 3 4 = sgK c (nxB B n (p + 1)) → h' 3 3 = ((if sgK c (nxB B n (p + 1)) = 12 ∨ sgK c (nxB B n (p + 1)) = 14 ∨ sgK c (nxB B n (p + 1)) = 15 then p + 2 else p + 1 : Nat) : Int) → K h') : zCV E mX1_takeSign d [zR 3, zI c] h K := by
  have h900 := t.2.2.1
  have go : ∀ s0 : Int, s0 = nxB B n (p + 1) → zG E mX1_takeSign d 25 [zR 3, zI c, zU] [zI s0] h (qV K) := by
    intro s0 es
    rw [← es] at hK
    have g258 : ∀ (k : Int) (h1 : zH), k = sgK c s0 → h1 = hset h 3 4 k → zG E mX1_takeSign d 258 [zR 3, zU, zU] [] h1 (qV K) := by
      intro k h1 ek e1
      have q4 : h1 3 4 = k := by rw [e1, hset_eq]
      have q3 : h1 3 3 = ((p + 1 : Nat) : Int) := by rw [e1, hset_ne (by omega)]; exact e3
      have fr1 : frX h h1 := by rw [e1]; exact (frX.rf h).set (by omega)
      rw [← ek] at hK
      have two : (k = 12 ∨ k = 14 ∨ k = 15) → ∀ h2 : zH, h2 = hset h1 3 3 (w32 (h1 3 3 + 1)) → K h2 := by
        intro z h2 e2
        rw [q3, w_suc (by omega)] at e2
        refine hK h2 (by rw [e2]; exact fr1.set (by omega)) (by rw [e2, hset_ne (by omega), e1, hset_ne (by omega)]) (by rw [e2, hset_ne (by omega), e1, hset_ne (by omega)]) (by rw [e2, hset_ne (by omega)]; exact q4) ?_
        rw [e2, hset_eq, if_pos z]
      refine bX1_takeSign_258 hE ?_
      rw [q4]
      refine ⟨fun z => two (Or.inl z), fun z1 => ⟨fun z => two (Or.inr (Or.inl z)), fun z2 => ⟨fun z => ?_, fun z => two (Or.inr (Or.inr (Decidable.not_not.mp z)))⟩⟩⟩
      refine hK h1 fr1 (by rw [e1, hset_ne (by omega)]) (by rw [e1, hset_ne (by omega)]) q4 ?_
      rw [q3, if_neg (by omega)]
    refine bX1_takeSign_25 hE ⟨fun z h2 e2 => g258 _ h2 ?_ e2, fun z h2 e2 => g258 _ h2 ?_ e2, fun z h2 e2 => g258 _ h2 ?_ e2, fun z h2 e2 => g258 _ h2 ?_ e2, fun z h2 e2 => g258 _ h2 ?_ e2, fun z h2 e2 => g258 _ h2 ?_ e2, fun z h2 e2 => g258 _ h2 ?_ e2, fun z => ⟨fun z2 => ⟨fun z3 h2 e2 => g258 _ h2 ?_ e2, fun z3 h2 e2 => g258 _ h2 ?_ e2⟩, fun z2 h2 e2 => g258 _ h2 ?_ e2⟩, fun z h2 e2 => g258 _ h2 ?_ e2, fun z => ⟨fun z2 h2 e2 => g258 _ h2 ?_ e2, fun z2 h2 e2 => g258 _ h2 ?_ e2⟩, fun z => bX1_takeSign_253 hE (fun h2 e2 => g258 _ h2 ?_ e2)⟩
    · subst z; rfl
    · subst z; rfl
    · subst z; rfl
    · subst z; rfl
    · subst z; rfl
    · subst z; rfl
    · subst z; rfl
    · subst z; unfold sgK; rw [if_neg (by decide), if_neg (by decide), if_neg (by decide), if_neg (by decide), if_neg (by decide), if_neg (by decide), if_neg (by decide), if_pos rfl, if_neg z2, if_neg z3]
    · subst z; unfold sgK; rw [if_neg (by decide), if_neg (by decide), if_neg (by decide), if_neg (by decide), if_neg (by decide), if_neg (by decide), if_neg (by decide), if_pos rfl, if_neg z2, if_pos (Decidable.not_not.mp z3)]
    · subst z; unfold sgK; rw [if_neg (by decide), if_neg (by decide), if_neg (by decide), if_neg (by decide), if_neg (by decide), if_neg (by decide), if_neg (by decide), if_pos rfl, if_pos (Decidable.not_not.mp z2)]
    · subst z; rfl
    · subst z; unfold sgK; rw [if_neg (by decide), if_neg (by decide), if_neg (by decide), if_neg (by decide), if_neg (by decide), if_neg (by decide), if_neg (by decide), if_neg (by decide), if_neg (by decide), if_pos rfl, if_neg z2]
    · subst z; unfold sgK; rw [if_neg (by decide), if_neg (by decide), if_neg (by decide), if_neg (by decide), if_neg (by decide), if_neg (by decide), if_neg (by decide), if_neg (by decide), if_neg (by decide), if_pos rfl, if_pos (Decidable.not_not.mp z2)]
    · unfold sgK; rw [if_neg (by omega), if_neg (by omega), if_neg (by omega), if_neg (by omega), if_neg (by omega), if_neg (by omega), if_neg (by omega), if_neg (by omega), if_neg (by omega), if_neg (by omega)]
  refine eX1_takeSign hE ?_
  rw [t.2.1, e3, Int.toNat_natCast]
  refine ⟨fun z => go 32 ?_, fun z => ⟨t.1, nat_in (n := 900) (by omega), go _ ?_⟩⟩
  · unfold nxB; rw [if_neg (by omega)]
  · unfold nxB; rw [if_pos (by omega), (t.2.2.2.1 (p + 1) (by omega)).1]
theorem X1_advance (hE : isC E) {B : Nat → Int} {n q : Nat} (t : TxC h B n) (hq : q ≤ n) (e3 : h 3 3 = (q : Int)) {K : zH → Prop} (hK : ∀ h', frX h h' → LxC h' B n q → K h') : zCV E mX1_advance (d + 1) [zR 3] h K := by
  have h900 := t.2.2.1
  unfold LxC tkQ tkK tkV tkP at hK
  have sr := seB_r (P := isBl) (B := B) hq
  generalize he : seB isBl B n q = p at hK sr
  have fin : ∀ h1 : zH, frX h h1 → h1 3 3 = (p : Int) → zG E mX1_advance (d + 1) 52 [zR 3, zU] [] h1 (qV K) := by
    intro h1 fr1 g3
    refine bX1_advance_52 hE (fun h2 e2 h3 e3' => ?_)
    rw [g3] at e2
    have q3 : h3 3 3 = (p : Int) := by rw [e3', hset_ne (by omega), e2, hset_ne (by omega)]; exact g3
    have q5 : h3 3 5 = (p : Int) := by rw [e3', hset_ne (by omega), e2, hset_eq]
    have q6 : h3 3 6 = 0 := by rw [e3', hset_eq]
    have fr3 : frX h h3 := by rw [e3', e2]; exact (fr1.set (by omega)).set (by omega)
    have t3 := t.mv fr3
    rw [q3, t3.2.1, Int.toNat_natCast]
    refine ⟨fun c => ⟨t3.1, nat_in (n := 900) (by omega), fun x4 e4 => ?_⟩, fun c h8 e8 => ?_⟩
    · have hpn : p < n := by omega
      have hB := t3.2.2.2.1 p hpn
      rw [hB.1] at e4
      subst e4
      unfold t4Q t4K t4V at hK
      have np : ¬ n ≤ p := by omega
      rw [if_neg np, if_neg np, if_neg np] at hK
      have g111 : ¬ (97 ≤ B p ∧ B p ≤ 122) → zG E mX1_advance (d + 1) 111 [zR 3, zI (B p)] [] h3 (qV K) := by
        intro z
        have nl : ¬ isLe (B p) = true := by unfold isLe; rw [decide_eq_true_iff]; exact z
        rw [if_neg nl, if_neg nl, if_neg nl] at hK
        have sg : ¬ (48 ≤ B p ∧ B p ≤ 57) → ∀ h4 : zH, h4 = hset h3 3 3 (w32 (h3 3 3 + 1)) → zCV E mX1_takeSign d [zR 3, zI (B p)] h4 (fun h_3 => K h_3) := by
          intro z2 h4 e4
          have nd : ¬ isDg (B p) = true := by unfold isDg; rw [decide_eq_true_iff]; exact z2
          rw [if_neg nd, if_neg nd, if_neg nd] at hK
          rw [q3, w_suc (by omega)] at e4
          have fr4 : frX h h4 := by rw [e4]; exact fr3.set (by omega)
          refine X1_takeSign hE (t.mv fr4) hpn (by rw [e4, hset_eq]) (fun h5 fr5 g5 g6 g4 g33 => hK h5 (fr4.tr fr5) ⟨g33, g4, ?_, ?_⟩)
          · rw [g5, e4, hset_ne (by omega)]; exact q5
          · rw [g6, e4, hset_ne (by omega)]; exact q6
        refine bX1_advance_111 hE ⟨fun c2 => sg (by omega), fun c2 => ⟨fun c3 => sg (by omega), fun c3 => ?_⟩⟩
        have yd : isDg (B p) = true := by unfold isDg; exact decide_eq_true (by omega)
        rw [if_pos yd, if_pos yd, if_pos yd] at hK
        exact X1_takeNumber hE t3 hpn q3 q6 (fun h5 fr5 g5 g33 g4 g6 => hK h5 (fr3.tr fr5) ⟨g33, g4, by rw [g5]; exact q5, g6⟩)
      refine ⟨fun c2 => g111 (by omega), fun c2 => ⟨fun c3 => g111 (by omega), fun c3 => ?_⟩⟩
      have yl : isLe (B p) = true := by unfold isLe; exact decide_eq_true (by omega)
      rw [if_pos yl, if_pos yl, if_pos yl] at hK
      exact X1_takeWord hE t3 hpn q3 (fun h5 fr5 g5 g33 g4 g6 => hK h5 (fr3.tr fr5) ⟨g33, g4, by rw [g5]; exact q5, g6⟩)
    · unfold t4Q t4K t4V at hK
      have np : n ≤ p := by omega
      rw [if_pos np, if_pos np, if_pos np] at hK
      exact hK h8 (by rw [e8]; exact fr3.set (by omega)) ⟨by rw [e8, hset_ne (by omega)]; exact q3, by rw [e8, hset_eq], by rw [e8, hset_ne (by omega)]; exact q5, by rw [e8, hset_ne (by omega)]; exact q6⟩
  have loop : ∀ (m k : Nat), k + m = n → seB isBl B n k = p → ∀ h1 : zH, frX h h1 → h1 3 3 = (k : Int) → zG E mX1_advance (d + 1) 0 [zR 3, zU] [] h1 (qV K) := by
    intro m
    induction m with
    | zero =>
      intro k hk hs h1 fr1 g3
      have t1 := t.mv fr1
      have e0 : p = k := by rw [← hs]; exact seB_no (by omega)
      exact bX1_advance_0 hE ⟨fun _ => fin h1 fr1 (by rw [e0]; exact g3), fun c => absurd (by rw [t1.2.1, g3]; omega) c⟩
    | succ m ih =>
      intro k hk hs h1 fr1 g3
      have t1 := t.mv fr1
      have hB := t1.2.2.2.1 k (by omega)
      have b9 : (0 : Int) ≤ (k : Int) ∧ (k : Int) < 900 := nat_in (n := 900) (by omega)
      refine bX1_advance_0 hE ⟨fun c => absurd c (by rw [t1.2.1, g3]; omega), fun _ => ?_⟩
      rw [g3, Int.toNat_natCast, hB.1]
      have go : (B k = 32 ∨ B k = 10) → ∀ h2 : zH, h2 = hset h1 3 3 (w32 ((k : Int) + 1)) → zG E mX1_advance (d + 1) 0 [zR 3, zU] [] h2 (qV K) := by
        intro z h2 e2
        rw [w_suc (by omega)] at e2
        refine ih (k + 1) (by omega) ?_ h2 (by rw [e2]; exact fr1.set (by omega)) (by rw [e2, hset_eq])
        rw [← hs]
        exact (seB_go (p := k) (by omega) (by unfold isBl; exact decide_eq_true z)).symm
      refine ⟨t1.1, b9, fun c => go (Or.inl c), fun c => ⟨t1.1, b9, fun c2 => ?_, fun c2 => go (Or.inr (Decidable.not_not.mp c2))⟩⟩
      have e0 : p = k := by
        rw [← hs]
        refine seB_no (fun z => ?_)
        have := z.2
        unfold isBl at this
        rw [decide_eq_true_iff] at this
        omega
      exact fin h1 fr1 (by rw [e0]; exact g3)
  exact eX1_advance hE (loop (n - q) q (by omega) he h (frX.rf h) e3)
end TLexc
