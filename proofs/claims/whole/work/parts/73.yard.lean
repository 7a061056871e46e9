/-! ===== topic: the rule's machine (signs wait), and the class's reader of rules ===== -/
section TYard
variable {E : zE} {d : Nat} {h : zH} {K : Int → zH → Prop}
def rnk (k : Int) : Int := if k = 7 ∨ k = 8 then 5 else if k = 9 ∨ k = 10 then 6 else if 11 ≤ k ∧ k ≤ 16 then 4 else if k = 32 then 1 else if k = 33 then 2 else if k = 34 then 3 else 0
abbrev zO : Type := List (Int × Int)
def sett (r : Int) : List Int → zO → List Int × zO
  | [], O => ([], O)
  | k :: W, O => if rnk k < r then (k :: W, O) else sett r W (O ++ [(k, 0)])
abbrev isOp (k : Int) : Prop := k = 3 ∨ (35 ≤ k ∧ k ≤ 40)
def tpR (W : List Int) : Int := match W with
  | [] => 0
  | k :: _ => rnk k
/-- q, wants an operand, waiting signs, output, open brackets, knots -/
abbrev yS : Type := Nat × Bool × List Int × zO × Nat × Nat
def yOp (B : Nat → Int) (n q : Nat) (W : List Int) (O : zO) (op kn : Nat) : Sum (Sum pF (zO × Nat)) yS :=
  if tkK B n q = 5 then (if 8 ≤ op then .inl (.inl (2, tkP B n q)) else .inr (tkQ B n q, true, 5 :: W, O, op + 1, kn))
  else if ¬ (tkK B n q = 34 ∧ tpR W ≤ 3) ∧ ¬ isOp (tkK B n q) then .inl (.inl (1, tkP B n q))
  else if 64 ≤ kn ∨ (tkK B n q = 3 ∧ 9999 < tkV B n q) then .inl (.inl (2, tkP B n q))
  else if tkK B n q = 34 then .inr (tkQ B n q, true, 34 :: W, O, op, kn + 1)
  else .inr (tkQ B n q, false, W, O ++ [(tkK B n q, tkV B n q)], op, kn + 1)
def ySg (B : Nat → Int) (n q : Nat) (W : List Int) (O : zO) (op kn : Nat) : Sum (Sum pF (zO × Nat)) yS :=
  if tkK B n q = 6 ∧ 0 < op then .inr (tkQ B n q, false, (sett 1 W O).1.tail, (sett 1 W O).2, op - 1, kn)
  else if tkK B n q = 34 ∨ rnk (tkK B n q) = 0 then (if op = 0 then .inl (.inr ((sett 1 W O).2, q)) else .inl (.inl (1, tkP B n q)))
  else if rnk (tkK B n q) = 4 ∧ tpR (sett 5 W O).1 = 4 then .inl (.inl (1, tkP B n q))
  else if 64 ≤ kn then .inl (.inl (2, tkP B n q))
  else .inr (tkQ B n q, true, tkK B n q :: (sett (rnk (tkK B n q)) W O).1, (sett (rnk (tkK B n q)) W O).2, op, kn + 1)
def yStep (B : Nat → Int) (n : Nat) (s : yS) : Sum (Sum pF (zO × Nat)) yS := if s.2.1 = true then yOp B n s.1 s.2.2.1 s.2.2.2.1 s.2.2.2.2.1 s.2.2.2.2.2 else ySg B n s.1 s.2.2.1 s.2.2.2.1 s.2.2.2.2.1 s.2.2.2.2.2
def yRun (B : Nat → Int) (n : Nat) : Nat → yS → Sum pF (zO × Nat)
  | 0, _ => .inl (0, 0)
  | m + 1, s => match yStep B n s with
    | .inl r => r
    | .inr s' => yRun B n m s'
theorem sett_r (r : Int) : ∀ (W : List Int) (O : zO), ((sett r W O).1 = [] ∨ tpR (sett r W O).1 < r)
  | [], _ => Or.inl rfl
  | k :: W, O => by
    unfold sett
    split
    · rename_i c; exact Or.inr c
    · exact sett_r r W _
theorem sett_sett {r r' : Int} (hr : r ≤ r') : ∀ (W : List Int) (O : zO), sett r (sett r' W O).1 (sett r' W O).2 = sett r W O
  | [], _ => rfl
  | k :: W, O => by
    by_cases c : rnk k < r'
    · have e : sett r' (k :: W) O = (k :: W, O) := by unfold sett; rw [if_pos c]
      rw [e]
    · have e : sett r' (k :: W) O = sett r' W (O ++ [(k, 0)]) := by rw [sett, if_neg c]
      have e2 : sett r (k :: W) O = sett r W (O ++ [(k, 0)]) := by rw [sett, if_neg (by omega)]
      rw [e, e2]
      exact sett_sett hr W _
theorem rnk_r (k : Int) : 0 ≤ rnk k ∧ rnk k ≤ 6 := by
  unfold rnk
  repeat' split
  all_goals omega
/-! every step that goes on goes on along the text -/
theorem yStep_q {B : Nat → Int} {n : Nat} {s s' : yS} (hq : s.1 ≤ n) (e : yStep B n s = .inr s') : s'.1 = tkQ B n s.1 ∧ tkK B n s.1 ≠ 0 := by
  unfold yStep at e
  split at e
  · unfold yOp at e
    split at e
    · rename_i c
      split at e
      · cases e
      · cases e; exact ⟨rfl, by omega⟩
    · split at e
      · cases e
      · rename_i c2
        have nz : tkK B n s.1 ≠ 0 := by
          intro z
          apply c2
          rw [z]
          constructor
          · omega
          · unfold isOp; omega
        split at e
        · cases e
        · split at e
          · cases e; exact ⟨rfl, nz⟩
          · cases e; exact ⟨rfl, nz⟩
  · unfold ySg at e
    split at e
    · rename_i c
      cases e; exact ⟨rfl, by omega⟩
    · split at e
      · split at e
        · cases e
        · cases e
      · rename_i c2
        have nz : tkK B n s.1 ≠ 0 := by
          intro z
          apply c2
          right
          rw [z]
          decide
        split at e
        · cases e
        · split at e
          · cases e
          · cases e; exact ⟨rfl, nz⟩
theorem yRun_f {B : Nat → Int} {n : Nat} : ∀ (m m' : Nat) (s : yS), s.1 ≤ n → n - s.1 < m → n - s.1 < m' → yRun B n m s = yRun B n m' s
  | m + 1, m' + 1, s, hq, h1, h2 => by
    unfold yRun
    cases e : yStep B n s with
    | inl r => rfl
    | inr s' =>
      have q := yStep_q hq e
      have r := tkQ_r (B := B) hq
      have := r.2.2 q.2
      dsimp only
      exact yRun_f m m' s' (by rw [q.1]; exact r.2.1) (by rw [q.1]; omega) (by rw [q.1]; omega)
/-- the result from a state on -/
def yRes (B : Nat → Int) (n : Nat) (s : yS) : Sum pF (zO × Nat) := yRun B n (n - s.1 + 1) s
theorem yRes_l {B : Nat → Int} {n : Nat} {s : yS} {r : Sum pF (zO × Nat)} (e : yStep B n s = .inl r) : yRes B n s = r := by
  unfold yRes yRun
  rw [e]
theorem yRes_r {B : Nat → Int} {n : Nat} {s s' : yS} (hq : s.1 ≤ n) (e : yStep B n s = .inr s') : yRes B n s = yRes B n s' ∧ s'.1 ≤ n ∧ s.1 < s'.1 := by
  have q := yStep_q hq e
  have r := tkQ_r (B := B) hq
  have lt := r.2.2 q.2
  refine ⟨?_, by rw [q.1]; exact r.2.1, by rw [q.1]; exact lt⟩
  unfold yRes
  rw [yRun, e]
  dsimp only
  exact yRun_f _ _ s' (by rw [q.1]; exact r.2.1) (by rw [q.1]; omega) (by omega)
/-! how many signs wait -/
def cS : List Int → Nat
  | [] => 0
  | k :: W => if k = 5 then cS W else cS W + 1
def cP : List Int → Nat
  | [] => 0
  | k :: W => if k = 5 then cP W + 1 else cP W
theorem cS_cP : ∀ W : List Int, cS W + cP W = W.length
  | [] => rfl
  | k :: W => by
    have := cS_cP W
    unfold cS cP
    rw [List.length_cons]
    split <;> omega
theorem sett_c {r : Int} (hr : 1 ≤ r) : ∀ (W : List Int) (O : zO), cS (sett r W O).1 + (sett r W O).2.length = cS W + O.length ∧ cP (sett r W O).1 = cP W
  | [], _ => ⟨rfl, rfl⟩
  | k :: W, O => by
    unfold sett
    split
    · exact ⟨rfl, rfl⟩
    · rename_i c
      have ih := sett_c hr W (O ++ [(k, 0)])
      have k5 : ¬ k = 5 := by
        intro z
        apply c
        rw [z]
        have : rnk 5 = 0 := by decide
        omega
      rw [List.length_append] at ih
      change _ = cS W + (O.length + 1) ∧ _ at ih
      have e1 : cS (k :: W) = cS W + 1 := by rw [cS, if_neg k5]
      have e2 : cP (k :: W) = cP W := by rw [cP, if_neg k5]
      rw [e1, e2]
      exact ⟨by omega, ih.2⟩
end TYard
