/-! ===== topic: the edge of a span, both sides ===== -/
section TEdge
variable {E : zE} {d : Nat} {h : zH}
def mnx (w p s : Int) : Int := if w = 0 then min p s else max p s
/-- class: over the shapes of P below n, -1 where there is none -/
def spS (P : Nat → Bool) (sz : Nat → Int) (w : Int) : Nat → Int
  | 0 => -1
  | n + 1 => if P n then (if spS P sz w n = -1 then sz n else mnx w (spS P sz w n) (sz n)) else spS P sz w n
/-- reference: the same from a first size on -/
def spM (P : Nat → Bool) (sz : Nat → Int) (w s0 : Int) : Nat → Int
  | 0 => s0
  | n + 1 => if P n then mnx w (spM P sz w s0 n) (sz n) else spM P sz w s0 n
theorem spS_nn {P : Nat → Bool} {sz : Nat → Int} (hz : ∀ k, 0 ≤ sz k) (w : Int) : ∀ n, spS P sz w n = -1 ∨ 0 ≤ spS P sz w n
  | 0 => Or.inl rfl
  | n + 1 => by
    have i := spS_nn (P := P) hz w n
    have z := hz n
    unfold spS mnx
    repeat' split
    all_goals omega
theorem spM_spS {P : Nat → Bool} {sz : Nat → Int} (hz : ∀ k, 0 ≤ sz k) (w s0 : Int) : ∀ n, spM P sz w s0 n = if spS P sz w n = -1 then s0 else mnx w s0 (spS P sz w n)
  | 0 => (if_pos (c := spS P sz w 0 = -1) rfl).symm
  | n + 1 => by
    have i := spM_spS (P := P) hz w s0 n
    have z := hz n
    have nn := spS_nn (P := P) hz w n
    unfold spM spS
    rw [i]
    by_cases p : P n = true
    · rw [if_pos p, if_pos p]
      by_cases q : spS P sz w n = -1
      · rw [if_pos q, if_pos q, if_neg (by omega)]
      · rw [if_neg q, if_neg q]
        unfold mnx
        by_cases hw : w = 0
        · simp only [if_pos hw]
          rw [if_neg (by omega)]; omega
        · simp only [if_neg hw]
          rw [if_neg (by omega)]; omega
    · rw [if_neg p, if_neg p]
theorem spS_le {P : Nat → Bool} {sz : Nat → Int} (hz : ∀ k, 0 ≤ sz k) (w : Int) {b : Nat} (hb : P b = true) : ∀ n, b < n → spS P sz w n ≠ -1 ∧ mnx w (sz b) (spS P sz w n) = spS P sz w n
  | n + 1, hn => by
    have z := hz n
    have zb := hz b
    have nn := spS_nn (P := P) hz w n
    by_cases e : b = n
    · subst e
      unfold spS
      rw [if_pos hb]
      by_cases q : spS P sz w b = -1
      · rw [if_pos q]
        unfold mnx
        refine ⟨by omega, ?_⟩
        split <;> omega
      · rw [if_neg q]
        unfold mnx
        by_cases hw : w = 0
        · simp only [if_pos hw]; omega
        · simp only [if_neg hw]; omega
    · have i := spS_le hz w hb n (by omega)
      unfold spS
      by_cases p : P n = true
      · rw [if_pos p, if_neg i.1]
        have i2 := i.2
        revert i2
        unfold mnx
        by_cases hw : w = 0
        · simp only [if_pos hw]; omega
        · simp only [if_neg hw]; omega
      · rw [if_neg p]; exact i
theorem spM_eq {P : Nat → Bool} {sz : Nat → Int} (hz : ∀ k, 0 ≤ sz k) (w : Int) {b n : Nat} (hb : P b = true) (hn : b < n) : spM P sz w (sz b) n = spS P sz w n := by
  have i := spS_le hz w hb n hn
  rw [spM_spS hz, if_neg i.1]
  exact i.2
end TEdge
