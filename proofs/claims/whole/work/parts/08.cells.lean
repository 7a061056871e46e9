/-! ===== cells by their kinds ===== -/
def isNm (E : zE) (q n : Nat) : Prop := q + 1 < zN E ∧ zsh E q = (2, 2) ∧ zsh E (q + 1) = (20, n) ∧ n ≤ 8
def isRu (E : zE) (q : Nat) : Prop := q + 4 < zN E ∧ zsh E q = (5, 5) ∧ zsh E (q + 1) = (20, 64) ∧ zsh E (q + 2) = (20, 64) ∧ zsh E (q + 3) = (23, 64) ∧ zsh E (q + 4) = (23, 6)
def isSi (E : zE) (q : Nat) : Prop := q + 1 < zN E ∧ zsh E q = (7, 2) ∧ zsh E (q + 1) = (20, 8)
def isFi (E : zE) (q : Nat) : Prop := q + 11 < zN E ∧ zsh E q = (0, 13) ∧ zsh E (q + 1) = (20, 480) ∧ zsh E (q + 2) = (20, 8) ∧ zsh E (q + 3) = (20, 80) ∧ zsh E (q + 4) = (20, 80) ∧ zsh E (q + 5) = (20, 8) ∧ zsh E (q + 6) = (20, 8) ∧ zsh E (q + 7) = (20, 96) ∧ zsh E (q + 8) = (20, 96) ∧ zsh E (q + 9) = (20, 96) ∧ zsh E (q + 10) = (20, 96) ∧ zsh E (q + 11) = (23, 120)
def isSu (E : zE) (b : Nat) : Prop := b + 18 < zN E ∧ zsh E b = (8, 17) ∧ isNm E (b + 1) 4 ∧ isNm E (b + 3) 8 ∧ isNm E (b + 5) 5 ∧ isNm E (b + 7) 6 ∧ zsh E (b + 9) = (20, 8) ∧ zsh E (b + 10) = (20, 8) ∧ zsh E (b + 11) = (20, 480) ∧ zsh E (b + 12) = (20, 35) ∧ zsh E (b + 13) = (20, 80) ∧ isRu E (b + 14)
theorem r32d {n : Int} (hn : decide (-2147483648 ≤ n ∧ n < 2147483648) = true) : r32 n := by unfold r32; exact of_decide_eq_true hn
theorem r64d {n : Int} (hn : decide (-9223372036854775808 ≤ n ∧ n < 9223372036854775808) = true) : r64 n := by unfold r64; exact of_decide_eq_true hn
theorem tsne {x lo hi v : Int} (cr : x < lo ∨ hi < x) (h1 : lo ≤ v) (h2 : v ≤ hi) : x ≠ v := by omega
theorem tsb1 {x lo hi : Int} (cr : ¬ (x < lo ∨ hi < x)) : lo ≤ x := by omega
theorem tsb2 {x lo hi : Int} (cr : ¬ (x < lo ∨ hi < x)) : ¬ (hi + 1 ≤ x) := by omega
theorem tsbs {x v : Int} (h : v ≤ x) (hn : ¬ x = v) : v + 1 ≤ x := by omega
