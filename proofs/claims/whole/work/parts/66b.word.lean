/-! ===== topic: the reference's words (strings), yet to be walked ===== -/
section TWordr
variable {E : zE} {d : Nat} {h : zH}
theorem X10_word (hE : isR E) {B : Nat → Int} {n p e : Nat} (t : TxR h B n) (hpe : p < e) (hen : e ≤ n) (hl : ∀ j, j < e - p → 97 ≤ B (p + j) ∧ B (p + j) ≤ 122) (e46 : h 0 46 = (p : Int)) (e45 : h 0 45 = (e : Int)) {K : Int → zH → Prop} (hK : K (rWd (wVal B p (e - p) : Int) (e - p)) h) : zCI E mX10_word d [zR 0] h K := by
  sorry
end TWordr
