/-! ===== topic: roots; both sides ===== -/
section TRoot
variable {E : zE} {d : Nat} {h : zH} {K : Int → zH → Prop}
def sRoot : Nat → Nat
  | 0 => 0
  | n + 1 => if (sRoot n + 1) * (sRoot n + 1) ≤ n + 1 then sRoot n + 1 else sRoot n
theorem sRoot_spec : ∀ n : Nat, sRoot n * sRoot n ≤ n ∧ n < (sRoot n + 1) * (sRoot n + 1)
  | 0 => by simp [sRoot]
  | n + 1 => by
    obtain ⟨h1, h2⟩ := sRoot_spec n
    unfold sRoot
    split
    · rename_i hc
      refine ⟨hc, ?_⟩
      have : (sRoot n + 1 + 1) * (sRoot n + 1 + 1) = (sRoot n + 1) * (sRoot n + 1) + 2 * sRoot n + 3 := by grind
      omega
    · omega
def sRt (x : Int) : Int := sRoot x.toNat
theorem sRt_spec {x : Int} (hx : 0 ≤ x) : 0 ≤ sRt x ∧ sRt x * sRt x ≤ x ∧ x < (sRt x + 1) * (sRt x + 1) := by
  obtain ⟨n, rfl⟩ := Int.eq_ofNat_of_zero_le hx
  have := sRoot_spec n
  unfold sRt
  simp only [Int.toNat_natCast]
  refine ⟨by omega, ?_, ?_⟩
  · exact_mod_cast this.1
  · exact_mod_cast this.2
theorem sq_le {a b : Int} (h0 : 0 ≤ a) (h1 : a ≤ b) : a * a ≤ b * b := Int.mul_le_mul h1 h1 h0 (by omega)
theorem sRt_uniq {x r : Int} (hx : 0 ≤ x) (h0 : 0 ≤ r) (h1 : r * r ≤ x) (h2 : x < (r + 1) * (r + 1)) : r = sRt x := by
  obtain ⟨a0, a1, a2⟩ := sRt_spec hx
  rcases Int.lt_trichotomy r (sRt x) with q | q | q
  · have := sq_le (show 0 ≤ r + 1 by omega) (show r + 1 ≤ sRt x by omega)
    omega
  · exact q
  · have := sq_le (show 0 ≤ sRt x + 1 by omega) (show sRt x + 1 ≤ r by omega)
    omega
theorem sRt_le {x b : Int} (hx : 0 ≤ x) (hb : 0 ≤ b) (hxb : x ≤ b * b) : sRt x ≤ b := by
  obtain ⟨a0, a1, a2⟩ := sRt_spec hx
  rcases Int.lt_or_le b (sRt x) with q | q
  · have := sq_le (show 0 ≤ b + 1 by omega) (show b + 1 ≤ sRt x by omega)
    have e : (b + 1) * (b + 1) = b * b + 2 * b + 1 := by grind
    omega
  · exact q
theorem X10_root (hE : isR E) {n : Int} (h0 : 0 ≤ n) (h1 : n < 1000000000000) (hK : K (sRt n) h) : zCI E mX10_root d [zJ n] h K := by
  refine eX10_root hE ?_
  have loop : ∀ (k : Nat) (lo hi : Int), hi - lo ≤ k → 0 ≤ lo → lo ≤ hi → hi ≤ 1000000 → lo * lo ≤ n → n < (hi + 1) * (hi + 1) → zG E mX10_root d 7 [zJ n, zU, zJ lo, zU, zJ hi, zU, zU, zU] [] h (qI K) := by
    intro k
    induction k with
    | zero =>
      intro lo hi c1 c2 c3 c4 c5 c6
      refine bX10_root_7 hE ⟨fun _ => ?_, fun c => by omega⟩
      have : lo = hi := by omega
      subst this
      rw [w32i (by omega) (by omega), sRt_uniq h0 c2 c5 c6]
      exact hK
    | succ k ih =>
      intro lo hi c1 c2 c3 c4 c5 c6
      refine bX10_root_7 hE ⟨fun c => ?_, fun c y e => ?_⟩
      · have : lo = hi := by omega
        subst this
        rw [w32i (by omega) (by omega), sRt_uniq h0 c2 c5 c6]
        exact hK
      · rw [w64i (x := lo + hi) (by omega) (by omega), w64i (x := lo + hi + 1) (by omega) (by omega), Int.tdiv_eq_ediv_of_nonneg (by omega), w64i (by omega) (by omega)] at e
        have m1 : lo < y := by omega
        have m2 : y ≤ hi := by omega
        have m3 := sq_le (show 0 ≤ y by omega) (show y ≤ 1000000 by omega)
        have m4 : 0 ≤ y * y := Int.mul_nonneg (by omega) (by omega)
        rw [w64i (x := y * y) (by omega) (by omega)]
        refine ⟨fun c7 y2 e2 => ?_, fun c7 => ?_⟩
        · rw [w64i (by omega) (by omega)] at e2
          subst e2
          exact ih lo (y - 1) (by omega) c2 (by omega) (by omega) c5 (by rw [show y - 1 + 1 = y by omega]; exact c7)
        · exact ih y hi (by omega) (by omega) m2 c4 (by omega) c6
  exact loop 1000000 0 1000000 (by omega) (by omega) (by omega) (by omega) (by omega) (by omega)
/-- the mean of a number and what the value is by it isn't below the root -/
theorem newton_ge {v r x : Int} (hr : 0 ≤ r) (h1 : r * r ≤ v) (hx : 0 < x) : 2 * r ≤ x + v / x := by
  rcases Int.lt_or_le (x + v / x) (2 * r) with q | q
  · exfalso
    have a1 : v < (v / x + 1) * x := Int.lt_ediv_add_one_mul_self v hx
    have a2 : (v / x + 1) * x ≤ (2 * r - x) * x := Int.mul_le_mul_of_nonneg_right (by omega) (by omega)
    have a3 : 0 ≤ (r - x) * (r - x) := by
      rcases Int.le_total 0 (r - x) with z | z
      · exact Int.mul_nonneg z z
      · have := Int.mul_nonneg (show 0 ≤ x - r by omega) (show 0 ≤ x - r by omega)
        have e : (x - r) * (x - r) = (r - x) * (r - x) := by grind
        omega
    have a4 : (2 * r - x) * x = r * r - (r - x) * (r - x) := by grind
    omega
  · exact q
theorem newton_le {v r x : Int} (hr : 0 ≤ r) (h2 : v < (r + 1) * (r + 1)) (hx : r + 1 ≤ x) : v / x ≤ r := by
  rcases Int.lt_or_le r (v / x) with q | q
  · exfalso
    have a1 : v / x * x ≤ v := Int.ediv_mul_le v (by omega)
    have a2 : (r + 1) * (r + 1) ≤ v / x * x := Int.mul_le_mul (by omega) hx (by omega) (by omega)
    omega
  · exact q
def pw2 : Nat → Int
  | 0 => 1
  | k + 1 => 2 * pw2 k
theorem X9_rootOf (hE : isC E) {v g : Int} (h0 : 0 ≤ v) (h1 : v < 1099511627776) (h2 : g < 1099511627776) (hK : K (sRt v) h) : zCJ E mX9_rootOf d [zJ v, zJ g] h K := by
  obtain ⟨b0, b1, b2⟩ := sRt_spec h0
  generalize hr : sRt v = r at b0 b1 b2 hK
  have loop : ∀ (k : Nat) (x : Int) (i : Nat), 0 < v → i + k < 200 → k ≤ 50 → x - r < pw2 k → r ≤ x → 0 < x → x ≤ 1099511627776 → zG E mX9_rootOf d 37 [zJ v, zU, zU, zU, zJ x, zU, zI i, zU, zU] [] h (qJ K) := by
    intro k
    induction k with
    | zero =>
      intro x i hv c1 c2 c3 c4 c5 c6
      have ex : x = r := by simp only [pw2] at c3; omega
      refine bX9_rootOf_37 hE ⟨fun c => by omega, fun c => ⟨fun c7 => by omega, fun c7 => ⟨by omega, fun y e => ?_⟩⟩⟩
      have n1 := newton_ge b0 b1 c5
      have n2 : v / x ≤ v := Int.ediv_le_self x h0
      have n3 : 0 ≤ v / x := Int.ediv_nonneg h0 (by omega)
      rw [Int.tdiv_eq_ediv_of_nonneg h0, w64i (x := v / x) (by omega) (by omega), w64i (x := x + v / x) (by omega) (by omega), Int.tdiv_eq_ediv_of_nonneg (by omega), w64i (by omega) (by omega)] at e
      refine ⟨fun c8 => by omega, fun c8 => ?_⟩
      rw [ex]; exact hK
    | succ k ih =>
      intro x i hv c1 c2 c3 c4 c5 c6
      have g1 : i + 1 + k < 200 := by clear c3 c6 h1 h2; omega
      have g2 : k ≤ 50 := by clear c3 c6 h1 h2; omega
      have n1 := newton_ge b0 b1 c5
      have n2 : v / x ≤ v := Int.ediv_le_self x h0
      have n3 : 0 ≤ v / x := Int.ediv_nonneg h0 (by omega)
      refine bX9_rootOf_37 hE ⟨fun c => by omega, fun c => ⟨fun c7 => by omega, fun c7 => ⟨by omega, fun y e => ?_⟩⟩⟩
      rw [Int.tdiv_eq_ediv_of_nonneg h0, w64i (x := v / x) (by omega) (by omega), w64i (x := x + v / x) (by omega) (by omega), Int.tdiv_eq_ediv_of_nonneg (by omega), w64i (by omega) (by omega)] at e
      refine ⟨fun c8 z ez => ?_, fun c8 => ?_⟩
      · have ei : w32 ((i : Int) + 1) = ((i + 1 : Nat) : Int) := by rw [w32i (by omega) (by omega)]; omega
        rw [ei] at ez
        subst ez
        have n4 : y - r < pw2 k := by
          by_cases q : x = r
          · omega
          · have := newton_le b0 b2 (show r + 1 ≤ x by omega)
            simp only [pw2] at c3
            omega
        have g3 : r ≤ y := by clear ei c3; omega
        have g4 : y ≤ 1099511627776 := by clear ei c3; omega
        have g5 : 0 < y := by
          clear ei c3
          by_cases q : r = 0
          · subst q
            omega
          · omega
        exact ih y (i + 1) hv g1 g2 n4 g3 g5 g4
      · have : x = r := by
          by_cases q : x = r
          · exact q
          · have := newton_le b0 b2 (show r + 1 ≤ x by omega)
            omega
        rw [this]; exact hK
  refine eX9_rootOf hE ⟨fun c => ⟨fun c2 y e => ?_, fun c2 => ⟨by omega, fun y e => ?_⟩⟩, fun c => ?_⟩
  · rw [Int.tdiv_eq_ediv_of_nonneg h0, Int.ediv_one, w64i (x := v) (by omega) (by omega), w64i (x := 1 + v) (by omega) (by omega), Int.tdiv_eq_ediv_of_nonneg (by omega), w64i (by omega) (by omega)] at e
    have n1 := newton_ge b0 b1 (show (0 : Int) < 1 by omega)
    rw [Int.ediv_one] at n1
    exact loop 41 y 0 c (by omega) (by omega) (by rw [show pw2 41 = 2199023255552 from rfl]; omega) (by omega) (by omega) (by omega)
  · have n1 := newton_ge b0 b1 (show 0 < g by omega)
    have n2 : v / g ≤ v := Int.ediv_le_self g h0
    have n3 : 0 ≤ v / g := Int.ediv_nonneg h0 (by omega)
    rw [Int.tdiv_eq_ediv_of_nonneg h0, w64i (x := v / g) (by omega) (by omega), w64i (x := g + v / g) (by omega) (by omega), Int.tdiv_eq_ediv_of_nonneg (by omega), w64i (by omega) (by omega)] at e
    have n5 : 1 ≤ r := by
      rcases Int.lt_or_le r 1 with q | q
      · have : r = 0 := by omega
        subst this
        omega
      · exact q
    exact loop 41 y 0 c (by omega) (by omega) (by rw [show pw2 41 = 2199023255552 from rfl]; omega) (by omega) (by omega) (by omega)
  · have e0 : v = 0 := by omega
    have : r = 0 := by
      rcases Int.lt_or_le 0 r with q | q
      · have := Int.mul_le_mul (show 1 ≤ r by omega) (show 1 ≤ r by omega) (by omega) (by omega)
        omega
      · omega
    rw [this] at hK
    exact hK
end TRoot
