/-! ===== topic: the best middle of the grid; the reference ===== -/
section TFits
variable {E : zE} {d : Nat} {h : zH}
def gK (S : zAcc → Int → Int → zAcc) (G H y0 xi : Int) : Nat → zAcc → zAcc
  | 0, a => a
  | k + 1, a => S (gK S G H y0 xi k a) xi (y0 + ((k : Int) - G) * H)
def gI (S : zAcc → Int → Int → zAcc) (n : Nat) (G H x0 y0 : Int) : Nat → zAcc → zAcc
  | 0, a => a
  | i + 1, a => gK S G H y0 (x0 + ((i : Int) - G) * H) n (gI S n G H x0 y0 i a)
def sMean (f : Nat → Int) (m : Nat) : Int := sSum f m / m
/-- misfit, radius and middle of a fit -/
def sFit (px py : Nat → Int) (m : Nat) (G H : Nat) (sort turn : Int) : zAcc :=
  gI (tst px py m sort turn) (2 * G + 1) G H (sMean px m) (sMean py m) (2 * G + 1) (-1, 0, 0, 0)
theorem sSum_r2 {f : Nat → Int} {B : Int} : ∀ {n : Nat}, (∀ i, i < n → -B ≤ f i ∧ f i ≤ B) → -(n * B) ≤ sSum f n ∧ sSum f n ≤ n * B
  | 0, _ => by simp [sSum]
  | n + 1, hh => by
    have ih := sSum_r2 (n := n) (fun i hi => hh i (by omega))
    have h1 := hh n (by omega)
    have e : ((n + 1 : Nat) : Int) * B = n * B + B := by rw [Int.natCast_add, Int.add_mul]; simp
    rw [sSum, e]
    omega
theorem sMean_r {f : Nat → Int} {m : Nat} (hm : 0 < m) (hf : ∀ i, i < m → -1100 ≤ f i ∧ f i ≤ 1100) : -1100 ≤ sMean f m ∧ sMean f m ≤ 1100 := by
  have := sSum_r2 (n := m) (B := 1100) hf
  unfold sMean
  constructor
  · refine (Int.le_ediv_iff_mul_le (by omega)).mpr ?_
    have e : -1100 * (m : Int) = -((m : Int) * 1100) := by rw [Int.neg_mul, Int.mul_comm]
    omega
  · have h1 : sSum f m / (m : Int) ≤ ((m : Int) * 1100) / m := Int.ediv_le_ediv (by omega) this.2
    rwa [Int.mul_ediv_cancel_left _ (by omega)] at h1
theorem mid_r {x0 H : Int} {i G : Nat} (hx : -1100 ≤ x0 ∧ x0 ≤ 1100) (hG : G ≤ 9) (hH0 : 0 ≤ H) (hH : H ≤ 20) (hi : i < 2 * G + 1) : -180 ≤ ((i : Int) - G) * H ∧ ((i : Int) - G) * H ≤ 180 := by
  have h1 : ((i : Int) - G) * H ≤ 9 * H := Int.mul_le_mul_of_nonneg_right (by omega) hH0
  have h2 : (-9) * H ≤ ((i : Int) - G) * H := Int.mul_le_mul_of_nonneg_right (by omega) hH0
  omega
theorem tst_none {px py : Nat → Int} {m : Nat} {sort turn x y : Int} {a b : zAcc} (ha : a.1 = -1) (hb : b.1 = -1) : tst px py m sort turn a x y = tst px py m sort turn b x y := by
  unfold tst
  rw [if_pos (Or.inl ha), if_pos (Or.inl hb)]
theorem gK_none {px py : Nat → Int} {m : Nat} {sort turn G H y0 xi : Int} {a b : zAcc} (ha : a.1 = -1) (hb : b.1 = -1) : ∀ k, gK (tst px py m sort turn) G H y0 xi (k + 1) a = gK (tst px py m sort turn) G H y0 xi (k + 1) b
  | 0 => by rw [gK, gK, gK, gK]; exact tst_none ha hb
  | k + 1 => by rw [gK, gK_none ha hb k]; rfl
theorem gI_none {px py : Nat → Int} {m n : Nat} {sort turn G H x0 y0 : Int} {a b : zAcc} (ha : a.1 = -1) (hb : b.1 = -1) : ∀ i, gI (tst px py m sort turn) (n + 1) G H x0 y0 (i + 1) a = gI (tst px py m sort turn) (n + 1) G H x0 y0 (i + 1) b
  | 0 => by rw [gI, gI, gI, gI]; exact gK_none ha hb n
  | i + 1 => by rw [gI, gI_none ha hb i]; rfl
theorem X10_fits (hE : isR E) {m G H : Nat} (hm : h 0 68 = m) (hm0 : 0 < m) (hm10 : m ≤ 10) (hp : ptOk (h 30) (h 31) m) (hG : h 0 29 = G) (hG9 : G ≤ 9) (hH : h 0 30 = H) (hH20 : H ≤ 20) {sort turn : Int} {K : zH → Prop}
    (hK : ∀ h', (∀ c j, ¬ (c = 32 ∨ (c = 0 ∧ 70 ≤ j ∧ j ≤ 73)) → h' c j = h c j) → accR h' = sFit (h 30) (h 31) m G H sort turn → K h') : zCV E mX10_fits (d + 3) [zR 0, zI sort, zI turn] h K := by
  have mx := sMean_r (f := h 30) hm0 (fun i hi => ⟨(hp i hi).1, (hp i hi).2.1⟩)
  have my := sMean_r (f := h 31) hm0 (fun i hi => ⟨(hp i hi).2.2.1, (hp i hi).2.2.2⟩)
  generalize hS : tst (h 30) (h 31) m sort turn = S
  generalize hx0 : sMean (h 30) m = x0 at mx
  generalize hy0 : sMean (h 31) m = y0 at my
  have eF : ∀ a : zAcc, a.1 = -1 → gI S (2 * G + 1) G H x0 y0 (2 * G + 1) a = sFit (h 30) (h 31) m G H sort turn := by
    intro a ha
    unfold sFit
    rw [hx0, hy0, ← hS]
    exact gI_none ha rfl _
  -- the loop over k, inside one i
  have loopK : ∀ (i : Nat), i < 2 * G + 1 → ∀ (a : zAcc), (∀ h1, (∀ c j, ¬ (c = 32 ∨ (c = 0 ∧ 70 ≤ j ∧ j ≤ 73)) → h1 c j = h c j) → accR h1 = gK S G H y0 (x0 + ((i : Int) - G) * H) (2 * G + 1) a → zG E mX10_fits (d + 3) 78 [zR 0, zI sort, zI turn, zU, zU, zI x0, zI y0, zI (((i + 1 : Nat) : Int) - G), zU] [] h1 (qV K)) →
      ∀ (n k : Nat), k + n = 2 * G + 1 → ∀ h1, (∀ c j, ¬ (c = 32 ∨ (c = 0 ∧ 70 ≤ j ∧ j ≤ 73)) → h1 c j = h c j) → accR h1 = gK S G H y0 (x0 + ((i : Int) - G) * H) k a → zG E mX10_fits (d + 3) 94 [zR 0, zI sort, zI turn, zU, zU, zI x0, zI y0, zI ((i : Int) - G), zI ((k : Int) - G)] [] h1 (qV K) := by
    intro i hi a out n
    induction n with
    | zero =>
      intro k hk h1 fr ac
      have e29 : h1 0 29 = G := by rw [fr 0 29 (by omega)]; exact hG
      refine bX10_fits_94 (d := d + 2) hE ⟨fun c x2 e2 => ?_, fun c => absurd (show h1 0 29 < (k : Int) - G by rw [e29]; omega) c⟩
      have ek : k = 2 * G + 1 := by omega
      subst ek
      rw [w32i (by omega) (by omega)] at e2
      have e3 : x2 = ((i + 1 : Nat) : Int) - G := by omega
      rw [e3]
      exact out h1 fr ac
    | succ n ih =>
      intro k hk h1 fr ac
      have e29 : h1 0 29 = G := by rw [fr 0 29 (by omega)]; exact hG
      have e30 : h1 0 30 = H := by rw [fr 0 30 (by omega)]; exact hH
      have e68 : h1 0 68 = m := by rw [fr 0 68 (by omega)]; exact hm
      have r30 : h1 30 = h 30 := funext fun j => fr 30 j (by omega)
      have r31 : h1 31 = h 31 := funext fun j => fr 31 j (by omega)
      have bi := mid_r (i := i) (H := (H : Int)) mx hG9 (by omega) (by omega) hi
      have bk := mid_r (i := k) (H := (H : Int)) my hG9 (by omega) (by omega) (by omega)
      refine bX10_fits_94 (d := d + 2) hE ⟨fun c => absurd c (by rw [e29]; omega), fun c => ?_⟩
      rw [e30, w32i (x := ((i : Int) - G) * H) (by omega) (by omega), w32i (x := ((k : Int) - G) * H) (by omega) (by omega), w32i (x := x0 + _) (by omega) (by omega), w32i (x := y0 + _) (by omega) (by omega)]
      refine X10_tries (d := d) hE e68 hm0 hm10 (by rw [r30, r31]; exact hp) (by omega) (by omega) (by omega) (by omega) (fun h2 fr2 ac2 x4 e4 => ?_)
      rw [w32i (by omega) (by omega)] at e4
      have e5 : x4 = ((k + 1 : Nat) : Int) - G := by omega
      rw [e5]
      refine ih (k + 1) (by omega) h2 (fun c j hcj => (fr2 c j hcj).trans (fr c j hcj)) ?_
      rw [ac2, r30, r31, hS, ac]
      rfl
  have loopI : ∀ (n i : Nat), i + n = 2 * G + 1 → ∀ (a : zAcc), a.1 = -1 → ∀ h1, (∀ c j, ¬ (c = 32 ∨ (c = 0 ∧ 70 ≤ j ∧ j ≤ 73)) → h1 c j = h c j) → accR h1 = gI S (2 * G + 1) G H x0 y0 i a → zG E mX10_fits (d + 3) 78 [zR 0, zI sort, zI turn, zU, zU, zI x0, zI y0, zI ((i : Int) - G), zU] [] h1 (qV K) := by
    intro n
    induction n with
    | zero =>
      intro i hi a ha h1 fr ac
      have e29 : h1 0 29 = G := by rw [fr 0 29 (by omega)]; exact hG
      refine bX10_fits_78 (d := d + 2) hE ⟨fun c => hK h1 fr ?_, fun c => absurd (show h1 0 29 < (i : Int) - G by rw [e29]; omega) c⟩
      have ek : i = 2 * G + 1 := by omega
      subst ek
      rw [ac, eF a ha]
    | succ n ih =>
      intro i hi a ha h1 fr ac
      have e29 : h1 0 29 = G := by rw [fr 0 29 (by omega)]; exact hG
      refine bX10_fits_78 (d := d + 2) hE ⟨fun c => absurd c (by rw [e29]; omega), fun c x2 e2 => ?_⟩
      rw [e29, w32i (by omega) (by omega)] at e2
      have e3 : x2 = ((0 : Nat) : Int) - G := by omega
      rw [e3]
      exact loopK i (by omega) (gI S (2 * G + 1) G H x0 y0 i a) (fun h2 fr2 ac2 => ih (i + 1) (by omega) a ha h2 fr2 ac2) (2 * G + 1) 0 (by omega) h1 fr ac
  have loop0 : ∀ (n i : Nat), i + n = m → zG E mX10_fits (d + 3) 8 [zR 0, zI sort, zI turn, zI (sSum (h 30) i), zI (sSum (h 31) i), zI i, zU, zU, zU] [] h (qV K) := by
    intro n
    induction n with
    | zero =>
      intro i hi
      have him : i = m := by omega
      subst him
      refine bX10_fits_8 (d := d + 2) hE ⟨fun c => ⟨by rw [hm]; omega, fun x2 e2 => ⟨by rw [hm]; omega, fun x3 e3 h4 e4 x5 e5 => ?_⟩⟩, fun c => absurd (by rw [hm]; omega) c⟩
      rw [hm] at e2 e3
      have e2' : x2 = x0 := by rw [e2, ← hx0]; rfl
      have e3' : x3 = y0 := by rw [e3, ← hy0]; rfl
      have fr : ∀ c j, ¬ (c = 32 ∨ (c = 0 ∧ 70 ≤ j ∧ j ≤ 73)) → h4 c j = h c j := by
        intro c j hcj
        rw [e4]
        unfold hset
        rw [if_neg (by omega)]
      have e29 : h4 0 29 = G := by rw [fr 0 29 (by omega)]; exact hG
      rw [e29, w32i (by omega) (by omega)] at e5
      have e5' : x5 = ((0 : Nat) : Int) - G := by omega
      rw [e2', e3', e5']
      refine loopI (2 * G + 1) 0 (by omega) (accR h4) (by rw [e4]; simp [accR, hset]) h4 fr rfl
    | succ n ih =>
      intro i hi
      have nx := ih (i + 1) (by omega)
      rw [sSum, sSum] at nx
      have hpi := hp i (by omega)
      have s1 := sSum_r2 (n := i) (f := h 30) (B := 1100) (fun j hj => ⟨(hp j (by omega)).1, (hp j (by omega)).2.1⟩)
      have s2 := sSum_r2 (n := i) (f := h 31) (B := 1100) (fun j hj => ⟨(hp j (by omega)).2.2.1, (hp j (by omega)).2.2.2⟩)
      have ht : (i : Int).toNat = i := Int.toNat_natCast i
      refine bX10_fits_8 (d := d + 2) hE ⟨fun c => absurd c (by rw [hm]; omega), fun c => ⟨nat_in (n := 10) (by omega), fun x6 e6 => ⟨nat_in (n := 10) (by omega), fun x7 e7 x8 e8 => ?_⟩⟩⟩
      rw [ht, w32i (by omega) (by omega)] at e6 e7
      rw [w_suc (by omega)] at e8
      rw [e6, e7, e8]
      exact nx
  refine eX10_fits (d := d + 2) hE ?_
  exact loop0 m 0 (by omega)
end TFits
