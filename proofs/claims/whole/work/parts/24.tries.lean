/-! ===== topic: one middle tried; both sides ===== -/
section TTries
variable {E : zE} {d : Nat} {h : zH}
def sSum (f : Nat → Int) : Nat → Int
  | 0 => 0
  | n + 1 => sSum f n + f n
def sAbs (x : Int) : Int := if x < 0 then -x else x
def sDev (f : Nat → Int) (r : Int) : Nat → Int
  | 0 => 0
  | n + 1 => sDev f r n + sAbs (f n - r)
theorem sSum_congr {f g : Nat → Int} : ∀ {n : Nat}, (∀ i, i < n → f i = g i) → sSum f n = sSum g n
  | 0, _ => rfl
  | n + 1, hh => by rw [sSum, sSum, hh n (by omega), sSum_congr (fun i hi => hh i (by omega))]
theorem sDev_congr {f g : Nat → Int} {r : Int} : ∀ {n : Nat}, (∀ i, i < n → f i = g i) → sDev f r n = sDev g r n
  | 0, _ => rfl
  | n + 1, hh => by rw [sDev, sDev, hh n (by omega), sDev_congr (fun i hi => hh i (by omega))]
theorem sSum_r {f : Nat → Int} {B : Int} : ∀ {n : Nat}, (∀ i, i < n → 0 ≤ f i ∧ f i ≤ B) → 0 ≤ sSum f n ∧ sSum f n ≤ n * B
  | 0, _ => by simp [sSum]
  | n + 1, hh => by
    have ih := sSum_r (n := n) (fun i hi => hh i (by omega))
    have h1 := hh n (by omega)
    have e : ((n + 1 : Nat) : Int) * B = n * B + B := by rw [Int.natCast_add, Int.add_mul]; simp
    rw [sSum, e]
    omega
theorem sDev_r {f : Nat → Int} {r B : Int} : ∀ {n : Nat}, (∀ i, i < n → sAbs (f i - r) ≤ B) → 0 ≤ sDev f r n ∧ sDev f r n ≤ n * B
  | 0, _ => by simp [sDev]
  | n + 1, hh => by
    have ih := sDev_r (n := n) (fun i hi => hh i (by omega))
    have h1 := hh n (by omega)
    have h2 : 0 ≤ sAbs (f n - r) := by unfold sAbs; split <;> omega
    have e : ((n + 1 : Nat) : Int) * B = n * B + B := by rw [Int.natCast_add, Int.add_mul]; simp
    rw [sDev, e]
    omega
/-- what each stone is away from a middle; the radius; the misfit -/
def sAw (px py : Nat → Int) (sort turn x y : Int) (i : Nat) : Int := sAway (px i - x) (py i - y) sort turn
def sRad (px py : Nat → Int) (m : Nat) (sort turn x y : Int) : Int := sSum (sAw px py sort turn x y) m / m
def sMis (px py : Nat → Int) (m : Nat) (sort turn x y : Int) : Int := sDev (sAw px py sort turn x y) (sRad px py m sort turn x y) m
abbrev zAcc : Type := Int × Int × Int × Int
/-- a step of the search: misfit (-1: none yet), radius, middle -/
def tst (px py : Nat → Int) (m : Nat) (sort turn : Int) (a : zAcc) (x y : Int) : zAcc :=
  if a.1 = -1 ∨ sMis px py m sort turn x y < a.1 then (sMis px py m sort turn x y, sRad px py m sort turn x y, x, y) else a
def cst (px py : Nat → Int) (m : Nat) (sort turn : Int) (a : zAcc) (x y : Int) : zAcc :=
  if sMis px py m sort turn x y < a.1 then (sMis px py m sort turn x y, 2 * sRad px py m sort turn x y, x, y) else a
def ptOk (px py : Nat → Int) (m : Nat) : Prop := ∀ i, i < m → -1100 ≤ px i ∧ px i ≤ 1100 ∧ -1100 ≤ py i ∧ py i ≤ 1100
theorem sAw_r {px py : Nat → Int} {m : Nat} (hp : ptOk px py m) {sort turn x y : Int} (hx1 : -1400 ≤ x) (hx2 : x ≤ 1400) (hy1 : -1400 ≤ y) (hy2 : y ≤ 1400) {i : Nat} (hi : i < m) : 0 ≤ sAw px py sort turn x y i ∧ sAw px py sort turn x y i ≤ 500000 := by
  have := hp i hi
  exact sAway_r (by omega) (by omega) (by omega) (by omega)
theorem sRad_r {px py : Nat → Int} {m : Nat} (hp : ptOk px py m) (hm : 0 < m) {sort turn x y : Int} (hx1 : -1400 ≤ x) (hx2 : x ≤ 1400) (hy1 : -1400 ≤ y) (hy2 : y ≤ 1400) : 0 ≤ sRad px py m sort turn x y ∧ sRad px py m sort turn x y ≤ 500000 := by
  have := sSum_r (n := m) (B := 500000) (fun i hi => sAw_r hp (sort := sort) (turn := turn) hx1 hx2 hy1 hy2 hi)
  unfold sRad
  refine ⟨Int.ediv_nonneg this.1 (by omega), ?_⟩
  have h1 : sSum (sAw px py sort turn x y) m / (m : Int) ≤ ((m : Int) * 500000) / m := Int.ediv_le_ediv (by omega) this.2
  rwa [Int.mul_ediv_cancel_left _ (by omega)] at h1
theorem sMis_r {px py : Nat → Int} {m : Nat} (hp : ptOk px py m) (hm : 0 < m) (hm10 : m ≤ 10) {sort turn x y : Int} (hx1 : -1400 ≤ x) (hx2 : x ≤ 1400) (hy1 : -1400 ≤ y) (hy2 : y ≤ 1400) : 0 ≤ sMis px py m sort turn x y ∧ sMis px py m sort turn x y ≤ 5000000 := by
  have hr := sRad_r hp hm (sort := sort) (turn := turn) hx1 hx2 hy1 hy2
  have := sDev_r (n := m) (f := sAw px py sort turn x y) (r := sRad px py m sort turn x y) (B := 500000) (fun i hi => by
    have := sAw_r hp (sort := sort) (turn := turn) hx1 hx2 hy1 hy2 hi
    unfold sAbs
    split <;> omega)
  unfold sMis
  omega
/-- rows written from their beginning on -/
def hrow (h : zH) (c o : Nat) (f : Nat → Int) (n : Nat) : zH := fun c' j => if c' = c ∧ o ≤ j ∧ j < o + n then f (j - o) else h c' j
theorem hrow_0 (h : zH) (c o : Nat) (f : Nat → Int) : hrow h c o f 0 = h := by
  funext c' j
  unfold hrow
  rw [if_neg (by omega)]
theorem hrow_s (h : zH) (c o : Nat) (f : Nat → Int) (n : Nat) : hset (hrow h c o f n) c (o + n) (f n) = hrow h c o f (n + 1) := by
  funext c' j
  unfold hset hrow
  by_cases q : c' = c ∧ j = o + n
  · rw [if_pos q, if_pos (by omega), q.2, show o + n - o = n by omega]
  · rw [if_neg q]
    by_cases q2 : c' = c ∧ o ≤ j ∧ j < o + n
    · rw [if_pos q2, if_pos (by omega)]
    · rw [if_neg q2, if_neg (by omega)]
theorem hrow_at {h : zH} {c o : Nat} {f : Nat → Int} {n i : Nat} (hi : i < n) : hrow h c o f n c (o + i) = f i := by
  unfold hrow
  rw [if_pos (by omega), show o + i - o = i by omega]
theorem hrow_ne {h : zH} {c o : Nat} {f : Nat → Int} {n c' j : Nat} (hc : c' ≠ c) : hrow h c o f n c' j = h c' j := by
  unfold hrow
  rw [if_neg (by omega)]
def accR (h : zH) : zAcc := (h 0 71, h 0 70, h 0 72, h 0 73)
theorem X10_tries (hE : isR E) {m : Nat} (hm : h 0 68 = m) (hm0 : 0 < m) (hm10 : m ≤ 10) (hp : ptOk (h 30) (h 31) m) {x y sort turn : Int} (hx1 : -1400 ≤ x) (hx2 : x ≤ 1400) (hy1 : -1400 ≤ y) (hy2 : y ≤ 1400) {K : zH → Prop}
    (hK : ∀ h', (∀ c j, ¬ (c = 32 ∨ (c = 0 ∧ 70 ≤ j ∧ j ≤ 73)) → h' c j = h c j) → accR h' = tst (h 30) (h 31) m sort turn (accR h) x y → K h') : zCV E mX10_tries (d + 2) [zR 0, zI x, zI y, zI sort, zI turn] h K := by
  refine eX10_tries (d := d + 1) hE ?_
  generalize hf : sAw (h 30) (h 31) sort turn x y = f
  have hfr : ∀ i, i < m → 0 ≤ f i ∧ f i ≤ 500000 := fun i hi => by rw [← hf]; exact sAw_r hp hx1 hx2 hy1 hy2 hi
  have hrad := sRad_r hp hm0 (sort := sort) (turn := turn) hx1 hx2 hy1 hy2
  have hmis := sMis_r hp hm0 hm10 (sort := sort) (turn := turn) hx1 hx2 hy1 hy2
  have eR : sRad (h 30) (h 31) m sort turn x y = sSum f m / m := by unfold sRad; rw [hf]
  have eM : sMis (h 30) (h 31) m sort turn x y = sDev f (sSum f m / m) m := by unfold sMis; rw [hf, eR]
  rw [eR] at hrad
  rw [eM] at hmis
  have hKt : ∀ h', (∀ c j, ¬ (c = 32 ∨ (c = 0 ∧ 70 ≤ j ∧ j ≤ 73)) → h' c j = h c j) → accR h' = (if h 0 71 = -1 ∨ sDev f (sSum f m / m) m < h 0 71 then (sDev f (sSum f m / m) m, sSum f m / m, x, y) else accR h) → K h' := by
    intro h' a1 a2
    refine hK h' a1 ?_
    unfold tst
    rw [eM, eR]
    exact a2
  have loop2 : ∀ (k i : Nat), i + k = m → zG E mX10_tries (d + 2) 66 [zR 0, zI x, zI y, zU, zU, zU, zI (sSum f m / m), zI (sDev f (sSum f m / m) i), zI i] [] (hrow h 32 0 f m) (qV K) := by
    intro k
    induction k with
    | zero =>
      intro i hi
      have him : i = m := by omega
      subst him
      have e68 : hrow h 32 0 f i 0 68 = i := by rw [hrow_ne (by omega)]; exact hm
      have e71 : hrow h 32 0 f i 0 71 = h 0 71 := hrow_ne (by omega)
      have fin : (h 0 71 = -1 ∨ sDev f (sSum f i / i) i < h 0 71) → ∀ h1, h1 = hset (hrow h 32 0 f i) 0 71 (sDev f (sSum f i / i) i) → ∀ h2, h2 = hset h1 0 70 (sSum f i / i) → ∀ h3, h3 = hset h2 0 72 x → ∀ h4, h4 = hset h3 0 73 y → K h4 := by
        intro cc h1 e1 h2 e2 h3 e3 h4 e4
        subst e1 e2 e3 e4
        refine hKt _ (fun c j hcj => ?_) ?_
        · unfold hset
          rw [if_neg (by omega), if_neg (by omega), if_neg (by omega), if_neg (by omega), hrow_ne (by omega)]
        · rw [if_pos cc]
          simp [accR, hset]
      refine bX10_tries_66 (d := d + 1) hE ⟨fun c => ?_, fun c => by rw [e68] at c; omega⟩
      rw [e71]
      refine ⟨fun c2 => fin (Or.inl c2), fun c2 => ⟨fun c3 => fin (Or.inr c3), fun c3 => ?_⟩⟩
      refine hKt _ (fun c j hcj => hrow_ne (by omega)) ?_
      rw [if_neg (by omega)]
      simp [accR, hrow]
    | succ k ih =>
      intro i hi
      have e68 : hrow h 32 0 f m 0 68 = m := by rw [hrow_ne (by omega)]; exact hm
      have ht : (i : Int).toNat = i := by simp
      have hv : hrow h 32 0 f m 32 i = f i := by have := hrow_at (h := h) (c := 32) (o := 0) (f := f) (n := m) (i := i) (by omega); simpa using this
      have nx := ih (i + 1) (by omega)
      rw [sDev] at nx
      have hfi := hfr i (by omega)
      have hdv := sDev_r (n := i) (f := f) (r := sSum f m / m) (B := 500000) (fun j hj => by
        have := hfr j (by omega)
        unfold sAbs
        split <;> omega)
      have hb : sDev f (sSum f m / m) i ≤ 10 * 500000 := Int.le_trans hdv.2 (Int.mul_le_mul_of_nonneg_right (by omega) (by omega))
      have ha : 0 ≤ sAbs (f i - sSum f m / m) ∧ sAbs (f i - sSum f m / m) ≤ 500000 := by unfold sAbs; split <;> omega
      refine bX10_tries_66 (d := d + 1) hE ⟨fun c => by rw [e68] at c; omega, fun c => ⟨by omega, fun x1 e1 x2 e2 => ?_⟩⟩
      rw [ht, hv, w32i (x := f i - _) (by omega) (by omega)] at e1
      have ez : zabs (f i - sSum f m / m) = sAbs (f i - sSum f m / m) := by
        unfold zabs sAbs
        split
        · exact w32i (by omega) (by omega)
        · rfl
      rw [ez, w32i (by omega) (by omega)] at e1
      have ei : w32 ((i : Int) + 1) = ((i + 1 : Nat) : Int) := by rw [w32i (by omega) (by omega)]; omega
      rw [ei] at e2
      subst e1 e2
      exact nx
  have loop1 : ∀ (k i : Nat), i + k = m → zG E mX10_tries (d + 2) 6 [zR 0, zI x, zI y, zI sort, zI turn, zI (sSum f i), zI i, zU, zU] [] (hrow h 32 0 f i) (qV K) := by
    intro k
    induction k with
    | zero =>
      intro i hi
      have him : i = m := by omega
      subst him
      have e68 : hrow h 32 0 f i 0 68 = i := by rw [hrow_ne (by omega)]; exact hm
      have hs := sSum_r (n := i) (B := 500000) hfr
      refine bX10_tries_6 (d := d + 1) hE ⟨fun c => ⟨by rw [e68]; omega, fun x1 e1 => ?_⟩, fun c => by rw [e68] at c; omega⟩
      rw [e68, Int.tdiv_eq_ediv_of_nonneg hs.1, w32i (by omega) (by omega)] at e1
      subst e1
      have := loop2 i 0 (by omega)
      simpa [sDev] using this
    | succ k ih =>
      intro i hi
      have e68 : hrow h 32 0 f i 0 68 = m := by rw [hrow_ne (by omega)]; exact hm
      have ht : (i : Int).toNat = i := by simp
      have nx := ih (i + 1) (by omega)
      rw [sSum] at nx
      have hpi := hp i (by omega)
      have hfi := hfr i (by omega)
      have hs := sSum_r (n := i) (f := f) (B := 500000) (fun j hj => hfr j (by omega))
      have hb : sSum f i ≤ 10 * 500000 := Int.le_trans hs.2 (Int.mul_le_mul_of_nonneg_right (by omega) (by omega))
      have x30 : hrow h 32 0 f i 30 i = h 30 i := hrow_ne (by omega)
      have x31 : hrow h 32 0 f i 31 i = h 31 i := hrow_ne (by omega)
      refine bX10_tries_6 (d := d + 1) hE ⟨fun c => by rw [e68] at c; omega, fun c => X10_awayFrom (d := d) hE (by omega) (by rw [x30]; omega) (by rw [x30]; omega) (by rw [x31]; omega) (by rw [x31]; omega) ⟨by omega, fun h4 e4 => ⟨by omega, fun x5 e5 x6 e6 => ?_⟩⟩⟩
      rw [x30, x31, ht] at e4
      have ef : sAway (h 30 i - x) (h 31 i - y) sort turn = f i := by rw [← hf]; rfl
      have hh := hrow_s h 32 0 f i
      rw [Nat.zero_add] at hh
      rw [ef, hh] at e4
      subst e4
      have hv : hrow h 32 0 f (i + 1) 32 i = f i := by have := hrow_at (h := h) (c := 32) (o := 0) (f := f) (n := i + 1) (i := i) (by omega); simpa using this
      rw [ht, hv, w32i (by omega) (by omega)] at e5
      have ei : w32 ((i : Int) + 1) = ((i + 1 : Nat) : Int) := by rw [w32i (by omega) (by omega)]; omega
      rw [ei] at e6
      subst e5 e6
      exact nx
  have := loop1 m 0 (by omega)
  rw [hrow_0] at this
  simpa [sSum] using this
end TTries
