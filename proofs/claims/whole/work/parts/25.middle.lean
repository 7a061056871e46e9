/-! ===== topic: one middle tried, the class ===== -/
section TMiddle
variable {E : zE} {d : Nat} {h : zH}
def accC (h : zH) (q j : Nat) : zAcc := (h (q + 8) j, h (q + 7) j, h (q + 9) j, h (q + 10) j)
def hAcc (h : zH) (q j : Nat) (a : zAcc) : zH := hset (hset (hset (hset h (q + 8) j a.1) (q + 7) j a.2.1) (q + 9) j a.2.2.1) (q + 10) j a.2.2.2
theorem hAcc_acc (h : zH) (q j : Nat) (a : zAcc) : accC (hAcc h q j a) q j = a := by
  simp [accC, hAcc, hset]
theorem hAcc_ne {h : zH} {q j : Nat} {a : zAcc} {c j' : Nat} (hn : ¬ ((c = q + 7 ∨ c = q + 8 ∨ c = q + 9 ∨ c = q + 10) ∧ j' = j)) : hAcc h q j a c j' = h c j' := by
  unfold hAcc hset
  rw [if_neg (fun z => hn ⟨Or.inr (Or.inr (Or.inr z.1)), z.2⟩), if_neg (fun z => hn ⟨Or.inr (Or.inr (Or.inl z.1)), z.2⟩), if_neg (fun z => hn ⟨Or.inl z.1, z.2⟩), if_neg (fun z => hn ⟨Or.inr (Or.inl z.1), z.2⟩)]
theorem hrow_out {h : zH} {c o : Nat} {f : Nat → Int} {n c' j : Nat} (hn : ¬ (c' = c ∧ o ≤ j ∧ j < o + n)) : hrow h c o f n c' j = h c' j := if_neg hn
abbrev fPx (h : zH) (q r : Nat) : Nat → Int := fun i => h (q + 3) (r * 10 + i)
abbrev fPy (h : zH) (q r : Nat) : Nat → Int := fun i => h (q + 4) (r * 10 + i)
theorem w_idx {a i m : Nat} (ha : a < 1000) (hi : i < 1000) (hm : m < 1000) : w32 (w32 ((a : Int) * (m : Int)) + (i : Int)) = ((a * m + i : Nat) : Int) := by
  have h1 : (a : Int) * (m : Int) = ((a * m : Nat) : Int) := by simp
  have h2 : a * m ≤ 1000 * 1000 := Nat.mul_le_mul (by omega) (by omega)
  rw [h1]
  generalize a * m = z at h2 ⊢
  rw [w32i (x := (z : Int)) (by omega) (by omega), w32i (by omega) (by omega)]
  omega
theorem w_ix10 {a i : Nat} (ha : a < 100) (hi : i < 100) : w32 (w32 ((a : Int) * 10) + (i : Int)) = ((a * 10 + i : Nat) : Int) := w_idx (m := 10) (by omega) (by omega) (by omega)
theorem w_ix12 {a i : Nat} (ha : a < 100) (hi : i < 100) : w32 (w32 ((a : Int) * 12) + (i : Int)) = ((a * 12 + i : Nat) : Int) := w_idx (m := 12) (by omega) (by omega) (by omega)
theorem w_suc {i : Nat} (hi : i < 1000000) : w32 ((i : Int) + 1) = ((i + 1 : Nat) : Int) := by rw [w32i (by omega) (by omega)]; omega
theorem nat_in {j n : Nat} (hj : j < n) : (0 : Int) ≤ (j : Int) ∧ (j : Int) < (n : Int) := by omega
theorem zabsJ_s {x : Int} (h1 : -1000000000 ≤ x) (h2 : x ≤ 1000000000) : w32 (zabsJ (w64 x)) = sAbs x := by
  rw [w64i (by omega) (by omega)]
  unfold zabsJ sAbs
  split
  · rw [w64i (by omega) (by omega), w32i (by omega) (by omega)]
  · rw [w32i (by omega) (by omega)]
theorem sAbs_r {x B : Int} (h1 : -B ≤ x) (h2 : x ≤ B) : 0 ≤ sAbs x ∧ sAbs x ≤ B := by unfold sAbs; split <;> omega
theorem sDev_b {f : Nat → Int} {r : Int} (hr : 0 ≤ r ∧ r ≤ 500000) {m : Nat} (hm : m ≤ 10) (hf : ∀ i, i < m → 0 ≤ f i ∧ f i ≤ 500000) {i : Nat} (hi : i ≤ m) : 0 ≤ sDev f r i ∧ sDev f r i ≤ 5000000 := by
  have := sDev_r (n := i) (f := f) (r := r) (B := 500000) (fun j hj => by
    have := hf j (by omega)
    exact (sAbs_r (by omega) (by omega)).2)
  omega
theorem sSum_b {f : Nat → Int} {m : Nat} (hm : m ≤ 10) (hf : ∀ i, i < m → 0 ≤ f i ∧ f i ≤ 500000) {i : Nat} (hi : i ≤ m) : 0 ≤ sSum f i ∧ sSum f i ≤ 5000000 := by
  have := sSum_r (n := i) (f := f) (B := 500000) (fun j hj => hf j (by omega))
  omega
/-- the second loop of tryMiddle and its end -/
theorem X0_tryMiddle_b (hE : isC E) {q : Nat} (hq : isFi E q) {r f m : Nat} (hr : r < 8) (hf : f < 12) (hm10 : m ≤ 10) {aw : Nat → Int} (hfr : ∀ i, i < m → 0 ≤ aw i ∧ aw i ≤ 500000) {R x y : Int} (hR : 0 ≤ R ∧ R ≤ 500000) {K : zH → Prop}
    (hrow : ∀ i, i < m → h (q + 11) (f * 10 + i) = aw i)
    (hK1 : sDev aw R m < h (q + 8) (r * 12 + f) → K (hAcc h q (r * 12 + f) (sDev aw R m, 2 * R, x, y))) (hK2 : ¬ sDev aw R m < h (q + 8) (r * 12 + f) → K h) :
    ∀ (k i : Nat), i + k = m → zG E mX0_tryMiddle (d + 2) 124 [zR q, zI r, zI f, zI x, zI y, zI m, zU, zU, zI R, zI (sDev aw R i), zI i] [] h (qV K) := by
  intro k
  induction k with
  | zero =>
    intro i hi
    have him : i = m := by omega
    subst him
    refine bX0_tryMiddle_124 (d := d + 1) hE hq ⟨fun c j ej => ?_, fun c => absurd (Int.le_refl _) c⟩
    rw [w_ix12 (by omega) (by omega)] at ej
    have bj : (0 : Int) ≤ j ∧ j < 96 := by rw [ej]; exact nat_in (n := 96) (by omega)
    have htj : j.toNat = r * 12 + f := by rw [ej]; exact Int.toNat_natCast _
    refine ⟨bj, ?_⟩
    rw [htj]
    refine ⟨fun c2 => hK2 (by omega), fun c2 => ⟨bj, fun h1 e1 => ⟨bj, fun h2 e2 => ⟨bj, fun h3 e3 => ⟨bj, fun h4 e4 => ?_⟩⟩⟩⟩⟩
    rw [w32i (by omega) (by omega)] at e2
    have fin := hK1 (by omega)
    have e : hAcc h q (r * 12 + f) (sDev aw R i, 2 * R, x, y) = h4 := by rw [e4, e3, e2, e1]; rfl
    rw [← e]
    exact fin
  | succ k ih =>
    intro i hi
    have nx := ih (i + 1) (by omega)
    rw [sDev] at nx
    have hfi := hfr i (by omega)
    have hdv := sDev_b hR hm10 hfr (i := i) (by omega)
    have hab := sAbs_r (x := aw i - R) (B := 500000) (by omega) (by omega)
    have hix := w_ix10 (a := f) (i := i) (by omega) (by omega)
    refine bX0_tryMiddle_124 (d := d + 1) hE hq ⟨fun c => absurd c (by omega), fun c => ⟨by rw [hix]; exact nat_in (n := 120) (by omega), fun x1 e1 x2 e2 => ?_⟩⟩
    rw [hix, Int.toNat_natCast, hrow i (by omega), zabsJ_s (by omega) (by omega), w32i (by omega) (by omega)] at e1
    rw [w_suc (by omega)] at e2
    rw [e1, e2]
    exact nx
theorem X0_tryMiddle (hE : isC E) {q : Nat} (hq : isFi E q) {r f m : Nat} (hr : r < 8) (hf : f < 12) (hv : f = 0 ∨ 4 ≤ f) (hm : h (q + 2) r = m) (hm0 : 0 < m) (hm10 : m ≤ 10)
    (hp : ptOk (fPx h q r) (fPy h q r) m) {x y : Int} (hx1 : -1400 ≤ x) (hx2 : x ≤ 1400) (hy1 : -1400 ≤ y) (hy2 : y ≤ 1400)
    (hg : ∀ j, 0 ≤ h (q + 11) j ∧ h (q + 11) j ≤ 500000) (hround : f ≠ 0 → ∀ i, i < m → h (q + 11) i = sDist (fPx h q r i - x) (fPy h q r i - y)) {K : zH → Prop}
    (hK : ∀ h', (∀ c j, ¬ (c = q + 11 ∧ f * 10 ≤ j ∧ j < f * 10 + m) → ¬ ((c = q + 7 ∨ c = q + 8 ∨ c = q + 9 ∨ c = q + 10) ∧ j = r * 12 + f) → h' c j = h c j) →
      accC h' q (r * 12 + f) = cst (fPx h q r) (fPy h q r) m ((f : Int) / 4) ((f : Int) % 4) (accC h q (r * 12 + f)) x y →
      (∀ i, i < m → h' (q + 11) (f * 10 + i) = sAw (fPx h q r) (fPy h q r) ((f : Int) / 4) ((f : Int) % 4) x y i) → K h') :
    zCV E mX0_tryMiddle (d + 2) [zR q, zI r, zI f, zI x, zI y] h K := by
  generalize hs : (f : Int) / 4 = sort at hK
  generalize htn : (f : Int) % 4 = turn at hK
  generalize hpx : fPx h q r = px at hp hround hK
  generalize hpy : fPy h q r = py at hp hround hK
  generalize ha : sAw px py sort turn x y = aw at hK
  have hfr : ∀ i, i < m → 0 ≤ aw i ∧ aw i ≤ 500000 := fun i hi => by rw [← ha]; exact sAw_r hp hx1 hx2 hy1 hy2 hi
  have hrad := sRad_r hp hm0 (sort := sort) (turn := turn) hx1 hx2 hy1 hy2
  have eR : sRad px py m sort turn x y = sSum aw m / m := by unfold sRad; rw [ha]
  have eM : sMis px py m sort turn x y = sDev aw (sSum aw m / m) m := by unfold sMis; rw [ha, eR]
  rw [eR] at hrad
  have hKt : ∀ h', (∀ c j, ¬ (c = q + 11 ∧ f * 10 ≤ j ∧ j < f * 10 + m) → ¬ ((c = q + 7 ∨ c = q + 8 ∨ c = q + 9 ∨ c = q + 10) ∧ j = r * 12 + f) → h' c j = h c j) →
      accC h' q (r * 12 + f) = (if sDev aw (sSum aw m / m) m < h (q + 8) (r * 12 + f) then (sDev aw (sSum aw m / m) m, 2 * (sSum aw m / m), x, y) else accC h q (r * 12 + f)) →
      (∀ i, i < m → h' (q + 11) (f * 10 + i) = aw i) → K h' := by
    intro h' a1 a2 a3
    refine hK h' a1 ?_ a3
    unfold cst
    rw [eM, eR]
    exact a2
  clear hK eM eR
  have hsb := sSum_b hm10 hfr (i := m) (Nat.le_refl _)
  generalize hRR : sSum aw m / (m : Int) = R at hrad hKt
  have rowv : ∀ i, i < m → hrow h (q + 11) (f * 10) aw m (q + 11) (f * 10 + i) = aw i := fun i hi => hrow_at hi
  have e8 : hrow h (q + 11) (f * 10) aw m (q + 8) (r * 12 + f) = h (q + 8) (r * 12 + f) := hrow_ne (by omega)
  have loop2 := X0_tryMiddle_b (d := d) (h := hrow h (q + 11) (f * 10) aw m) hE hq hr hf hm10 hfr (x := x) (y := y) hrad (K := K) rowv
    (fun c => by
      rw [e8] at c
      refine hKt _ (fun c' j n1 n2 => ?_) ?_ (fun i hi => ?_)
      · rw [hAcc_ne n2, hrow_out n1]
      · rw [hAcc_acc, if_pos c]
      · rw [hAcc_ne (fun z => by omega)]; exact rowv i hi)
    (fun c => by
      rw [e8] at c
      refine hKt _ (fun c' j n1 n2 => hrow_out n1) ?_ rowv
      rw [if_neg c]
      unfold accC
      rw [hrow_ne (by omega), hrow_ne (by omega), hrow_ne (by omega), hrow_ne (by omega)]) m 0 (by omega)
  clear hKt e8 rowv
  have loop1 : ∀ (k i : Nat), i + k = m → zG E mX0_tryMiddle (d + 2) 32 [zR q, zI r, zI f, zI x, zI y, zI m, zJ (sSum aw i), zU, zI i, zU, zU] [] (hrow h (q + 11) (f * 10) aw i) (qV K) := by
    intro k
    induction k with
    | zero =>
      intro i hi
      have him : i = m := by omega
      subst him
      refine bX0_tryMiddle_32 (d := d + 1) hE hq ⟨fun c => ⟨by omega, fun x1 e1 => ?_⟩, fun c => absurd (Int.le_refl _) c⟩
      rw [Int.tdiv_eq_ediv_of_nonneg hsb.1, hRR, w64i (by omega) (by omega), w32i (by omega) (by omega)] at e1
      rw [e1]
      exact loop2
    | succ k ih =>
      intro i hi
      have nx := ih (i + 1) (by omega)
      rw [sSum] at nx
      have hpi := hp i (by omega)
      have hfi := hfr i (by omega)
      have hsi := sSum_b hm10 hfr (i := i) (by omega)
      have er := w_ix10 (a := r) (i := i) (by omega) (by omega)
      have ej := w_ix10 (a := f) (i := i) (by omega) (by omega)
      have x3 : hrow h (q + 11) (f * 10) aw i (q + 3) (r * 10 + i) = px i := by rw [hrow_ne (by omega), ← hpx]
      have x4 : hrow h (q + 11) (f * 10) aw i (q + 4) (r * 10 + i) = py i := by rw [hrow_ne (by omega), ← hpy]
      have bs : (0 : Int) ≤ ((r * 10 + i : Nat) : Int) ∧ ((r * 10 + i : Nat) : Int) < 80 := nat_in (n := 80) (by omega)
      have bw : (0 : Int) ≤ ((f * 10 + i : Nat) : Int) ∧ ((f * 10 + i : Nat) : Int) < 120 := nat_in (n := 120) (by omega)
      refine bX0_tryMiddle_32 (d := d + 1) hE hq ⟨fun c => absurd c (by omega), fun c s es => ?_⟩
      rw [er] at es
      rw [es, Int.toNat_natCast, x3, x4, w32i (x := px i - x) (by omega) (by omega), w32i (x := py i - y) (by omega) (by omega), ej, Int.toNat_natCast]
      refine ⟨bs, bs, X0_awayBy (d := d) hE hq (by omega) (by omega) (by omega) (by omega) (by omega) (by omega) (by omega) (by omega) (fun j => ?_) (fun hf0 => ?_) ?_⟩
      · unfold hrow
        split
        · rename_i hj
          have := hfr (j - f * 10) (by omega)
          omega
        · have := hg j
          omega
      · rw [hrow_out (by omega)]
        exact hround (by omega) i (by omega)
      · have ef : sAway (px i - x) (py i - y) ((f : Int) / 4) ((f : Int) % 4) = aw i := by rw [hs, htn, ← ha]; rfl
        rw [ef]
        refine ⟨bw, fun h5 e5 => ⟨bw, fun y6 e6 x7 e7 => ?_⟩⟩
        rw [hrow_s] at e5
        have hv2 : hrow h (q + 11) (f * 10) aw (i + 1) (q + 11) (f * 10 + i) = aw i := hrow_at (by omega)
        rw [e5, hv2, w64i (by omega) (by omega)] at e6
        rw [w_suc (by omega)] at e7
        rw [e5, e6, e7]
        exact nx
  have fin := loop1 m 0 (by omega)
  rw [hrow_0] at fin
  refine eX0_tryMiddle (d := d + 1) hE hq ⟨nat_in (n := 8) hr, fun m1 em => ?_⟩
  rw [Int.toNat_natCast, hm, Int.min_eq_left (by omega)] at em
  rw [em]
  refine ⟨fun c => absurd c (by omega), fun _ => X9_isShape hE ?_⟩
  rw [bI_t (by omega)]
  exact ⟨fun _ => fin, fun c => absurd (by decide) c⟩
end TMiddle
