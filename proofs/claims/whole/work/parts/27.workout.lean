/-! ===== topic: all fits of a ring; the class ===== -/
section TWork
variable {E : zE} {d : Nat} {h : zH}
def toC (a : zAcc) : zAcc := (a.1, 2 * a.2.1, a.2.2.1, a.2.2.2)
def aRel (c a : zAcc) : Prop := (a.1 = -1 ∧ c.1 = 2147483647) ∨ (a.1 ≠ -1 ∧ c = toC a)
theorem sAway_0 (a b t : Int) : sAway a b 0 t = sDist a b := by
  unfold sAway sA sB
  rw [if_neg (by omega), if_neg (by omega)]
theorem aRel_step {px py : Nat → Int} {m : Nat} {sort turn x y : Int} (hr : 0 ≤ sMis px py m sort turn x y ∧ sMis px py m sort turn x y ≤ 5000000) {c a : zAcc} (hca : aRel c a) : aRel (cst px py m sort turn c x y) (tst px py m sort turn a x y) := by
  unfold cst tst
  rcases hca with ⟨h1, h2⟩ | ⟨h1, h2⟩
  · rw [if_pos (by omega), if_pos (Or.inl h1)]
    refine Or.inr ⟨?_, rfl⟩
    show sMis px py m sort turn x y ≠ -1
    omega
  · have e1 : c.1 = a.1 := by rw [h2]; rfl
    by_cases q : sMis px py m sort turn x y < a.1
    · rw [if_pos (by omega), if_pos (Or.inr q)]
      refine Or.inr ⟨?_, rfl⟩
      show sMis px py m sort turn x y ≠ -1
      omega
    · rw [if_neg (by omega), if_neg (by omega)]
      exact Or.inr ⟨h1, h2⟩
abbrev okF (f : Nat) : Prop := f = 0 ∨ (4 ≤ f ∧ f < 12)
def bsG (mis : Nat → Int) : Nat → Nat
  | 0 => 0
  | n + 1 => if mis (4 + n) < mis (bsG mis n) then 4 + n else bsG mis n
theorem bsG_ok (mis : Nat → Int) : ∀ n, n ≤ 8 → okF (bsG mis n)
  | 0, _ => Or.inl rfl
  | n + 1, hn => by
    have ih := bsG_ok mis n (by omega)
    unfold bsG
    split
    · exact Or.inr (by omega)
    · exact ih
theorem bsG_congr {m1 m2 : Nat → Int} (hh : ∀ f, okF f → m1 f = m2 f) : ∀ n, n ≤ 8 → bsG m1 n = bsG m2 n
  | 0, _ => rfl
  | n + 1, hn => by
    have ih := bsG_congr hh n (by omega)
    rw [bsG, bsG, ih, hh (4 + n) (Or.inr (by omega)), hh _ (bsG_ok m2 n (by omega))]
def frW (q r : Nat) (h h1 : zH) : Prop := (∀ c j, c ≠ q + 11 → ¬ ((c = q + 7 ∨ c = q + 8 ∨ c = q + 9 ∨ c = q + 10) ∧ r * 12 ≤ j ∧ j < r * 12 + 12) → h1 c j = h c j) ∧ ∀ j, 0 ≤ h1 (q + 11) j ∧ h1 (q + 11) j ≤ 500000
theorem frW.at {q r c j : Nat} {h h1 : zH} (fr : frW q r h h1) (hc : c < q + 7 ∨ q + 11 < c) : h1 c j = h c j := fr.1 c j (by omega) (by omega)
theorem X0_meanOf (hE : isC E) {q a : Nat} (hq : isFi E q) (ha : zsh E a = (20, 80) ∧ a < zN E) {r m : Nat} (hr : r < 8) (hm : h (q + 2) r = m) (hm0 : 0 < m) (hm10 : m ≤ 10) {f : Nat → Int} (hfe : ∀ i, i < m → h a (r * 10 + i) = f i) (hf : ∀ i, i < m → -1100 ≤ f i ∧ f i ≤ 1100) {K : Int → zH → Prop} (hK : K (sMean f m) h) : zCI E mX0_meanOf d [zR q, zR a, zI r] h K := by
  have loop : ∀ (n i : Nat), i + n = m → zG E mX0_meanOf d 13 [zU, zR a, zI r, zI m, zI (sSum f i), zI i] [] h (qI K) := by
    intro n
    induction n with
    | zero =>
      intro i hi
      have him : i = m := by omega
      subst him
      refine bX0_meanOf_13 hE hq ha ⟨fun c => ⟨fun c2 => absurd c2 (by omega), fun c2 => ⟨by omega, hK⟩⟩, fun c => absurd (Int.le_refl _) c⟩
    | succ n ih =>
      intro i hi
      have nx := ih (i + 1) (by omega)
      rw [sSum] at nx
      have hfi := hf i (by omega)
      have s1 := sSum_r2 (n := i) (f := f) (B := 1100) (fun j hj => hf j (by omega))
      have hix := w_ix10 (a := r) (i := i) (by omega) (by omega)
      refine bX0_meanOf_13 hE hq ha ⟨fun c => absurd c (by omega), fun c => ⟨fun c2 => absurd c2 (by omega), fun c2 => ⟨by rw [hix]; exact nat_in (n := 80) (by omega), fun x5 e5 x6 e6 => ?_⟩⟩⟩
      rw [hix, Int.toNat_natCast, hfe i (by omega), w32i (by omega) (by omega)] at e5
      rw [w_suc (by omega)] at e6
      rw [e5, e6]
      exact nx
  refine eX0_meanOf hE hq ha ⟨nat_in (n := 8) hr, fun x1 e1 => ?_⟩
  rw [Int.toNat_natCast, hm] at e1
  rw [e1]
  exact loop m 0 (by omega)
/-- what workOut leaves of a ring that wasn't done -/
def wDone (h : zH) (q r m G H : Nat) (h' : zH) : Prop :=
  (∀ c j, c ≠ q + 11 → ¬ ((c = q + 5 ∨ c = q + 6) ∧ j = r) → ¬ ((c = q + 7 ∨ c = q + 8 ∨ c = q + 9 ∨ c = q + 10) ∧ r * 12 ≤ j ∧ j < r * 12 + 12) → h' c j = h c j) ∧ (∀ j, 0 ≤ h' (q + 11) j ∧ h' (q + 11) j ≤ 500000) ∧ h' (q + 5) r = 1 ∧
  (∀ f, okF f → accC h' q (r * 12 + f) = toC (sFit (fPx h q r) (fPy h q r) m G H ((f : Int) / 4) ((f : Int) % 4))) ∧
  h' (q + 6) r = bsG (fun f => (sFit (fPx h q r) (fPy h q r) m G H ((f : Int) / 4) ((f : Int) % 4)).1) 8
theorem X0_tryMiddle_no (hE : isC E) {q : Nat} (hq : isFi E q) {r s m : Nat} (hr : r < 8) (hs : 1 ≤ s ∧ s < 4) (hm : h (q + 2) r = m) (hm0 : 0 < m) (hm10 : m ≤ 10) {x y : Int} {K : zH → Prop} (hK : K h) : zCV E mX0_tryMiddle (d + 1) [zR q, zI r, zI s, zI x, zI y] h K := by
  refine eX0_tryMiddle hE hq ⟨nat_in (n := 8) hr, fun m1 em => ?_⟩
  rw [Int.toNat_natCast, hm, Int.min_eq_left (by omega)] at em
  rw [em]
  refine ⟨fun c => absurd c (by omega), fun _ => X9_isShape hE ?_⟩
  rw [bI_f (by omega)]
  exact ⟨fun c => absurd rfl c, fun _ => hK⟩
/-- one middle, all shapes -/
theorem X0_workOut_s (hE : isC E) {q : Nat} (hq : isFi E q) {r m : Nat} (hr : r < 8) (hm0 : 0 < m) (hm10 : m ≤ 10) {px py : Nat → Int} (hp : ptOk px py m) {x y : Int} (hx1 : -1400 ≤ x) (hx2 : x ≤ 1400) (hy1 : -1400 ≤ y) (hy2 : y ≤ 1400) {A0 : Nat → zAcc} {h0 : zH} (hm : h0 (q + 2) r = m) (hpx : fPx h0 q r = px) (hpy : fPy h0 q r = py)
    {x1 x2 x3 x4 : Int} {H : Nat} (hst : h0 q 12 = H) (ex : w32 (x1 + w32 (x3 * H)) = x) (ey : w32 (x2 + w32 (x4 * H)) = y) {K : zH → Prop}
    (out : ∀ h1, frW q r h0 h1 → (∀ f, okF f → aRel (accC h1 q (r * 12 + f)) (tst px py m ((f : Int) / 4) ((f : Int) % 4) (A0 f) x y)) → ∀ x5, x5 = w32 (x4 + 1) → zG E mX0_workOut (d + 3) 87 [zR q, zI r, zI x1, zI x2, zI x3, zI x5, zU] [] h1 (qV K)) :
    ∀ (n s : Nat), s + n = 12 → ∀ h1, frW q r h0 h1 → (0 < s → ∀ i, i < m → h1 (q + 11) i = sDist (px i - x) (py i - y)) →
      (∀ f, okF f → aRel (accC h1 q (r * 12 + f)) (if f < s then tst px py m ((f : Int) / 4) ((f : Int) % 4) (A0 f) x y else A0 f)) →
      zG E mX0_workOut (d + 3) 99 [zR q, zI r, zI x1, zI x2, zI x3, zI x4, zI s] [] h1 (qV K) := by
  intro n
  induction n with
  | zero =>
    intro s hs h1 fr hw ha
    refine bX0_workOut_99 (d := d + 2) hE hq ⟨fun c x5 e5 => ?_, fun c => absurd (by omega) c⟩
    refine out h1 fr (fun f hf => ?_) x5 e5
    have := ha f hf
    rwa [if_pos (by omega)] at this
  | succ n ih =>
    intro s hs h1 fr hw ha
    have hs12 : s < 12 := by omega
    have e12 : h1 q 12 = H := by rw [fr.at (Or.inl (by omega))]; exact hst
    have e2 : h1 (q + 2) r = m := by rw [fr.at (Or.inl (by omega))]; exact hm
    have ep : fPx h1 q r = px := by rw [← hpx]; funext i; exact fr.at (Or.inl (by omega))
    have eq : fPy h1 q r = py := by rw [← hpy]; funext i; exact fr.at (Or.inl (by omega))
    refine bX0_workOut_99 (d := d + 2) hE hq ⟨fun c => absurd c (by omega), fun c => ?_⟩
    rw [e12, ex, ey]
    by_cases hv : s = 0 ∨ 4 ≤ s
    · refine X0_tryMiddle (d := d) hE hq hr hs12 hv e2 hm0 hm10 (by rw [ep, eq]; exact hp) hx1 hx2 hy1 hy2 fr.2 (fun hf0 i hi => ?_) (fun h2 f2 ac aw x4' e4 => ?_)
      · rw [ep, eq]; exact hw (by omega) i hi
      · rw [ep, eq] at ac aw
        rw [w_suc (by omega)] at e4
        rw [e4]
        have fr2 : frW q r h0 h2 := by
          refine ⟨fun c j n1 n2 => ?_, fun j => ?_⟩
          · rw [f2 c j (fun z => n1 z.1) (fun z => n2 ⟨z.1, by omega, by omega⟩)]
            exact fr.1 c j n1 n2
          · by_cases z : s * 10 ≤ j ∧ j < s * 10 + m
            · have := aw (j - s * 10) (by omega)
              rw [show s * 10 + (j - s * 10) = j by omega] at this
              rw [this]
              exact sAw_r hp hx1 hx2 hy1 hy2 (by omega)
            · rw [f2 (q + 11) j (fun z2 => z z2.2) (fun z2 => by omega)]
              exact fr.2 j
        refine ih (s + 1) (by omega) h2 fr2 (fun _ i hi => ?_) (fun f hf => ?_)
        · by_cases z : s = 0
          · subst z
            have := aw i hi
            rw [Nat.zero_mul, Nat.zero_add] at this
            rw [this]
            unfold sAw
            rw [show ((0 : Nat) : Int) / 4 = 0 by decide]
            exact sAway_0 _ _ _
          · rw [f2 (q + 11) i (by omega) (by omega)]
            exact hw (by omega) i hi
        · by_cases z : f = s
          · subst z
            rw [ac, if_pos (by omega)]
            have := ha f hf
            rw [if_neg (by omega)] at this
            exact aRel_step (sMis_r hp hm0 hm10 hx1 hx2 hy1 hy2) this
          · have ea : accC h2 q (r * 12 + f) = accC h1 q (r * 12 + f) := by
              unfold accC
              rw [f2 _ _ (by omega) (by omega), f2 _ _ (by omega) (by omega), f2 _ _ (by omega) (by omega), f2 _ _ (by omega) (by omega)]
            rw [ea]
            have := ha f hf
            by_cases z2 : f < s
            · rw [if_pos z2] at this
              rwa [if_pos (by omega)]
            · rw [if_neg z2] at this
              rwa [if_neg (by omega)]
    · refine X0_tryMiddle_no hE hq hr (by omega) e2 hm0 hm10 (fun x4' e4 => ?_)
      rw [w_suc (by omega)] at e4
      rw [e4]
      refine ih (s + 1) (by omega) h1 fr (fun _ => hw (by omega)) (fun f hf => ?_)
      have := ha f hf
      by_cases z2 : f < s
      · rw [if_pos z2] at this
        rwa [if_pos (by omega)]
      · rw [if_neg z2] at this
        rwa [if_neg (by omega)]
/-- the shapes of all middles -/
theorem X0_workOut_m (hE : isC E) {q : Nat} (hq : isFi E q) {r m G H : Nat} (hr : r < 8) (hm0 : 0 < m) (hm10 : m ≤ 10) {px py : Nat → Int} (hp : ptOk px py m) {h0 : zH} (hm : h0 (q + 2) r = m) (hpx : fPx h0 q r = px) (hpy : fPy h0 q r = py)
    (hG : h0 q 11 = G) (hG9 : G ≤ 9) (hst : h0 q 12 = H) (hH : H ≤ 20) {K : zH → Prop}
    (out : ∀ h1, frW q r h0 h1 → (∀ f, okF f → aRel (accC h1 q (r * 12 + f)) (sFit px py m G H ((f : Int) / 4) ((f : Int) % 4))) → ∀ h2, h2 = hset h1 (q + 6) r 0 → zG E mX0_workOut (d + 3) 159 [zR q, zI r, zU, zU, zI 4, zU, zU] [] h2 (qV K)) :
    ∀ (n i : Nat), i + n = 2 * G + 1 → ∀ h1, frW q r h0 h1 → (∀ f, okF f → aRel (accC h1 q (r * 12 + f)) (gI (tst px py m ((f : Int) / 4) ((f : Int) % 4)) (2 * G + 1) G H (sMean px m) (sMean py m) i (-1, 0, 0, 0))) →
      zG E mX0_workOut (d + 3) 71 [zR q, zI r, zI (sMean px m), zI (sMean py m), zI ((i : Int) - G), zU, zU] [] h1 (qV K) := by
  have mx := sMean_r (f := px) hm0 (fun i hi => ⟨(hp i hi).1, (hp i hi).2.1⟩)
  have my := sMean_r (f := py) hm0 (fun i hi => ⟨(hp i hi).2.2.1, (hp i hi).2.2.2⟩)
  intro n
  induction n with
  | zero =>
    intro i hi h1 fr ha
    have e11 : h1 q 11 = G := by rw [fr.at (Or.inl (by omega))]; exact hG
    refine bX0_workOut_71 (d := d + 2) hE hq ⟨fun c => ⟨nat_in (n := 8) hr, fun h2 e2 => ?_⟩, fun c => absurd (show h1 q 11 < (i : Int) - G by rw [e11]; omega) c⟩
    rw [Int.toNat_natCast] at e2
    have ei : i = 2 * G + 1 := by omega
    subst ei
    exact out h1 fr ha h2 e2
  | succ n ih =>
    intro i hi h1 fr ha
    have e11 : h1 q 11 = G := by rw [fr.at (Or.inl (by omega))]; exact hG
    refine bX0_workOut_71 (d := d + 2) hE hq ⟨fun c => absurd c (by rw [e11]; omega), fun c x3 e3 => ?_⟩
    rw [e11, w32i (by omega) (by omega)] at e3
    have e3' : x3 = ((0 : Nat) : Int) - G := by omega
    rw [e3']
    have bi := mid_r (i := i) (H := (H : Int)) mx hG9 (by omega) (by omega) (by omega)
    have loopK : ∀ (n2 k : Nat), k + n2 = 2 * G + 1 → ∀ h1, frW q r h0 h1 → (∀ f, okF f → aRel (accC h1 q (r * 12 + f)) (gK (tst px py m ((f : Int) / 4) ((f : Int) % 4)) G H (sMean py m) (sMean px m + ((i : Int) - G) * H) k (gI (tst px py m ((f : Int) / 4) ((f : Int) % 4)) (2 * G + 1) G H (sMean px m) (sMean py m) i (-1, 0, 0, 0)))) →
        zG E mX0_workOut (d + 3) 87 [zR q, zI r, zI (sMean px m), zI (sMean py m), zI ((i : Int) - G), zI ((k : Int) - G), zU] [] h1 (qV K) := by
      intro n2
      induction n2 with
      | zero =>
        intro k hk h1 fr ha
        have e11 : h1 q 11 = G := by rw [fr.at (Or.inl (by omega))]; exact hG
        refine bX0_workOut_87 (d := d + 2) hE hq ⟨fun c x2 e2 => ?_, fun c => absurd (show h1 q 11 < (k : Int) - G by rw [e11]; omega) c⟩
        have ek : k = 2 * G + 1 := by omega
        subst ek
        rw [w32i (by omega) (by omega)] at e2
        have e2' : x2 = ((i + 1 : Nat) : Int) - G := by omega
        rw [e2']
        exact ih (i + 1) (by omega) h1 fr ha
      | succ n2 ih2 =>
        intro k hk h1 fr ha
        have e11 : h1 q 11 = G := by rw [fr.at (Or.inl (by omega))]; exact hG
        have bk := mid_r (i := k) (H := (H : Int)) my hG9 (by omega) (by omega) (by omega)
        refine bX0_workOut_87 (d := d + 2) hE hq ⟨fun c => absurd c (by rw [e11]; omega), fun c => ?_⟩
        have ex : w32 (sMean px m + w32 (((i : Int) - G) * H)) = sMean px m + ((i : Int) - G) * H := by
          rw [w32i (x := ((i : Int) - G) * H) (by omega) (by omega), w32i (by omega) (by omega)]
        have ey : w32 (sMean py m + w32 (((k : Int) - G) * H)) = sMean py m + ((k : Int) - G) * H := by
          rw [w32i (x := ((k : Int) - G) * H) (by omega) (by omega), w32i (by omega) (by omega)]
        refine X0_workOut_s (d := d) hE hq hr hm0 hm10 hp (by omega) (by omega) (by omega) (by omega) (A0 := fun f => gK (tst px py m ((f : Int) / 4) ((f : Int) % 4)) G H (sMean py m) (sMean px m + ((i : Int) - G) * H) k (gI (tst px py m ((f : Int) / 4) ((f : Int) % 4)) (2 * G + 1) G H (sMean px m) (sMean py m) i (-1, 0, 0, 0))) (h0 := h0) hm hpx hpy hst ex ey (fun h2 fr2 ha2 x5 e5 => ?_) 12 0 (by omega) h1 fr (fun z => absurd z (by omega)) (fun f hf => ?_)
        · rw [w32i (by omega) (by omega)] at e5
          have e5' : x5 = ((k + 1 : Nat) : Int) - G := by omega
          rw [e5']
          exact ih2 (k + 1) (by omega) h2 fr2 ha2
        · rw [if_neg (by omega)]
          exact ha f hf
    exact loopK (2 * G + 1) 0 (by omega) h1 fr ha
theorem gI_some {px py : Nat → Int} {m n : Nat} {sort turn : Int} (hs : ∀ (a : zAcc) x y, (a.1 ≠ -1 ∨ True) → (tst px py m sort turn a x y).1 ≠ -1) {G H x0 y0 : Int} (a : zAcc) : ∀ i, (gI (tst px py m sort turn) (n + 1) G H x0 y0 (i + 1) a).1 ≠ -1 := by
  intro i
  rw [gI, gK]
  exact hs _ _ _ (Or.inr trivial)
end TWork
