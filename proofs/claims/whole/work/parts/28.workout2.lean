/-! ===== topic: all fits of a ring, to the end ===== -/
section TWork2
variable {E : zE} {d : Nat} {h : zH}
def aOk (a : zAcc) : Prop := 0 ≤ a.1 ∧ a.1 ≤ 5000000 ∧ 0 ≤ a.2.1 ∧ a.2.1 ≤ 500000 ∧ -1400 ≤ a.2.2.1 ∧ a.2.2.1 ≤ 1400 ∧ -1400 ≤ a.2.2.2 ∧ a.2.2.2 ≤ 1400
theorem tst_ok {px py : Nat → Int} {m : Nat} (hp : ptOk px py m) (hm0 : 0 < m) (hm10 : m ≤ 10) {sort turn x y : Int} (hx1 : -1400 ≤ x) (hx2 : x ≤ 1400) (hy1 : -1400 ≤ y) (hy2 : y ≤ 1400) {a : zAcc} (ha : a.1 = -1 ∨ aOk a) : aOk (tst px py m sort turn a x y) := by
  have h1 := sMis_r hp hm0 hm10 (sort := sort) (turn := turn) hx1 hx2 hy1 hy2
  have h2 := sRad_r hp hm0 (sort := sort) (turn := turn) hx1 hx2 hy1 hy2
  unfold tst
  split
  · exact ⟨h1.1, h1.2, h2.1, h2.2, hx1, hx2, hy1, hy2⟩
  · rename_i hc
    rcases ha with q | q
    · exact absurd (Or.inl q) hc
    · exact q
theorem gK_ok {px py : Nat → Int} {m : Nat} (hp : ptOk px py m) (hm0 : 0 < m) (hm10 : m ≤ 10) {sort turn y0 xi : Int} {G H : Nat} (hG : G ≤ 9) (hH : H ≤ 20) (hx1 : -1400 ≤ xi) (hx2 : xi ≤ 1400) (hy : -1100 ≤ y0 ∧ y0 ≤ 1100) {a : zAcc} (ha : a.1 = -1 ∨ aOk a) : ∀ k, k < 2 * G + 1 → aOk (gK (tst px py m sort turn) G H y0 xi (k + 1) a)
  | 0, _ => by
    have b := mid_r (i := 0) (G := G) (H := (H : Int)) hy hG (by omega) (by omega) (by omega)
    rw [gK, gK]
    exact tst_ok hp hm0 hm10 hx1 hx2 (by omega) (by omega) ha
  | k + 1, hk => by
    have b := mid_r (i := k + 1) (G := G) (H := (H : Int)) hy hG (by omega) (by omega) (by omega)
    rw [gK]
    exact tst_ok hp hm0 hm10 hx1 hx2 (by omega) (by omega) (Or.inr (gK_ok hp hm0 hm10 hG hH hx1 hx2 hy ha k (by omega)))
theorem gI_ok {px py : Nat → Int} {m : Nat} (hp : ptOk px py m) (hm0 : 0 < m) (hm10 : m ≤ 10) {sort turn x0 y0 : Int} {G H : Nat} (hG : G ≤ 9) (hH : H ≤ 20) (hx : -1100 ≤ x0 ∧ x0 ≤ 1100) (hy : -1100 ≤ y0 ∧ y0 ≤ 1100) {a : zAcc} (ha : a.1 = -1 ∨ aOk a) : ∀ i, i < 2 * G + 1 → aOk (gI (tst px py m sort turn) (2 * G + 1) G H x0 y0 (i + 1) a)
  | 0, _ => by
    have b := mid_r (i := 0) (G := G) (H := (H : Int)) hx hG (by omega) (by omega) (by omega)
    rw [gI, gI]
    exact gK_ok hp hm0 hm10 hG hH (by omega) (by omega) hy ha _ (by omega)
  | i + 1, hi => by
    have b := mid_r (i := i + 1) (G := G) (H := (H : Int)) hx hG (by omega) (by omega) (by omega)
    rw [gI]
    exact gK_ok hp hm0 hm10 hG hH (by omega) (by omega) hy (Or.inr (gI_ok hp hm0 hm10 hG hH hx hy ha i (by omega))) _ (by omega)
theorem sFit_ok {px py : Nat → Int} {m : Nat} (hp : ptOk px py m) (hm0 : 0 < m) (hm10 : m ≤ 10) {G H : Nat} (hG : G ≤ 9) (hH : H ≤ 20) (sort turn : Int) : aOk (sFit px py m G H sort turn) := by
  have mx := sMean_r (f := px) hm0 (fun i hi => ⟨(hp i hi).1, (hp i hi).2.1⟩)
  have my := sMean_r (f := py) hm0 (fun i hi => ⟨(hp i hi).2.2.1, (hp i hi).2.2.2⟩)
  exact gI_ok hp hm0 hm10 hG hH mx my (Or.inl rfl) (2 * G) (by omega)
/-- the loop that looks for the best shape -/
theorem X0_workOut_b (hE : isC E) {q : Nat} (hq : isFi E q) {r : Nat} (hr : r < 8) {mis : Nat → Int} {h0 : zH} (hmis : ∀ f, okF f → h0 (q + 8) (r * 12 + f) = mis f) {K : zH → Prop} (hK : K (hset h0 (q + 6) r (bsG mis 8))) :
    ∀ (n k : Nat), k + n = 8 → zG E mX0_workOut (d + 1) 159 [zR q, zI r, zU, zU, zI ((4 + k : Nat) : Int), zU, zU] [] (hset h0 (q + 6) r (bsG mis k)) (qV K) := by
  intro n
  induction n with
  | zero =>
    intro k hk
    have : k = 8 := by omega
    subst this
    exact bX0_workOut_159 hE hq ⟨fun _ => hK, fun c => absurd (by decide) c⟩
  | succ n ih =>
    intro k hk
    have nx := ih (k + 1) (by omega)
    have hb := bsG_ok mis k (by omega)
    generalize hbb : bsG mis k = b at hb nx ⊢
    have e6 : hset h0 (q + 6) r (b : Int) (q + 6) r = b := by simp [hset]
    have e8 : ∀ j, hset h0 (q + 6) r (b : Int) (q + 8) j = h0 (q + 8) j := fun j => by unfold hset; rw [if_neg (by omega)]
    have i1 : w32 (w32 ((r : Int) * 12) + ((4 + k : Nat) : Int)) = ((r * 12 + (4 + k) : Nat) : Int) := w_ix12 (by omega) (by omega)
    have i2 : w32 (w32 ((r : Int) * 12) + (b : Int)) = ((r * 12 + b : Nat) : Int) := w_ix12 (by omega) (by omega)
    refine bX0_workOut_159 hE hq ⟨fun c => absurd c (by omega), fun c => ?_⟩
    rw [Int.toNat_natCast, e6, i1, i2, Int.toNat_natCast, Int.toNat_natCast, e8, e8, hmis _ hb, hmis _ (Or.inr (by omega))]
    rw [bsG, hbb] at nx
    have es : w32 (((4 + k : Nat) : Int) + 1) = ((4 + (k + 1) : Nat) : Int) := by rw [w_suc (by omega)]; omega
    refine ⟨nat_in (n := 96) (by omega), nat_in (n := 8) hr, nat_in (n := 96) (by omega), fun c2 x3 e3 => ?_, fun c2 => ⟨nat_in (n := 8) hr, fun h4 e4 x5 e5 => ?_⟩⟩
    · rw [es] at e3
      rw [e3]
      rwa [if_neg (by omega)] at nx
    · rw [es] at e5
      rw [e5]
      rw [if_pos (by omega)] at nx
      have ee : h4 = hset h0 (q + 6) r ((4 + k : Nat) : Int) := by
        rw [e4]
        funext c' j'
        unfold hset
        by_cases z : c' = q + 6 ∧ j' = r
        · rw [if_pos z, if_pos z]
        · rw [if_neg z, if_neg z, if_neg z]
      rw [ee]
      exact nx
theorem X0_workOut (hE : isC E) {q : Nat} (hq : isFi E q) {r m G H : Nat} (hr : r < 8) (hm : h (q + 2) r = m) (hm0 : 0 < m) (hm10 : m ≤ 10) (hp : ptOk (fPx h q r) (fPy h q r) m) (hG : h q 11 = G) (hG9 : G ≤ 9) (hst : h q 12 = H) (hH : H ≤ 20) (haw : ∀ j, 0 ≤ h (q + 11) j ∧ h (q + 11) j ≤ 500000) (hnd : h (q + 5) r = 0) {K : zH → Prop}
    (hK : ∀ h', wDone h q r m G H h' → K h') : zCV E mX0_workOut (d + 3) [zR q, zI r] h K := by
  have mx := sMean_r (f := fPx h q r) hm0 (fun i hi => ⟨(hp i hi).1, (hp i hi).2.1⟩)
  have my := sMean_r (f := fPy h q r) hm0 (fun i hi => ⟨(hp i hi).2.2.1, (hp i hi).2.2.2⟩)
  refine eX0_workOut (d := d + 2) hE hq ⟨nat_in (n := 8) hr, ?_⟩
  rw [Int.toNat_natCast]
  refine ⟨fun _ => ⟨nat_in (n := 8) hr, fun h0 e0 => ?_⟩, fun c => absurd hnd c⟩
  have f0 : ∀ c j, ¬ (c = q + 5 ∧ j = r) → h0 c j = h c j := fun c j hcj => by rw [e0]; unfold hset; rw [if_neg hcj]
  have d0 : h0 (q + 5) r = 1 := by rw [e0]; simp [hset]
  have px0 : fPx h0 q r = fPx h q r := by funext i; exact f0 _ _ (by omega)
  have py0 : fPy h0 q r = fPy h q r := by funext i; exact f0 _ _ (by omega)
  clear e0
  have fin : ∀ h1, frW q r h0 h1 → (∀ f, okF f → aRel (accC h1 q (r * 12 + f)) (sFit (fPx h q r) (fPy h q r) m G H ((f : Int) / 4) ((f : Int) % 4))) → ∀ h2, h2 = hset h1 (q + 6) r 0 → zG E mX0_workOut (d + 3) 159 [zR q, zI r, zU, zU, zI 4, zU, zU] [] h2 (qV K) := by
    intro h1 fr ha h2 e2
    have hacc : ∀ f, okF f → accC h1 q (r * 12 + f) = toC (sFit (fPx h q r) (fPy h q r) m G H ((f : Int) / 4) ((f : Int) % 4)) := by
      intro f hf
      have ok := sFit_ok hp hm0 hm10 hG9 hH ((f : Int) / 4) ((f : Int) % 4)
      rcases ha f hf with ⟨z1, z2⟩ | ⟨z1, z2⟩
      · exact absurd z1 (by have := ok.1; omega)
      · exact z2
    rw [e2]
    refine X0_workOut_b (d := d + 2) hE hq hr (mis := fun f => (sFit (fPx h q r) (fPy h q r) m G H ((f : Int) / 4) ((f : Int) % 4)).1) (h0 := h1) (fun f hf => ?_) (hK _ ?_) 8 0 (by omega)
    · have := congrArg (fun a : zAcc => a.1) (hacc f hf)
      exact this
    · refine ⟨fun c j n1 n2 n3 => ?_, fun j => ?_, ?_, fun f hf => ?_, ?_⟩
      · unfold hset
        rw [if_neg (fun z => n2 ⟨Or.inr z.1, z.2⟩), fr.1 c j n1 n3]
        exact f0 c j (fun z => n2 ⟨Or.inl z.1, z.2⟩)
      · unfold hset
        rw [if_neg (by omega)]
        exact fr.2 j
      · unfold hset
        rw [if_neg (by omega), fr.at (Or.inl (by omega))]
        exact d0
      · rw [← hacc f hf]
        unfold accC hset
        rw [if_neg (by omega), if_neg (by omega), if_neg (by omega), if_neg (by omega)]
      · simp [hset]
  have rest := X0_workOut_m (d := d) hE hq hr hm0 hm10 hp (h0 := h0) (by rw [f0 _ _ (by omega)]; exact hm) px0 py0 (by rw [f0 _ _ (by omega)]; exact hG) hG9 (by rw [f0 _ _ (by omega)]; exact hst) hH fin
  have loop : ∀ (n s : Nat), s + n = 12 → zG E mX0_workOut (d + 3) 19 [zR q, zI r, zI s, zU, zU, zU, zU] [] (hrow h0 (q + 8) (r * 12) (fun _ => 2147483647) s) (qV K) := by
    intro n
    induction n with
    | zero =>
      intro s hs
      have : s = 12 := by omega
      subst this
      have fr : frW q r h0 (hrow h0 (q + 8) (r * 12) (fun _ => 2147483647) 12) := by
        refine ⟨fun c j n1 n2 => hrow_out (fun z => n2 ⟨Or.inr (Or.inl z.1), z.2⟩), fun j => ?_⟩
        rw [hrow_ne (by omega), f0 _ _ (by omega)]
        exact haw j
      have e2 : hrow h0 (q + 8) (r * 12) (fun _ => 2147483647) 12 (q + 2) r = m := by rw [hrow_ne (by omega), f0 _ _ (by omega)]; exact hm
      refine bX0_workOut_19 (d := d + 2) hE hq ⟨fun _ => ?_, fun c => absurd (by decide) c⟩
      refine X0_meanOf hE hq ⟨hq.2.2.2.2.1, Nat.lt_of_le_of_lt (by omega) hq.1⟩ hr e2 hm0 hm10 (f := fPx h q r) (fun i hi => by rw [hrow_ne (by omega), f0 _ _ (by omega)]) (fun i hi => ⟨(hp i hi).1, (hp i hi).2.1⟩) ?_
      refine X0_meanOf hE hq ⟨hq.2.2.2.2.2.1, Nat.lt_of_le_of_lt (by omega) hq.1⟩ hr e2 hm0 hm10 (f := fPy h q r) (fun i hi => by rw [hrow_ne (by omega), f0 _ _ (by omega)]) (fun i hi => ⟨(hp i hi).2.2.1, (hp i hi).2.2.2⟩) (fun x4 e4 => ?_)
      have e11 : hrow h0 (q + 8) (r * 12) (fun _ => 2147483647) 12 q 11 = G := by rw [hrow_ne (by omega), f0 _ _ (by omega)]; exact hG
      rw [e11, w32i (by omega) (by omega)] at e4
      have e4' : x4 = ((0 : Nat) : Int) - G := by omega
      rw [e4']
      refine rest (2 * G + 1) 0 (by omega) _ fr (fun f hf => Or.inl ⟨rfl, ?_⟩)
      show hrow h0 (q + 8) (r * 12) (fun _ => 2147483647) 12 (q + 8) (r * 12 + f) = 2147483647
      exact hrow_at (by omega)
    | succ n ih =>
      intro s hs
      have nx := ih (s + 1) (by omega)
      have ix := w_ix12 (a := r) (i := s) (by omega) (by omega)
      refine bX0_workOut_19 (d := d + 2) hE hq ⟨fun c => absurd c (by omega), fun c => ⟨by rw [ix]; exact nat_in (n := 96) (by omega), fun h5 e5 x6 e6 => ?_⟩⟩
      rw [ix, Int.toNat_natCast] at e5
      have hh := hrow_s h0 (q + 8) (r * 12) (fun _ => 2147483647) s
      rw [hh] at e5
      rw [w_suc (by omega)] at e6
      rw [e5, e6]
      exact nx
  have := loop 12 0 (by omega)
  rw [hrow_0] at this
  exact this
theorem X0_workOut_d (hE : isC E) {q : Nat} (hq : isFi E q) {r : Nat} (hr : r < 8) (hnd : ¬ h (q + 5) r = 0) {K : zH → Prop} (hK : K h) : zCV E mX0_workOut (d + 1) [zR q, zI r] h K := by
  refine eX0_workOut hE hq ⟨nat_in (n := 8) hr, ?_⟩
  rw [Int.toNat_natCast]
  exact ⟨fun c => absurd c hnd, fun _ => hK⟩
end TWork2
