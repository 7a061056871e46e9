/-! ===== topic: what a Fits object holds; learn ===== -/
section TLearn
variable {E : zE} {d : Nat} {h : zH}
def caOk (h : zH) (q : Nat) (l : List (Int × Int)) (G H r : Nat) : Prop := 3 ≤ l.length ∧ (∀ f, okF f → accC h q (r * 12 + f) = toC (shF l G H f)) ∧ h (q + 6) r = (bsL l G H : Int)
def fiOk (h : zH) (q : Nat) (l : List (Int × Int)) (G H r : Nat) : Prop := h (q + 2) r = (l.length : Int) ∧ (∀ i, i < l.length → h (q + 3) (r * 10 + i) = lX l i ∧ h (q + 4) (r * 10 + i) = lY l i) ∧ (h (q + 5) r ≠ 0 → caOk h q l G H r)
def FiInv (h : zH) (q : Nat) (L : Nat → List (Int × Int)) (G H : Nat) : Prop := h q 11 = (G : Int) ∧ h q 12 = (H : Int) ∧ (∀ j, 0 ≤ h (q + 11) j ∧ h (q + 11) j ≤ 500000) ∧ ∀ r, r < 8 → fiOk h q (L r) G H r
def frQ (q : Nat) (h h' : zH) : Prop := ∀ c j, ¬ (q + 5 ≤ c ∧ c ≤ q + 11) → h' c j = h c j
theorem frQ.rf (q : Nat) (h : zH) : frQ q h h := fun _ _ _ => rfl
theorem frQ.tr {q : Nat} {h h1 h2 : zH} (a : frQ q h h1) (b : frQ q h1 h2) : frQ q h h2 := fun c j n => (b c j n).trans (a c j n)
theorem caOk.mv {h h' : zH} {q : Nat} {l : List (Int × Int)} {G H r : Nat} (hc : caOk h q l G H r) (h6 : h' (q + 6) r = h (q + 6) r) (hr : ∀ c j, (c = q + 7 ∨ c = q + 8 ∨ c = q + 9 ∨ c = q + 10) → r * 12 ≤ j → j < r * 12 + 12 → h' c j = h c j) : caOk h' q l G H r := by
  refine ⟨hc.1, fun f hf => ?_, by rw [h6]; exact hc.2.2⟩
  rw [← hc.2.1 f hf]
  unfold accC
  have hf12 : f < 12 := by omega
  rw [hr (q + 8) _ (by omega) (by omega) (by omega), hr (q + 7) _ (by omega) (by omega) (by omega), hr (q + 9) _ (by omega) (by omega) (by omega), hr (q + 10) _ (by omega) (by omega) (by omega)]
theorem caOk.eq {h : zH} {q : Nat} {l l' : List (Int × Int)} {G H r : Nat} (hc : caOk h q l G H r) (hl : l'.length = l.length) (hp : ∀ i, i < l.length → lX l i = lX l' i ∧ lY l i = lY l' i) : caOk h q l' G H r := by
  have e : ∀ f, shF l G H f = shF l' G H f := by
    intro f
    unfold shF
    rw [hl, sFit_congr (fun i hi => (hp i hi).1) (fun i hi => (hp i hi).2)]
  have e2 : bsL l G H = bsL l' G H := by
    unfold bsL
    rw [show (fun f => (shF l G H f).1) = (fun f => (shF l' G H f).1) from funext fun f => by rw [e f]]
  exact ⟨by rw [hl]; exact hc.1, fun f hf => by rw [← e f]; exact hc.2.1 f hf, by rw [← e2]; exact hc.2.2⟩
/-- workOut of a ring with a fit, done before or not -/
theorem X0_work (hE : isC E) {q : Nat} (hq : isFi E q) {L : Nat → List (Int × Int)} {G H : Nat} (hF : FiInv h q L G H) (hG9 : G ≤ 9) (hH : H ≤ 20) {r : Nat} (hr : r < 8) (hl : ptL (L r)) (h3 : 3 ≤ (L r).length) {K : zH → Prop}
    (hK : ∀ h', frQ q h h' → FiInv h' q L G H → caOk h' q (L r) G H r → K h') : zCV E mX0_workOut (d + 3) [zR q, zI r] h K := by
  have ho := hF.2.2.2 r hr
  by_cases hd : h (q + 5) r = 0
  · have hpo : ptOk (fPx h q r) (fPy h q r) (L r).length := fun i hi => by
      show -1100 ≤ h (q + 3) (r * 10 + i) ∧ h (q + 3) (r * 10 + i) ≤ 1100 ∧ -1100 ≤ h (q + 4) (r * 10 + i) ∧ h (q + 4) (r * 10 + i) ≤ 1100
      rw [(ho.2.1 i hi).1, (ho.2.1 i hi).2]
      exact hl.2 i hi
    refine X0_workOut hE hq hr ho.1 (by omega) hl.1 hpo hF.1 hG9 hF.2.1 hH hF.2.2.1 hd (fun h' w => ?_)
    obtain ⟨w1, w2, w3, w4, w5⟩ := w
    have ef : ∀ f, sFit (fPx h q r) (fPy h q r) (L r).length G H ((f : Nat) / 4 : Int) ((f : Nat) % 4 : Int) = shF (L r) G H f := fun f => sFit_congr (fun i hi => (ho.2.1 i hi).1) (fun i hi => (ho.2.1 i hi).2) _ _ _ _
    have ca : caOk h' q (L r) G H r := by
      refine ⟨h3, fun f hf => by rw [w4 f hf, ef f], ?_⟩
      rw [w5]
      unfold bsL
      rw [show (fun f => (sFit (fPx h q r) (fPy h q r) (L r).length G H ((f : Nat) / 4 : Int) ((f : Nat) % 4 : Int)).1) = (fun f => (shF (L r) G H f).1) from funext fun f => by rw [ef f]]
    have fr : frQ q h h' := fun c j n => w1 c j (by omega) (by omega) (by omega)
    refine hK h' fr ⟨?_, ?_, w2, fun r' hr' => ?_⟩ ca
    · rw [fr q 11 (by omega)]; exact hF.1
    · rw [fr q 12 (by omega)]; exact hF.2.1
    · by_cases z : r' = r
      · subst z
        refine ⟨?_, fun i hi => ?_, fun _ => ca⟩
        · rw [fr _ _ (by omega)]; exact ho.1
        · rw [fr _ _ (by omega), fr _ _ (by omega)]; exact ho.2.1 i hi
      · have ho' := hF.2.2.2 r' hr'
        refine ⟨?_, fun i hi => ?_, fun hd' => ?_⟩
        · rw [fr _ _ (by omega)]; exact ho'.1
        · rw [fr _ _ (by omega), fr _ _ (by omega)]; exact ho'.2.1 i hi
        · rw [w1 (q + 5) r' (by omega) (by omega) (by omega)] at hd'
          refine (ho'.2.2 hd').mv (w1 _ _ (by omega) (by omega) (by omega)) (fun c j hc b1 b2 => w1 c j (by omega) (by omega) (by omega))
  · exact X0_workOut_d (d := d + 2) hE hq hr hd (hK h (frQ.rf q h) hF (ho.2.2 hd))
theorem X8_hasRing (hE : isC E) {b : Nat} (hb : isSu E b) {R : Nat} (hR : h (b + 3) 1 = R) (hR8 : R ≤ 8) {x : Int} {K : Int → zH → Prop} (hK : K (bI (0 ≤ x ∧ x < R)) h) : zCI E mX8_hasRing d [zR b, zI x] h K := by
  refine eX8_hasRing hE hb ?_
  rw [hR]
  refine ⟨fun c => ?_, fun c => ⟨fun c2 => ?_, fun c2 => ⟨fun c3 => ?_, fun c3 => ?_⟩⟩⟩
  · rwa [bI_f (by omega)] at hK
  · rwa [bI_f (by omega)] at hK
  · rwa [bI_f (by omega)] at hK
  · rwa [bI_t (by omega)] at hK
/-- the points of the rings of a survey -/
def suL (mode : Int) (T : zTri) (ag lx ly : Nat → Int) (R : Nat) (nst : Nat → Nat) (r : Nat) : List (Int × Int) := sPts mode T ag lx ly r (if r < R then nst r else 0)
theorem X0_learn_t (hE : isC E) {q b : Nat} (hq : isFi E q) (hb : isSu E b) (hqv : q = 52 ∨ q = 64) (hbv : b = 8 ∨ b = 27) {L0 : Nat → List (Int × Int)} (hlen10 : ∀ r, r < 8 → (L0 r).length ≤ 10) {G H R : Nat} (hF : FiInv h q L0 G H)
    (hR : h (b + 3) 1 = R) (hR8 : R ≤ 8) {nst : Nat → Nat} (hns : ∀ r, r < R → h (b + 10) r = nst r ∧ nst r ≤ 10) {T : zTri} {lx ly ag : Nat → Int} (hT : StAt h (q + 1) T) (hFd : FdAt h (q + 1) lx ly ag) {mode : Int} (hm0 : 0 ≤ mode) (hm3 : mode ≤ 3)
    (hbd : ∀ s, s < 80 → -999 ≤ T.1 s ∧ T.1 s ≤ 999 ∧ -999 ≤ T.2.1 s ∧ T.2.1 s ≤ 999) (hl : ∀ s, s < 80 → -99 ≤ lx s ∧ lx s ≤ 99 ∧ -99 ≤ ly s ∧ ly s ≤ 99) {K : zH → Prop}
    (hK : ∀ h', (∀ c j, ¬ (q + 2 ≤ c ∧ c ≤ q + 5) → h' c j = h c j) → FiInv h' q (suL mode T ag lx ly R nst) G H → K h') :
    ∀ (m r : Nat), r + m = 8 → ∀ h1 : zH, (∀ c j, ¬ (q + 2 ≤ c ∧ c ≤ q + 5) → h1 c j = h c j) → FiInv h1 q (fun r' => if r' < r then suL mode T ag lx ly R nst r' else L0 r') G H →
      zG E mX0_learn (d + 2) 76 [zR q, zR b, zU, zU, zI mode, zI r] [] h1 (qV K) := by
  intro m
  induction m with
  | zero =>
    intro r hr h1 fr hF1
    have e : r = 8 := by omega
    subst e
    refine bX0_learn_76 (d := d + 1) hE hq hb ⟨fun _ => hK h1 fr ⟨hF1.1, hF1.2.1, hF1.2.2.1, fun r' hr' => ?_⟩, fun c => absurd (by decide) c⟩
    have := hF1.2.2.2 r' hr'
    dsimp only at this
    rwa [if_pos hr'] at this
  | succ m ih =>
    intro r hr h1 fr hF1
    have hr8 : r < 8 := by omega
    have e3 : h1 (b + 3) 1 = R := by rw [fr _ _ (by omega)]; exact hR
    have hT1 : StAt h1 (q + 1) T := fun s hs => by rw [fr _ _ (by omega), fr _ _ (by omega), fr _ _ (by omega)]; exact hT s hs
    have hFd1 : FdAt h1 (q + 1) lx ly ag := fun s hs => by rw [fr _ _ (by omega), fr _ _ (by omega), fr _ _ (by omega)]; exact hFd s hs
    have step : ∀ n : Nat, n ≤ 10 → n = (if r < R then nst r else 0) → zCV E mX0_setUp (d + 1) [zR q, zI r, zI n, zI mode] h1 (fun h4 => ∀ x, x = w32 ((r : Int) + 1) → zG E mX0_learn (d + 2) 76 [zR q, zR b, zU, zU, zI mode, zI x] [] h4 (qV K)) := by
      intro n hn en
      refine X0_setUp (d := d) hE hq hT1 hFd1 hr8 hn hm0 hm3 hbd hl (fun h4 p x e => ?_)
      rw [w_suc (by omega)] at e
      rw [e]
      obtain ⟨p1, p2, p3, p4⟩ := p
      have eL : sPts mode T ag lx ly r n = suL mode T ag lx ly R nst r := by unfold suL; rw [en]
      rw [eL] at p2 p3 p4
      have fr4 : ∀ c j, ¬ (q + 2 ≤ c ∧ c ≤ q + 5) → h4 c j = h1 c j := fun c j n1 => p1 c j (by omega) (by omega)
      refine ih (r + 1) (by omega) h4 (fun c j n1 => (fr4 c j n1).trans (fr c j n1)) ⟨?_, ?_, fun j => ?_, fun r' hr' => ?_⟩
      · rw [fr4 q 11 (by omega)]; exact hF1.1
      · rw [fr4 q 12 (by omega)]; exact hF1.2.1
      · rw [fr4 _ _ (by omega)]; exact hF1.2.2.1 j
      · have ho := hF1.2.2.2 r' hr'
        dsimp only at ho ⊢
        by_cases z : r' = r
        · subst z
          rw [if_neg (by omega)] at ho
          rw [if_pos (by omega)]
          refine ⟨p2, p3, fun hd' => ?_⟩
          rcases p4 with q0 | ⟨q1, q2, q3⟩
          · exact absurd q0 hd'
          · rw [q1] at hd'
            have ca := ho.2.2 hd'
            have hlen : (suL mode T ag lx ly R nst r').length = (L0 r').length := by
              have := ho.1
              omega
            refine (ca.eq hlen (fun i hi => ?_)).mv (fr4 _ _ (by omega)) (fun c j hc b1 b2 => fr4 c j (by omega))
            have a1 := ho.2.1 i hi
            have a2 := q3 i (by omega)
            exact ⟨by rw [← a1.1]; exact a2.1, by rw [← a1.2]; exact a2.2⟩
        · have key : fiOk h4 q (if r' < r then suL mode T ag lx ly R nst r' else L0 r') G H r' := by
            refine ⟨?_, fun i hi => ?_, fun hd' => ?_⟩
            · rw [p1 _ _ (by omega) (by omega)]; exact ho.1
            · have hi10 : i < 10 := by
                have := ho.1
                by_cases z2 : r' < r
                · rw [if_pos z2] at hi
                  have := sdL_len (sInc mode T ag r') (sVx mode T.1 lx r') (sVx mode T.2.1 ly r') (if r' < R then nst r' else 0)
                  have hle : (if r' < R then nst r' else 0) ≤ 10 := by
                    split
                    · exact (hns r' (by assumption)).2
                    · omega
                  change (suL mode T ag lx ly R nst r').length ≤ _ at this
                  omega
                · rw [if_neg z2] at hi
                  exact Nat.lt_of_lt_of_le hi (hlen10 r' hr')
              rw [p1 _ _ (by omega) (by omega), p1 _ _ (by omega) (by omega)]
              exact ho.2.1 i hi
            · rw [p1 _ _ (by omega) (by omega)] at hd'
              exact (ho.2.2 hd').mv (fr4 _ _ (by omega)) (fun c j hc b1 b2 => fr4 c j (by omega))
          by_cases z2 : r' < r
          · rw [if_pos z2] at key
            rwa [if_pos (by omega)]
          · rw [if_neg z2] at key
            rwa [if_neg (by omega)]
    refine bX0_learn_76 (d := d + 1) hE hq hb ⟨fun c => absurd c (by omega), fun c => X8_hasRing hE hb e3 hR8 ⟨fun c1 => ?_, fun c1 => ⟨nat_in (n := 8) hr8, ?_⟩⟩⟩
    · rw [bI_0] at c1
      exact step 0 (by omega) (by rw [if_neg (by omega)])
    · have hlt : r < R := by
        rcases Nat.lt_or_ge r R with z | z
        · exact z
        · exact absurd (bI_0.mpr (by omega)) c1
      rw [Int.toNat_natCast, fr _ _ (by omega), (hns r hlt).1]
      exact step (nst r) (hns r hlt).2 (by rw [if_pos hlt])
theorem X0_learn (hE : isC E) {q b : Nat} (hq : isFi E q) (hb : isSu E b) (hqv : q = 52 ∨ q = 64) (hbv : b = 8 ∨ b = 27) {L0 : Nat → List (Int × Int)} (hlen10 : ∀ r, r < 8 → (L0 r).length ≤ 10) {G0 H0 G H R : Nat} (hF : FiInv h q L0 G0 H0) (hG : h b 14 = (G : Int)) (hH : h b 15 = (H : Int))
    (hR : h (b + 3) 1 = R) (hR8 : R ≤ 8) {nst : Nat → Nat} (hns : ∀ r, r < R → h (b + 10) r = nst r ∧ nst r ≤ 10) {nk nw na nb : Nat → Int} {n t : Nat} (hnt : n ≤ t) (ht : t ≤ 60) (hm : h 46 5 = t) (hN : NotesC h nk nw na nb n) (ho : nOk nk nw na n) {T0 T : zTri} {lx ly ag : Nat → Int} (hT0 : StAt h (b + 11) T0) (hFd : FdAt h (b + 11) lx ly ag) (hTe : apS (stS nk nw n n) nk nw na nb T0 n = T) {mode : Int} (hm0 : 0 ≤ mode) (hm3 : mode ≤ 3)
    (hbd : ∀ s, s < 80 → -999 ≤ T.1 s ∧ T.1 s ≤ 999 ∧ -999 ≤ T.2.1 s ∧ T.2.1 s ≤ 999) (hl : ∀ s, s < 80 → -99 ≤ lx s ∧ lx s ≤ 99 ∧ -99 ≤ ly s ∧ ly s ≤ 99) {K : zH → Prop}
    (hK : ∀ h', (∀ c j, ¬ (c = 51 ∨ (q ≤ c ∧ c ≤ q + 5)) → h' c j = h c j) → StAt h' (q + 1) T → FdAt h' (q + 1) lx ly ag → FiInv h' q (suL mode T ag lx ly R nst) G H → K h') : zCV E mX0_learn (d + 4) [zR q, zR b, zR 46, zI n, zI mode] h K := by
  have g46 : ∀ h1 : zH, (∀ c j, ¬ (c = q ∨ c = q + 5) → h1 c j = h c j) → FiInv h1 q L0 G H → zG E mX0_learn (d + 4) 46 [zR q, zR b, zR 46, zI n, zI mode, zU] [] h1 (qV K) := by
    intro h1 fr1 hF1
    refine bX0_learn_46 (d := d + 3) hE hq hb (fun h2 e2 => ?_)
    have k2 : ∀ c j, c ≠ q + 1 → h2 c j = h1 c j := fun c j hc => by rw [e2]; unfold hcopy; rw [if_neg (by omega)]
    have c2 : ∀ j, j < 480 → h2 (q + 1) j = h (b + 11) j := fun j hj => by rw [e2]; unfold hcopy; rw [if_pos ⟨rfl, hj⟩]; exact fr1 _ _ (by omega)
    have hT2 : StAt h2 (q + 1) T0 := fun s hs => by rw [c2 _ (by omega), c2 _ (by omega), c2 _ (by omega)]; exact hT0 s hs
    have hFd2 : FdAt h2 (q + 1) lx ly ag := fun s hs => by rw [c2 _ (by omega), c2 _ (by omega), c2 _ (by omega)]; exact hFd s hs
    have hN2 : NotesC h2 nk nw na nb n := fun i hi => by
      rw [k2 _ _ (by omega), k2 _ _ (by omega), k2 _ _ (by omega), k2 _ _ (by omega), fr1 _ _ (by omega), fr1 _ _ (by omega), fr1 _ _ (by omega), fr1 _ _ (by omega)]
      exact hN i hi
    refine X3_bring (d := d + 1) hE ⟨hq.2.2.1, Nat.lt_of_le_of_lt (by omega) hq.1⟩ ⟨by omega, by omega, by omega, by omega, by omega⟩ hnt ht (by rw [k2 _ _ (by omega), fr1 _ _ (by omega)]; exact hm) (by omega) hN2 ho hT2 (fun h3 fr3 fd3 t3 => ?_)
    rw [hTe] at t3
    have k3 : ∀ c j, c ≠ 51 → c ≠ q + 1 → h3 c j = h1 c j := fun c j n1 n2 => (fr3 c j n1 n2).trans (k2 c j n2)
    have hFd3 : FdAt h3 (q + 1) lx ly ag := fun s hs => by
      rw [fd3 s 2 hs (by omega) (by omega), fd3 s 3 hs (by omega) (by omega), fd3 s 4 hs (by omega) (by omega)]
      exact hFd2 s hs
    have hF3 : FiInv h3 q L0 G H := by
      refine ⟨by rw [k3 _ _ (by omega) (by omega)]; exact hF1.1, by rw [k3 _ _ (by omega) (by omega)]; exact hF1.2.1, fun j => by rw [k3 _ _ (by omega) (by omega)]; exact hF1.2.2.1 j, fun r hr => ?_⟩
      have o := hF1.2.2.2 r hr
      refine ⟨by rw [k3 _ _ (by omega) (by omega)]; exact o.1, fun i hi => by rw [k3 _ _ (by omega) (by omega), k3 _ _ (by omega) (by omega)]; exact o.2.1 i hi, fun hd => ?_⟩
      rw [k3 _ _ (by omega) (by omega)] at hd
      exact (o.2.2 hd).mv (k3 _ _ (by omega) (by omega)) (fun c j hc _ _ => k3 c j (by omega) (by omega))
    refine X0_learn_t (d := d + 2) (nst := nst) (K := K) hE hq hb hqv hbv hlen10 hF3 (by rw [k3 _ _ (by omega) (by omega), fr1 _ _ (by omega)]; exact hR) hR8 (fun r hr => ?_) t3 hFd3 hm0 hm3 hbd hl (fun h4 fr4 hF4 => ?_) 8 0 (by omega) h3 (fun _ _ _ => rfl) ⟨hF3.1, hF3.2.1, hF3.2.2.1, fun r hr => ?_⟩
    · rw [k3 _ _ (by omega) (by omega), fr1 _ _ (by omega)]; exact hns r hr
    · refine hK h4 (fun c j n1 => ?_) (fun s hs => ?_) (fun s hs => ?_) hF4
      · rw [fr4 c j (by omega), k3 c j (by omega) (by omega)]
        exact fr1 c j (by omega)
      · rw [fr4 _ _ (by omega), fr4 _ _ (by omega), fr4 _ _ (by omega)]; exact t3 s hs
      · rw [fr4 _ _ (by omega), fr4 _ _ (by omega), fr4 _ _ (by omega)]; exact hFd3 s hs
    · dsimp only
      rw [if_neg (by omega)]
      exact hF3.2.2.2 r hr
  have g22 : zG E mX0_learn (d + 4) 22 [zR q, zR b, zR 46, zI n, zI mode, zU] [] h (qV K) := by
    refine bX0_learn_22 (d := d + 3) hE hq hb (fun h1 e1 h2 e2 => ?_)
    rw [hG] at e1
    have e15 : h1 b 15 = H := by rw [e1, hset_ne (by omega)]; exact hH
    rw [e15] at e2
    have hc5 : zsh E (q + 5) = (20, 8) := hq.2.2.2.2.2.2.1
    refine J7_fill ⟨hc5, Nat.lt_of_le_of_lt (by omega) hq.1, by omega⟩ ?_ (by omega)
    have k : ∀ c j, ¬ (c = q ∨ c = q + 5) → hrow h2 (q + 5) 0 (fun _ => 0) 8 c j = h c j := fun c j n1 => by
      rw [hrow_ne (by omega), e2, e1, hset_ne (by omega), hset_ne (by omega)]
    refine g46 _ k ⟨?_, ?_, fun j => by rw [k _ _ (by omega)]; exact hF.2.2.1 j, fun r hr => ?_⟩
    · rw [hrow_ne (by omega), e2, e1, hset_ne (by omega), hset_eq]
    · rw [hrow_ne (by omega), e2, hset_eq]
    · have o := hF.2.2.2 r hr
      refine ⟨by rw [k _ _ (by omega)]; exact o.1, fun i hi => by rw [k _ _ (by omega), k _ _ (by omega)]; exact o.2.1 i hi, fun hd => ?_⟩
      have := hrow_at (h := h2) (c := q + 5) (o := 0) (f := fun _ => 0) (n := 8) (i := r) hr
      rw [Nat.zero_add] at this
      exact absurd this hd
  refine eX0_learn (d := d + 3) hE hq hb ?_
  rw [hG, hH, hF.1, hF.2.1]
  refine ⟨fun _ => g22, fun c => ⟨fun c2 => ?_, fun _ => g22⟩⟩
  have eG : G0 = G := by omega
  have eH : H0 = H := by omega
  subst eG eH
  exact g46 h (fun _ _ _ => rfl) hF
end TLearn
