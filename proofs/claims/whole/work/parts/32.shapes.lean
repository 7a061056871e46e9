/-! ===== topic: the shapes of all rings; the reference ===== -/
section TShapes
variable {E : zE} {d : Nat} {h : zH} {K : zH → Prop}
theorem tst_congr {px py px' py' : Nat → Int} {m : Nat} (h1 : ∀ i, i < m → px i = px' i) (h2 : ∀ i, i < m → py i = py' i) (sort turn : Int) : tst px py m sort turn = tst px' py' m sort turn := by
  have ea : ∀ x y i, i < m → sAw px py sort turn x y i = sAw px' py' sort turn x y i := by
    intro x y i hi
    unfold sAw
    rw [h1 i hi, h2 i hi]
  have er : ∀ x y, sRad px py m sort turn x y = sRad px' py' m sort turn x y := by
    intro x y
    unfold sRad
    rw [sSum_congr (ea x y)]
  have em : ∀ x y, sMis px py m sort turn x y = sMis px' py' m sort turn x y := by
    intro x y
    unfold sMis
    rw [er, sDev_congr (ea x y)]
  funext a x y
  unfold tst
  rw [er, em]
theorem sFit_congr {px py px' py' : Nat → Int} {m : Nat} (h1 : ∀ i, i < m → px i = px' i) (h2 : ∀ i, i < m → py i = py' i) (G H : Nat) (sort turn : Int) : sFit px py m G H sort turn = sFit px' py' m G H sort turn := by
  unfold sFit sMean
  rw [tst_congr h1 h2, sSum_congr h1, sSum_congr h2]
def shF (l : List (Int × Int)) (G H f : Nat) : zAcc := sFit (lX l) (lY l) l.length G H ((f : Int) / 4) ((f : Int) % 4)
def bsL (l : List (Int × Int)) (G H : Nat) : Nat := bsG (fun f => (shF l G H f).1) 8
def ptL (l : List (Int × Int)) : Prop := l.length ≤ 10 ∧ ptOk (lX l) (lY l) l.length
theorem ptL_of {mode : Int} {T : zTri} {ag lx ly : Nat → Int} {r n : Nat} (hr : r < 8) (hn : n ≤ 10) (hb : ∀ s, s < 80 → -999 ≤ T.1 s ∧ T.1 s ≤ 999 ∧ -999 ≤ T.2.1 s ∧ T.2.1 s ≤ 999) (hl : ∀ s, s < 80 → -99 ≤ lx s ∧ lx s ≤ 99 ∧ -99 ≤ ly s ∧ ly s ≤ 99) : ptL (sPts mode T ag lx ly r n) := by
  refine ⟨Nat.le_trans (sdL_len _ _ _ _) hn, fun i hi => ?_⟩
  have hm : (sPts mode T ag lx ly r n)[i] ∈ sPts mode T ag lx ly r n := List.getElem_mem hi
  obtain ⟨j, hj, e⟩ := sdL_mem hm
  have b1 := hb (10 * r + j) (by omega)
  have b2 := hl (10 * r + j) (by omega)
  have e1 : lX (sPts mode T ag lx ly r n) i = sVx mode T.1 lx r j := by unfold lX; simp [hi, e]
  have e2 : lY (sPts mode T ag lx ly r n) i = sVx mode T.2.1 ly r j := by unfold lY; simp [hi, e]
  rw [e1, e2]
  unfold sVx
  split <;> omega
theorem shF_ok {l : List (Int × Int)} (hl : ptL l) (h0 : 0 < l.length) {G H : Nat} (hG : G ≤ 9) (hH : H ≤ 20) (f : Nat) : aOk (shF l G H f) := sFit_ok hl.2 h0 hl.1 hG hH _ _
theorem bsG_lt (mis : Nat → Int) : ∀ {f : Nat}, 4 ≤ f → bsG mis (f - 4) < f := by
  have key : ∀ n, bsG mis n < 4 + n := by
    intro n
    induction n with
    | zero => exact Nat.zero_lt_succ 3
    | succ n ih =>
      unfold bsG
      split <;> omega
  intro f hf
  have := key (f - 4)
  omega
/-- the reference's rows of shapes -/
def ShR (h : zH) (L : Nat → List (Int × Int)) (G H r : Nat) : Prop :=
  h 36 r = ((L r).length : Int) ∧ h 35 r = (if 3 ≤ (L r).length then (bsL (L r) G H : Int) else -1) ∧ (3 ≤ (L r).length → ∀ f, okF f → h 33 (12 * r + f) = 2 * (shF (L r) G H f).2.1 ∧ h 34 (12 * r + f) = (shF (L r) G H f).1)
def frH (h h' : zH) : Prop := ∀ c j, ¬ (26 ≤ c ∧ c ≤ 36) → ¬ (c = 0 ∧ (j = 68 ∨ (70 ≤ j ∧ j ≤ 73))) → h' c j = h c j
theorem X10_shapes (hE : isR E) {nk nw na nb : Nat → Int} {n : Nat} (hn : n ≤ 60) (hN : NotesR h nk nw na nb n) (ho : nOk nk nw na n) (hg : ∀ s, s < 80 → h 11 s = 0 ∨ h 11 s = 1) {T : zTri} (hT : apS (stS nk nw n n) nk nw na nb (h 6, h 7, h 11) n = T)
    {R G H : Nat} (hR : h 0 24 = R) (hR8 : R ≤ 8) {nst : Nat → Nat} (hns : ∀ r, r < R → h 5 r = nst r ∧ nst r ≤ 10) {mode : Int} (hm : h 0 56 = mode) (hm0 : 0 ≤ mode) (hm3 : mode ≤ 3) (hG : h 0 29 = G) (hG9 : G ≤ 9) (hH : h 0 30 = H) (hH20 : H ≤ 20)
    (hb : ∀ s, s < 80 → -999 ≤ T.1 s ∧ T.1 s ≤ 999 ∧ -999 ≤ T.2.1 s ∧ T.2.1 s ≤ 999) (hl : ∀ s, s < 80 → -99 ≤ h 8 s ∧ h 8 s ≤ 99 ∧ -99 ≤ h 9 s ∧ h 9 s ≤ 99)
    (hK : ∀ h', frH h h' → (∀ r, r < R → ShR h' (fun r => sPts mode T (h 10) (h 8) (h 9) r (nst r)) G H r) → K h') : zCV E mX10_shapes (d + 4) [zR 0, zI n] h K := by
  generalize hLL : (fun r => sPts mode T (h 10) (h 8) (h 9) r (nst r)) = L at hK
  have hpl : ∀ r, r < R → ptL (L r) := fun r hr => by rw [← hLL]; exact ptL_of (by omega) (hns r hr).2 hb hl
  refine eX10_shapes (d := d + 3) hE (X10_stones hE hn hN ho hg (fun h0 f0 t0 => ?_))
  rw [hT] at t0
  have loop : ∀ (m r : Nat), r + m = R → ∀ h1 : zH, frH h h1 → TriR h1 T → (∀ r', r' < r → ShR h1 L G H r') → zG E mX10_shapes (d + 4) 7 [zR 0, zU, zI r, zU] [] h1 (qV K) := by
    intro m
    induction m with
    | zero =>
      intro r hr h1 fr ht hs
      have e : r = R := by omega
      subst e
      have e24 : h1 0 24 = r := by rw [fr 0 24 (by omega) (by omega)]; exact hR
      refine bX10_shapes_7 (d := d + 3) hE ⟨fun _ => hK h1 fr hs, fun c => absurd (by rw [e24]; exact Int.le_refl _) c⟩
    | succ m ih =>
      intro r hr h1 fr ht hs
      have hrR : r < R := by omega
      have e24 : h1 0 24 = R := by rw [fr 0 24 (by omega) (by omega)]; exact hR
      have e5 : h1 5 r = nst r := by rw [fr 5 r (by omega) (by omega)]; exact (hns r hrR).1
      have e56 : h1 0 56 = mode := by rw [fr 0 56 (by omega) (by omega)]; exact hm
      have r8 : h1 8 = h 8 := funext fun j => fr 8 j (by omega) (by omega)
      have r9 : h1 9 = h 9 := funext fun j => fr 9 j (by omega) (by omega)
      have r10 : h1 10 = h 10 := funext fun j => fr 10 j (by omega) (by omega)
      have b8 : (0 : Int) ≤ (r : Int) ∧ (r : Int) < 8 := nat_in (n := 8) (by omega)
      have hlr := hpl r hrR
      have eL : sPts mode T (h1 10) (h1 8) (h1 9) r (nst r) = L r := by rw [r8, r9, r10, ← hLL]
      refine bX10_shapes_7 (d := d + 3) hE ⟨fun c => absurd c (by rw [e24]; omega), fun c => X10_stands hE ht (by omega) e5 (hns r hrR).2 e56 hm0 hm3 hb (by rw [r8, r9]; exact hl) (fun h2 fr2 c2 p2 => ?_)⟩
      rw [eL] at c2 p2
      generalize hlv : L r = l at hlr c2 p2
      refine ⟨b8, fun h3 e3 => ⟨b8, fun h4 e4 => ?_⟩⟩
      rw [Int.toNat_natCast] at e3 e4
      rw [c2] at e3
      have f2 : frH h h2 := fun c j n1 n2 => (fr2 c j (by omega) (by omega) (by omega)).trans (fr c j n1 n2)
      have f4 : frH h h4 := by
        intro c j n1 n2
        rw [e4, e3, hset_ne (by omega), hset_ne (by omega)]
        exact f2 c j n1 n2
      -- the shapes of this ring: invariant
      have inner : ∀ (m2 f : Nat), f + m2 = 12 → ∀ h5 : zH, frH h h5 → TriR h5 T → (∀ r', r' < r → ShR h5 L G H r') → h5 0 68 = (l.length : Int) → (∀ i, i < l.length → h5 30 i = lX l i ∧ h5 31 i = lY l i) → h5 36 r = (l.length : Int) →
          (3 ≤ l.length → ∀ f', okF f' → f' < f → h5 33 (12 * r + f') = 2 * (shF l G H f').2.1 ∧ h5 34 (12 * r + f') = (shF l G H f').1) →
          (h5 35 r = (if 3 ≤ l.length then (if f = 0 then -1 else ((bsG (fun f => (shF l G H f).1) (f - 4) : Nat) : Int)) else -1)) →
          zG E mX10_shapes (d + 4) 39 [zR 0, zU, zI r, zI f] [] h5 (qV K) := by
        intro m2
        induction m2 with
        | zero =>
          intro f hf h5 fr5 ht5 hs5 c5 p5 s5 v5 b5
          have e : f = 12 := by omega
          subst e
          refine bX10_shapes_39 (d := d + 3) hE ⟨fun _ x e => ?_, fun c => absurd (by decide) c⟩
          rw [w_suc (by omega)] at e
          rw [e]
          refine ih (r + 1) (by omega) h5 fr5 ht5 (fun r' hr' => ?_)
          by_cases z : r' = r
          · subst z
            refine ⟨by rw [hlv]; exact s5, ?_, fun h3l f' hf' => ?_⟩
            · rw [hlv, b5]; rfl
            · rw [hlv] at h3l ⊢
              exact v5 h3l f' hf' (by omega)
          · exact hs5 r' (by omega)
        | succ m2 ih2 =>
          intro f hf h5 fr5 ht5 hs5 c5 p5 s5 v5 b5
          refine bX10_shapes_39 (d := d + 3) hE ⟨fun c => absurd c (by omega), fun c => ?_⟩
          rw [c5]
          refine ⟨fun c1 x e => ?_, fun c1 => ?_⟩
          · rw [w_suc (by omega)] at e
            rw [e]
            refine ih (r + 1) (by omega) h5 fr5 ht5 (fun r' hr' => ?_)
            by_cases z : r' = r
            · subst z
              refine ⟨by rw [hlv]; exact s5, ?_, fun h3l => absurd h3l (by rw [hlv]; omega)⟩
              rw [hlv, b5, if_neg (by omega), if_neg (by omega)]
            · exact hs5 r' (by omega)
          · have h3l : 3 ≤ l.length := by omega
            rw [if_pos h3l] at b5
            have go65 : okF f → zG E mX10_shapes (d + 4) 65 [zR 0, zU, zI r, zI f] [] h5 (qV K) := by
              intro hok
              have e29 : h5 0 29 = G := by rw [fr5 0 29 (by omega) (by omega)]; exact hG
              have e30 : h5 0 30 = H := by rw [fr5 0 30 (by omega) (by omega)]; exact hH
              have epx : ∀ i, i < l.length → h5 30 i = lX l i := fun i hi => (p5 i hi).1
              have epy : ∀ i, i < l.length → h5 31 i = lY l i := fun i hi => (p5 i hi).2
              have hpo : ptOk (h5 30) (h5 31) l.length := fun i hi => by rw [epx i hi, epy i hi]; exact hlr.2 i hi
              have ix : w32 (w32 (12 * (r : Int)) + (f : Int)) = ((12 * r + f : Nat) : Int) := by
                rw [w32i (x := 12 * (r : Int)) (by omega) (by omega), w32i (by omega) (by omega)]; omega
              have b96 : (0 : Int) ≤ ((12 * r + f : Nat) : Int) ∧ ((12 * r + f : Nat) : Int) < 96 := nat_in (n := 96) (by omega)
              have ok := shF_ok hlr (by omega) hG9 hH20 f
              refine bX10_shapes_65 (d := d + 3) hE ?_
              rw [Int.tdiv_eq_ediv_of_nonneg (by omega), Int.tmod_eq_emod_of_nonneg (by omega), w32i (x := (f : Int) / 4) (by omega) (by omega), w32i (x := (f : Int) % 4) (by omega) (by omega)]
              refine X10_fits (d := d) hE c5 (by omega) hlr.1 hpo e29 hG9 e30 hH20 (fun h6 fr6 ac6 => ?_)
              rw [sFit_congr epx epy] at ac6
              change accR h6 = shF l G H f at ac6
              have a71 : h6 0 71 = (shF l G H f).1 := congrArg (fun a : zAcc => a.1) ac6
              have a70 : h6 0 70 = (shF l G H f).2.1 := congrArg (fun a : zAcc => a.2.1) ac6
              rw [ix, Int.toNat_natCast, Int.toNat_natCast, a70]
              rw [w32i (x := 2 * (shF l G H f).2.1) (by have := ok.2.2.1; omega) (by have := ok.2.2.2.1; omega)]
              refine ⟨b96, fun h7 e7 => ⟨b96, fun h8 e8 => ⟨b8, ?_⟩⟩⟩
              have a71' : h7 0 71 = (shF l G H f).1 := by rw [e7, hset_ne (by omega)]; exact a71
              rw [a71'] at e8
              have a71'' : h8 0 71 = (shF l G H f).1 := by rw [e8, hset_ne (by omega)]; exact a71'
              have k35 : h8 35 r = h5 35 r := by rw [e8, e7, hset_ne (by omega), hset_ne (by omega)]; exact fr6 35 r (by omega)
              have fr8 : frH h h8 := by
                intro c j n1 n2
                rw [e8, e7, hset_ne (by omega), hset_ne (by omega), fr6 c j (by omega)]
                exact fr5 c j n1 n2
              have ht8 : TriR h8 T := by
                intro s hs'
                rw [e8, e7, hset_ne (by omega), hset_ne (by omega), hset_ne (by omega), hset_ne (by omega), hset_ne (by omega), hset_ne (by omega), fr6 27 s (by omega), fr6 28 s (by omega), fr6 29 s (by omega)]
                exact ht5 s hs'
              have v8 : ∀ f', okF f' → f' < f + 1 → h8 33 (12 * r + f') = 2 * (shF l G H f').2.1 ∧ h8 34 (12 * r + f') = (shF l G H f').1 := by
                intro f' hf' hlt
                by_cases z : f' = f
                · subst z
                  rw [e8, e7, hset_ne (by omega), hset_eq, hset_eq]
                  exact ⟨rfl, rfl⟩
                · rw [e8, e7, hset_ne (by omega), hset_ne (by omega), hset_ne (by omega), hset_ne (by omega), fr6 33 _ (by omega), fr6 34 _ (by omega)]
                  exact v5 h3l f' hf' (by omega)
              have fin : ∀ (b : Int) (h9 : zH), (h9 = h8 ∧ h8 35 r = b ∨ h9 = hset h8 35 r b) → b = ((bsG (fun f => (shF l G H f).1) (f + 1 - 4) : Nat) : Int) → ∀ x, x = w32 ((f : Int) + 1) → zG E mX10_shapes (d + 4) 39 [zR 0, zU, zI r, zI x] [] h9 (qV K) := by
                intro b h9 e9 eb x e
                rw [w_suc (by omega)] at e
                rw [e]
                have k9 : ∀ c j, ¬ (c = 35 ∧ j = r) → h9 c j = h8 c j := by
                  intro c j hcj
                  rcases e9 with ⟨z, -⟩ | z
                  · rw [z]
                  · rw [z, hset_ne hcj]
                have k9r : h9 35 r = b := by
                  rcases e9 with ⟨z, z2⟩ | z
                  · rw [z]; exact z2
                  · rw [z, hset_eq]
                refine ih2 (f + 1) (by omega) h9 (fun c j n1 n2 => by rw [k9 c j (by omega)]; exact fr8 c j n1 n2) (fun s hs' => by rw [k9 _ _ (by omega), k9 _ _ (by omega), k9 _ _ (by omega)]; exact ht8 s hs') (fun r' hr' => ?_) ?_ (fun i hi => ?_) ?_ (fun _ f' hf' hlt => by rw [k9 _ _ (by omega), k9 _ _ (by omega)]; exact v8 f' hf' hlt) ?_
                · have := hs5 r' hr'
                  refine ⟨?_, ?_, fun hh f' hf' => ?_⟩
                  · rw [k9 _ _ (by omega), e8, e7, hset_ne (by omega), hset_ne (by omega), fr6 36 _ (by omega)]; exact this.1
                  · rw [k9 _ _ (by omega), e8, e7, hset_ne (by omega), hset_ne (by omega), fr6 35 _ (by omega)]; exact this.2.1
                  · rw [k9 _ _ (by omega), k9 _ _ (by omega), e8, e7, hset_ne (by omega), hset_ne (by omega), hset_ne (by omega), hset_ne (by omega), fr6 33 _ (by omega), fr6 34 _ (by omega)]; exact this.2.2 hh f' hf'
                · rw [k9 _ _ (by omega), e8, e7, hset_ne (by omega), hset_ne (by omega), fr6 0 68 (by omega)]; exact c5
                · rw [k9 _ _ (by omega), k9 _ _ (by omega), e8, e7, hset_ne (by omega), hset_ne (by omega), hset_ne (by omega), hset_ne (by omega), fr6 30 _ (by omega), fr6 31 _ (by omega)]; exact p5 i hi
                · rw [k9 _ _ (by omega), e8, e7, hset_ne (by omega), hset_ne (by omega), fr6 36 _ (by omega)]; exact s5
                · rw [k9r, if_pos h3l, if_neg (by omega)]; exact eb
              rw [k35, b5, a71'']
              by_cases hf0 : f = 0
              · rw [if_pos hf0]
                refine ⟨fun _ => ⟨b8, fun h9 e9 => fin (f : Int) h9 (Or.inr e9) ?_⟩, fun c => absurd rfl c⟩
                rw [hf0]; rfl
              · have hf4 : 4 ≤ f := by omega
                rw [if_neg hf0]
                have hbok := bsG_ok (fun f => (shF l G H f).1) (f - 4) (by omega)
                generalize hbv : bsG (fun f => (shF l G H f).1) (f - 4) = b at hbok
                have hblt : b < f := by
                  rw [← hbv]
                  exact bsG_lt _ hf4
                have ixb : w32 (w32 (12 * (r : Int)) + (b : Int)) = ((12 * r + b : Nat) : Int) := by
                  rw [w32i (x := 12 * (r : Int)) (by omega) (by omega), w32i (by omega) (by omega)]; omega
                have eN : bsG (fun f => (shF l G H f).1) (f + 1 - 4) = (if (shF l G H f).1 < (shF l G H b).1 then f else b) := by
                  rw [show f + 1 - 4 = (f - 4) + 1 by omega, bsG, hbv, show 4 + (f - 4) = f by omega]
                rw [ixb, Int.toNat_natCast, (v8 b hbok (by omega)).2]
                refine ⟨fun c => absurd c (by omega), fun _ => ⟨b8, nat_in (n := 96) (by omega), fun c2 => fin (b : Int) h8 (Or.inl ⟨rfl, ?_⟩) ?_, fun c2 => ⟨b8, fun h9 e9 => fin (f : Int) h9 (Or.inr e9) ?_⟩⟩⟩
                · rw [k35, b5, if_neg hf0, hbv]
                · rw [eN, if_neg (by omega)]
                · rw [eN, if_pos (by omega)]
            refine ⟨fun c2 => go65 (by omega), fun c2 => ⟨fun c3 => go65 (by omega), fun c3 x e => ?_⟩⟩
            rw [w_suc (by omega)] at e
            rw [e]
            refine ih2 (f + 1) (by omega) h5 fr5 ht5 hs5 c5 p5 s5 (fun hh f' hf' hlt => v5 hh f' hf' (by omega)) ?_
            rw [if_pos h3l, if_neg (by omega), b5, if_neg (by omega), show f + 1 - 4 = f - 4 by omega]
      refine inner 12 0 (by omega) h4 f4 (fun s hs' => ?_) (fun r' hr' => ?_) ?_ (fun i hi => ?_) ?_ (fun _ f' _ hlt => absurd hlt (by omega)) ?_
      · rw [e4, e3, hset_ne (by omega), hset_ne (by omega), hset_ne (by omega), hset_ne (by omega), hset_ne (by omega), hset_ne (by omega), fr2 27 s (by omega) (by omega) (by omega), fr2 28 s (by omega) (by omega) (by omega), fr2 29 s (by omega) (by omega) (by omega)]
        exact ht s hs'
      · have := hs r' hr'
        refine ⟨?_, ?_, fun hh f' hf' => ?_⟩
        · rw [e4, e3, hset_ne (by omega), hset_ne (by omega), fr2 36 _ (by omega) (by omega) (by omega)]; exact this.1
        · rw [e4, e3, hset_ne (by omega), hset_ne (by omega), fr2 35 _ (by omega) (by omega) (by omega)]; exact this.2.1
        · rw [e4, e3, hset_ne (by omega), hset_ne (by omega), hset_ne (by omega), hset_ne (by omega), fr2 33 _ (by omega) (by omega) (by omega), fr2 34 _ (by omega) (by omega) (by omega)]; exact this.2.2 hh f' hf'
      · rw [e4, e3, hset_ne (by omega), hset_ne (by omega)]; exact c2
      · rw [e4, e3, hset_ne (by omega), hset_ne (by omega), hset_ne (by omega), hset_ne (by omega)]; exact p2 i hi
      · rw [e4, e3, hset_ne (by omega), hset_eq]
      · rw [e4, hset_eq, if_pos rfl]
        split <;> rfl
  refine loop R 0 (by omega) h0 (fun c j n1 n2 => f0 c j (by omega)) t0 (fun r' hr' => absurd hr' (by omega))
end TShapes
