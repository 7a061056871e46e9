/-! ===== topic: learn by the state; ahead of the class ===== -/
section TAhead
variable {E : zE} {d : Nat} {h : zH} {S : zH} {K : Int → zH → Prop}
theorem sdL_congr {i1 i2 : Nat → Bool} {x1 x2 y1 y2 : Nat → Int} : ∀ n, (∀ k, k < n → i1 k = i2 k ∧ x1 k = x2 k ∧ y1 k = y2 k) → sdL i1 x1 y1 n = sdL i2 x2 y2 n
  | 0, _ => rfl
  | n + 1, hh => by
    unfold sdL
    rw [(hh n (by omega)).1, (hh n (by omega)).2.1, (hh n (by omega)).2.2, sdL_congr n (fun k hk => hh k (by omega))]
def agr (T T' : zTri) (lx ly ag lx' ly' ag' : Nat → Int) (s : Nat) : Prop := T.1 s = T'.1 s ∧ T.2.1 s = T'.2.1 s ∧ T.2.2 s = T'.2.2 s ∧ lx s = lx' s ∧ ly s = ly' s ∧ ag s = ag' s
theorem sPts_congr {mode : Int} {T T' : zTri} {lx ly ag lx' ly' ag' : Nat → Int} {r n : Nat} (hh : ∀ k, k < n → agr T T' lx ly ag lx' ly' ag' (10 * r + k)) : sPts mode T ag lx ly r n = sPts mode T' ag' lx' ly' r n := by
  unfold sPts
  refine sdL_congr n (fun k hk => ?_)
  obtain ⟨a1, a2, a3, a4, a5, a6⟩ := hh k hk
  unfold sInc sVx
  rw [a1, a2, a3, a4, a5, a6]
  exact ⟨rfl, rfl, rfl⟩
theorem suL_congr {mode : Int} {T T' : zTri} {lx ly ag lx' ly' ag' : Nat → Int} {R : Nat} {nst : Nat → Nat} (hh : ∀ r k, r < R → k < nst r → agr T T' lx ly ag lx' ly' ag' (10 * r + k)) : suL mode T ag lx ly R nst = suL mode T' ag' lx' ly' R nst := by
  funext r
  unfold suL
  refine sPts_congr (fun k hk => ?_)
  by_cases z : r < R
  · rw [if_pos z] at hk
    exact hh r k z hk
  · rw [if_neg z] at hk
    exact absurd hk (by omega)
theorem apS_congr {st nk nw na nb : Nat → Int} {b b' : zTri} {s : Nat} (hb : b.1 s = b'.1 s ∧ b.2.1 s = b'.2.1 s ∧ b.2.2 s = b'.2.2 s) : ∀ i, (apS st nk nw na nb b i).1 s = (apS st nk nw na nb b' i).1 s ∧ (apS st nk nw na nb b i).2.1 s = (apS st nk nw na nb b' i).2.1 s ∧ (apS st nk nw na nb b i).2.2 s = (apS st nk nw na nb b' i).2.2 s
  | 0 => hb
  | i + 1 => by
    have ih := apS_congr (st := st) (nk := nk) (nw := nw) (na := na) (nb := nb) hb i
    unfold apS
    split
    · exact ih
    · split
      · refine ⟨ih.1, ih.2.1, ?_⟩
        unfold updN
        dsimp only
        rw [ih.2.2]
      · refine ⟨?_, ?_, ih.2.2⟩
        · unfold updN
          dsimp only
          rw [ih.1]
        · unfold updN
          dsimp only
          rw [ih.2.1]
theorem X0_learnI (hE : isC E) {q b : Nat} (hqv : q = 52 ∨ q = 64) (hb : b = 8 ∨ b = 27) (w : WfS S) (sv : SvC S h b) (bd : BdC h b) (e46 : h 46 5 = S 0 54) (nc : NotesC h (S 22) (S 23) (S 24) (S 25) (S 0 54).toNat) {n : Nat} (hn : n ≤ (S 0 54).toNat) {L0 : Nat → List (Int × Int)} {G0 H0 : Nat} (hF : FiInv h q L0 G0 H0) (hl0 : ∀ r, r < 8 → (L0 r).length ≤ 10) {K : zH → Prop}
    (hK : ∀ h', (∀ c j, ¬ (c = 51 ∨ (q ≤ c ∧ c ≤ q + 5)) → h' c j = h c j) → FiInv h' q (sLs S n) (sG S) (sH S) → (∀ r k : Nat, (r : Int) < S 0 24 → (k : Int) < S 5 r → sixF h' (q + 1) ((10 * r + k) * 6) ((sTr S n).1 (10 * r + k)) ((sTr S n).2.1 (10 * r + k)) (S 8 (10 * r + k)) (S 9 (10 * r + k)) (S 10 (10 * r + k)) ((sTr S n).2.2 (10 * r + k))) → K h') : zCV E mX0_learn (d + 4) [zR q, zR b, zR 46, zI n, zI (S 0 56)] h K := by
  have wn := w.n
  unfold WfN at wn
  have hq : isFi E q := by
    rcases hqv with e | e <;> subst e
    · exact fi_52 hE
    · exact fi_64 hE
  have ag : ∀ r k : Nat, (r : Int) < S 0 24 → (k : Int) < S 5 r → agr (apS (stS (S 22) (S 23) n n) (S 22) (S 23) (S 24) (S 25) (fun s => h (b + 11) (s * 6), fun s => h (b + 11) (s * 6 + 1), fun s => h (b + 11) (s * 6 + 5)) n) (sTr S n) (fun s => h (b + 11) (s * 6 + 2)) (fun s => h (b + 11) (s * 6 + 3)) (fun s => h (b + 11) (s * 6 + 4)) (S 8) (S 9) (S 10) (10 * r + k) := by
    intro r k hr hk
    obtain ⟨f1, f2, f3, f4, f5, f6⟩ := (sv.rg r hr).2.2 k hk
    have ac := apS_congr (st := stS (S 22) (S 23) n n) (nk := S 22) (nw := S 23) (na := S 24) (nb := S 25) (b := (fun s => h (b + 11) (s * 6), fun s => h (b + 11) (s * 6 + 1), fun s => h (b + 11) (s * 6 + 5))) (b' := (S 6, S 7, S 11)) (s := 10 * r + k) ⟨f1, f2, f6⟩ n
    exact ⟨ac.1, ac.2.1, ac.2.2, f3, f4, f5⟩
  have el : suL (S 0 56) (apS (stS (S 22) (S 23) n n) (S 22) (S 23) (S 24) (S 25) (fun s => h (b + 11) (s * 6), fun s => h (b + 11) (s * 6 + 1), fun s => h (b + 11) (s * 6 + 5)) n) (fun s => h (b + 11) (s * 6 + 4)) (fun s => h (b + 11) (s * 6 + 2)) (fun s => h (b + 11) (s * 6 + 3)) (S 0 24).toNat (fun r => (S 5 r).toNat) = sLs S n := by
    unfold sLs
    refine suL_congr (fun r k hr hk => ag r k (by omega) ?_)
    have := w.g.1 r (by omega)
    omega
  refine X0_learn hE hq (su_b hE hb) hqv hb hl0 hF (G := sG S) (H := sH S) (by rw [sv.gd]; unfold sG; omega) (by rw [sv.sp]; unfold sH; omega) (R := (S 0 24).toNat) (by rw [sv.ri.1]; omega) (by omega) (nst := fun r => (S 5 r).toNat) (fun r hr => ?_) (nk := S 22) (nw := S 23) (na := S 24) (nb := S 25) (t := (S 0 54).toNat) hn (by omega) (by rw [e46]; omega) (fun i hi => nc i (by omega)) (w.t.1.le hn)
    (T0 := (fun s => h (b + 11) (s * 6), fun s => h (b + 11) (s * 6 + 1), fun s => h (b + 11) (s * 6 + 5))) (lx := fun s => h (b + 11) (s * 6 + 2)) (ly := fun s => h (b + 11) (s * 6 + 3)) (ag := fun s => h (b + 11) (s * 6 + 4)) (fun s hs => ⟨rfl, rfl, rfl⟩) (fun s hs => ⟨rfl, rfl, rfl⟩) rfl (by omega) (by omega) (fun s hs => ?_) (fun s hs => (bd s hs).2) (fun h' fr hT hFd hFi => ?_)
  · have rg := sv.rg r (by omega)
    have g := w.g.1 r (by omega)
    rw [rg.2.1]
    omega
  · refine apS_b (b := (fun s => h (b + 11) (s * 6), fun s => h (b + 11) (s * 6 + 1), fun s => h (b + 11) (s * 6 + 5))) (s := s) (n := n) (fun i hi n1 n2 => ?_) ((bd s hs).1) n (Nat.le_refl n)
    have a := w.t
    have c := (a.1 i (by omega)).1
    exact a.2 i (by omega) (by omega)
  · rw [el] at hFi
    refine hK h' fr hFi (fun r k hr hk => ?_)
    have hs : 10 * r + k < 80 := by
      have := w.g.1 r hr
      omega
    obtain ⟨a1, a2, a3, a4, a5, a6⟩ := ag r k hr hk
    have t := hT _ hs
    have f := hFd _ hs
    exact ⟨t.1.trans a1, t.2.1.trans a2, f.1.trans a4, f.2.1.trans a5, f.2.2.trans a6, t.2.2.trans a3⟩
/-! ahead -/
def rkN (S : zH) (n r : Nat) : Int := if 3 ≤ (sLs S n r).length then szB (sLs S n r) (sG S) (sH S) else -1
def cT (S : zH) (n : Nat) (P : Nat → Bool) : Nat → Int
  | 0 => 0
  | r + 1 => if hasF S r ∧ szB (sLs S (sNk S) r) (sG S) (sH S) ≠ rkN S n r ∧ P r = true then cT S n P r + 1 else cT S n P r
theorem cT_r (n : Nat) (P : Nat → Bool) : ∀ r : Nat, 0 ≤ cT S n P r ∧ cT S n P r ≤ r
  | 0 => by unfold cT; omega
  | r + 1 => by
    have := cT_r n P r
    unfold cT
    split <;> omega
def aAhead (S : zH) (n a b c w : Int) : Int :=
  if (0 ≤ n ∧ n ≤ S 0 54) ∧ okU a b c 1000 ∧ 0 ≤ w ∧ w ≤ 2 then
    (if w = 0 then bsU S (rkN S n.toNat) a b c else if w = 1 then cT S n.toNat (nrB S (bsU S (rkN S n.toNat) a b c)) 8 else cT S n.toNat (fun _ => true) 8) else -1
theorem rkN_ok (w : WfS S) {n : Nat} (hn : n ≤ (S 0 54).toNat) (r : Nat) : rkN S n r = -1 ∨ (0 ≤ rkN S n r ∧ rkN S n r < 1000000000) := by
  unfold rkN
  split
  · rename_i z
    by_cases q : (r : Int) < S 0 24
    · have := szF_r (sLs_pt w hn (w.r8 q)) z w.g9 w.h20 (bsL (sLs S n r) (sG S) (sH S))
      unfold szB
      right; omega
    · rw [sLs_out q] at z
      exact absurd z (by decide)
  · exact Or.inl rfl
theorem rkN_out {n r : Nat} (hr : S 0 24 ≤ (r : Int)) : rkN S n r = -1 := by
  unfold rkN
  rw [sLs_out (by omega)]
  rfl
/-- the class between: then as told by n notes -/
def AhC (S h : zH) (b n : Nat) : Prop := ICb S h b ∧ FiW h 64 (sLs S n) (sG S) (sH S)
theorem AhC.q5 {h' : zH} {b n : Nat} (i : AhC S h b n) (fr : frQ 52 h h') (f1 : FiW h' 52 (sLs S (sNk S)) (sG S) (sH S)) : AhC S h' b n := ⟨i.1.mvQ fr f1, i.2.sm (fun c j a b => fr c j (by omega))⟩
theorem AhC.q6 {h' : zH} {b n : Nat} (i : AhC S h b n) (fr : frQ 64 h h') (f1 : FiW h' 64 (sLs S n) (sG S) (sH S)) : AhC S h' b n :=
  ⟨i.1.mv (fun c j hc => fr c j (by unfold scr at hc; omega)) (i.1.fi.sm (fun c j a b => fr c j (by omega))) ⟨_, _, _, f1.1, fun r hr => (f1.pts r hr).1⟩, f1⟩
theorem AhC.sz {h' : zH} {b n : Nat} (i : AhC S h b n) (fr : ∀ c j, ¬ ((c = 76 ∧ j = 1) ∨ c = 77) → h' c j = h c j) : AhC S h' b n := ⟨i.1.sz fr, i.2.sm (fun c j a b => fr c j (by omega))⟩
theorem lst_ext {l l' : List (Int × Int)} (hl : l.length = l'.length) (hp : ∀ i, i < l.length → lX l i = lX l' i ∧ lY l i = lY l' i) : l = l' := by
  refine List.ext_getElem hl (fun i h1 h2 => ?_)
  have := hp i h1
  unfold lX lY at this
  rw [List.getD_eq_getElem?_getD, List.getD_eq_getElem?_getD, List.getElem?_eq_getElem h1, List.getElem?_eq_getElem h2] at this
  dsimp only [Option.getD] at this
  exact Prod.ext this.1 this.2
theorem X0_isAs (hE : isC E) {b n : Nat} (i : AhC S h b n) {r : Nat} (hr : r < 8) (h0 : K 0 h) (h1 : sLs S n r = sLs S (sNk S) r → K 1 h) : zCI E mX0_isAs d [zR 64, zR 52, zI r] h K := by
  have o6 := i.2.1.2.2.2 r hr
  have o5 := i.1.fi.2.2.2 r hr
  have l10 := (i.2.pts r hr).1
  refine eX0_isAs hE (fi_64 hE) (fi_52 hE) ⟨nat_in (n := 8) hr, nat_in (n := 8) hr, ?_⟩
  rw [Int.toNat_natCast, o6.1, o5.1]
  refine ⟨fun c => ?_, fun _ => h0⟩
  have el : (sLs S n r).length = (sLs S (sNk S) r).length := by omega
  have loop : ∀ (m k : Nat), k + m = (sLs S n r).length → (∀ j, j < k → lX (sLs S n r) j = lX (sLs S (sNk S) r) j ∧ lY (sLs S n r) j = lY (sLs S (sNk S) r) j) → zG E mX0_isAs d 19 [zR 64, zR 52, zI r, zI k, zU] [] h (qI K) := by
    intro m
    induction m with
    | zero =>
      intro k hk hp
      have e : k = (sLs S n r).length := by omega
      refine bX0_isAs_19 hE (fi_64 hE) (fi_52 hE) ⟨nat_in (n := 8) hr, ?_⟩
      rw [Int.toNat_natCast, o6.1]
      exact ⟨fun _ => h1 (lst_ext el (fun j hj => hp j (by omega))), fun c => absurd (by omega) c⟩
    | succ m ih =>
      intro k hk hp
      refine bX0_isAs_19 hE (fi_64 hE) (fi_52 hE) ⟨nat_in (n := 8) hr, ?_⟩
      rw [Int.toNat_natCast, o6.1]
      refine ⟨fun c => absurd c (by omega), fun _ => ⟨fun c => absurd c (by omega), fun _ x ex => ?_⟩⟩
      rw [w_ix10 (by omega) (by omega)] at ex
      rw [ex, Int.toNat_natCast]
      have p6 := o6.2.1 k (by omega)
      have p5 := o5.2.1 k (by omega)
      rw [p6.1, p6.2, p5.1, p5.2]
      refine ⟨nat_in (n := 80) (by omega), nat_in (n := 80) (by omega), fun _ => h0, fun c1 => ⟨nat_in (n := 80) (by omega), nat_in (n := 80) (by omega), fun c2 y ey => ?_, fun _ => h0⟩⟩
      rw [w_suc (by omega)] at ey
      rw [ey]
      refine ih (k + 1) (by omega) (fun j hj => ?_)
      by_cases z : j = k
      · subst z; exact ⟨Decidable.not_not.mp c1, c2⟩
      · exact hp j (by omega)
  exact loop (sLs S n r).length 0 (by omega) (fun j hj => absurd hj (by omega))
theorem C_sizeThen (hE : isC E) {b n : Nat} (i : AhC S h b n) {r : Nat} (hr : r < 8) (hK : ∀ h', AhC S h' b n → (∀ j, h' 76 j = h 76 j ∧ h' 77 j = h 77 j) → K (rkN S n r) h') : zCI E mX9_sizeThen (d + 5) [zR 0, zI r] h K := by
  refine eX9_sizeThen (d := d + 4) hE (X0_isAs hE i hr ⟨fun _ => ?_, fun c => absurd rfl c⟩ (fun e => ⟨fun c => absurd c (by decide), fun _ => ?_⟩))
  · refine X0_bestSize hE (fi_64 hE) i.2 (fun nf => ?_) (fun r1 e1 _ h3 h1 fr1 hw1 => ?_)
    · have k := hK h i (fun _ => ⟨rfl, rfl⟩)
      unfold rkN at k
      rwa [if_neg (fun z => nf ⟨by omega, by omega, by rw [Int.toNat_natCast]; exact z⟩)] at k
    · have er : r1 = r := by omega
      subst er
      have k := hK h1 (i.q6 fr1 hw1) (fun j => ⟨fr1 _ _ (by omega), fr1 _ _ (by omega)⟩)
      unfold rkN at k
      rwa [if_pos h3] at k
  · refine X0_bestSize hE (fi_52 hE) i.1.fw (fun nf => ?_) (fun r1 e1 _ h3 h1 fr1 hw1 => ?_)
    · have k := hK h i (fun _ => ⟨rfl, rfl⟩)
      unfold rkN at k
      rw [e] at k
      rwa [if_neg (fun z => nf ⟨by omega, by omega, by rw [Int.toNat_natCast]; exact z⟩)] at k
    · have er : r1 = r := by omega
      subst er
      have k := hK h1 (i.q5 fr1 hw1) (fun j => ⟨fr1 _ _ (by omega), fr1 _ _ (by omega)⟩)
      unfold rkN at k
      rw [e] at k
      rwa [if_pos h3] at k
theorem C_isNearByA (hE : isC E) {b n : Nat} (i : AhC S h b n) {r : Nat} (hr8 : r < 8) {u : Int} (hu : isU u) (hK : ∀ h', ICb S h' b → FiW h' 64 (sLs S n) (sG S) (sH S) → K (bI (nrB S u r = true)) h') : zCI E mX9_isNearBy (d + 5) [zR 0, zI r, zI u] h K := by
  have hb := i.1.hb
  refine eX9_isNearBy (d := d + 4) hE (X0_bestShape hE (fi_52 hE) i.1.fw (fun nf => ⟨fun _ => ?_, fun c => absurd rfl c⟩) (fun r1 e1 _ h3 h1 fr1 hw1 _ => ⟨fun c => absurd c (by omega), fun _ => X0_bestSize hE (fi_52 hE) hw1 (fun nf => absurd ⟨by omega, by omega, by rw [e1, Int.toNat_natCast]; exact h3⟩ nf) (fun r2 e2 _ _ h2 fr2 hw2 => ⟨nat_in (n := 8) hr8, ?_⟩)⟩))
  · have k := hK h i.1 i.2
    rwa [bI_f] at k
    unfold nrB sFt
    rw [Bool.and_eq_true, decide_eq_true_iff]
    exact fun z => nf ⟨by omega, by omega, by rw [Int.toNat_natCast]; exact z.1⟩
  · have er1 : r1 = r := by omega
    have er2 : r2 = r := by omega
    subst er1 er2
    have j2 := (i.q5 fr1 hw1).q5 fr2 hw2
    have i2 := j2.1
    have sz := szB_r i.1.wf (r := r2) h3
    have t4 := w_t4 (b := bsL (sLs S (sNk S) r2) (sG S) (sH S)) (by have := bs_lt (sLs S (sNk S) r2) (sG S) (sH S); omega)
    rw [Int.toNat_natCast, (i2.fi.2.2.2 r2 hr8).1, t4.1]
    refine C_isNearAs hE i2 h3 sz.1 (by omega) hu (fun h3' i3 fr3 => ?_)
    have k := hK h3' i3 (j2.2.sm (fun c j a b => fr3 c j (by omega) (by omega)))
    have e : nrB S u r2 = sNear S (S 0 57) u (szB (sLs S (sNk S) r2) (sG S) (sH S)) ((sLs S (sNk S) r2).length : Int) ((bsL (sLs S (sNk S) r2) (sG S) (sH S) / 4 : Nat) : Int) := by
      unfold nrB sFt
      rw [decide_eq_true (show hasF S r2 from h3), Bool.true_and]
    rw [e] at k
    refine ⟨fun c => ?_, fun c => ?_⟩
    · rwa [c] at k
    · rcases bI_01 (P := sNear S (S 0 57) u (szB (sLs S (sNk S) r2) (sG S) (sH S)) ((sLs S (sNk S) r2).length : Int) ((bsL (sLs S (sNk S) r2) (sG S) (sH S) / 4 : Nat) : Int) = true) with z | z
      · exact absurd z c
      · rwa [z] at k
theorem C_count (hE : isC E) {b n : Nat} (i : AhC S h b n) {u x : Int} (hu : isU u) {P : Nat → Bool} (hP0 : x = 0 → ∀ r, P r = true) (hP1 : ¬ x = 0 → P = nrB S u) (hK : ∀ h', IC S h' → K (cT S n P 8) h') : zCI E mX9_countTapedSince (d + 6) [zR 0, zI u, zI x] h K := by
  have loop : ∀ (m r : Nat), r + m = 8 → ∀ h1 : zH, AhC S h1 b n → zG E mX9_countTapedSince (d + 6) 5 [zR 0, zI u, zI x, zI (cT S n P r), zI r] [] h1 (qI K) := by
    intro m
    induction m with
    | zero =>
      intro r hr h1 i1
      have e : r = 8 := by omega
      subst e
      exact bX9_countTapedSince_5 (d := d + 5) hE ⟨fun _ => hK h1 i1.1.ic, fun c => absurd (by decide) c⟩
    | succ m ih =>
      intro r hr h1 i1
      have nx := ih (r + 1) (by omega)
      have cr := cT_r (S := S) n P r
      unfold cT at nx
      refine bX9_countTapedSince_5 (d := d + 5) hE ⟨fun c => absurd c (by omega), fun _ => X0_isFitted hE (fi_52 hE) i1.1.fi ⟨fun c y ey => ?_, fun c => C_sizeThen hE i1 (by omega) (fun h2 i2 _ => ?_)⟩⟩
      · rw [bI_0] at c
        rw [w_suc (by omega)] at ey
        rw [ey]
        rw [if_neg (fun z => c ⟨by omega, by omega, by rw [Int.toNat_natCast]; exact z.1⟩)] at nx
        exact nx h1 i1
      · rw [bI_n] at c
        have hf : hasF S r := by have := c.2.2; rwa [Int.toNat_natCast] at this
        refine X0_bestSize hE (fi_52 hE) i2.1.fw (fun nf => absurd c nf) (fun r3 e3 _ _ h3 fr3 hw3 => ?_)
        have er : r3 = r := by omega
        subst er
        have i3 := i2.q5 fr3 hw3
        refine ⟨fun c2 => ⟨fun c3 y ey z ez => ?_, fun c3 => C_isNearByA hE i3 (by omega) hu (fun h4 i4 f4 => ⟨fun c4 y ey => ?_, fun c4 y ey z ez => ?_⟩)⟩, fun c2 y ey => ?_⟩
        · rw [w_suc (by omega)] at ez
          rw [w32i (by omega) (by omega)] at ey
          rw [ey, ez]
          rw [if_pos ⟨hf, fun q => c2 q.symm, hP0 c3 r3⟩] at nx
          exact nx h3 i3
        · rw [bI_0] at c4
          rw [w_suc (by omega)] at ey
          rw [ey]
          rw [if_neg (fun q => c4 (by rw [← hP1 c3]; exact q.2.2))] at nx
          exact nx h4 ⟨i4, f4⟩
        · rw [bI_n] at c4
          rw [w_suc (by omega)] at ez
          rw [w32i (by omega) (by omega)] at ey
          rw [ey, ez]
          rw [if_pos ⟨hf, fun q => c2 q.symm, by rw [hP1 c3]; exact c4⟩] at nx
          exact nx h4 ⟨i4, f4⟩
        · rw [w_suc (by omega)] at ey
          rw [ey]
          rw [if_neg (fun q => q.2.1 (Decidable.not_not.mp c2).symm)] at nx
          exact nx h3 i3
  exact eX9_countTapedSince (d := d + 5) hE (loop 8 0 rfl h i)
theorem C_ahead (hE : isC E) (i : IC S h) {n a b c w : Int} (hK : ∀ h', IC S h' → K (aAhead S n a b c w) h') : zCI E mX9_ahead (d + 7) [zR 0, zI n, zI a, zI b, zI c, zI w] h K := by
  have k := hK h i
  obtain ⟨bt, i⟩ := i
  have wn := i.wf.n
  unfold WfN at wn
  have su := su_b hE i.hb
  obtain ⟨a1, a2, a3, a4, a5, a6, a7, a8, a9, a10⟩ := i.ot
  unfold aAhead at k hK
  refine eX9_ahead (d := d + 6) hE su (X9_unitsOf hE ?_)
  by_cases z : areU a b c
  · rw [if_pos z]
    have hm := sMany_r z
    refine ⟨fun c1 => absurd c1 (by omega), fun _ => ⟨fun c1 => ?_, fun c1 => ?_⟩⟩
    · rwa [if_neg (fun y => by have := y.2.1.2; omega)] at k
    · rw [a8]
      refine X9_isBeyond hE ⟨fun c2 => ?_, fun c2 => X9_isBeyond hE ⟨fun c3 => ⟨i.tld, ?_⟩, fun c3 => ?_⟩⟩
      · rw [ne_eq, bI_n] at c2
        rwa [if_neg (by omega)] at k
      · rw [ne_eq, bI_n] at c2
        rw [bI_0] at c3
        obtain ⟨N, hN⟩ : ∃ N : Nat, n = N := ⟨n.toNat, by omega⟩
        subst hN
        rw [Int.toNat_natCast] at hK
        rw [if_pos ⟨by omega, ⟨z, by omega⟩, by omega, by omega⟩] at hK
        have hNn : N ≤ (S 0 54).toNat := by omega
        obtain ⟨L0, G0, H0, hF0, hl0⟩ := i.tn
        have bd : BdC h bt := by
          rcases i.hb with e | e
          · rw [e]; exact i.bd.1
          · rw [e]; exact i.bd.2
        rw [a4]
        refine X0_learnI (d := d + 2) hE (Or.inr rfl) i.hb i.wf i.sv bd a8 a9 hNn hF0 hl0 (fun h1 fr1 f1 _ h2 e2 => ?_)
        have i1 : ICb S h1 bt := i.mv (fun c j hc => fr1 c j (by unfold scr at hc; omega)) (i.fi.sm (fun c j q1 q2 => fr1 c j (by omega))) ⟨_, _, _, f1, fun r hr => (sLs_pt i.wf hNn hr).1⟩
        have w1 : FiW h1 64 (sLs S N) (sG S) (sH S) := ⟨f1, fun r hr => sLs_pt i.wf hNn hr, i.wf.g9, i.wf.h20⟩
        have fr2 : ∀ c j, ¬ ((c = 76 ∧ j = 1) ∨ c = 77) → h2 c j = h1 c j := fun c j q => by rw [e2, hset_ne (by omega)]
        have fo : szOk (rkN S N) := fun r => rkN_ok i.wf hNn r
        have loop : ∀ (m r : Nat), r + m = 8 → ∀ h3 : zH, AhC S h3 bt N → SizesAt h3 76 (cmpL (rkN S N) r) → zG E mX9_ahead (d + 7) 80 [zR 0, zU, zI a, zI b, zI c, zI w, zU, zI r] [] h3 (qI K) := by
          intro m
          induction m with
          | zero =>
            intro r hr h3 i3 s3
            have e : r = 8 := by omega
            subst e
            refine bX9_ahead_80 (d := d + 6) hE su ⟨fun _ => ?_, fun c => absurd (by decide) c⟩
            rw [i3.1.hv]
            refine C_bestU hE fo s3 z ?_
            change (_ → ((_ → zCI E mX9_countTapedSince (d + 6) [zR 0, zI (bsU S (rkN S N) a b c), zI 0] h3 _) ∧ (_ → zCI E mX9_countTapedSince (d + 6) [zR 0, zI (bsU S (rkN S N) a b c), zI 1] h3 _))) ∧ (_ → K (bsU S (rkN S N) a b c) h3)
            have hbu : isU (bsU S (rkN S N) a b c) := sBest_in z
            generalize bsU S (rkN S N) a b c = u at hK hbu ⊢
            refine ⟨fun c4 => ⟨fun c5 => C_count hE i3 (P := fun _ => true) hbu (fun _ _ => rfl) (fun q => absurd rfl q) (fun h4 i4 => ?_), fun c5 => C_count hE i3 (P := nrB S u) hbu (fun q => absurd q (by decide)) (fun _ => rfl) (fun h4 i4 => ?_)⟩, fun c4 => ?_⟩
            · have k4 := hK h4 i4
              rwa [if_neg c4, if_neg c5] at k4
            · have k4 := hK h4 i4
              rwa [if_neg c4, if_pos (by omega)] at k4
            · have k3 := hK h3 i3.1.ic
              rwa [if_pos (by omega)] at k3
          | succ m ih =>
            intro r hr h3 i3 s3
            have nx := ih (r + 1) (by omega)
            unfold cmpL at nx
            have ln := cmpL_ln (rkN S N) r
            refine bX9_ahead_80 (d := d + 6) hE su ⟨fun c => absurd c (by omega), fun _ => X0_isFitted hE (fi_64 hE) i3.2.1 ⟨fun c4 y ey => ?_, fun c4 => C_sizeThen hE i3 (by omega) (fun h4 i4 k4 => ?_)⟩⟩
            · rw [bI_0] at c4
              rw [w_suc (by omega)] at ey
              rw [ey]
              have e : rkN S N r = -1 := by
                unfold rkN
                rw [if_neg (fun q => c4 ⟨by omega, by omega, by rw [Int.toNat_natCast]; exact q⟩)]
              rw [if_pos e] at nx
              exact nx h3 i3 s3
            · rw [bI_n] at c4
              have hf : 3 ≤ (sLs S N r).length := by have := c4.2.2; rwa [Int.toNat_natCast] at this
              have hne : ¬ rkN S N r = -1 := by
                unfold rkN
                rw [if_pos hf]
                have := szF_r (sLs_pt i.wf hNn (show r < 8 by omega)) hf i.wf.g9 i.wf.h20 (bsL (sLs S N r) (sG S) (sH S))
                unfold szB
                omega
              rw [if_neg hne] at nx
              have s4 : SizesAt h4 76 (cmpL (rkN S N) r) := ⟨by rw [(k4 1).1]; exact s3.1, s3.2.1, fun j x hj => by rw [(k4 j).2]; exact s3.2.2 j x hj⟩
              refine X7_put hE (si_76 hE) s4 (by omega) (fun h5 fr5 s5 y ey => ?_)
              rw [w_suc (by omega)] at ey
              rw [ey]
              exact nx h5 (i4.sz fr5) s5
        exact loop 8 0 rfl h2 (AhC.sz ⟨i1, w1⟩ fr2) ⟨by rw [e2, hset_eq]; rfl, Nat.zero_le 8, fun k x hk => absurd hk (by intro z; cases z)⟩
      · rw [bI_n] at c3
        rwa [if_neg (by omega)] at k
  · rw [if_neg z]
    refine ⟨fun _ => ?_, fun c1 => absurd rfl c1⟩
    rwa [if_neg (fun y => z y.2.1.1)] at k
end TAhead
