/-! ===== topic: the state that both sides show, and what each heap holds of it ===== -/
section TInv
variable {E : zE} {d : Nat} {h : zH} {S : zH}
theorem su_8 (hE : isC E) : isSu E 8 := by unfold isSu isNm isRu; rw [hE.1, hE.2]; decide
theorem su_27 (hE : isC E) : isSu E 27 := by unfold isSu isNm isRu; rw [hE.1, hE.2]; decide
theorem su_b (hE : isC E) {b : Nat} (hb : b = 8 ∨ b = 27) : isSu E b := by
  rcases hb with e | e <;> subst e
  · exact su_8 hE
  · exact su_27 hE
theorem fi_52 (hE : isC E) : isFi E 52 := by unfold isFi; rw [hE.1, hE.2]; decide
theorem fi_64 (hE : isC E) : isFi E 64 := by unfold isFi; rw [hE.1, hE.2]; decide
theorem si_76 (hE : isC E) : isSi E 76 := by unfold isSi; rw [hE.1, hE.2]; decide
theorem si_78 (hE : isC E) : isSi E 78 := by unfold isSi; rw [hE.1, hE.2]; decide
/-! the state, by the reference's cells -/
def WfN (S : zH) : Prop := (0 ≤ S 0 2 ∧ S 0 2 ≤ 900 ∧ S 0 2 % 20 = 0) ∧ (0 ≤ S 0 23 ∧ S 0 23 ≤ 4) ∧ (0 ≤ S 0 24 ∧ S 0 24 ≤ 8) ∧ (0 ≤ S 0 25 ∧ S 0 25 ≤ 5) ∧ (0 ≤ S 0 26 ∧ S 0 26 ≤ 20) ∧ (0 ≤ S 0 27 ∧ S 0 27 ≤ 6) ∧ (0 ≤ S 0 29 ∧ S 0 29 ≤ 9) ∧ (1 ≤ S 0 30 ∧ S 0 30 ≤ 20) ∧ (0 ≤ S 0 31 ∧ S 0 31 ≤ 9999) ∧ (0 ≤ S 0 54 ∧ S 0 54 ≤ 60) ∧ (-1 ≤ S 0 55 ∧ S 0 55 ≤ S 0 54) ∧ (0 ≤ S 0 56 ∧ S 0 56 ≤ 3) ∧ (S 0 57 = 0 ∨ S 0 57 = 1)
def WfG (S : zH) : Prop := (∀ r : Nat, (r : Int) < S 0 24 → 0 ≤ S 5 r ∧ S 5 r ≤ 10 ∧ 0 ≤ S 4 r ∧ S 4 r < S 0 23) ∧ ∀ s : Nat, s < 80 → (-999 ≤ S 6 s ∧ S 6 s ≤ 999 ∧ -999 ≤ S 7 s ∧ S 7 s ≤ 999) ∧ (-99 ≤ S 8 s ∧ S 8 s ≤ 99 ∧ -99 ≤ S 9 s ∧ S 9 s ≤ 99) ∧ (S 10 s = 0 ∨ S 10 s = 1) ∧ (S 11 s = 0 ∨ S 11 s = 1)
def WfW (S : zH) : Prop := ∀ w : Nat, (w : Int) < S 0 25 → 1 ≤ S 13 w ∧ S 13 w ≤ 99 ∧ ∀ b : Nat, b < 6 → 0 ≤ S 14 (6 * w + b) ∧ S 14 (6 * w + b) ≤ 99
def WfY (S : zH) : Prop := ∀ s : Nat, (s : Int) < S 0 26 → (0 ≤ S 16 s ∧ S 16 s < S 0 27) ∧ (0 ≤ S 17 s ∧ S 17 s < S 0 24) ∧ (1 ≤ S 18 s ∧ S 18 s ≤ 99999) ∧ (S 19 s = 0 ∨ S 19 s = 1)
def WfT (S : zH) : Prop := nOk (S 22) (S 23) (S 24) (S 0 54).toNat ∧ ∀ i : Nat, (i : Int) < S 0 54 → S 22 i = 0 → -999 ≤ S 24 i ∧ S 24 i ≤ 999 ∧ -999 ≤ S 25 i ∧ S 25 i ≤ 999
def WfB (S : zH) : Prop := ∀ j : Nat, (j : Int) < S 0 2 → 0 ≤ S 1 j ∧ S 1 j ≤ 255
def WfS (S : zH) : Prop := WfN S ∧ WfG S ∧ WfW S ∧ WfY S ∧ WfT S ∧ rlOk S ∧ WfB S
theorem WfS.n (w : WfS S) : WfN S := w.1
theorem WfS.g (w : WfS S) : WfG S := w.2.1
theorem WfS.w (w : WfS S) : WfW S := w.2.2.1
theorem WfS.y (w : WfS S) : WfY S := w.2.2.2.1
theorem WfS.t (w : WfS S) : WfT S := w.2.2.2.2.1
theorem WfS.r (w : WfS S) : rlOk S := w.2.2.2.2.2.1
theorem WfS.b (w : WfS S) : WfB S := w.2.2.2.2.2.2
/-- the notes that are known; the stones by them; the stones that stand, ring by ring -/
def sNk (S : zH) : Nat := if S 0 55 = -1 then (S 0 54).toNat else (S 0 55).toNat
def sTr (S : zH) (n : Nat) : zTri := apS (stS (S 22) (S 23) n n) (S 22) (S 23) (S 24) (S 25) (S 6, S 7, S 11) n
def sLs (S : zH) (n : Nat) : Nat → List (Int × Int) := suL (S 0 56) (sTr S n) (S 10) (S 8) (S 9) (S 0 24).toNat (fun r => (S 5 r).toNat)
abbrev sG (S : zH) : Nat := (S 0 29).toNat
abbrev sH (S : zH) : Nat := (S 0 30).toNat
theorem sNk_le (w : WfS S) : sNk S ≤ (S 0 54).toNat := by
  have a := w.n
  unfold WfN at a
  unfold sNk
  split <;> omega
theorem nOk.le {nk nw na : Nat → Int} {n m : Nat} (ho : nOk nk nw na n) (hm : m ≤ n) : nOk nk nw na m := fun i hi => ho i (by omega)
def bd3 (T : zTri) (s : Nat) : Prop := -999 ≤ T.1 s ∧ T.1 s ≤ 999 ∧ -999 ≤ T.2.1 s ∧ T.2.1 s ≤ 999
theorem apS_b {st nk nw na nb : Nat → Int} {b : zTri} {n : Nat} (hn : ∀ i, i < n → nk i ≠ 1 → nk i ≠ 2 → -999 ≤ na i ∧ na i ≤ 999 ∧ -999 ≤ nb i ∧ nb i ≤ 999) {s : Nat} (hb : bd3 b s) : ∀ i, i ≤ n → bd3 (apS st nk nw na nb b i) s
  | 0, _ => hb
  | i + 1, hi => by
    have ih := apS_b (st := st) (nw := nw) hn hb i (by omega)
    unfold apS
    split
    · exact ih
    · rename_i c1
      split
      · exact ih
      · rename_i c2
        have := hn i (by omega) c2 (fun z => c1 (Or.inr z))
        unfold bd3 at ih ⊢
        unfold updN
        dsimp only
        split <;> omega
theorem apS_g {st nk nw na nb : Nat → Int} {b : zTri} {n : Nat} (hn : ∀ i, i < n → nk i = 1 → na i = 0 ∨ na i = 1) {s : Nat} (hb : b.2.2 s = 0 ∨ b.2.2 s = 1) : ∀ i, i ≤ n → (apS st nk nw na nb b i).2.2 s = 0 ∨ (apS st nk nw na nb b i).2.2 s = 1
  | 0, _ => hb
  | i + 1, hi => by
    have ih := apS_g (st := st) (nw := nw) (nb := nb) hn hb i (by omega)
    unfold apS
    split
    · exact ih
    · split
      · rename_i c2
        have := hn i (by omega) c2
        unfold updN
        dsimp only
        split
        · exact this
        · exact ih
      · exact ih
theorem sTr_b (w : WfS S) {n : Nat} (hn : n ≤ (S 0 54).toNat) {s : Nat} (hs : s < 80) : bd3 (sTr S n) s := by
  refine apS_b (b := (S 6, S 7, S 11)) (s := s) (n := n) (fun i hi n1 n2 => ?_) ((w.g.2 s hs).1) n (Nat.le_refl n)
  have a := w.t
  have b := (a.1 i (by omega)).1
  exact a.2 i (by omega) (by omega)
theorem sLs_pt (w : WfS S) {n : Nat} (hn : n ≤ (S 0 54).toNat) {r : Nat} (hr : r < 8) : ptL (sLs S n r) := by
  refine ptL_of hr ?_ (fun s hs => sTr_b w hn hs) (fun s hs => (w.g.2 s hs).2.1)
  split
  · have := (w.g.1 r (by omega)).2.1
    dsimp only
    omega
  · omega
theorem sLs_out {n r : Nat} (hr : ¬ (r : Int) < S 0 24) : sLs S n r = [] := by
  unfold sLs suL
  rw [if_neg (by omega)]
  rfl
/-! the reference's heap -/
def zn (c j : Nat) : Prop := (1 ≤ c ∧ c ≤ 25) ∨ (c = 0 ∧ (j = 2 ∨ (23 ≤ j ∧ j ≤ 31) ∨ j = 51 ∨ j = 52 ∨ (54 ≤ j ∧ j ≤ 57)))
def zq (S h : zH) : Prop := ∀ c j, zn c j → h c j = S c j
theorem zq.row (q : zq S h) {c : Nat} (h1 : 1 ≤ c) (h2 : c ≤ 25) : h c = S c := funext fun j => q c j (Or.inl ⟨h1, h2⟩)
theorem zq.num (q : zq S h) {j : Nat} (hj : j = 2 ∨ (23 ≤ j ∧ j ≤ 31) ∨ j = 51 ∨ j = 52 ∨ (54 ≤ j ∧ j ≤ 57)) : h 0 j = S 0 j := q 0 j (Or.inr ⟨rfl, hj⟩)
def shAll (S h : zH) : Prop := ∀ r : Nat, (r : Int) < S 0 24 → ShR h (sLs S (sNk S)) (sG S) (sH S) r
def IR (S h : zH) : Prop := WfS S ∧ zq S h ∧ (h 0 74 ≠ 0 → shAll S h) ∧ szOk (h 39)
def IRL (S h : zH) : Prop := WfS S ∧ zq S h ∧ (h 0 74 ≠ 0 ∧ shAll S h) ∧ szOk (h 39)
theorem IRL.ir (i : IRL S h) : IR S h := ⟨i.1, i.2.1, fun _ => i.2.2.1.2, i.2.2.2⟩
theorem IR.wf (i : IR S h) : WfS S := i.1
theorem IR.q (i : IR S h) : zq S h := i.2.1
theorem IRL.wf (i : IRL S h) : WfS S := i.1
theorem IRL.q (i : IRL S h) : zq S h := i.2.1
theorem IRL.sh (i : IRL S h) : shAll S h := i.2.2.1.2
theorem IRL.z (i : IRL S h) : szOk (h 39) := i.2.2.2
def frL (h h' : zH) : Prop := ∀ c j, (zn c j ∨ (33 ≤ c ∧ c ≤ 36) ∨ (c = 0 ∧ j = 74)) → h' c j = h c j
theorem IRL.mv {h' : zH} (i : IRL S h) (fr : frL h h') (z : szOk (h' 39)) : IRL S h' :=
  ⟨i.1, fun c j hz => (fr c j (Or.inl hz)).trans (i.2.1 c j hz), ⟨by rw [fr 0 74 (Or.inr (Or.inr ⟨rfl, rfl⟩))]; exact i.2.2.1.1, fun r hr => (i.2.2.1.2 r hr).sm (fun c j a b => fr c j (Or.inr (Or.inl ⟨a, b⟩)))⟩, z⟩
theorem IR.mv {h' : zH} (i : IR S h) (fr : frL h h') (z : szOk (h' 39)) : IR S h' :=
  ⟨i.1, fun c j hz => (fr c j (Or.inl hz)).trans (i.2.1 c j hz), fun n r hr => (i.2.2.1 (by rw [fr 0 74 (Or.inr (Or.inr ⟨rfl, rfl⟩))] at n; exact n) r hr).sm (fun c j a b => fr c j (Or.inr (Or.inl ⟨a, b⟩))), z⟩
theorem IR.thr {h' : zH} (i : IR S h) {v : Int} (e : h' = hset h 0 0 v) : IR S h' := by
  refine i.mv (fun c j hz => ?_) ?_
  · rw [e, hset_ne (by unfold zn at hz; omega)]
  · rw [e, hset_rne (by omega)]; exact i.2.2.2
theorem IRL.frN {h' : zH} (i : IRL S h) (fr : frN h h') : IRL S h' := by
  refine i.mv (fun c j hz => ?_) ?_
  · unfold zn at hz
    exact fr c j (by omega) (by omega) (by omega)
  · rw [show h' 39 = h 39 from funext fun j => fr 39 j (by omega) (by omega) (by omega)]; exact i.2.2.2
theorem ShR_c {L L' : Nat → List (Int × Int)} {G H r : Nat} (hS : ShR h L G H r) (e : L r = L' r) : ShR h L' G H r := by
  unfold ShR at hS ⊢
  rw [← e]; exact hS
theorem X10_knownNotes (hE : isR E) (i : IR S h) {K : Int → zH → Prop} (hK : K (sNk S : Int) h) : zCI E mX10_knownNotes d [zR 0] h K := by
  have w := i.wf.n
  unfold WfN at w
  unfold sNk at hK
  refine eX10_knownNotes hE ?_
  rw [i.q.num (j := 55) (by omega), i.q.num (j := 54) (by omega)]
  refine ⟨fun c => ?_, fun c => ?_⟩
  · rw [if_neg c] at hK
    rwa [show (((S 0 55).toNat : Nat) : Int) = S 0 55 by omega] at hK
  · rw [if_pos (Decidable.not_not.mp c)] at hK
    rwa [show (((S 0 54).toNat : Nat) : Int) = S 0 54 by omega] at hK
theorem X10_shapesI (hE : isR E) (i : IR S h) {n : Nat} (hn : n ≤ (S 0 54).toNat) {K : zH → Prop}
    (hK : ∀ h', frH h h' → (∀ r : Nat, (r : Int) < S 0 24 → ShR h' (sLs S n) (sG S) (sH S) r) → K h') : zCV E mX10_shapes (d + 4) [zR 0, zI n] h K := by
  have w := i.wf
  have wn := w.n
  unfold WfN at wn
  have q := i.q
  refine X10_shapes hE (nk := S 22) (nw := S 23) (na := S 24) (nb := S 25) (by omega) (fun k hk => ?_) (w.t.1.le hn) (fun s hs => ?_) (T := sTr S n) ?_ (R := (S 0 24).toNat) (G := sG S) (H := sH S) ?_ (by omega) (nst := fun r => (S 5 r).toNat) (fun r hr => ?_) (mode := S 0 56) ?_ (by omega) (by omega) ?_ (by unfold sG; omega) ?_ (by unfold sH; omega) (fun s hs => sTr_b w hn hs) (fun s hs => ?_) (fun h' fr hs => hK h' fr (fun r hr => ?_))
  · rw [q.row (c := 22) (by omega) (by omega), q.row (c := 23) (by omega) (by omega), q.row (c := 24) (by omega) (by omega), q.row (c := 25) (by omega) (by omega)]
    exact ⟨rfl, rfl, rfl, rfl⟩
  · rw [q.row (c := 11) (by omega) (by omega)]; exact (w.g.2 s hs).2.2.2
  · rw [q.row (c := 6) (by omega) (by omega), q.row (c := 7) (by omega) (by omega), q.row (c := 11) (by omega) (by omega)]; rfl
  · rw [q.num (by omega)]; omega
  · rw [q.row (c := 5) (by omega) (by omega)]
    have := w.g.1 r (by omega)
    omega
  · exact q.num (by omega)
  · rw [q.num (by omega)]; unfold sG; omega
  · rw [q.num (by omega)]; unfold sH; omega
  · rw [q.row (c := 8) (by omega) (by omega), q.row (c := 9) (by omega) (by omega)]; exact (w.g.2 s hs).2.1
  · refine ShR_c (hs r (by omega)) ?_
    rw [q.row (c := 8) (by omega) (by omega), q.row (c := 9) (by omega) (by omega), q.row (c := 10) (by omega) (by omega)]
    unfold sLs suL
    rw [if_pos (by omega)]
theorem X10_laid (hE : isR E) (i : IR S h) {K : zH → Prop} (hK : ∀ h', IRL S h' → K h') : zCV E mX10_laid (d + 5) [zR 0] h K := by
  refine eX10_laid (d := d + 4) hE ⟨fun c => X10_knownNotes hE i (X10_shapesI hE i (sNk_le i.wf) (fun h1 fr hs h2 e2 => hK h2 ?_)), fun c => hK h ⟨i.1, i.2.1, ⟨c, i.2.2.1 c⟩, i.2.2.2⟩⟩
  refine ⟨i.1, fun c j hz => ?_, ⟨by rw [e2, hset_eq]; decide, fun r hr => (hs r hr).sm (fun c j a b => by rw [e2, hset_ne (by omega)])⟩, ?_⟩
  · rw [e2, hset_ne (by unfold zn at hz; omega), fr c j (by unfold zn at hz; omega) (by unfold zn at hz; omega)]
    exact i.2.1 c j hz
  · rw [e2, hset_rne (by omega), show h1 39 = h 39 from funext fun j => fr 39 j (by omega) (by omega)]; exact i.2.2.2
end TInv
