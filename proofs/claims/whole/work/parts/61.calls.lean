/-! ===== topic: tape, gone, strike, known, mode ===== -/
section TCalls
variable {E : zE} {d : Nat} {h : zH} {S : zH} {K : Int → zH → Prop}
abbrev isSt (S : zH) (r s : Int) : Prop := (0 ≤ r ∧ r < S 0 24) ∧ 0 ≤ s ∧ s < S 5 r.toNat
theorem C_hasStone (hE : isC E) {b : Nat} (i : ICb S h b) {r s : Int} (hK : K (bI (isSt S r s)) h) : zCI E mX8_hasStone (d + 1) [zR b, zI r, zI s] h K := by
  have wn := i.wf.n
  unfold WfN at wn
  have su := su_b hE i.hb
  refine eX8_hasStone hE su (X8_hasRing hE su (R := (S 0 24).toNat) (by rw [i.sv.ri.1]; omega) (by omega) ⟨fun c => ?_, fun c => ⟨fun c2 => ?_, fun c2 => ?_⟩⟩)
  · rw [bI_0] at c
    rwa [bI_f (by omega)] at hK
  · rwa [bI_f (by omega)] at hK
  · rw [bI_n] at c
    have rg := i.sv.rg r.toNat (by omega)
    have g := i.wf.g.1 r.toNat (by omega)
    rw [rg.2.1]
    refine ⟨by omega, fun c3 => ?_, fun c3 => ⟨fun c4 => absurd c4 (by omega), fun c4 => ?_⟩⟩
    · rwa [bI_f (by omega)] at hK
    · rwa [bI_t (by omega)] at hK
theorem X10_isStone (hE : isR E) (i : IR S h) {r s : Int} (hK : K (bI (isSt S r s)) h) : zCI E mX10_isStone d [zR 0, zI r, zI s] h K := by
  have wn := i.wf.n
  unfold WfN at wn
  refine eX10_isStone hE ?_
  rw [i.q.num (j := 24) (by omega), i.q.row (c := 5) (by omega) (by omega)]
  refine ⟨fun c => ?_, fun c => ⟨fun c2 => ?_, fun c2 => ⟨fun c3 => ?_, fun c3 => ⟨by omega, fun c4 => ?_, fun c4 => ?_⟩⟩⟩⟩
  · rwa [bI_f (by omega)] at hK
  · rwa [bI_f (by omega)] at hK
  · rwa [bI_f (by omega)] at hK
  · rwa [bI_f (by omega)] at hK
  · rwa [bI_t (by omega)] at hK
abbrev inP (x : Int) : Prop := -999 ≤ x ∧ x ≤ 999
abbrev okTp (S : zH) (r s x y : Int) : Prop := isSt S r s ∧ inP x ∧ inP y ∧ S 0 54 < 60
def uTape (S : zH) (r s x y : Int) : zH := if okTp S r s x y then stN S 0 (10 * r + s) x y else S
def aTape (S : zH) (r s x y : Int) : Int := if okTp S r s x y then S 0 54 else -1
theorem st80 (w : WfS S) {r s : Int} (o : isSt S r s) : 0 ≤ 10 * r + s ∧ 10 * r + s < 80 ∧ r < 8 ∧ s < 10 := by
  have wn := w.n
  unfold WfN at wn
  have g := w.g.1 r.toNat (by omega)
  omega
theorem C_tape (hE : isC E) (i : IC S h) {r s x y : Int} (hK : ∀ h', IC (uTape S r s x y) h' → K (aTape S r s x y) h') : zCI E mX9_tape (d + 7) [zR 0, zI r, zI s, zI x, zI y] h K := by
  obtain ⟨b, i⟩ := i
  have su := su_b hE i.hb
  unfold uTape aTape at hK
  have no : ¬ okTp S r s x y → K (-1) h := fun z => by rw [if_neg z, if_neg z] at hK; exact hK h i.ic
  refine eX9_tape (d := d + 6) hE su ⟨i.tld, C_hasStone hE i ⟨fun c => no (fun z => ?_), fun c => X9_isBeyond hE ⟨fun c2 => no (fun z => ?_), fun c2 => X9_isBeyond hE ⟨fun c3 => ?_, fun c3 => no (fun z => ?_)⟩⟩⟩⟩
  · rw [bI_0] at c
    exact c z.1
  · rw [ne_eq, bI_n] at c2
    omega
  · rw [bI_n] at c
    rw [ne_eq, bI_n] at c2
    rw [bI_0] at c3
    have st := st80 i.wf c
    refine X9_stoneAt hE (by omega) (by omega) (by omega) (by omega) (C_takeNote hE i (k := 0) (w := 10 * r + s) (fun z => ⟨z, Or.inl rfl, by omega, by omega, by omega, by omega⟩) (by rw [if_neg (by decide)]; omega) (fun z => no (fun q => z q.2.2.2)) (fun z h' i' => ?_))
    have ok : okTp S r s x y := ⟨c, by omega, by omega, z⟩
    rw [if_pos ok, if_pos ok] at hK
    exact hK h' i'.ic
  · rw [bI_n] at c3
    omega
theorem R_tape (hE : isR E) (i : IR S h) {r s x y : Int} (hK : ∀ h', IR (uTape S r s x y) h' → K (aTape S r s x y) h') : zCI E mX10_tape (d + 1) [zR 0, zI r, zI s, zI x, zI y] h K := by
  refine eX10_tape hE (fun h1 e1 => ?_)
  have i1 := i.thr e1
  unfold uTape aTape at hK
  have no : ¬ okTp S r s x y → K (-1) h1 := fun z => by rw [if_neg z, if_neg z] at hK; exact hK h1 i1
  have e54 : h1 0 54 = S 0 54 := i1.q.num (by omega)
  have wn := i.wf.n
  unfold WfN at wn
  refine X10_isStone hE i1 ⟨fun c => no (fun z => ?_), fun c => X10_isPlace hE ⟨fun c2 => no (fun z => ?_), fun c2 => X10_isPlace hE ⟨fun c3 => no (fun z => ?_), fun c3 => ⟨fun c4 => ?_, fun c4 => no (fun z => ?_)⟩⟩⟩⟩
  · rw [bI_0] at c
    exact c z.1
  · rw [bI_0] at c2
    exact c2 z.2.1
  · rw [bI_0] at c3
    exact c3 z.2.2.1
  · rw [bI_n] at c c2 c3
    have st := st80 i.wf c
    have ok : okTp S r s x y := ⟨c, c2, c3, by omega⟩
    rw [if_pos ok, if_pos ok] at hK
    rw [w32i (x := 10 * r) (by omega) (by omega), w32i (by omega) (by omega)]
    exact X10_noted hE i1 ⟨by omega, Or.inl rfl, by omega, by omega, by omega, fun _ => ⟨c2.1, c2.2, c3.1, c3.2⟩⟩ hK
  · omega
abbrev okGn (S : zH) (r s : Int) : Prop := isSt S r s ∧ S 0 54 < 60
def uGone (S : zH) (r s g : Int) : zH := if okGn S r s then stN S 1 (10 * r + s) (if g = 0 then 0 else 1) 0 else S
def aGone (S : zH) (r s : Int) : Int := if okGn S r s then S 0 54 else -1
theorem C_gone (hE : isC E) (i : IC S h) {r s g : Int} (hK : ∀ h', IC (uGone S r s g) h' → K (aGone S r s) h') : zCI E mX9_gone (d + 7) [zR 0, zI r, zI s, zI g] h K := by
  obtain ⟨b, i⟩ := i
  have su := su_b hE i.hb
  unfold uGone aGone at hK
  have no : ¬ okGn S r s → K (-1) h := fun z => by rw [if_neg z, if_neg z] at hK; exact hK h i.ic
  refine eX9_gone (d := d + 6) hE su ⟨i.tld, C_hasStone hE i ⟨fun c => ?_, fun c => no (fun z => ?_)⟩⟩
  · rw [ne_eq, bI_n] at c
    have st := st80 i.wf c
    refine X9_stoneAt hE (by omega) (by omega) (by omega) (by omega) ⟨fun c2 => C_takeNote hE i (k := 1) (w := 10 * r + s) (fun z => ⟨z, Or.inr (Or.inl rfl), by omega, by omega, by omega, by omega⟩) (by rw [if_neg (by decide)]; omega) (fun z => no (fun q => z q.2)) (fun z h' i' => ?_), fun c2 => C_takeNote hE i (k := 1) (w := 10 * r + s) (fun z => ⟨z, Or.inr (Or.inl rfl), by omega, by omega, by omega, by omega⟩) (by rw [if_neg (by decide)]; omega) (fun z => no (fun q => z q.2)) (fun z h' i' => ?_)⟩
    · have ok : okGn S r s := ⟨c, z⟩
      rw [if_pos ok, if_pos ok, if_pos c2] at hK
      exact hK h' i'.ic
    · have ok : okGn S r s := ⟨c, z⟩
      rw [if_pos ok, if_pos ok, if_neg c2] at hK
      exact hK h' i'.ic
  · rw [ne_eq, bI_n] at c
    exact c z.1
theorem R_gone (hE : isR E) (i : IR S h) {r s g : Int} (hK : ∀ h', IR (uGone S r s g) h' → K (aGone S r s) h') : zCI E mX10_gone (d + 1) [zR 0, zI r, zI s, zI g] h K := by
  refine eX10_gone hE (fun h1 e1 => ?_)
  have i1 := i.thr e1
  unfold uGone aGone at hK
  have no : ¬ okGn S r s → K (-1) h1 := fun z => by rw [if_neg z, if_neg z] at hK; exact hK h1 i1
  have e54 : h1 0 54 = S 0 54 := i1.q.num (by omega)
  have wn := i.wf.n
  unfold WfN at wn
  refine X10_isStone hE i1 ⟨fun c => no (fun z => ?_), fun c => ⟨fun c4 => ?_, fun c4 => no (fun z => ?_)⟩⟩
  · rw [bI_0] at c
    exact c z.1
  · rw [bI_n] at c
    have st := st80 i.wf c
    have ok : okGn S r s := ⟨c, by omega⟩
    rw [if_pos ok, if_pos ok] at hK
    rw [w32i (x := 10 * r) (by omega) (by omega), w32i (by omega) (by omega)]
    refine ⟨fun c2 => ?_, fun c2 => ?_⟩
    · rw [if_pos c2] at hK
      exact X10_noted hE i1 ⟨by omega, Or.inr (Or.inl rfl), by omega, by omega, by omega, by omega⟩ hK
    · rw [if_neg c2] at hK
      exact X10_noted hE i1 ⟨by omega, Or.inr (Or.inl rfl), by omega, by omega, by omega, by omega⟩ hK
  · omega
abbrev okSk (S : zH) (n : Int) : Prop := 0 ≤ n ∧ n < S 0 54 ∧ S 0 54 < 60
def uStrike (S : zH) (n : Int) : zH := if okSk S n then stN S 2 n 0 0 else S
def aStrike (S : zH) (n : Int) : Int := if okSk S n then S 0 54 else -1
theorem C_strike (hE : isC E) (i : IC S h) {n : Int} (hK : ∀ h', IC (uStrike S n) h' → K (aStrike S n) h') : zCI E mX9_strike (d + 7) [zR 0, zI n] h K := by
  obtain ⟨b, i⟩ := i
  unfold uStrike aStrike at hK
  have no : ¬ okSk S n → K (-1) h := fun z => by rw [if_neg z, if_neg z] at hK; exact hK h i.ic
  obtain ⟨a1, a2, a3, a4, a5, a6, a7, a8, a9, a10⟩ := i.ot
  refine eX9_strike (d := d + 6) hE ?_
  rw [a8]
  refine ⟨fun c => no (by omega), fun c => ⟨fun c2 => C_takeNote hE i (k := 2) (w := n) (fun z => ⟨z, Or.inr (Or.inr rfl), by omega, by omega, by omega, by omega⟩) (by rw [if_pos rfl]) (fun z => no (fun q => z q.2.2)) (fun z h' i' => ?_), fun c2 => no (by omega)⟩⟩
  have ok : okSk S n := ⟨by omega, c2, z⟩
  rw [if_pos ok, if_pos ok] at hK
  exact hK h' i'.ic
theorem R_strike (hE : isR E) (i : IR S h) {n : Int} (hK : ∀ h', IR (uStrike S n) h' → K (aStrike S n) h') : zCI E mX10_strike (d + 1) [zR 0, zI n] h K := by
  refine eX10_strike hE (fun h1 e1 => ?_)
  have i1 := i.thr e1
  unfold uStrike aStrike at hK
  have no : ¬ okSk S n → K (-1) h1 := fun z => by rw [if_neg z, if_neg z] at hK; exact hK h1 i1
  have e54 : h1 0 54 = S 0 54 := i1.q.num (by omega)
  have wn := i.wf.n
  unfold WfN at wn
  rw [e54]
  refine ⟨fun c => no (by omega), fun c => ⟨fun c2 => no (by omega), fun c2 => ⟨fun c3 => ?_, fun c3 => no (by omega)⟩⟩⟩
  have ok : okSk S n := ⟨by omega, by omega, by omega⟩
  rw [if_pos ok, if_pos ok] at hK
  exact X10_noted hE i1 ⟨by omega, Or.inr (Or.inr rfl), by omega, by omega, by omega, by omega⟩ hK
/-! known, mode -/
def uKnown (S : zH) (n : Int) : zH := if -1 ≤ n ∧ n ≤ S 0 54 then hset S 0 55 n else S
def aKnown (S : zH) (n : Int) : Int := bI (-1 ≤ n ∧ n ≤ S 0 54)
def uMode (S : zH) (m hv : Int) : zH := if 0 ≤ m ∧ m ≤ 3 then hset (hset S 0 56 m) 0 57 hv else S
def aMode (m : Int) : Int := bI (0 ≤ m ∧ m ≤ 3)
theorem smT_set {j : Nat} {v : Int} (hj : ¬ (23 ≤ j ∧ j ≤ 31)) : smT S (hset S 0 j v) := ⟨fun c h1 h2 => hset_rne (by omega), fun j' h1 h2 => hset_ne (by omega)⟩
theorem smT.tr {S' S'' : zH} (a : smT S S') (b : smT S' S'') : smT S S'' := ⟨fun c h1 h2 => (b.1 c h1 h2).trans (a.1 c h1 h2), fun j h1 h2 => (b.2 j h1 h2).trans (a.2 j h1 h2)⟩
theorem kn_wf (w : WfS S) {n : Int} (hn : -1 ≤ n ∧ n ≤ S 0 54) : WfS (hset S 0 55 n) := by
  have wn := w.n
  refine w.ms (smT_set (by omega)) ?_ ?_ ?_
  · unfold WfN at wn ⊢
    rw [hset_eq, hset_ne (c' := 0) (j' := 2) (by omega), hset_ne (c' := 0) (j' := 23) (by omega), hset_ne (c' := 0) (j' := 24) (by omega), hset_ne (c' := 0) (j' := 25) (by omega), hset_ne (c' := 0) (j' := 26) (by omega), hset_ne (c' := 0) (j' := 27) (by omega), hset_ne (c' := 0) (j' := 29) (by omega), hset_ne (c' := 0) (j' := 30) (by omega), hset_ne (c' := 0) (j' := 31) (by omega), hset_ne (c' := 0) (j' := 54) (by omega), hset_ne (c' := 0) (j' := 56) (by omega), hset_ne (c' := 0) (j' := 57) (by omega)]
    omega
  · have g := w.t
    unfold WfT at g ⊢
    rw [hset_ne (c' := 0) (j' := 54) (by omega), hset_rne (c' := 22) (by omega), hset_rne (c' := 23) (by omega), hset_rne (c' := 24) (by omega), hset_rne (c' := 25) (by omega)]
    exact g
  · have g := w.b
    unfold WfB at g ⊢
    rw [hset_ne (c' := 0) (j' := 2) (by omega), hset_rne (c' := 1) (by omega)]
    exact g
theorem md_wf (w : WfS S) {m hv : Int} (hm : 0 ≤ m ∧ m ≤ 3) (hh : hv = 0 ∨ hv = 1) : WfS (hset (hset S 0 56 m) 0 57 hv) := by
  have wn := w.n
  refine w.ms ((smT_set (by omega)).tr (smT_set (by omega))) ?_ ?_ ?_
  · unfold WfN at wn ⊢
    rw [hset_eq, hset_ne (c' := 0) (j' := 56) (by omega), hset_eq, hset_ne (c' := 0) (j' := 2) (by omega), hset_ne (c' := 0) (j' := 2) (by omega), hset_ne (c' := 0) (j' := 23) (by omega), hset_ne (c' := 0) (j' := 23) (by omega), hset_ne (c' := 0) (j' := 24) (by omega), hset_ne (c' := 0) (j' := 24) (by omega), hset_ne (c' := 0) (j' := 25) (by omega), hset_ne (c' := 0) (j' := 25) (by omega), hset_ne (c' := 0) (j' := 26) (by omega), hset_ne (c' := 0) (j' := 26) (by omega), hset_ne (c' := 0) (j' := 27) (by omega), hset_ne (c' := 0) (j' := 27) (by omega), hset_ne (c' := 0) (j' := 29) (by omega), hset_ne (c' := 0) (j' := 29) (by omega), hset_ne (c' := 0) (j' := 30) (by omega), hset_ne (c' := 0) (j' := 30) (by omega), hset_ne (c' := 0) (j' := 31) (by omega), hset_ne (c' := 0) (j' := 31) (by omega), hset_ne (c' := 0) (j' := 54) (by omega), hset_ne (c' := 0) (j' := 54) (by omega), hset_ne (c' := 0) (j' := 55) (by omega), hset_ne (c' := 0) (j' := 55) (by omega)]
    omega
  · have g := w.t
    unfold WfT at g ⊢
    rw [hset_ne (c' := 0) (j' := 54) (by omega), hset_ne (c' := 0) (j' := 54) (by omega), hset_rne (c' := 22) (by omega), hset_rne (c' := 22) (by omega), hset_rne (c' := 23) (by omega), hset_rne (c' := 23) (by omega), hset_rne (c' := 24) (by omega), hset_rne (c' := 24) (by omega), hset_rne (c' := 25) (by omega), hset_rne (c' := 25) (by omega)]
    exact g
  · have g := w.b
    unfold WfB at g ⊢
    rw [hset_ne (c' := 0) (j' := 2) (by omega), hset_ne (c' := 0) (j' := 2) (by omega), hset_rne (c' := 1) (by omega), hset_rne (c' := 1) (by omega)]
    exact g
/-- the class before learning anew: one of its own numbers has changed -/
theorem ICb.pre {S' h' : zH} {b : Nat} (i : ICb S h b) (w : WfS S') (m : smT S S') (fr : ∀ c j, ¬ (c = 0 ∧ (j = 6 ∨ j = 7 ∨ j = 8)) → h' c j = h c j) (e6 : h' 0 6 = S' 0 55) (e7 : h' 0 7 = S' 0 56) (e8 : h' 0 8 = S' 0 57) (sm : ∀ c j, (c = 1 ∨ (22 ≤ c ∧ c ≤ 25) ∨ (c = 0 ∧ (j = 2 ∨ j = 51 ∨ j = 52 ∨ j = 54))) → S' c j = S c j) : ICp S' h' b := by
  have hb := i.hb
  obtain ⟨a1, a2, a3, a4, a5, a6, a7, a8, a9, a10⟩ := i.ot
  refine ⟨w, ⟨hb, by rw [fr _ _ (by omega)]; exact i.tld, by rw [fr _ _ (by omega)]; exact i.spr⟩, (i.sv.mv (fun c j q1 q2 => fr c j (by omega))).ms m, ⟨i.bd.1.mv (fun j => fr _ _ (by omega)), i.bd.2.mv (fun j => fr _ _ (by omega))⟩, ?_, ?_, ?_⟩
  · refine ⟨by rw [fr _ _ (by omega), sm _ _ (by omega)]; exact a1, fun j hj => ?_, e6, e7, e8, by rw [fr _ _ (by omega), sm _ _ (by omega)]; exact a6, by rw [fr _ _ (by omega), sm _ _ (by omega)]; exact a7, by rw [fr _ _ (by omega), sm _ _ (by omega)]; exact a8, fun n hn => ?_, fun j hj => by rw [fr _ _ (by omega)]; exact a10 j hj⟩
    · rw [sm _ _ (by omega)] at hj
      rw [fr _ _ (by omega), sm _ _ (by omega)]; exact a2 j hj
    · rw [sm _ _ (by omega)] at hn
      rw [fr _ _ (by omega), fr _ _ (by omega), fr _ _ (by omega), fr _ _ (by omega), sm _ _ (by omega), sm _ _ (by omega), sm _ _ (by omega), sm _ _ (by omega)]
      exact a9 n hn
  · obtain ⟨L, G, H, hF, hl⟩ := i.fi10
    exact ⟨L, G, H, hF.sm (fun c j q1 q2 => fr c j (by omega)), hl⟩
  · obtain ⟨L, G, H, hF, hl⟩ := i.tn
    exact ⟨L, G, H, hF.sm (fun c j q1 q2 => fr c j (by omega)), hl⟩
theorem C_known (hE : isC E) (i : IC S h) {n : Int} (hK : ∀ h', IC (uKnown S n) h' → K (aKnown S n) h') : zCI E mX9_known (d + 6) [zR 0, zI n] h K := by
  obtain ⟨b, i⟩ := i
  unfold uKnown aKnown at hK
  have ot := i.ot
  obtain ⟨a1, a2, a3, a4, a5, a6, a7, a8, a9, a10⟩ := ot
  refine eX9_known (d := d + 5) hE ?_
  rw [a8]
  refine X9_isBeyond hE ⟨fun c h3 e3 => ?_, fun c => ?_⟩
  · rw [bI_0] at c
    have ok : -1 ≤ n ∧ n ≤ S 0 54 := by omega
    rw [if_pos ok, bI_t ok] at hK
    refine C_learnAnew hE (S := hset S 0 55 n) (i.pre (kn_wf i.wf ok) (smT_set (by omega)) (fun c j q => by rw [e3, hset_ne (by omega)]) (by rw [e3, hset_eq, hset_eq]) (by rw [e3, hset_ne (by omega), hset_ne (by omega)]; exact a4) (by rw [e3, hset_ne (by omega), hset_ne (by omega)]; exact a5) (fun c j q => hset_ne (by omega))) (fun h' i' => hK h' i'.ic)
  · rw [bI_n] at c
    have no : ¬ (-1 ≤ n ∧ n ≤ S 0 54) := by omega
    rw [if_neg no, bI_f no] at hK
    exact hK h i.ic
theorem R_known (hE : isR E) (i : IR S h) {n : Int} (hK : ∀ h', IR (uKnown S n) h' → K (aKnown S n) h') : zCI E mX10_known d [zR 0, zI n] h K := by
  refine eX10_known hE (fun h1 e1 => ?_)
  have i1 := i.thr e1
  unfold uKnown aKnown at hK
  have e54 : h1 0 54 = S 0 54 := i1.q.num (by omega)
  rw [e54]
  have no : ¬ (-1 ≤ n ∧ n ≤ S 0 54) → K 0 h1 := fun z => by rw [if_neg z, bI_f z] at hK; exact hK h1 i1
  refine ⟨fun c => no (by omega), fun c => ⟨fun c2 h4 e4 h5 e5 => ?_, fun c2 => no (by omega)⟩⟩
  have ok : -1 ≤ n ∧ n ≤ S 0 54 := by omega
  rw [if_pos ok, bI_t ok] at hK
  refine hK h5 ⟨kn_wf i.wf ok, ?_, fun z => absurd (by rw [e5, hset_eq]) z, ?_⟩
  · rw [e5]
    refine zq.out ?_ (by unfold zn; omega)
    rw [e4]
    exact i1.q.set 0 55 n
  · rw [e5, hset_rne (by omega), e4, hset_rne (by omega)]; exact i1.2.2.2
theorem C_mode (hE : isC E) (i : IC S h) {m hv : Int} (hh : hv = 0 ∨ hv = 1) (hK : ∀ h', IC (uMode S m hv) h' → K (aMode m) h') : zCI E mX9_mode (d + 6) [zR 0, zI m, zI hv] h K := by
  obtain ⟨b, i⟩ := i
  unfold uMode aMode at hK
  have ot := i.ot
  obtain ⟨a1, a2, a3, a4, a5, a6, a7, a8, a9, a10⟩ := ot
  refine eX9_mode (d := d + 5) hE (X9_isBeyond hE ⟨fun c h3 e3 => ⟨hh, fun h4 e4 => ?_⟩, fun c => ?_⟩)
  · rw [bI_0] at c
    have ok : 0 ≤ m ∧ m ≤ 3 := by omega
    rw [if_pos ok, bI_t ok] at hK
    refine C_learnAnew hE (S := hset (hset S 0 56 m) 0 57 hv) (i.pre (md_wf i.wf ok hh) ((smT_set (by omega)).tr (smT_set (by omega))) (fun c j q => by rw [e4, hset_ne (by omega), e3, hset_ne (by omega)]) (by rw [e4, hset_ne (by omega), e3, hset_ne (by omega), hset_ne (by omega), hset_ne (by omega)]; exact a3) (by rw [e4, hset_ne (by omega), e3, hset_eq, hset_ne (by omega), hset_eq]) (by rw [e4, hset_eq, hset_eq]) (fun c j q => by rw [hset_ne (by omega), hset_ne (by omega)])) (fun h' i' => hK h' i'.ic)
  · rw [bI_n] at c
    have no : ¬ (0 ≤ m ∧ m ≤ 3) := by omega
    rw [if_neg no, bI_f no] at hK
    exact hK h i.ic
theorem R_mode (hE : isR E) (i : IR S h) {m hv : Int} (hh : hv = 0 ∨ hv = 1) (hK : ∀ h', IR (uMode S m hv) h' → K (aMode m) h') : zCI E mX10_mode d [zR 0, zI m, zI hv] h K := by
  refine eX10_mode hE (fun h1 e1 => ?_)
  have i1 := i.thr e1
  unfold uMode aMode at hK
  have no : ¬ (0 ≤ m ∧ m ≤ 3) → K 0 h1 := fun z => by rw [if_neg z, bI_f z] at hK; exact hK h1 i1
  refine ⟨fun c => no (by omega), fun c => ⟨fun c2 h4 e4 => ⟨hh, fun h5 e5 h6 e6 => ?_⟩, fun c2 => no (by omega)⟩⟩
  have ok : 0 ≤ m ∧ m ≤ 3 := by omega
  rw [if_pos ok, bI_t ok] at hK
  refine hK h6 ⟨md_wf i.wf ok hh, ?_, fun z => absurd (by rw [e6, hset_eq]) z, ?_⟩
  · rw [e6]
    refine zq.out ?_ (by unfold zn; omega)
    rw [e5, e4]
    exact (i1.q.set 0 56 m).set 0 57 hv
  · rw [e6, hset_rne (by omega), e5, hset_rne (by omega), e4, hset_rne (by omega)]; exact i1.2.2.2
end TCalls
