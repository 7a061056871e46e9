/-! ===== topic: plain questions: fault, named, whole, about, fit ===== -/
section TPlain
variable {E : zE} {d : Nat} {h : zH} {S : zH} {K : Int → zH → Prop}
def aFault (S : zH) (w : Int) : Int := if w = 0 then S 0 51 else if w = 1 then S 0 52 else -1
theorem C_fault (hE : isC E) (i : IC S h) {w : Int} (hK : ∀ h', IC S h' → K (aFault S w) h') : zCI E mX9_fault d [zR 0, zI w] h K := by
  have k := hK h i
  obtain ⟨b, i⟩ := i
  obtain ⟨a1, a2, a3, a4, a5, a6, a7, a8, a9, a10⟩ := i.ot
  unfold aFault at k
  refine eX9_fault hE ?_
  rw [a6, a7]
  refine ⟨fun c => ?_, fun c => ?_, fun c => ?_⟩
  · rwa [if_pos c] at k
  · rwa [if_neg (by omega), if_pos c] at k
  · rwa [if_neg (by omega), if_neg (by omega)] at k
theorem R_fault (hE : isR E) (i : IR S h) {w : Int} (hK : ∀ h', IR S h' → K (aFault S w) h') : zCI E mX10_fault d [zR 0, zI w] h K := by
  refine eX10_fault hE (fun h1 e1 => ?_)
  have i1 := i.thr e1
  have k := hK h1 i1
  unfold aFault at k
  rw [i1.q.num (j := 51) (by omega), i1.q.num (j := 52) (by omega)]
  refine ⟨fun c => ⟨fun c2 => ?_, fun c2 => ?_⟩, fun c => ?_⟩
  · rwa [if_neg c, if_neg c2] at k
  · rwa [if_neg c, if_pos (by omega)] at k
  · rwa [if_pos (by omega)] at k
/-! names -/
def fnd (f : Nat → Int) (x : Int) : Nat → Nat → Int
  | 0, _ => -1
  | m + 1, i => if f i = x then (i : Int) else fnd f x m (i + 1)
theorem fnd_congr {f g : Nat → Int} {x : Int} : ∀ (m i : Nat), (∀ k, i ≤ k → k < i + m → f k = g k) → fnd f x m i = fnd g x m i
  | 0, _, _ => rfl
  | m + 1, i, hh => by
    unfold fnd
    rw [hh i (by omega) (by omega), fnd_congr m (i + 1) (fun k a b => hh k (by omega) (by omega))]
theorem fnd_r {f : Nat → Int} {x : Int} : ∀ (m i : Nat), fnd f x m i = -1 ∨ ((i : Int) ≤ fnd f x m i ∧ fnd f x m i < i + m)
  | 0, _ => Or.inl rfl
  | m + 1, i => by
    have ih := fnd_r (f := f) (x := x) m (i + 1)
    unfold fnd
    split
    · right; omega
    · rcases ih with e | e
      · exact Or.inl e
      · right; omega
theorem X2_find (hE : isC E) {q nq : Nat} (hq : isNm E q nq) {n : Nat} (hn : h q 1 = n) (hnq : n ≤ nq) {x : Int} (hK : K (fnd (h (q + 1)) x n 0) h) : zCI E mX2_find d [zR q, zI x] h K := by
  have h8 := hq.2.2.2
  generalize hv : fnd (h (q + 1)) x n 0 = v at hK
  have loop : ∀ (m k : Nat), k + m = n → fnd (h (q + 1)) x m k = v → zG E mX2_find d 2 [zR q, zI x, zI k] [] h (qI K) := by
    intro m
    induction m with
    | zero =>
      intro k hk e
      rw [← e] at hK
      exact bX2_find_2 hE hq ⟨fun _ => hK, fun c => absurd (by rw [hn]; omega) c⟩
    | succ m ih =>
      intro k hk e
      unfold fnd at e
      refine bX2_find_2 hE hq ⟨fun c => absurd c (by rw [hn]; omega), fun _ => ⟨fun c => absurd c (by omega), fun _ => ⟨nat_in (by omega), ?_⟩⟩⟩
      rw [Int.toNat_natCast]
      refine ⟨fun c y ey => ?_, fun c => ?_⟩
      · rw [w_suc (by omega)] at ey
        rw [ey]
        rw [if_neg c] at e
        exact ih (k + 1) (by omega) e
      · rw [if_pos (Decidable.not_not.mp c)] at e
        rwa [e]
  exact eX2_find hE hq (loop n 0 (by omega) hv)
theorem X10_found (hE : isR E) {a na : Nat} (ha : zsh E a = (20, na) ∧ a < zN E ∧ na < 2147483648) {o n : Nat} (hn : o + n ≤ na) (ho : o + n < 1000) {x : Int} (hK : K (fnd (fun k => h a (o + k)) x n 0) h) : zCI E mX10_found d [zR a, zI o, zI n, zI x] h K := by
  generalize hv : fnd (fun k => h a (o + k)) x n 0 = v at hK
  have loop : ∀ (m k : Nat), k + m = n → fnd (fun k => h a (o + k)) x m k = v → zG E mX10_found d 3 [zR a, zI o, zI n, zI x, zI k] [] h (qI K) := by
    intro m
    induction m with
    | zero =>
      intro k hk e
      rw [← e] at hK
      exact bX10_found_3 hE ha ⟨fun _ => hK, fun c => absurd (by omega) c⟩
    | succ m ih =>
      intro k hk e
      unfold fnd at e
      have ew : w32 ((o : Int) + (k : Int)) = ((o + k : Nat) : Int) := by rw [w32i (by omega) (by omega)]; omega
      refine bX10_found_3 hE ha ⟨fun c => absurd c (by omega), fun _ => ?_⟩
      rw [ew, Int.toNat_natCast]
      refine ⟨nat_in (by omega), fun c y ey => ?_, fun c => ?_⟩
      · rw [w_suc (by omega)] at ey
        rw [ey]
        rw [if_neg c] at e
        exact ih (k + 1) (by omega) e
      · rw [if_pos (Decidable.not_not.mp c)] at e
        rwa [e]
  exact eX10_found hE ha (loop n 0 (by omega) hv)
def aNamed (S : zH) (w x : Int) : Int := if w = 0 then fnd (S 2) x (S 0 23).toNat 0 else if w = 1 then fnd (S 3) x (S 0 24).toNat 0 else if w = 2 then fnd (S 12) x (S 0 25).toNat 0 else if w = 3 then fnd (S 15) x (S 0 27).toNat 0 else -1
theorem NmC.find (hE : isC E) {q nq n a : Nat} (hq : isNm E q nq) (i : NmC S h q n a) (h0 : 0 ≤ S 0 n) (hn : S 0 n ≤ nq) {x : Int} (hK : K (fnd (S a) x (S 0 n).toNat 0) h) : zCI E mX2_find d [zR q, zI x] h K := by
  refine X2_find hE hq (n := (S 0 n).toNat) (by rw [i.1]; omega) (by omega) ?_
  rwa [fnd_congr (g := S a) _ _ (fun k _ hk => i.2 k (by omega))]
theorem C_named (hE : isC E) (i : IC S h) {w x : Int} (hK : ∀ h', IC S h' → K (aNamed S w x) h') : zCI E mX9_named (d + 1) [zR 0, zI w, zI x] h K := by
  have k := hK h i
  obtain ⟨b, i⟩ := i
  have wn := i.wf.n
  unfold WfN at wn
  have su := su_b hE i.hb
  unfold aNamed at k
  refine eX9_named hE su ⟨fun c => ⟨i.tld, i.sv.la.find hE su.2.2.1 (by omega) (by omega) ?_⟩, fun c => ⟨i.tld, i.sv.ri.find hE su.2.2.2.1 (by omega) (by omega) ?_⟩, fun c => ⟨i.tld, i.sv.wa.find hE su.2.2.2.2.1 (by omega) (by omega) ?_⟩, fun c => ⟨i.tld, i.sv.me.find hE su.2.2.2.2.2.1 (by omega) (by omega) ?_⟩, fun c => ?_⟩
  · rwa [if_pos c] at k
  · rwa [if_neg (by omega), if_pos c] at k
  · rwa [if_neg (by omega), if_neg (by omega), if_pos c] at k
  · rwa [if_neg (by omega), if_neg (by omega), if_neg (by omega), if_pos c] at k
  · rwa [if_neg (by omega), if_neg (by omega), if_neg (by omega), if_neg (by omega)] at k
theorem X10_foundI (hE : isR E) {a na : Nat} (ha : zsh E a = (20, na) ∧ a < zN E ∧ na < 2147483648) (hr : h a = S a) {x v : Int} (h0 : 0 ≤ v) (h1 : v ≤ na) (h2 : v < 1000) (hK : K (fnd (S a) x v.toNat 0) h) : zCI E mX10_found d [zR a, zI 0, zI v, zI x] h K := by
  have := X10_found (d := d) (h := h) hE ha (o := 0) (n := v.toNat) (by omega) (by omega) (x := x) (K := K)
  rw [show ((v.toNat : Nat) : Int) = v by omega] at this
  refine this ?_
  rwa [fnd_congr (g := S a) _ _ (fun k _ _ => by rw [hr, Nat.zero_add])]
theorem R_named (hE : isR E) (i : IR S h) {w x : Int} (hK : ∀ h', IR S h' → K (aNamed S w x) h') : zCI E mX10_named (d + 1) [zR 0, zI w, zI x] h K := by
  refine eX10_named hE (fun h1 e1 => ?_)
  have i1 := i.thr e1
  have k := hK h1 i1
  have wn := i.wf.n
  unfold WfN at wn
  unfold aNamed at k
  have q := i1.q
  rw [q.num (j := 23) (by omega), q.num (j := 24) (by omega), q.num (j := 25) (by omega), q.num (j := 27) (by omega)]
  refine ⟨fun c => X10_foundI hE (na := 8) ⟨sR_2 hE, cR_2 hE, by omega⟩ (q.row (by omega) (by omega)) (by omega) (by omega) (by omega) ?_, fun c => X10_foundI hE (na := 16) ⟨sR_3 hE, cR_3 hE, by omega⟩ (q.row (by omega) (by omega)) (by omega) (by omega) (by omega) ?_, fun c => X10_foundI hE (na := 10) ⟨sR_12 hE, cR_12 hE, by omega⟩ (q.row (by omega) (by omega)) (by omega) (by omega) (by omega) ?_, fun c => X10_foundI hE (na := 12) ⟨sR_15 hE, cR_15 hE, by omega⟩ (q.row (by omega) (by omega)) (by omega) (by omega) (by omega) ?_, fun c => ?_⟩
  · rwa [if_pos c] at k
  · rwa [if_neg (by omega), if_pos c] at k
  · rwa [if_neg (by omega), if_neg (by omega), if_pos c] at k
  · rwa [if_neg (by omega), if_neg (by omega), if_neg (by omega), if_pos c] at k
  · rwa [if_neg (by omega), if_neg (by omega), if_neg (by omega), if_neg (by omega)] at k
/-! whole -/
def aWhole (S : zH) (s u w : Int) : Int := if 0 ≤ s ∧ s ≤ 999999 ∧ isU u ∧ 0 ≤ w ∧ w ≤ 1 then (if w = 0 then sOff s (sPart u (S 0 57)) else sTimes s (sPart u (S 0 57))) else -1
theorem C_whole (hE : isC E) (i : IC S h) {s u w : Int} (hK : ∀ h', IC S h' → K (aWhole S s u w) h') : zCI E mX9_whole (d + 1) [zR 0, zI s, zI u, zI w] h K := by
  have k := hK h i
  obtain ⟨b, i⟩ := i
  obtain ⟨a1, a2, a3, a4, a5, a6, a7, a8, a9, a10⟩ := i.ot
  unfold aWhole at k
  refine eX9_whole hE (X9_isBeyond hE ⟨fun c => ?_, fun c => X9_isUnit hE ⟨fun c2 => ?_, fun c2 => ?_⟩⟩)
  · rw [ne_eq, bI_n] at c
    rwa [if_neg (by omega)] at k
  · rw [ne_eq, bI_n] at c c2
    have hp := sPart_r (hv := S 0 57) c2
    rw [a5]
    refine X9_placesOf hE (by omega) (by omega) ⟨fun c3 => X9_offBy hE (by omega) (by omega) (by omega) ?_, fun c3 => X9_timesBy hE (by omega) (by omega) (by omega) (by omega) ?_, fun c3 => ?_⟩
    · rwa [if_pos ⟨by omega, by omega, c2, by omega, by omega⟩, if_pos c3] at k
    · rwa [if_pos ⟨by omega, by omega, c2, by omega, by omega⟩, if_neg (by omega)] at k
    · rwa [if_neg (by omega)] at k
  · rw [ne_eq, bI_n] at c2
    rwa [if_neg (fun z => c2 z.2.2.1)] at k
theorem R_whole (hE : isR E) (i : IR S h) {s u w : Int} (hK : ∀ h', IR S h' → K (aWhole S s u w) h') : zCI E mX10_whole (d + 1) [zR 0, zI s, zI u, zI w] h K := by
  refine eX10_whole hE (fun h1 e1 => ?_)
  have i1 := i.thr e1
  have k := hK h1 i1
  unfold aWhole at k
  refine ⟨fun c => ?_, fun c => ⟨fun c2 => ?_, fun c2 => X10_isUnit hE ⟨fun c3 => ?_, fun c3 => ⟨fun c4 => ?_, fun c4 => ⟨fun c5 => ?_, fun c5 => ?_⟩⟩⟩⟩⟩
  · rwa [if_neg (by omega)] at k
  · rwa [if_neg (by omega)] at k
  · rw [bI_0] at c3
    rwa [if_neg (fun z => c3 z.2.2.1)] at k
  · rwa [if_neg (by omega)] at k
  · rw [bI_n] at c3
    have hp := sPart_r (hv := S 0 57) c3
    rw [if_pos ⟨by omega, by omega, c3, by omega, by omega⟩] at k
    refine ⟨fun c6 => X10_part hE (by omega) (by omega) ?_, fun c6 => X10_part hE (by omega) (by omega) ?_⟩
    · rw [i1.q.num (j := 57) (by omega)]
      refine X10_timesBy hE (by omega) (by omega) (by omega) (by omega) ?_
      rwa [if_neg c6] at k
    · rw [i1.q.num (j := 57) (by omega)]
      refine X10_offBy hE (by omega) (by omega) (by omega) ?_
      rwa [if_pos (by omega)] at k
  · rwa [if_neg (by omega)] at k
/-! about -/
def aAbout (S : zH) (r w : Int) : Int := if 0 ≤ r ∧ r < S 0 24 ∧ 0 ≤ w ∧ w ≤ 2 then (if w = 0 then S 4 r.toNat else if w = 1 then S 5 r.toNat else ((sLs S (sNk S) r.toNat).length : Int)) else -1
theorem C_about (hE : isC E) (i : IC S h) {r w : Int} (hK : ∀ h', IC S h' → K (aAbout S r w) h') : zCI E mX9_about (d + 1) [zR 0, zI r, zI w] h K := by
  have k := hK h i
  obtain ⟨b, i⟩ := i
  have wn := i.wf.n
  unfold WfN at wn
  have su := su_b hE i.hb
  unfold aAbout at k
  refine eX9_about hE su ⟨i.tld, X8_hasRing hE su (R := (S 0 24).toNat) (by rw [i.sv.ri.1]; omega) (by omega) ⟨fun c => ?_, fun c => ?_⟩⟩
  · rw [ne_eq, bI_n] at c
    have rg := i.sv.rg r.toNat (by omega)
    refine ⟨fun c2 => ⟨i.tld, by omega, ?_⟩, fun c2 => ⟨i.tld, by omega, ?_⟩, fun c2 => ⟨by omega, ?_⟩, fun c2 => ?_⟩
    · rw [rg.1]; rwa [if_pos (by omega), if_pos c2] at k
    · rw [rg.2.1]; rwa [if_pos (by omega), if_neg (by omega), if_pos c2] at k
    · rw [(i.fi.2.2.2 r.toNat (by omega)).1]; rwa [if_pos (by omega), if_neg (by omega), if_neg (by omega)] at k
    · rwa [if_neg (by omega)] at k
  · rw [ne_eq, bI_n] at c
    rwa [if_neg (by omega)] at k
/-- the reference's stones that stand, known now -/
theorem X10_standsI (hE : isR E) (i : IR S h) {r : Nat} (hr : (r : Int) < S 0 24) {K : zH → Prop}
    (hK : ∀ h', IR S h' → h' 0 68 = ((sLs S (sNk S) r).length : Int) → (∀ k, k < (sLs S (sNk S) r).length → h' 30 k = lX (sLs S (sNk S) r) k ∧ h' 31 k = lY (sLs S (sNk S) r) k) → K h') : zCI E mX10_knownNotes d [zR 0] h (fun r_6 h_6 => zCV E mX10_stones d [zR 0, zI r_6] h_6 (fun h_7 => zCV E mX10_stands d [zR 0, zI r] h_7 K)) := by
  have w := i.wf
  have wn := w.n
  unfold WfN at wn
  have nk := sNk_le w
  refine X10_knownNotes hE i (X10_stones hE (nk := S 22) (nw := S 23) (na := S 24) (nb := S 25) (by omega) (fun k hk => ?_) (w.t.1.le nk) (fun s hs => ?_) (fun h1 fr1 t1 => ?_))
  · rw [i.q.row (c := 22) (by omega) (by omega), i.q.row (c := 23) (by omega) (by omega), i.q.row (c := 24) (by omega) (by omega), i.q.row (c := 25) (by omega) (by omega)]
    exact ⟨rfl, rfl, rfl, rfl⟩
  · rw [i.q.row (c := 11) (by omega) (by omega)]; exact (w.g.2 s hs).2.2.2
  · rw [i.q.row (c := 6) (by omega) (by omega), i.q.row (c := 7) (by omega) (by omega), i.q.row (c := 11) (by omega) (by omega)] at t1
    change TriR h1 (sTr S (sNk S)) at t1
    have i1 : IR S h1 := i.mv (fun c j hz => fr1 c j (by unfold zn at hz; omega)) (by rw [show h1 39 = h 39 from funext fun j => fr1 39 j (by omega)]; exact i.2.2.2)
    have g := w.g.1 r hr
    have el : sPts (S 0 56) (sTr S (sNk S)) (S 10) (S 8) (S 9) r (S 5 r).toNat = sLs S (sNk S) r := by
      unfold sLs suL
      rw [if_pos (by omega)]
    refine X10_stands hE t1 (r := r) (n := (S 5 r).toNat) (by omega) (by rw [i1.q.row (c := 5) (by omega) (by omega)]; omega) (by omega) (mode := S 0 56) (i1.q.num (by omega)) (by omega) (by omega) (fun s hs => sTr_b w nk hs) (fun s hs => ?_) (fun h2 fr2 e68 hp => ?_)
    · rw [i1.q.row (c := 8) (by omega) (by omega), i1.q.row (c := 9) (by omega) (by omega)]; exact (w.g.2 s hs).2.1
    · rw [i1.q.row (c := 8) (by omega) (by omega), i1.q.row (c := 9) (by omega) (by omega), i1.q.row (c := 10) (by omega) (by omega), el] at e68 hp
      refine hK h2 (i1.mv (fun c j hz => fr2 c j (by unfold zn at hz; omega) (by unfold zn at hz; omega) (by unfold zn at hz; omega)) ?_) e68 hp
      rw [show h2 39 = h1 39 from funext fun j => fr2 39 j (by omega) (by omega) (by omega)]; exact i1.2.2.2
theorem R_about (hE : isR E) (i : IR S h) {r w : Int} (hK : ∀ h', IR S h' → K (aAbout S r w) h') : zCI E mX10_about (d + 1) [zR 0, zI r, zI w] h K := by
  refine eX10_about hE (fun h1 e1 => ?_)
  have i1 := i.thr e1
  have k := hK h1 i1
  have wn := i.wf.n
  unfold WfN at wn
  unfold aAbout at k hK
  rw [i1.q.num (j := 24) (by omega)]
  refine ⟨fun c => ?_, fun c => ⟨fun c2 => ?_, fun c2 => ⟨fun c3 => ?_, fun c3 => ⟨fun c4 => ?_, fun c4 => ?_⟩⟩⟩⟩
  · rwa [if_neg (by omega)] at k
  · rwa [if_neg (by omega)] at k
  · rwa [if_neg (by omega)] at k
  · obtain ⟨n, rfl⟩ : ∃ n : Nat, r = n := ⟨r.toNat, by omega⟩
    refine X10_standsI hE i1 (by omega) (fun h2 i2 e68 _ => ?_)
    have k2 := hK h2 i2
    rw [if_pos (by omega)] at k2
    rw [i2.q.row (c := 5) (by omega) (by omega), i2.q.row (c := 4) (by omega) (by omega), e68]
    rw [Int.toNat_natCast] at k2 ⊢
    refine ⟨fun c5 => ⟨fun c6 => ?_, fun c6 => ⟨by omega, ?_⟩⟩, fun c5 => ⟨by omega, ?_⟩⟩
    · rwa [if_neg c5, if_neg c6] at k2
    · rwa [if_neg c5, if_pos (by omega)] at k2
    · rwa [if_pos (by omega)] at k2
  · rwa [if_neg (by omega)] at k
end TPlain
