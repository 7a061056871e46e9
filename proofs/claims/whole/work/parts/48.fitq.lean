/-! ===== topic: fit, best, well, span, next ===== -/
section TFitq
variable {E : zE} {d : Nat} {h : zH} {S : zH} {K : Int → zH → Prop}
/-- a ring with a fit -/
abbrev hasF (S : zH) (r : Nat) : Prop := 3 ≤ (sLs S (sNk S) r).length
theorem hasF_in {r : Nat} (hf : hasF S r) : (r : Int) < S 0 24 := by
  by_cases z : (r : Int) < S 0 24
  · exact z
  · unfold hasF at hf; rw [sLs_out z] at hf
    exact absurd hf (by decide)
theorem fitd_iff (w : WfS S) {x : Int} : fitd (sLs S (sNk S)) x ↔ 0 ≤ x ∧ x < S 0 24 ∧ hasF S x.toNat := by
  have wn := w.n
  unfold WfN at wn
  constructor
  · intro z
    have := hasF_in (S := S) (r := x.toNat) z.2.2
    exact ⟨z.1, by omega, z.2.2⟩
  · intro z
    exact ⟨z.1, by omega, z.2.2⟩
theorem WfS.g9 (w : WfS S) : sG S ≤ 9 := by
  have wn := w.n
  unfold WfN at wn
  unfold sG; omega
theorem WfS.h20 (w : WfS S) : sH S ≤ 20 := by
  have wn := w.n
  unfold WfN at wn
  unfold sH; omega
theorem WfS.pt (w : WfS S) {r : Nat} (hr : r < 8) : ptL (sLs S (sNk S) r) := sLs_pt w (sNk_le w) hr
theorem WfS.r8 (w : WfS S) {r : Nat} (hr : (r : Int) < S 0 24) : r < 8 := by
  have wn := w.n
  unfold WfN at wn
  omega
theorem WfS.sl (w : WfS S) : 0 ≤ S 0 31 ∧ S 0 31 ≤ 100000 := by
  have wn := w.n
  unfold WfN at wn
  omega
theorem caOk.a4 {q : Nat} {l : List (Int × Int)} {G H r : Nat} (hc : caOk h q l G H r) {f : Nat} (hf : okF f) : h (q + 9) (r * 12 + f) = (shF l G H f).2.2.1 ∧ h (q + 10) (r * 12 + f) = (shF l G H f).2.2.2 := by
  have := hc.2.1 f hf
  unfold accC toC at this
  exact ⟨congrArg (fun a : zAcc => a.2.2.1) this, congrArg (fun a : zAcc => a.2.2.2) this⟩
/-! fit -/
def aFit (S : zH) (x s t w : Int) : Int :=
  if (0 ≤ x ∧ x < S 0 24 ∧ hasF S x.toNat) ∧ (0 ≤ s ∧ s ≤ 2 ∧ 0 ≤ t ∧ t ≤ 3 ∧ (s = 0 → t = 0)) ∧ 0 ≤ w ∧ w ≤ 3 then
    (if w = 0 then 2 * (shF (sLs S (sNk S) x.toNat) (sG S) (sH S) (s * 4 + t).toNat).2.1 else if w = 1 then (shF (sLs S (sNk S) x.toNat) (sG S) (sH S) (s * 4 + t).toNat).1 else if w = 2 then (shF (sLs S (sNk S) x.toNat) (sG S) (sH S) (s * 4 + t).toNat).2.2.1 else (shF (sLs S (sNk S) x.toNat) (sG S) (sH S) (s * 4 + t).toNat).2.2.2)
  else -2147483648
theorem C_fit (hE : isC E) (i : IC S h) {x s t w : Int} (hK : ∀ h', IC S h' → K (aFit S x s t w) h') : zCI E mX9_fit (d + 5) [zR 0, zI x, zI s, zI t, zI w] h K := by
  have k := hK h i
  obtain ⟨b, i⟩ := i
  have fd := fitd_iff i.wf (x := x)
  unfold aFit at k hK
  refine eX9_fit (d := d + 4) hE (X9_isBeyond hE ⟨fun c => ?_, fun c => X9_isBeyond hE ⟨fun c2 => ?_, fun c2 => ?_⟩⟩)
  · rw [ne_eq, bI_n] at c
    rwa [if_neg (by omega)] at k
  · rw [ne_eq, bI_n] at c
    rw [bI_0] at c2
    rw [w32i (x := s * 4) (by omega) (by omega), w32i (by omega) (by omega)]
    refine X0_fitAt hE (fi_52 hE) i.fw (fun nf => ⟨fun c3 => absurd rfl c3, fun _ => ?_⟩) (fun r f er ef hr8 hf h3 h' fr hw ca => ?_)
    · rwa [if_neg (fun z => nf ⟨fd.mpr z.1, by omega⟩)] at k
    · have i' := i.mvQ fr hw
      have k2 := hK h' i'.ic
      subst er
      have a1 := ca.af hf
      have a2 := ca.a4 hf
      have hfi : fitd (sLs S (sNk S)) (r : Int) := ⟨by omega, by omega, by rw [Int.toNat_natCast]; exact h3⟩
      have hfd := fd.mp hfi
      have e2 : (s * 4 + t).toNat = f := by omega
      rw [e2, Int.toNat_natCast] at k2
      have hlt : r * 12 + f < 96 := by have := hf; omega
      rw [Int.toNat_natCast] at hfd
      refine ⟨fun _ => ?_, fun c3 => absurd (by omega) c3⟩
      rw [Int.toNat_natCast]
      refine ⟨fun c4 => ⟨nat_in (n := 96) hlt, ?_⟩, fun c4 => ⟨nat_in (n := 96) hlt, ?_⟩, fun c4 => ⟨nat_in (n := 96) hlt, ?_⟩, fun c4 => ⟨nat_in (n := 96) hlt, ?_⟩, fun c4 => ?_⟩
      · rw [a1.2]; rwa [if_pos ⟨hfd, by omega, by omega⟩, if_pos c4] at k2
      · rw [a1.1]; rwa [if_pos ⟨hfd, by omega, by omega⟩, if_neg (by omega), if_pos c4] at k2
      · rw [a2.1]; rwa [if_pos ⟨hfd, by omega, by omega⟩, if_neg (by omega), if_neg (by omega), if_pos c4] at k2
      · rw [a2.2]; rwa [if_pos ⟨hfd, by omega, by omega⟩, if_neg (by omega), if_neg (by omega), if_neg (by omega)] at k2
      · rwa [if_neg (by omega)] at k2
  · rw [bI_n] at c2
    rwa [if_neg (by omega)] at k
theorem R_fit (hE : isR E) (i : IR S h) {x s t w : Int} (hK : ∀ h', IR S h' → K (aFit S x s t w) h') : zCI E mX10_fit (d + 5) [zR 0, zI x, zI s, zI t, zI w] h K := by
  refine eX10_fit (d := d + 4) hE (fun h1 e1 => ?_)
  have i1 := i.thr e1
  have k := hK h1 i1
  have wn := i.wf.n
  unfold WfN at wn
  unfold aFit at k hK
  have no : ¬ ((0 ≤ x ∧ x < S 0 24 ∧ hasF S x.toNat) ∧ (0 ≤ s ∧ s ≤ 2 ∧ 0 ≤ t ∧ t ≤ 3 ∧ (s = 0 → t = 0)) ∧ 0 ≤ w ∧ w ≤ 3) → zG E mX10_fit (d + 5) 54 [zU, zU, zU, zU, zU] [] h1 (qI K) := by
    intro z
    rw [if_neg z] at k
    exact bX10_fit_54 hE k
  have go : 0 ≤ x → x < S 0 24 → 0 ≤ s → s ≤ 2 → 0 ≤ t → t ≤ 3 → (s = 0 → t = 0) → zG E mX10_fit (d + 5) 43 [zR 0, zI x, zI s, zI t, zI w] [] h1 (qI K) := by
    intro x0 x1 s0 s1 t0 t1 st
    refine bX10_fit_43 (d := d + 4) hE ⟨fun c => no (by omega), fun c => ⟨fun c2 => ?_, fun c2 => no (by omega)⟩⟩
    obtain ⟨r, rfl⟩ : ∃ r : Nat, x = r := ⟨x.toNat, by omega⟩
    refine X10_standsI hE i1 (by omega) (fun h2 i2 e68 hp => ?_)
    rw [Int.toNat_natCast] at hK
    change h2 0 68 = ((sLs S (sNk S) r).length : Int) at e68
    have hr8 : r < 8 := by omega
    have hpt := i.wf.pt hr8
    rw [e68]
    refine ⟨fun c3 => ?_, fun c3 => ?_⟩
    · have h3 : hasF S r := by omega
      have hm10 := hpt.1
      refine X10_fits (d := d + 1) hE (m := (sLs S (sNk S) r).length) (G := sG S) (H := sH S) e68 (by omega) hm10 (fun j hj => ?_) (by rw [i2.q.num (by omega)]; unfold sG; omega) i.wf.g9 (by rw [i2.q.num (by omega)]; unfold sH; omega) i.wf.h20 (fun h3' fr3 ea => ?_)
      · have := hp j hj
        rw [this.1, this.2]
        exact hpt.2 j hj
      · have i3 : IR S h3' := i2.mv (fun c j hz => fr3 c j (by unfold zn at hz; omega)) (by rw [show h3' 39 = h2 39 from funext fun j => fr3 39 j (by omega)]; exact i2.2.2.2)
        have k3 := hK h3' i3
        rw [if_pos ⟨⟨by omega, by omega, h3⟩, ⟨s0, s1, t0, t1, st⟩, by omega, by omega⟩] at k3
        have ef : shF (sLs S (sNk S) r) (sG S) (sH S) (s * 4 + t).toNat = sFit (h2 30) (h2 31) (sLs S (sNk S) r).length (sG S) (sH S) s t := by
          unfold shF
          rw [show (((s * 4 + t).toNat : Nat) : Int) / 4 = s by omega, show (((s * 4 + t).toNat : Nat) : Int) % 4 = t by omega]
          exact sFit_congr (fun j hj => (hp j hj).1.symm) (fun j hj => (hp j hj).2.symm) _ _ _ _
        have ok := shF_ok hpt (by omega) i.wf.g9 i.wf.h20 (s * 4 + t).toNat
        unfold aOk at ok
        rw [ef] at k3 ok
        rw [← ea] at k3 ok
        unfold accR at k3 ok
        dsimp only at k3 ok
        refine ⟨fun c4 => ⟨fun c5 => ⟨fun c6 => ?_, fun c6 => ?_⟩, fun c5 => ?_⟩, fun c4 => ?_⟩
        · rwa [if_neg c4, if_neg c5, if_neg c6] at k3
        · rwa [if_neg c4, if_neg c5, if_pos (by omega)] at k3
        · rwa [if_neg c4, if_pos (by omega)] at k3
        · rw [w32i (by omega) (by omega)]
          rwa [if_pos (by omega)] at k3
    · have k2 := hK h2 i2
      rwa [if_neg (fun z => c3 (by have := z.1.2.2; omega))] at k2
  rw [i1.q.num (j := 24) (by omega)]
  refine ⟨fun c => no (by omega), fun c => ⟨fun c2 => no (by omega), fun c2 => ⟨fun c3 => no (by omega), fun c3 => ⟨fun c4 => no (by omega), fun c4 => ⟨fun c5 => no (by omega), fun c5 => ⟨fun c6 => no (by omega), fun c6 => ⟨fun c7 => go (by omega) (by omega) (by omega) (by omega) (by omega) (by omega) (fun z => absurd z c7), fun c7 => ⟨fun c8 => no (fun z => c8 (z.2.1.2.2.2.2 (by omega))), fun c8 => go (by omega) (by omega) (by omega) (by omega) (by omega) (by omega) (fun _ => by omega)⟩⟩⟩⟩⟩⟩⟩⟩
/-! best -/
def aBest (S : zH) (x w : Int) : Int :=
  if (0 ≤ x ∧ x < S 0 24 ∧ hasF S x.toNat) ∧ 0 ≤ w ∧ w ≤ 3 then
    (if w = 0 then ((bsL (sLs S (sNk S) x.toNat) (sG S) (sH S) / 4 : Nat) : Int) else if w = 1 then ((bsL (sLs S (sNk S) x.toNat) (sG S) (sH S) % 4 : Nat) : Int) else if w = 2 then szB (sLs S (sNk S) x.toNat) (sG S) (sH S) else (shF (sLs S (sNk S) x.toNat) (sG S) (sH S) (bsL (sLs S (sNk S) x.toNat) (sG S) (sH S))).1)
  else -1
theorem w_t4 {b : Nat} (hb : b < 1000) : w32 (Int.tdiv (b : Int) 4) = ((b / 4 : Nat) : Int) ∧ w32 (Int.tmod (b : Int) 4) = ((b % 4 : Nat) : Int) := by
  rw [Int.tdiv_eq_ediv_of_nonneg (by omega), Int.tmod_eq_emod_of_nonneg (by omega), w32i (by omega) (by omega), w32i (by omega) (by omega)]
  omega
theorem C_best (hE : isC E) (i : IC S h) {x w : Int} (hK : ∀ h', IC S h' → K (aBest S x w) h') : zCI E mX9_best (d + 5) [zR 0, zI x, zI w] h K := by
  have k := hK h i
  obtain ⟨b, i⟩ := i
  have fd := fitd_iff i.wf (x := x)
  unfold aBest at k hK
  refine eX9_best (d := d + 4) hE (X0_bestShape hE (fi_52 hE) i.fw (fun nf => X0_fitAt hE (fi_52 hE) i.fw (fun _ => ⟨fun c => absurd rfl c, fun _ => ?_⟩) (fun r f er ef hr8 hf h3 h' fr hw ca => absurd ⟨by omega, by omega, by rw [er, Int.toNat_natCast]; exact h3⟩ nf)) (fun r er hr8 h3 h' fr hw ca => X0_fitAt hE (fi_52 hE) hw (fun nf => absurd ⟨⟨by omega, by omega, by rw [er, Int.toNat_natCast]; exact h3⟩, by have := bsL_ok (sLs S (sNk S) r) (sG S) (sH S); omega⟩ nf) (fun r2 f2 e2 ef2 _ hf2 _ h2 fr2 hw2 ca2 => ?_)))
  · rwa [if_neg (fun z => nf (fd.mpr z.1))] at k
  · subst er
    have er2 : r2 = r := by omega
    have ef : f2 = bsL (sLs S (sNk S) r) (sG S) (sH S) := Int.ofNat.inj ef2.symm
    subst er2
    have i' := (i.mvQ fr hw).mvQ fr2 hw2
    have k2 := hK h2 i'.ic
    have hfd := fd.mp ⟨by omega, by omega, by rw [Int.toNat_natCast]; exact h3⟩
    have a1 := ca2.af hf2
    rw [Int.toNat_natCast] at k2 hfd
    have hlt : r2 * 12 + f2 < 96 := by have := hf2; omega
    rw [← ef2, ef] at *
    have t4 := w_t4 (b := bsL (sLs S (sNk S) r2) (sG S) (sH S)) (by have := bsL_ok (sLs S (sNk S) r2) (sG S) (sH S); omega)
    refine ⟨fun _ => ⟨fun c4 => ?_, fun c4 => ?_, fun c4 => ⟨nat_in (n := 96) hlt, ?_⟩, fun c4 => ⟨nat_in (n := 96) hlt, ?_⟩, fun c4 => ?_⟩, fun c3 => absurd (by omega) c3⟩
    · rw [t4.1]; rwa [if_pos ⟨hfd, by omega, by omega⟩, if_pos c4] at k2
    · rw [t4.2]; rwa [if_pos ⟨hfd, by omega, by omega⟩, if_neg (by omega), if_pos c4] at k2
    · rw [Int.toNat_natCast, a1.2]; rwa [if_pos ⟨hfd, by omega, by omega⟩, if_neg (by omega), if_neg (by omega), if_pos c4] at k2
    · rw [Int.toNat_natCast, a1.1]; rwa [if_pos ⟨hfd, by omega, by omega⟩, if_neg (by omega), if_neg (by omega), if_neg (by omega)] at k2
    · rwa [if_neg (by omega)] at k2
theorem X10_isRing (hE : isR E) (i : IR S h) {x : Int} (hK : K (bI (0 ≤ x ∧ x < S 0 24)) h) : zCI E mX10_isRing d [zR 0, zI x] h K := by
  refine eX10_isRing hE ?_
  rw [i.q.num (j := 24) (by omega)]
  refine ⟨fun c => ?_, fun c => ⟨fun c2 => ?_, fun c2 => ?_⟩⟩
  · rwa [bI_f (by omega)] at hK
  · rwa [bI_f (by omega)] at hK
  · rwa [bI_t (by omega)] at hK
theorem R_best (hE : isR E) (i : IR S h) {x w : Int} (hK : ∀ h', IR S h' → K (aBest S x w) h') : zCI E mX10_best (d + 6) [zR 0, zI x, zI w] h K := by
  refine eX10_best (d := d + 5) hE (fun h1 e1 => ?_)
  have i1 := i.thr e1
  have k := hK h1 i1
  unfold aBest at k hK
  refine X10_isRing hE i1 ⟨fun c => ?_, fun c => ⟨fun c2 => ?_, fun c2 => ⟨fun c3 => X10_laid hE i1 (fun h2 i2 => ?_), fun c3 => ?_⟩⟩⟩
  · rw [bI_0] at c
    rwa [if_neg (fun z => c ⟨z.1.1, z.1.2.1⟩)] at k
  · rwa [if_neg (by omega)] at k
  · rw [bI_n] at c
    obtain ⟨r, rfl⟩ : ∃ r : Nat, x = r := ⟨x.toNat, by omega⟩
    have hr8 := i.wf.r8 c.2
    have hS := i2.sh r c.2
    have k2 := hK h2 i2.ir
    rw [Int.toNat_natCast] at k2
    refine X10_hasFit hE hr8 hS ⟨fun c4 => ?_, fun c4 => ?_⟩
    · rw [ne_eq, bI_n] at c4
      rw [if_pos ⟨⟨c.1, c.2, c4⟩, by omega, c3⟩] at k2
      have ho := bsL_ok (sLs S (sNk S) r) (sG S) (sH S)
      have t4 := w_t4 (b := bsL (sLs S (sNk S) r) (sG S) (sH S)) (by omega)
      rw [Int.toNat_natCast, hS.2.1, if_pos c4, w_xi12 (by omega) (by omega), Int.toNat_natCast, (hS.2.2 c4 _ ho).2, t4.1, t4.2]
      refine ⟨fun c5 => ⟨fun c6 => ⟨fun c7 => ⟨nat_in (n := 8) hr8, nat_in (n := 96) (by omega), ?_⟩, fun c7 => X10_sizeOf hE hr8 hS c4 ?_⟩, fun c6 => ⟨nat_in (n := 8) hr8, ?_⟩⟩, fun c5 => ⟨nat_in (n := 8) hr8, ?_⟩⟩
      · rwa [if_neg c5, if_neg c6, if_neg c7] at k2
      · rwa [if_neg c5, if_neg c6, if_pos (by omega)] at k2
      · rwa [if_neg c5, if_pos (by omega)] at k2
      · rwa [if_pos (by omega)] at k2
    · rw [ne_eq, bI_n] at c4
      rwa [if_neg (fun z => c4 z.1.2.2)] at k2
  · rwa [if_neg (by omega)] at k
/-! well -/
def aWell (S : zH) (x : Int) : Int := if 0 ≤ x ∧ x < S 0 24 ∧ hasF S x.toNat then (wlB (wlP (sLs S (sNk S) x.toNat) (sG S) (sH S) (S 0 31)) 12 : Int) else -1
theorem C_well (hE : isC E) (i : IC S h) {x : Int} (hK : ∀ h', IC S h' → K (aWell S x) h') : zCI E mX9_well (d + 6) [zR 0, zI x] h K := by
  have k := hK h i
  obtain ⟨b, i⟩ := i
  have su := su_b hE i.hb
  have fd := fitd_iff i.wf (x := x)
  have sl := i.wf.sl
  unfold aWell at k hK
  refine eX9_well (d := d + 5) hE su (X0_isFitted hE (fi_52 hE) i.fi ⟨fun c => ?_, fun c => ⟨i.tld, ?_⟩⟩)
  · rw [bI_0] at c
    rwa [if_neg (fun z => c (fd.mpr z))] at k
  · rw [bI_n] at c
    rw [i.sv.sl]
    refine X0_shapesAsWell hE (fi_52 hE) i.fw sl.1 sl.2 (fun nf => absurd c nf) (fun r er hr8 h3 h' fr hw ca => ?_)
    have k2 := hK h' (i.mvQ fr hw).ic
    rw [if_pos (fd.mp c), er, Int.toNat_natCast] at k2
    exact k2
theorem R_well (hE : isR E) (i : IR S h) {x : Int} (hK : ∀ h', IR S h' → K (aWell S x) h') : zCI E mX10_well (d + 6) [zR 0, zI x] h K := by
  refine eX10_well (d := d + 5) hE (fun h1 e1 => ?_)
  have i1 := i.thr e1
  have k := hK h1 i1
  have sl := i.wf.sl
  unfold aWell at k hK
  refine X10_isRing hE i1 ⟨fun c => X10_laid hE i1 (fun h2 i2 => ?_), fun c => ?_⟩
  · rw [ne_eq, bI_n] at c
    obtain ⟨r, rfl⟩ : ∃ r : Nat, x = r := ⟨x.toNat, by omega⟩
    have hr8 := i.wf.r8 c.2
    have hS := i2.sh r c.2
    have k2 := hK h2 i2.ir
    rw [Int.toNat_natCast] at k2
    refine X10_hasFit hE hr8 hS ⟨fun c4 => ?_, fun c4 => ?_⟩
    · rw [ne_eq, bI_n] at c4
      rw [if_pos ⟨c.1, c.2, c4⟩] at k2
      have loop : ∀ (m f : Nat), f + m = 12 → zG E mX10_well (d + 6) 33 [zR 0, zI r, zI (wlB (wlP (sLs S (sNk S) r) (sG S) (sH S) (S 0 31)) f : Int), zI f] [] h2 (qI K) := by
        intro m
        induction m with
        | zero =>
          intro f hf
          have e : f = 12 := by omega
          subst e
          exact bX10_well_33 (d := d + 5) hE ⟨fun _ => k2, fun c => absurd (by decide) c⟩
        | succ m ih =>
          intro f hf
          have nx := ih (f + 1) (by omega)
          unfold wlB at nx
          refine bX10_well_33 (d := d + 5) hE ⟨fun c => absurd c (by omega), fun _ => X10_isWell hE hr8 hS c4 (i.wf.pt hr8) i.wf.g9 i.wf.h20 (i2.q.num (by omega)) sl.1 sl.2 (by omega) ⟨fun c5 y ey => ?_, fun c5 y ey z ez => ?_⟩⟩
          · rw [w_suc (by omega)] at ey
            rw [ey]
            rw [bI_0] at c5
            rwa [if_neg c5] at nx
          · rw [w_suc (by omega)] at ez
            rw [zor_wl (by omega) (wlB_lt _ f)] at ey
            rw [ey, ez]
            rw [bI_n] at c5
            rwa [if_pos c5] at nx
      exact loop 12 0 rfl
    · rw [ne_eq, bI_n] at c4
      rwa [if_neg (fun z => c4 z.2.2)] at k2
  · rw [ne_eq, bI_n] at c
    rwa [if_neg (fun z => c ⟨z.1, z.2.1⟩)] at k
/-! span -/
def spR (S : zH) (r : Nat) (w : Int) : Int := spS (wlP (sLs S (sNk S) r) (sG S) (sH S) (S 0 31)) (szF (sLs S (sNk S) r) (sG S) (sH S)) w 12
def aSpan (S : zH) (x w : Int) : Int := if (0 ≤ x ∧ x < S 0 24 ∧ hasF S x.toNat) ∧ 0 ≤ w ∧ w ≤ 1 then spR S x.toNat w else -1
theorem C_edge (hE : isC E) {b : Nat} (i : ICb S h b) {r : Nat} {w : Int} (hf : hasF S r) (hK : ∀ h', ICb S h' b → K (spR S r w) h') : zCI E mX0_edgeOfSpan (d + 6) [zR 52, zI r, zI (S 0 31), zI w] h K := by
  have sl := i.wf.sl
  have hr8 := i.wf.r8 (hasF_in hf)
  refine X0_edgeOfSpan hE (fi_52 hE) i.fw sl.1 sl.2 (fun nf => absurd ⟨by omega, by omega, by rw [Int.toNat_natCast]; exact hf⟩ nf) (fun r' er _ _ h' fr hw => ?_)
  have e : r' = r := by omega
  subst e
  exact hK h' (i.mvQ fr hw)
theorem C_span (hE : isC E) (i : IC S h) {x w : Int} (hK : ∀ h', IC S h' → K (aSpan S x w) h') : zCI E mX9_span (d + 7) [zR 0, zI x, zI w] h K := by
  have k := hK h i
  obtain ⟨b, i⟩ := i
  have su := su_b hE i.hb
  have fd := fitd_iff i.wf (x := x)
  unfold aSpan at k hK
  refine eX9_span (d := d + 6) hE su (X0_isFitted hE (fi_52 hE) i.fi ⟨fun c => ?_, fun c => X9_isBeyond hE ⟨fun c2 => ⟨i.tld, ?_⟩, fun c2 => ?_⟩⟩)
  · rw [bI_0] at c
    rwa [if_neg (fun z => c (fd.mpr z.1))] at k
  · rw [bI_n] at c
    rw [bI_0] at c2
    have hf := fd.mp c
    obtain ⟨r, rfl⟩ : ∃ r : Nat, x = r := ⟨x.toNat, by omega⟩
    rw [Int.toNat_natCast] at hf hK
    rw [i.sv.sl]
    refine ⟨fun c3 => C_edge hE i hf.2.2 (fun h' i' => ?_), fun c3 => C_edge hE i hf.2.2 (fun h' i' => ?_)⟩
    · have k2 := hK h' i'.ic
      rwa [if_pos ⟨hf, by omega, by omega⟩, show w = 0 by omega] at k2
    · have k2 := hK h' i'.ic
      rwa [if_pos ⟨hf, by omega, by omega⟩, show w = 1 by omega] at k2
  · rw [bI_n] at c2
    rwa [if_neg (by omega)] at k
theorem R_spanOf (hE : isR E) (i : IRL S h) {r : Nat} {w : Int} (hf : hasF S r) (hK : K (spR S r w) h) : zCI E mX10_spanOf (d + 1) [zR 0, zI r, zI w] h K := by
  have sl := i.wf.sl
  have hr8 := i.wf.r8 (hasF_in hf)
  exact X10_spanOf hE hr8 (i.sh r (hasF_in hf)) hf (i.wf.pt hr8) i.wf.g9 i.wf.h20 (i.q.num (by omega)) sl.1 sl.2 hK
theorem R_span (hE : isR E) (i : IR S h) {x w : Int} (hK : ∀ h', IR S h' → K (aSpan S x w) h') : zCI E mX10_span (d + 6) [zR 0, zI x, zI w] h K := by
  refine eX10_span (d := d + 5) hE (fun h1 e1 => ?_)
  have i1 := i.thr e1
  have k := hK h1 i1
  unfold aSpan at k hK
  refine X10_isRing hE i1 ⟨fun c => ?_, fun c => ⟨fun c2 => ?_, fun c2 => ⟨fun c3 => X10_laid hE i1 (fun h2 i2 => ?_), fun c3 => ?_⟩⟩⟩
  · rw [bI_0] at c
    rwa [if_neg (fun z => c ⟨z.1.1, z.1.2.1⟩)] at k
  · rwa [if_neg (by omega)] at k
  · rw [bI_n] at c
    obtain ⟨r, rfl⟩ : ∃ r : Nat, x = r := ⟨x.toNat, by omega⟩
    have k2 := hK h2 i2.ir
    rw [Int.toNat_natCast] at k2
    refine X10_hasFit hE (i.wf.r8 c.2) (i2.sh r c.2) ⟨fun c4 => ?_, fun c4 => ?_⟩
    · rw [bI_0] at c4
      rwa [if_neg (fun z => c4 z.1.2.2)] at k2
    · rw [bI_n] at c4
      rw [if_pos ⟨⟨c.1, c.2, c4⟩, by omega, c3⟩] at k2
      refine ⟨fun c5 => R_spanOf hE i2 c4 ?_, fun c5 => R_spanOf hE i2 c4 ?_⟩
      · rwa [show w = 0 by omega] at k2
      · rwa [show w = 1 by omega] at k2
  · rwa [if_neg (by omega)] at k
/-! next -/
def nxS (wd : Nat → Int) (P : Nat → Bool) : Nat → Int × Int
  | 0 => (-1, -1)
  | n + 1 => if P n = true then (if wd n ≤ (nxS wd P n).2 then nxS wd P n else ((n : Int), wd n)) else nxS wd P n
def sWd (S : zH) (r : Nat) : Int := spR S r 1 - spR S r 0
def sFt (S : zH) (r : Nat) : Bool := decide (hasF S r)
def aNext (S : zH) : Int := (nxS (sWd S) (sFt S) 8).1
theorem spS_ub {P : Nat → Bool} {sz : Nat → Int} {B : Int} (hB : 0 ≤ B) (hz : ∀ k, sz k ≤ B) (w : Int) : ∀ n, spS P sz w n ≤ B
  | 0 => by unfold spS; omega
  | n + 1 => by
    have ih := spS_ub (P := P) hB hz w n
    have z := hz n
    unfold spS mnx
    repeat' split
    all_goals omega
theorem sWd_r (w : WfS S) {r : Nat} (hf : hasF S r) : (0 ≤ spR S r 0 ∧ spR S r 0 ≤ 1000000) ∧ (0 ≤ spR S r 1 ∧ spR S r 1 ≤ 1000000) ∧ 0 ≤ sWd S r := by
  have hr8 := w.r8 (hasF_in hf)
  have zr := fun k => szF_r (w.pt hr8) hf w.g9 w.h20 k
  have hz : ∀ k, 0 ≤ szF (sLs S (sNk S) r) (sG S) (sH S) k := fun k => (zr k).1
  have hb := wlP_best (sLs S (sNk S) r) (sG S) (sH S) w.sl.1
  have hlt : bsL (sLs S (sNk S) r) (sG S) (sH S) < 12 := by have := bsL_ok (sLs S (sNk S) r) (sG S) (sH S); omega
  have u0 := spS_ub (P := wlP (sLs S (sNk S) r) (sG S) (sH S) (S 0 31)) (B := 1000000) (by omega) (fun k => (zr k).2) 0 12
  have u1 := spS_ub (P := wlP (sLs S (sNk S) r) (sG S) (sH S) (S 0 31)) (B := 1000000) (by omega) (fun k => (zr k).2) 1 12
  have n0 := spS_nn (P := wlP (sLs S (sNk S) r) (sG S) (sH S) (S 0 31)) hz 0 12
  have n1 := spS_nn (P := wlP (sLs S (sNk S) r) (sG S) (sH S) (S 0 31)) hz 1 12
  have l0 := spS_le hz 0 hb 12 hlt
  have l1 := spS_le hz 1 hb 12 hlt
  have e0 := l0.2
  have e1 := l1.2
  unfold mnx at e0 e1
  rw [if_pos rfl] at e0
  rw [if_neg (by decide)] at e1
  unfold sWd spR
  omega
theorem nxS_ext {wd : Nat → Int} {P : Nat → Bool} {n : Nat} : ∀ m, (∀ k, n ≤ k → P k = false) → nxS wd P (n + m) = nxS wd P n
  | 0, _ => rfl
  | m + 1, hh => by
    rw [show n + (m + 1) = (n + m) + 1 by omega, nxS, if_neg (by rw [hh (n + m) (by omega)]; decide)]
    exact nxS_ext m hh
theorem nxS_r {wd : Nat → Int} {P : Nat → Bool} (hw : ∀ k, P k = true → 0 ≤ wd k) : ∀ n, ((nxS wd P n).1 = -1 ∧ (nxS wd P n).2 = -1) ∨ (0 ≤ (nxS wd P n).1 ∧ 0 ≤ (nxS wd P n).2)
  | 0 => Or.inl ⟨rfl, rfl⟩
  | n + 1 => by
    have ih := nxS_r hw n
    unfold nxS
    split
    · rename_i p
      have := hw n p
      split
      · exact ih
      · right; dsimp only; omega
    · exact ih
theorem C_next (hE : isC E) (i : IC S h) (hK : ∀ h', IC S h' → K (aNext S) h') : zCI E mX9_next (d + 7) [zR 0] h K := by
  obtain ⟨b, i⟩ := i
  have su := su_b hE i.hb
  have loop : ∀ (m r : Nat), r + m = 8 → ∀ h1 : zH, ICb S h1 b → zG E mX9_next (d + 7) 6 [zR 0, zI (nxS (sWd S) (sFt S) r).2, zI (nxS (sWd S) (sFt S) r).1, zI r, zU] [] h1 (qI K) := by
    intro m
    induction m with
    | zero =>
      intro r hr h1 i1
      have e : r = 8 := by omega
      subst e
      exact bX9_next_6 (d := d + 6) hE su ⟨fun _ => hK h1 i1.ic, fun c => absurd (by decide) c⟩
    | succ m ih =>
      intro r hr h1 i1
      have nx := ih (r + 1) (by omega)
      unfold nxS at nx
      have fd := fitd_iff i.wf (x := (r : Int))
      rw [Int.toNat_natCast] at fd
      refine bX9_next_6 (d := d + 6) hE su ⟨fun c => absurd c (by omega), fun _ => X0_isFitted hE (fi_52 hE) i1.fi ⟨fun c => ⟨i1.tld, ?_⟩, fun c y ey => ?_⟩⟩
      · rw [ne_eq, bI_n] at c
        have hf := (fd.mp c).2.2
        have wr := sWd_r i.wf hf
        rw [i1.sv.sl]
        refine C_edge hE i1 hf (fun h2 i2 => ⟨i2.tld, ?_⟩)
        rw [i2.sv.sl]
        refine C_edge hE i2 hf (fun h3 i3 x ex => ?_)
        rw [w32i (by omega) (by omega)] at ex
        change x = sWd S r at ex
        rw [ex]
        rw [if_pos (show sFt S r = true from decide_eq_true hf)] at nx
        refine ⟨fun c2 y ey => ?_, fun c2 y ey => ?_⟩
        · rw [w_suc (by omega)] at ey
          rw [ey]
          rw [if_pos c2] at nx
          exact nx h3 i3
        · rw [w_suc (by omega)] at ey
          rw [ey]
          rw [if_neg c2] at nx
          exact nx h3 i3
      · rw [ne_eq, bI_n] at c
        rw [w_suc (by omega)] at ey
        rw [ey]
        rw [if_neg (by unfold sFt; rw [decide_eq_true_iff]; exact fun z => c (fd.mpr ⟨by omega, hasF_in z, z⟩))] at nx
        exact nx h1 i1
  exact eX9_next (d := d + 6) hE su (loop 8 0 rfl h i)
theorem sFt_out {k : Nat} (hk : S 0 24 ≤ (k : Int)) : sFt S k = false := by
  unfold sFt
  rw [decide_eq_false_iff_not]
  intro z
  have := hasF_in z
  omega
theorem R_next (hE : isR E) (i : IR S h) (hK : ∀ h', IR S h' → K (aNext S) h') : zCI E mX10_next (d + 6) [zR 0] h K := by
  refine eX10_next (d := d + 5) hE (fun h1 e1 => X10_laid hE (i.thr e1) (fun h2 i2 => ?_))
  have wn := i.wf.n
  unfold WfN at wn
  have hR : ∃ R : Nat, S 0 24 = R := ⟨(S 0 24).toNat, by omega⟩
  obtain ⟨R, hR⟩ := hR
  have ea : aNext S = (nxS (sWd S) (sFt S) R).1 := by
    unfold aNext
    rw [show 8 = R + (8 - R) by omega, nxS_ext (8 - R) (fun k hk => sFt_out (by omega))]
  have k := hK h2 i2.ir
  rw [ea] at k
  have loop : ∀ (m r : Nat), r + m = R → ∀ x2 : Int, ((nxS (sWd S) (sFt S) r).1 ≠ -1 → x2 = (nxS (sWd S) (sFt S) r).2) → zG E mX10_next (d + 6) 15 [zR 0, zI (nxS (sWd S) (sFt S) r).1, zI x2, zI r, zU] [] h2 (qI K) := by
    intro m
    induction m with
    | zero =>
      intro r hr x2 hx
      have e : r = R := by omega
      subst e
      exact bX10_next_15 (d := d + 5) hE ⟨fun _ => k, fun c => absurd (by rw [i2.q.num (j := 24) (by omega), hR]; omega) c⟩
    | succ m ih =>
      intro r hr x2 hx
      have nx := ih (r + 1) (by omega)
      unfold nxS at nx
      have hrR : (r : Int) < S 0 24 := by omega
      refine bX10_next_15 (d := d + 5) hE ⟨fun c => absurd c (by rw [i2.q.num (j := 24) (by omega), hR]; omega), fun _ => X10_hasFit hE (i.wf.r8 hrR) (i2.sh r hrR) ⟨fun c => R_spanOf hE i2 (by rw [ne_eq, bI_n] at c; exact c) (R_spanOf hE i2 (by rw [ne_eq, bI_n] at c; exact c) (fun x ex => ?_)), fun c y ey => ?_⟩⟩
      · rw [ne_eq, bI_n] at c
        have wr := sWd_r i.wf (r := r) c
        rw [w32i (by omega) (by omega)] at ex
        change x = sWd S r at ex
        rw [ex]
        rw [if_pos (show sFt S r = true from decide_eq_true c)] at nx
        have nr := nxS_r (wd := sWd S) (P := sFt S) (fun k hk => (sWd_r i.wf (of_decide_eq_true hk)).2.2) r
        refine ⟨fun c2 y ey => ?_, fun c2 => ⟨fun c3 y ey => ?_, fun c3 y ey => ?_⟩⟩
        · rw [w_suc (by omega)] at ey
          rw [ey]
          rw [if_neg (by omega)] at nx
          exact nx _ (fun _ => rfl)
        · rw [w_suc (by omega)] at ey
          rw [ey]
          have := hx c2
          rw [if_neg (by omega)] at nx
          exact nx _ (fun _ => rfl)
        · rw [w_suc (by omega)] at ey
          rw [ey]
          have := hx c2
          rw [if_pos (by omega)] at nx
          exact nx _ hx
      · rw [ne_eq, bI_n] at c
        rw [w_suc (by omega)] at ey
        rw [ey]
        rw [if_neg (by unfold sFt; rw [decide_eq_true_iff]; exact c)] at nx
        exact nx _ hx
  exact loop R 0 (by omega) 0 (fun c => absurd rfl c)
end TFitq
