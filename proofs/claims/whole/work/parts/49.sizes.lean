/-! ===== topic: lumps, sort, unit, land, apart, near ===== -/
section TSizes
variable {E : zE} {d : Nat} {h : zH} {S : zH} {K : Int → zH → Prop}
def rk (S : zH) (a b : Int) : Nat → Int := rkF (sLs S (sNk S)) (sG S) (sH S) (S 4) a b
theorem szB_r (w : WfS S) {r : Nat} (hf : hasF S r) : 0 ≤ szB (sLs S (sNk S) r) (sG S) (sH S) ∧ szB (sLs S (sNk S) r) (sG S) (sH S) ≤ 1000000 := szF_r (w.pt (w.r8 (hasF_in hf))) hf w.g9 w.h20 _
theorem rk_ok (w : WfS S) (a b : Int) : szOk (rk S a b) := by
  intro r
  unfold rk rkF
  split
  · rename_i z
    have := szB_r w (r := r) z.1
    right; omega
  · left; rfl
theorem rk_out {a b : Int} {r : Nat} (hr : S 0 24 ≤ (r : Int)) : rk S a b r = -1 := by
  unfold rk rkF
  rw [if_neg]
  intro z
  have := hasF_in (S := S) z.1
  omega
theorem C_gather (hE : isC E) {bt : Nat} (i : ICb S h bt) {a b : Int} {K : zH → Prop} (hK : ∀ h', ICb S h' bt → SizesAt h' 76 (cmpL (rk S a b) 8) → K h') : zCV E mX9_gather (d + 5) [zR 0, zI a, zI b] h K := by
  refine X9_gather hE (su_b hE i.hb) i.hb (fi_52 hE) (si_76 hE) i.fw i.tld (fun h' fr hw hs => hK h' (i.mvC (frC.g fr) hw.1) ?_)
  have e : rkF (sLs S (sNk S)) (sG S) (sH S) (h (bt + 9)) a b = rk S a b := by
    funext r
    unfold rk rkF
    by_cases z : hasF S r
    · rw [(i.sv.rg r (hasF_in z)).1]
    · rw [if_neg (fun q => z q.1), if_neg (fun q => z q.1)]
  rwa [e] at hs
theorem szL_rk (w : WfS S) (a b : Int) : szL (cmpL (rk S a b) 8) := szL_cmp (rk_ok w a b) 8
theorem R_reckon (hE : isR E) (i : IRL S h) {a b : Int} {K : zH → Prop} (hK : ∀ h', IRL S h' → (∀ r : Nat, (r : Int) < S 0 24 → h' 39 r = rk S a b r) → K h') : zCV E mX10_reckon (d + 1) [zR 0, zI a, zI b] h K := by
  have wn := i.wf.n
  unfold WfN at wn
  refine X10_reckon hE (R := (S 0 24).toNat) (by rw [i.q.num (by omega)]; omega) (by omega) (fun r hr => i.sh r (by omega)) (fun h' fr h1 h2 => hK h' (i.mv (fun c j hz => fr c j (by unfold zn at hz; omega)) (fun r => ?_)) (fun r hr => ?_))
  · rw [i.q.row (c := 4) (by omega) (by omega)] at h1
    rcases Nat.lt_or_ge r (S 0 24).toNat with z | z
    · rw [h1 r z]; exact rk_ok i.wf a b r
    · rw [h2 r z]; exact i.z r
  · rw [i.q.row (c := 4) (by omega) (by omega)] at h1
    exact h1 r (by omega)
/-- a row of the reference's that is reckoned -/
def rkAt (S h : zH) (f : Nat → Int) : Prop := (∀ r : Nat, (r : Int) < S 0 24 → h 39 r = f r) ∧ ∀ r : Nat, S 0 24 ≤ (r : Int) → f r = -1
theorem rkAt.lu (i : IRL S h) {f : Nat → Int} (q : rkAt S h f) (u : Int) : lumpsR (h 39) u (S 0 24).toNat = lumpsR f u 8 := by
  have wn := i.wf.n
  unfold WfN at wn
  rw [lumpsR_congr (g := f) (fun r hr => q.1 r (by omega)), lumpsR_ext (n := (S 0 24).toNat) (m := 8) (by omega) (fun r a b => q.2 r (by omega))]
theorem R_lumpsOf (hE : isR E) (i : IRL S h) {f : Nat → Int} (q : rkAt S h f) {u : Int} (hu : isU u) (hK : K (lumpsR f (sPart u (S 0 57)) 8) h) : zCI E mX10_lumpsOf (d + 1) [zR 0, zI u] h K := by
  have wn := i.wf.n
  unfold WfN at wn
  refine X10_lumpsOf hE hu (n := (S 0 24).toNat) (by rw [i.q.num (by omega)]; omega) (by omega) i.z ?_
  rwa [q.lu i, i.q.num (j := 57) (by omega)]
theorem R_bestOf (hE : isR E) (i : IRL S h) {f : Nat → Int} (q : rkAt S h f) {a b c : Int} (hu : areU a b c) (hK : K (sBest (fun u => lumpsR f (sPart u (S 0 57)) 8) a b c) h) : zCI E mX10_bestOf (d + 2) [zR 0, zI a, zI b, zI c] h K := by
  have wn := i.wf.n
  unfold WfN at wn
  refine X10_bestOf hE (n := (S 0 24).toNat) (by rw [i.q.num (by omega)]; omega) (by omega) i.z hu ?_
  rw [i.q.num (j := 57) (by omega), show (fun u => lumpsR (h 39) (sPart u (S 0 57)) (S 0 24).toNat) = (fun u => lumpsR f (sPart u (S 0 57)) 8) from funext fun u => q.lu i _]
  exact hK
theorem R_many (hE : isR E) (i : IRL S h) {f : Nat → Int} (q : rkAt S h f) (hK : K (cntR f 8) h) : zCI E mX10_reckonedMany d [zR 0] h K := by
  have wn := i.wf.n
  unfold WfN at wn
  refine X10_reckonedMany hE (n := (S 0 24).toNat) (by rw [i.q.num (by omega)]; omega) (by omega) ?_
  rwa [cntR_congr (g := f) (fun r hr => q.1 r (by omega)), ← cntR_ext (n := (S 0 24).toNat) (m := 8) (by omega) (fun r a b => q.2 r (by omega))]
theorem rkAt_rk {h' : zH} {a b : Int} (hh : ∀ r : Nat, (r : Int) < S 0 24 → h' 39 r = rk S a b r) : rkAt S h' (rk S a b) := ⟨hh, fun _ hr => rk_out hr⟩
/-! the class's row of sizes -/
theorem C_sum (hE : isC E) {f : Nat → Int} (hf : szOk f) (hs : SizesAt h 76 (cmpL f 8)) {v : Int} (hv : 0 < v) (hv2 : v ≤ 9999) (hK : K (lumpsR f v 8) h) : zCI E mX7_sumOfLumps (d + 1) [zR 76, zI v] h K := by
  refine X7_sumOfLumps hE (si_76 hE) hs (szL_cmp hf 8) hv hv2 ?_
  rwa [lumpS_cmp]
theorem C_bestU (hE : isC E) {f : Nat → Int} (hf : szOk f) (hs : SizesAt h 76 (cmpL f 8)) {a b c hv : Int} (hu : areU a b c) (hK : K (sBest (fun u => lumpsR f (sPart u hv) 8) a b c) h) : zCI E mX7_bestUnit (d + 2) [zR 76, zI a, zI b, zI c, zI hv] h K := by
  refine X7_bestUnit hE (si_76 hE) hs (szL_cmp hf 8) hu ?_
  rw [show (fun u => lumpS (sPart u hv) (cmpL f 8)) = (fun u => lumpsR f (sPart u hv) 8) from funext fun u => lumpS_cmp f _ 8]
  exact hK
theorem ICb.hv {b : Nat} (i : ICb S h b) : h 0 8 = S 0 57 := i.ot.2.2.2.2.1
/-! lumps -/
def aLumps (S : zH) (u : Int) : Int := if isU u then lumpsR (rk S (-1) (-1)) (sPart u (S 0 57)) 8 else -1
theorem C_lumps (hE : isC E) (i : IC S h) {u : Int} (hK : ∀ h', IC S h' → K (aLumps S u) h') : zCI E mX9_lumps (d + 6) [zR 0, zI u] h K := by
  have k := hK h i
  obtain ⟨b, i⟩ := i
  unfold aLumps at k hK
  refine eX9_lumps (d := d + 5) hE (X9_isUnit hE ⟨fun c => C_gather hE i (fun h1 i1 s1 => ?_), fun c => ?_⟩)
  · rw [ne_eq, bI_n] at c
    have hp := sPart_r (hv := S 0 57) c
    have k1 := hK h1 i1.ic
    rw [if_pos c] at k1
    rw [i1.hv]
    exact X9_placesOf hE (by omega) (by omega) (C_sum hE (rk_ok i.wf _ _) s1 (by omega) (by omega) k1)
  · rw [ne_eq, bI_n] at c
    rwa [if_neg c] at k
theorem R_lumps (hE : isR E) (i : IR S h) {u : Int} (hK : ∀ h', IR S h' → K (aLumps S u) h') : zCI E mX10_lumps (d + 6) [zR 0, zI u] h K := by
  refine eX10_lumps (d := d + 5) hE (fun h1 e1 => ?_)
  have i1 := i.thr e1
  have k := hK h1 i1
  unfold aLumps at k hK
  refine X10_isUnit hE ⟨fun c => X10_laid hE i1 (fun h2 i2 => R_reckon hE i2 (fun h3 i3 q3 => ?_)), fun c => ?_⟩
  · rw [ne_eq, bI_n] at c
    have k3 := hK h3 i3.ir
    rw [if_pos c] at k3
    exact R_lumpsOf hE i3 (rkAt_rk q3) c k3
  · rw [ne_eq, bI_n] at c
    rwa [if_neg c] at k
/-! sort -/
def aSort (S : zH) (s u w : Int) : Int := if 0 ≤ s ∧ s ≤ 2 ∧ isU u ∧ 0 ≤ w ∧ w ≤ 1 then (if w = 0 then lumpsR (rk S (-1) s) (sPart u (S 0 57)) 8 else cntR (rk S (-1) s) 8) else -1
theorem C_sort (hE : isC E) (i : IC S h) {s u w : Int} (hK : ∀ h', IC S h' → K (aSort S s u w) h') : zCI E mX9_sort (d + 6) [zR 0, zI s, zI u, zI w] h K := by
  have k := hK h i
  obtain ⟨b, i⟩ := i
  unfold aSort at k hK
  refine eX9_sort (d := d + 5) hE (X9_isBeyond hE ⟨fun c => ?_, fun c => X9_isUnit hE ⟨fun c2 => ?_, fun c2 => X9_isBeyond hE ⟨fun c3 => C_gather hE i (fun h1 i1 s1 => ?_), fun c3 => ?_⟩⟩⟩)
  · rw [ne_eq, bI_n] at c
    rwa [if_neg (by omega)] at k
  · rw [bI_0] at c2
    rwa [if_neg (fun z => c2 z.2.2.1)] at k
  · rw [ne_eq, bI_n] at c
    rw [bI_n] at c2
    rw [bI_0] at c3
    have hp := sPart_r (hv := S 0 57) c2
    have k1 := hK h1 i1.ic
    rw [if_pos ⟨by omega, by omega, c2, by omega, by omega⟩] at k1
    refine ⟨fun c4 => ?_, fun c4 => ?_⟩
    · rw [s1.1, cmpL_len]
      rwa [if_neg c4] at k1
    · rw [i1.hv]
      rw [if_pos (by omega)] at k1
      exact X9_placesOf hE (by omega) (by omega) (C_sum hE (rk_ok i.wf _ _) s1 (by omega) (by omega) k1)
  · rw [bI_n] at c3
    rwa [if_neg (by omega)] at k
theorem R_sort (hE : isR E) (i : IR S h) {s u w : Int} (hK : ∀ h', IR S h' → K (aSort S s u w) h') : zCI E mX10_sort (d + 6) [zR 0, zI s, zI u, zI w] h K := by
  refine eX10_sort (d := d + 5) hE (fun h1 e1 => ?_)
  have i1 := i.thr e1
  have k := hK h1 i1
  unfold aSort at k hK
  refine ⟨fun c => ?_, fun c => ⟨fun c2 => ?_, fun c2 => X10_isUnit hE ⟨fun c3 => ?_, fun c3 => ⟨fun c4 => ?_, fun c4 => ⟨fun c5 => X10_laid hE i1 (fun h2 i2 => R_reckon hE i2 (fun h3 i3 q3 => ?_)), fun c5 => ?_⟩⟩⟩⟩⟩
  · rwa [if_neg (by omega)] at k
  · rwa [if_neg (by omega)] at k
  · rw [bI_0] at c3
    rwa [if_neg (fun z => c3 z.2.2.1)] at k
  · rwa [if_neg (by omega)] at k
  · rw [bI_n] at c3
    have k3 := hK h3 i3.ir
    rw [if_pos ⟨by omega, by omega, c3, by omega, by omega⟩] at k3
    refine ⟨fun c6 => R_many hE i3 (rkAt_rk q3) ?_, fun c6 => R_lumpsOf hE i3 (rkAt_rk q3) c3 ?_⟩
    · rwa [if_neg c6] at k3
    · rwa [if_pos (by omega)] at k3
  · rwa [if_neg (by omega)] at k
/-! unit -/
abbrev okU (a b c m : Int) : Prop := areU a b c ∧ sMany a b c ≤ m
def bsU (S : zH) (f : Nat → Int) (a b c : Int) : Int := sBest (fun u => lumpsR f (sPart u (S 0 57)) 8) a b c
def aUnit (S : zH) (a b c w : Int) : Int := if okU a b c 1000 ∧ 0 ≤ w ∧ w ≤ 2 then (if w = 0 then bsU S (rk S (-1) (-1)) a b c else if w = 1 then lumpsR (rk S (-1) (-1)) (sPart (bsU S (rk S (-1) (-1)) a b c) (S 0 57)) 8 else sMany a b c) else -1
/-- the class's way to ask whether units are units, and few enough -/
theorem C_units (hE : isC E) {a b c m : Int} {k1 : zH → Prop} (h1 : ¬ okU a b c m → k1 h) (h2 : areU a b c → ¬ sMany a b c = 0 → (m < sMany a b c → ¬ okU a b c m) → (¬ m < sMany a b c → okU a b c m) → K (sMany a b c) h) (h3 : ¬ areU a b c → K 0 h) : zCI E mX9_unitsOf (d + 1) [zI a, zI b, zI c] h K := by
  refine X9_unitsOf hE ?_
  by_cases z : areU a b c
  · rw [if_pos z]
    have := sMany_r z
    exact h2 z (by omega) (fun q y => by have := y.2; omega) (fun q => ⟨z, by omega⟩)
  · rw [if_neg z]
    exact h3 z
theorem C_unit (hE : isC E) (i : IC S h) {a b c w : Int} (hK : ∀ h', IC S h' → K (aUnit S a b c w) h') : zCI E mX9_unit (d + 6) [zR 0, zI a, zI b, zI c, zI w] h K := by
  have k := hK h i
  obtain ⟨bt, i⟩ := i
  unfold aUnit at k hK
  refine eX9_unit (d := d + 5) hE (X9_unitsOf hE ?_)
  by_cases z : areU a b c
  · rw [if_pos z]
    have hm := sMany_r z
    refine ⟨fun c1 => absurd c1 (by omega), fun _ => ⟨fun c1 => ?_, fun c1 => X9_isBeyond hE ⟨fun c2 => ⟨fun c3 => C_gather hE i (fun h1 i1 s1 => ?_), fun c3 => ?_⟩, fun c2 => ?_⟩⟩⟩
    · rwa [if_neg (fun y => by have := y.1.2; omega)] at k
    · rw [bI_0] at c2
      have k1 := hK h1 i1.ic
      rw [if_pos ⟨⟨z, by omega⟩, by omega, by omega⟩] at k1
      rw [i1.hv]
      refine C_bestU hE (rk_ok i.wf _ _) s1 z ?_
      change (_ → _) ∧ (_ → K (bsU S (rk S (-1) (-1)) a b c) h1)
      change (_ → zCI E mX9_placesOf (d + 5) [zI (bsU S (rk S (-1) (-1)) a b c), zI (h1 0 8)] h1 _) ∧ _
      have hb : isU (bsU S (rk S (-1) (-1)) a b c) := sBest_in z
      generalize bsU S (rk S (-1) (-1)) a b c = v at k1 hb ⊢
      have hp := sPart_r (hv := S 0 57) hb
      refine ⟨fun c4 => ?_, fun c4 => ?_⟩
      · rw [i1.hv]
        rw [if_neg c4, if_pos (by omega)] at k1
        exact X9_placesOf hE (by omega) (by omega) (C_sum hE (rk_ok i.wf _ _) s1 (by omega) (by omega) k1)
      · rwa [if_pos (by omega)] at k1
    · rw [bI_0] at c2
      rwa [if_pos ⟨⟨z, by omega⟩, by omega, by omega⟩, if_neg (by omega), if_neg (by omega)] at k
    · rw [bI_n] at c2
      rwa [if_neg (by omega)] at k
  · rw [if_neg z]
    refine ⟨fun _ => ?_, fun c1 => absurd rfl c1⟩
    rwa [if_neg (fun y => z y.1.1)] at k
theorem R_unit (hE : isR E) (i : IR S h) {a b c w : Int} (hK : ∀ h', IR S h' → K (aUnit S a b c w) h') : zCI E mX10_unit (d + 6) [zR 0, zI a, zI b, zI c, zI w] h K := by
  refine eX10_unit (d := d + 5) hE (fun h1 e1 => ?_)
  have i1 := i.thr e1
  have k := hK h1 i1
  unfold aUnit at k hK
  refine X10_areUnits hE ⟨fun c1 => ?_, fun c1 => ⟨fun c2 => ?_, fun c2 => ⟨fun c3 => X10_laid hE i1 (fun h2 i2 => R_reckon hE i2 (fun h3 i3 q3 => ?_)), fun c3 => ?_⟩⟩⟩
  · rw [bI_0] at c1
    rwa [if_neg (fun z => c1 z.1)] at k
  · rwa [if_neg (by omega)] at k
  · rw [bI_n] at c1
    have k3 := hK h3 i3.ir
    rw [if_pos ⟨c1, by omega, c3⟩] at k3
    refine R_bestOf hE i3 (rkAt_rk q3) c1.1 ?_
    have hb : isU (bsU S (rk S (-1) (-1)) a b c) := sBest_in c1.1
    change (_ → (_ ∧ (_ → zCI E mX10_lumpsOf (d + 5) [zR 0, zI (bsU S (rk S (-1) (-1)) a b c)] h3 _))) ∧ (_ → K (bsU S (rk S (-1) (-1)) a b c) h3)
    generalize bsU S (rk S (-1) (-1)) a b c = v at k3 hb ⊢
    have hm := sMany_r c1.1
    unfold sMany at hm k3
    have hu := c1.1
    refine ⟨fun c4 => ⟨fun c5 => ⟨by omega, ?_⟩, fun c5 => R_lumpsOf hE i3 (rkAt_rk q3) hb ?_⟩, fun c4 => ?_⟩
    · rw [w32i (x := b - a) (by omega) (by omega), Int.tdiv_eq_ediv_of_nonneg (by omega), w32i (x := (b - a) / c) (by omega) (by omega), w32i (by omega) (by omega)]
      rwa [if_neg c4, if_neg c5] at k3
    · rwa [if_neg c4, if_pos (by omega)] at k3
    · rwa [if_pos (by omega)] at k3
  · rwa [if_neg (by omega)] at k
/-! land, apart -/
def lnU (S : zH) (l a b c : Int) : Int := if cntR (rk S l (-1)) 8 = 0 then -1 else bsU S (rk S l (-1)) a b c
def aLand (S : zH) (l a b c : Int) : Int := if (0 ≤ l ∧ l < S 0 23) ∧ okU a b c 1000 then lnU S l a b c else -1
theorem C_land (hE : isC E) (i : IC S h) {l a b c : Int} (hK : ∀ h', IC S h' → K (aLand S l a b c) h') : zCI E mX9_land (d + 6) [zR 0, zI l, zI a, zI b, zI c] h K := by
  have k := hK h i
  obtain ⟨bt, i⟩ := i
  have wn := i.wf.n
  unfold WfN at wn
  unfold aLand at k hK
  refine eX9_land (d := d + 5) hE (su_b hE i.hb) (X9_unitsOf hE ?_)
  by_cases z : areU a b c
  · rw [if_pos z]
    have hm := sMany_r z
    refine ⟨fun c1 => absurd c1 (by omega), fun _ => ⟨fun c1 => ?_, fun c1 => ⟨i.tld, ?_⟩⟩⟩
    · rwa [if_neg (fun y => by have := y.2.2; omega)] at k
    · rw [i.sv.la.1, w32i (by omega) (by omega)]
      refine X9_isBeyond hE ⟨fun c2 => C_gather hE i (fun h1 i1 s1 => ?_), fun c2 => ?_⟩
      · rw [bI_0] at c2
        have k1 := hK h1 i1.ic
        rw [if_pos ⟨by omega, z, by omega⟩] at k1
        unfold lnU at k1
        rw [s1.1, cmpL_len, i1.hv]
        refine ⟨fun c3 => C_bestU hE (rk_ok i.wf _ _) s1 z ?_, fun c3 => ?_⟩
        · rwa [if_neg c3] at k1
        · rwa [if_pos (by omega)] at k1
      · rw [bI_n] at c2
        rwa [if_neg (by omega)] at k
  · rw [if_neg z]
    refine ⟨fun _ => ?_, fun c1 => absurd rfl c1⟩
    rwa [if_neg (fun y => z y.2.1)] at k
theorem R_landUnit (hE : isR E) (i : IRL S h) {l a b c : Int} (hu : areU a b c) (hK : ∀ h', IRL S h' → K (lnU S l a b c) h') : zCI E mX10_landUnit (d + 3) [zR 0, zI l, zI a, zI b, zI c] h K := by
  refine eX10_landUnit (d := d + 2) hE (R_reckon hE i (fun h1 i1 q1 => R_many hE i1 (rkAt_rk q1) ?_))
  have k1 := hK h1 i1
  unfold lnU at k1
  refine ⟨fun c3 => R_bestOf hE i1 (rkAt_rk q1) hu ?_, fun c3 => ?_⟩
  · rwa [if_neg c3] at k1
  · rwa [if_pos (by omega)] at k1
theorem R_land (hE : isR E) (i : IR S h) {l a b c : Int} (hK : ∀ h', IR S h' → K (aLand S l a b c) h') : zCI E mX10_land (d + 6) [zR 0, zI l, zI a, zI b, zI c] h K := by
  refine eX10_land (d := d + 5) hE (fun h1 e1 => ?_)
  have i1 := i.thr e1
  have k := hK h1 i1
  unfold aLand at k hK
  rw [i1.q.num (j := 23) (by omega)]
  refine ⟨fun c1 => ?_, fun c1 => ⟨fun c2 => ?_, fun c2 => X10_areUnits hE ⟨fun c3 => X10_laid hE i1 (fun h2 i2 => R_landUnit hE i2 ?_ (fun h3 i3 => ?_)), fun c3 => ?_⟩⟩⟩
  · rwa [if_neg (by omega)] at k
  · rwa [if_neg (by omega)] at k
  · rw [ne_eq, bI_n] at c3
    exact c3.1
  · rw [ne_eq, bI_n] at c3
    have k3 := hK h3 i3.ir
    rwa [if_pos ⟨by omega, c3⟩] at k3
  · rw [ne_eq, bI_n] at c3
    rwa [if_neg (fun z => c3 z.2)] at k
/-- least and greatest unit of the first n lands, -1 where there is none -/
def apU (g : Nat → Int) : Nat → Int × Int
  | 0 => (-1, -1)
  | n + 1 => if g n = -1 then apU g n else (if (apU g n).1 = -1 then g n else min (apU g n).1 (g n), max (apU g n).2 (g n))
def aApart (S : zH) (a b c : Int) : Int := if okU a b c 1000 then (if (apU (fun l => lnU S l a b c) (S 0 23).toNat).1 = -1 then -1 else (apU (fun l => lnU S l a b c) (S 0 23).toNat).2 - (apU (fun l => lnU S l a b c) (S 0 23).toNat).1) else -1
theorem lnU_r {a b c : Int} (hu : areU a b c) (l : Int) : lnU S l a b c = -1 ∨ isU (lnU S l a b c) := by
  unfold lnU
  split
  · exact Or.inl rfl
  · exact Or.inr (sBest_in hu)
theorem apU_r {g : Nat → Int} (hg : ∀ n, g n = -1 ∨ isU (g n)) : ∀ n, ((apU g n).1 = -1 ∧ (apU g n).2 = -1) ∨ (isU (apU g n).1 ∧ isU (apU g n).2)
  | 0 => Or.inl ⟨rfl, rfl⟩
  | n + 1 => by
    have ih := apU_r hg n
    have z := hg n
    unfold apU
    split
    · exact ih
    · dsimp only
      split <;> (right; omega)
theorem C_apart (hE : isC E) (i : IC S h) {a b c : Int} (hK : ∀ h', IC S h' → K (aApart S a b c) h') : zCI E mX9_apart (d + 6) [zR 0, zI a, zI b, zI c] h K := by
  have k := hK h i
  obtain ⟨bt, i⟩ := i
  have wn := i.wf.n
  unfold WfN at wn
  have su := su_b hE i.hb
  unfold aApart at k hK
  refine eX9_apart (d := d + 5) hE su (X9_unitsOf hE ?_)
  by_cases z : areU a b c
  · rw [if_pos z]
    have hm := sMany_r z
    refine ⟨fun c1 => absurd c1 (by omega), fun _ => ⟨fun c1 => ?_, fun c1 => ?_⟩⟩
    · have rr := apU_r (g := fun l => lnU S l a b c) (fun n => lnU_r z _)
      have eg : ∀ n : Nat, (fun l : Nat => lnU S l a b c) n = lnU S n a b c := fun _ => rfl
      generalize hgg : (fun l : Nat => lnU S l a b c) = g at hK rr eg
      have loop : ∀ (m l : Nat), l + m = (S 0 23).toNat → ∀ h1 : zH, ICb S h1 bt → ∀ x5 : Int, (x5 = if (apU g l).1 = -1 then 2147483647 else (apU g l).1) → zG E mX9_apart (d + 6) 34 [zR 0, zI a, zI b, zI c, zU, zI x5, zI (apU g l).2, zI l, zU] [] h1 (qI K) := by
        intro m
        induction m with
        | zero =>
          intro l hl h1 i1 x5 e5
          have k1 := hK h1 i1.ic
          rw [if_pos ⟨z, c1⟩, ← (show l = (S 0 23).toNat by omega)] at k1
          have r := rr l
          refine bX9_apart_34 (d := d + 5) hE su ⟨i1.tld, fun _ => ⟨fun c2 => ?_, fun c2 => ?_⟩, fun c2 => absurd (by rw [i1.sv.la.1]; omega) c2⟩
          · have n1 : ¬ (apU g l).1 = -1 := by omega
            rw [if_neg n1] at k1 e5
            rw [e5, w32i (by omega) (by omega)]
            exact k1
          · rwa [if_pos (by omega)] at k1
        | succ m ih =>
          intro l hl h1 i1 x5 e5
          have nx := ih (l + 1) (by omega)
          unfold apU at nx
          have r := rr l
          refine bX9_apart_34 (d := d + 5) hE su ⟨i1.tld, fun c2 => absurd c2 (by rw [i1.sv.la.1]; omega), fun _ => C_gather hE i1 (fun h2 i2 s2 => ?_)⟩
          have cn := cntR_r (rk S l (-1)) 8
          have el := eg l
          unfold lnU at el
          rw [s2.1, cmpL_len, i2.hv]
          refine ⟨fun c2 y ey => ?_, fun c2 => C_bestU hE (rk_ok i.wf _ _) s2 z (fun y7 e7 y8 e8 y9 e9 => ?_)⟩
          · rw [w_suc (by omega)] at ey
            rw [ey]
            rw [if_pos (by omega)] at el
            rw [if_pos el] at nx
            exact nx h2 i2 x5 e5
          · rw [w_suc (by omega)] at e9
            rw [e9]
            rw [if_neg (by omega)] at el
            change y7 = min x5 (bsU S (rk S l (-1)) a b c) at e7
            change y8 = max _ (bsU S (rk S l (-1)) a b c) at e8
            have hbu : isU (bsU S (rk S l (-1)) a b c) := sBest_in z
            rw [← el] at e7 e8 hbu
            have gn : ¬ g l = -1 := by omega
            rw [if_neg gn] at nx
            rw [e8]
            refine nx h2 i2 y7 ?_
            dsimp only
            rw [e7, e5]
            by_cases q : (apU g l).1 = -1
            · rw [if_pos q, if_pos q, if_neg (by omega), Int.min_eq_right (by omega)]
            · rw [if_neg q, if_neg q, if_neg (by omega)]
      exact loop (S 0 23).toNat 0 (by omega) h i 2147483647 rfl
    · rwa [if_neg (fun y => by have := y.2; omega)] at k
  · rw [if_neg z]
    refine ⟨fun _ => ?_, fun c1 => absurd rfl c1⟩
    rwa [if_neg (fun y => z y.1)] at k
theorem R_apart (hE : isR E) (i : IR S h) {a b c : Int} (hK : ∀ h', IR S h' → K (aApart S a b c) h') : zCI E mX10_apart (d + 6) [zR 0, zI a, zI b, zI c] h K := by
  refine eX10_apart (d := d + 5) hE (fun h1 e1 => ?_)
  have i1 := i.thr e1
  have k := hK h1 i1
  have wn := i.wf.n
  unfold WfN at wn
  unfold aApart at k hK
  refine X10_areUnits hE ⟨fun c1 => X10_laid hE i1 (fun h2 i2 => ?_), fun c1 => ?_⟩
  · rw [ne_eq, bI_n] at c1
    have z := c1.1
    have rr := apU_r (g := fun l => lnU S l a b c) (fun n => lnU_r z _)
    have eg : ∀ n : Nat, (fun l : Nat => lnU S l a b c) n = lnU S n a b c := fun _ => rfl
    generalize hgg : (fun l : Nat => lnU S l a b c) = g at hK rr eg
    have loop : ∀ (m l : Nat), l + m = (S 0 23).toNat → ∀ h1 : zH, IRL S h1 → zG E mX10_apart (d + 6) 32 [zR 0, zI a, zI b, zI c, zI (apU g l).1, zI (apU g l).2, zI l, zU] [] h1 (qI K) := by
      intro m
      induction m with
      | zero =>
        intro l hl h1 i1
        have k1 := hK h1 i1.ir
        rw [if_pos c1, ← (show l = (S 0 23).toNat by omega)] at k1
        have r := rr l
        refine bX10_apart_32 (d := d + 5) hE ⟨fun _ => ⟨fun c2 => ?_, fun c2 => ?_⟩, fun c2 => absurd (by rw [i1.q.num (j := 23) (by omega)]; omega) c2⟩
        · rw [w32i (by omega) (by omega)]
          rwa [if_neg c2] at k1
        · rwa [if_pos (by omega)] at k1
      | succ m ih =>
        intro l hl h1 i1
        have nx := ih (l + 1) (by omega)
        unfold apU at nx
        have el := eg l
        refine bX10_apart_32 (d := d + 5) hE ⟨fun c2 => absurd c2 (by rw [i1.q.num (j := 23) (by omega)]; omega), fun _ => R_landUnit hE i1 z (fun h2 i2 => ?_)⟩
        rw [← el]
        refine ⟨fun c2 => ⟨fun c3 y7 e7 y8 e8 y9 e9 => ?_, fun c3 y8 e8 y9 e9 => ?_⟩, fun c2 y ey => ?_⟩
        · rw [w_suc (by omega)] at e9
          rw [e9, e8, e7]
          rw [if_neg c2, if_neg c3] at nx
          exact nx h2 i2
        · rw [w_suc (by omega)] at e9
          rw [e9, e8]
          rw [if_neg c2, if_pos (by omega)] at nx
          exact nx h2 i2
        · rw [w_suc (by omega)] at ey
          rw [ey]
          rw [if_pos (by omega)] at nx
          exact nx h2 i2
    exact loop (S 0 23).toNat 0 (by omega) h2 i2
  · rw [ne_eq, bI_n] at c1
    rwa [if_neg c1] at k
end TSizes
