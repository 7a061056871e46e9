/-! ===== topic: near, hump, wander, chosen ===== -/
section TRows
variable {E : zE} {d : Nat} {h : zH} {S : zH} {K : Int → zH → Prop}
def foR (g : Int → Int → Int) (a : Int) (f : Nat → Int) : Nat → Int
  | 0 => a
  | n + 1 => if f n = -1 then foR g a f n else g (foR g a f n) (f n)
theorem foR_cmp (g : Int → Int → Int) (a : Int) (f : Nat → Int) : ∀ n, (cmpL f n).foldl g a = foR g a f n
  | 0 => rfl
  | n + 1 => by
    have ih := foR_cmp g a f n
    unfold cmpL foR
    split
    · exact ih
    · rw [List.foldl_append, ih]; rfl
theorem foR_ext {g : Int → Int → Int} {a : Int} {f : Nat → Int} {n : Nat} : ∀ m, (∀ k, n ≤ k → f k = -1) → foR g a f (n + m) = foR g a f n
  | 0, _ => rfl
  | m + 1, hh => by
    rw [show n + (m + 1) = (n + m) + 1 by omega, foR, if_pos (hh (n + m) (by omega))]
    exact foR_ext m hh
theorem rk_all (r : Nat) : rk S (-1) (-1) r = if hasF S r then szB (sLs S (sNk S) r) (sG S) (sH S) else -1 := by
  unfold rk rkF
  by_cases z : hasF S r
  · rw [if_pos ⟨z, Or.inl rfl, Or.inl rfl⟩, if_pos z]
  · rw [if_neg (fun q => z q.1), if_neg z]
/-! near -/
def nrB (S : zH) (u : Int) (r : Nat) : Bool := sFt S r && sNear S (S 0 57) u (szB (sLs S (sNk S) r) (sG S) (sH S)) ((sLs S (sNk S) r).length : Int) ((bsL (sLs S (sNk S) r) (sG S) (sH S) / 4 : Nat) : Int)
def aNear (S : zH) (u : Int) : Int := if isU u then (wlB (nrB S u) 8 : Int) else -1
theorem len_b (w : WfS S) {r : Nat} (hr : r < 8) : vB ((sLs S (sNk S) r).length : Int) := by
  have := (w.pt hr).1
  unfold vB; omega
theorem bs4_b (l : List (Int × Int)) (G H : Nat) : vB ((bsL l G H / 4 : Nat) : Int) := by
  have := bsL_ok l G H
  unfold vB; omega
theorem bs_lt (l : List (Int × Int)) (G H : Nat) : bsL l G H < 12 := by
  have := bsL_ok l G H
  omega
theorem C_isNearAs (hE : isC E) {b : Nat} (i : ICb S h b) {r : Nat} (hf : hasF S r) {size u : Int} (h0 : 0 ≤ size) (h1 : size ≤ 1000000000) (hu : isU u) (hK : ∀ h', ICb S h' b → (∀ c j, c ≠ b + 17 → c ≠ b + 18 → h' c j = h c j) → K (bI (sNear S (S 0 57) u size ((sLs S (sNk S) r).length : Int) ((bsL (sLs S (sNk S) r) (sG S) (sH S) / 4 : Nat) : Int) = true)) h') :
    zCI E mX9_isNearAs (d + 2) [zR 0, zI size, zI u, zI ((sLs S (sNk S) r).length : Int), zI ((bsL (sLs S (sNk S) r) (sG S) (sH S) / 4 : Nat) : Int)] h K := by
  have hb := i.hb
  refine X9_isNearAs hE (su_b hE i.hb) i.tld i.wf.r i.sv.ru (len_b i.wf (i.wf.r8 (hasF_in hf))) (bs4_b _ _ _) h0 h1 hu (fun h' fr => ?_)
  rw [i.hv]
  refine hK h' (i.mvC (fun c j n1 n2 n3 n4 n5 n6 => fr c j (by omega) (by omega)) (i.fi.sm (fun c j a1 a2 => fr c j (by omega) (by omega)))) fr
theorem C_isNearBy (hE : isC E) {b : Nat} (i : ICb S h b) {r : Nat} (hr8 : r < 8) {u : Int} (hu : isU u) (hK : ∀ h', ICb S h' b → K (bI (nrB S u r = true)) h') : zCI E mX9_isNearBy (d + 5) [zR 0, zI r, zI u] h K := by
  refine eX9_isNearBy (d := d + 4) hE (X0_bestShape hE (fi_52 hE) i.fw (fun nf => ⟨fun _ => ?_, fun c => absurd rfl c⟩) (fun r1 e1 _ h3 h1 fr1 hw1 _ => ⟨fun c => absurd c (by omega), fun _ => X0_bestSize hE (fi_52 hE) hw1 (fun nf => absurd ⟨by omega, by omega, by rw [e1, Int.toNat_natCast]; exact h3⟩ nf) (fun r2 e2 _ _ h2 fr2 hw2 => ⟨nat_in (n := 8) hr8, ?_⟩)⟩))
  · have k := hK h i
    rwa [bI_f] at k
    unfold nrB sFt
    rw [Bool.and_eq_true, decide_eq_true_iff]
    exact fun z => nf ⟨by omega, by omega, by rw [Int.toNat_natCast]; exact z.1⟩
  · have er1 : r1 = r := by omega
    have er2 : r2 = r := by omega
    subst er1 er2
    have i2 := (i.mvQ fr1 hw1).mvQ fr2 hw2
    have sz := szB_r i.wf (r := r2) h3
    have t4 := w_t4 (b := bsL (sLs S (sNk S) r2) (sG S) (sH S)) (by have := bs_lt (sLs S (sNk S) r2) (sG S) (sH S); omega)
    rw [Int.toNat_natCast, (i2.fi.2.2.2 r2 hr8).1, t4.1]
    refine C_isNearAs hE i2 h3 sz.1 (by omega) hu (fun h3' i3 _ => ?_)
    have k := hK h3' i3
    have e : nrB S u r2 = sNear S (S 0 57) u (szB (sLs S (sNk S) r2) (sG S) (sH S)) ((sLs S (sNk S) r2).length : Int) ((bsL (sLs S (sNk S) r2) (sG S) (sH S) / 4 : Nat) : Int) := by
      unfold nrB sFt
      rw [decide_eq_true (show hasF S r2 from h3), Bool.true_and]
    rw [e] at k
    refine ⟨fun c => ?_, fun c => ?_⟩
    · rwa [c] at k
    · rcases bI_01 (P := sNear S (S 0 57) u (szB (sLs S (sNk S) r2) (sG S) (sH S)) ((sLs S (sNk S) r2).length : Int) ((bsL (sLs S (sNk S) r2) (sG S) (sH S) / 4 : Nat) : Int) = true) with z | z
      · exact absurd z c
      · rwa [z] at k
theorem C_near (hE : isC E) (i : IC S h) {u : Int} (hK : ∀ h', IC S h' → K (aNear S u) h') : zCI E mX9_near (d + 6) [zR 0, zI u] h K := by
  have k := hK h i
  obtain ⟨b, i⟩ := i
  unfold aNear at k hK
  refine eX9_near (d := d + 5) hE (X9_isUnit hE ⟨fun c => ?_, fun c => ?_⟩)
  · rw [ne_eq, bI_n] at c
    have loop : ∀ (m r : Nat), r + m = 8 → ∀ h1 : zH, ICb S h1 b → zG E mX9_near (d + 6) 13 [zR 0, zI u, zI (wlB (nrB S u) r : Int), zI r] [] h1 (qI K) := by
      intro m
      induction m with
      | zero =>
        intro r hr h1 i1
        have e : r = 8 := by omega
        subst e
        have k1 := hK h1 i1.ic
        rw [if_pos c] at k1
        exact bX9_near_13 (d := d + 5) hE ⟨fun _ => k1, fun c => absurd (by decide) c⟩
      | succ m ih =>
        intro r hr h1 i1
        have nx := ih (r + 1) (by omega)
        unfold wlB at nx
        refine bX9_near_13 (d := d + 5) hE ⟨fun c => absurd c (by omega), fun _ => C_isNearBy hE i1 (by omega) c (fun h2 i2 => ⟨fun c2 y ey => ?_, fun c2 y ey z ez => ?_⟩)⟩
        · rw [bI_0] at c2
          rw [w_suc (by omega)] at ey
          rw [ey]
          rw [if_neg c2] at nx
          exact nx h2 i2
        · rw [bI_n] at c2
          rw [w_suc (by omega)] at ez
          rw [zor_wl (by omega) (wlB_lt _ r)] at ey
          rw [ey, ez]
          rw [if_pos c2] at nx
          exact nx h2 i2
    exact loop 8 0 rfl h i
  · rw [ne_eq, bI_n] at c
    rwa [if_neg c] at k
theorem sNear_q {S' : zH} (q : zq S S') (hv u s st so : Int) : sNear S' hv u s st so = sNear S hv u s st so := by
  unfold sNear
  rw [q.num (j := 28) (by omega), q.row (c := 20) (by omega) (by omega), q.row (c := 21) (by omega) (by omega)]
theorem rlOk_q {S' : zH} (q : zq S S') (r : rlOk S) : rlOk S' := by
  unfold rlOk at r ⊢
  rw [q.num (j := 28) (by omega), q.row (c := 20) (by omega) (by omega), q.row (c := 21) (by omega) (by omega)]
  exact r
theorem R_isNear (hE : isR E) (i : IRL S h) {r : Nat} (hf : hasF S r) {size u : Int} (h0 : 0 ≤ size) (h1 : size ≤ 1000000000) (hu : isU u) (hK : ∀ h', IRL S h' → frN h h' → K (bI (sNear S (S 0 57) u size ((sLs S (sNk S) r).length : Int) ((bsL (sLs S (sNk S) r) (sG S) (sH S) / 4 : Nat) : Int) = true)) h') : zCI E mX10_isNear (d + 2) [zR 0, zI r, zI size, zI u] h K := by
  have hr := hasF_in hf
  have hS := i.sh r hr
  have t4 := w_t4 (b := bsL (sLs S (sNk S) r) (sG S) (sH S)) (by have := bs_lt (sLs S (sNk S) r) (sG S) (sH S); omega)
  refine X10_isNear hE (rlOk_q i.q i.wf.r) (i.wf.r8 hr) hS.1 (by rw [hS.2.1, if_pos hf]; exact t4.1) (len_b i.wf (i.wf.r8 hr)) (bs4_b _ _ _) h0 h1 hu (fun h' fr => ?_)
  rw [sNear_q i.q, i.q.num (j := 57) (by omega)]
  exact hK h' (i.frN fr) fr
theorem wlB_ext {P : Nat → Bool} {n : Nat} : ∀ m, (∀ k, n ≤ k → P k = false) → wlB P (n + m) = wlB P n
  | 0, _ => rfl
  | m + 1, hh => by
    rw [show n + (m + 1) = (n + m) + 1 by omega, wlB, if_neg (by rw [hh (n + m) (by omega)]; decide)]
    exact wlB_ext m hh
theorem R_near (hE : isR E) (i : IR S h) {u : Int} (hK : ∀ h', IR S h' → K (aNear S u) h') : zCI E mX10_near (d + 6) [zR 0, zI u] h K := by
  refine eX10_near (d := d + 5) hE (fun h1 e1 => ?_)
  have i1 := i.thr e1
  have k := hK h1 i1
  have wn := i.wf.n
  unfold WfN at wn
  obtain ⟨R, hR⟩ : ∃ R : Nat, S 0 24 = R := ⟨(S 0 24).toNat, by omega⟩
  unfold aNear at k hK
  refine X10_isUnit hE ⟨fun c => X10_laid hE i1 (fun h2 i2 => ?_), fun c => ?_⟩
  · rw [ne_eq, bI_n] at c
    have ew : wlB (nrB S u) 8 = wlB (nrB S u) R := by
      rw [show 8 = R + (8 - R) by omega, wlB_ext (8 - R) (fun k hk => ?_)]
      unfold nrB
      rw [sFt_out (by omega), Bool.false_and]
    have loop : ∀ (m r : Nat), r + m = R → ∀ h1 : zH, IRL S h1 → zG E mX10_near (d + 6) 22 [zR 0, zI u, zI (wlB (nrB S u) r : Int), zI r] [] h1 (qI K) := by
      intro m
      induction m with
      | zero =>
        intro r hr h1 i1
        have e : r = R := by omega
        subst e
        have k1 := hK h1 i1.ir
        rw [if_pos c, ew] at k1
        exact bX10_near_22 (d := d + 5) hE ⟨fun _ => k1, fun c => absurd (by rw [i1.q.num (j := 24) (by omega)]; omega) c⟩
      | succ m ih =>
        intro r hr h1 i1
        have nx := ih (r + 1) (by omega)
        unfold wlB at nx
        have hrR : (r : Int) < S 0 24 := by omega
        refine bX10_near_22 (d := d + 5) hE ⟨fun c => absurd c (by rw [i1.q.num (j := 24) (by omega)]; omega), fun _ => X10_hasFit hE (i.wf.r8 hrR) (i1.sh r hrR) ⟨fun c2 y ey => ?_, fun c2 => ?_⟩⟩
        · rw [bI_0] at c2
          rw [w_suc (by omega)] at ey
          rw [ey]
          rw [if_neg (by unfold nrB sFt; rw [Bool.and_eq_true, decide_eq_true_iff]; exact fun z => c2 z.1)] at nx
          exact nx h1 i1
        · rw [bI_n] at c2
          have sz := szB_r i.wf (r := r) c2
          have e : nrB S u r = sNear S (S 0 57) u (szB (sLs S (sNk S) r) (sG S) (sH S)) ((sLs S (sNk S) r).length : Int) ((bsL (sLs S (sNk S) r) (sG S) (sH S) / 4 : Nat) : Int) := by
            unfold nrB sFt
            rw [decide_eq_true (show hasF S r from c2), Bool.true_and]
          rw [e] at nx
          refine X10_sizeOf hE (i.wf.r8 hrR) (i1.sh r hrR) c2 (R_isNear hE i1 c2 sz.1 (by omega) c (fun h2 i2 _ => ⟨fun c3 y ey => ?_, fun c3 y ey z ez => ?_⟩))
          · rw [bI_0] at c3
            rw [w_suc (by omega)] at ey
            rw [ey]
            rw [if_neg c3] at nx
            exact nx h2 i2
          · rw [bI_n] at c3
            rw [w_suc (by omega)] at ez
            rw [zor_wl (by omega) (wlB_lt _ r)] at ey
            rw [ey, ez]
            rw [if_pos c3] at nx
            exact nx h2 i2
    exact loop R 0 (by omega) h2 i2
  · rw [ne_eq, bI_n] at c
    rwa [if_neg c] at k
/-! hump -/
def sBin (x v : Int) : Int := min (12 * sOff x v / v) 5
def gHp (v bin : Int) : Int → Int → Int := fun acc x => if sBin x v = bin then acc + 1 else acc
def aHump (S : zH) (u bin : Int) : Int := if isU u ∧ 0 ≤ bin ∧ bin ≤ 5 then foR (gHp (sPart u (S 0 57)) bin) 0 (rk S (-1) (-1)) 8 else -1
theorem C_hump (hE : isC E) (i : IC S h) {u bin : Int} (hK : ∀ h', IC S h' → K (aHump S u bin) h') : zCI E mX9_hump (d + 6) [zR 0, zI u, zI bin] h K := by
  have k := hK h i
  obtain ⟨b, i⟩ := i
  unfold aHump at k hK
  refine eX9_hump (d := d + 5) hE (X9_isUnit hE ⟨fun c => ?_, fun c => X9_isBeyond hE ⟨fun c2 => C_gather hE i (fun h1 i1 s1 => ?_), fun c2 => ?_⟩⟩)
  · rw [bI_0] at c
    rwa [if_neg (fun z => c z.1)] at k
  · rw [bI_n] at c
    rw [bI_0] at c2
    have hp := sPart_r (hv := S 0 57) c
    have k1 := hK h1 i1.ic
    rw [if_pos ⟨c, by omega, by omega⟩, ← foR_cmp] at k1
    have hz := szL_rk i.wf (-1) (-1)
    generalize cmpL (rk S (-1) (-1)) 8 = l at s1 k1 hz
    have h8 := s1.2.1
    generalize hvv : sPart u (S 0 57) = v at hp k1
    have loop : ∀ (rest pre : List Int) (acc : Int), l = pre ++ rest → 0 ≤ acc → acc ≤ pre.length → rest.foldl (gHp v bin) acc = l.foldl (gHp v bin) 0 → zG E mX9_hump (d + 6) 29 [zR 0, zI u, zI bin, zI acc, zI (pre.length : Int)] [] h1 (qI K) := by
      intro rest
      induction rest with
      | nil =>
        intro pre acc e a0 a1 es
        have el : l.length = pre.length := by rw [e]; simp
        rw [← es] at k1
        exact bX9_hump_29 (d := d + 5) hE ⟨fun _ => k1, fun c => absurd (by rw [s1.1]; omega) c⟩
      | cons x rest ih =>
        intro pre acc e a0 a1 es
        have hlen : pre.length + 1 ≤ l.length := by rw [e]; simp
        have hx : l[pre.length]? = some x := by rw [e]; simp
        have step : ∀ acc' : Int, acc' = gHp v bin acc x → 0 ≤ acc' → acc' ≤ pre.length + 1 → zG E mX9_hump (d + 6) 29 [zR 0, zI u, zI bin, zI acc', zI ((pre.length + 1 : Nat) : Int)] [] h1 (qI K) := by
          intro acc' ea b0 b1
          have := ih (pre ++ [x]) acc' (by rw [e]; simp) b0 (by simp; omega) (by rw [← es, ea]; rfl)
          simpa using this
        refine bX9_hump_29 (d := d + 5) hE ⟨fun c => absurd c (by rw [s1.1]; omega), fun _ => ?_⟩
        rw [i1.hv]
        refine X9_placesOf hE (by omega) (by omega) ?_
        rw [hvv]
        refine X7_binOf (d := d + 4) hE (si_76 hE) s1 hz (by omega) (by omega) hx ⟨fun c y ey => ?_, fun c y ey z ez => ?_⟩
        · rw [w_suc (by omega)] at ey
          rw [ey]
          have c' : ¬ sBin x v = bin := c
          exact step acc (by unfold gHp; rw [if_neg c']) a0 (by omega)
        · rw [w_suc (by omega)] at ez
          rw [ez]
          rw [w32i (by omega) (by omega)] at ey
          have c' : sBin x v = bin := Decidable.not_not.mp c
          exact step y (by unfold gHp; rw [if_pos c']; exact ey) (by omega) (by omega)
    exact loop l [] 0 rfl (by omega) (by simp) rfl
  · rw [bI_n] at c2
    rwa [if_neg (by omega)] at k
theorem R_bin (hE : isR E) (i : IRL S h) {r : Nat} (hf : hasF S r) {u : Int} (hu : isU u) (hK : K (sBin (szB (sLs S (sNk S) r) (sG S) (sH S)) (sPart u (S 0 57))) h) : zCI E mX10_binOfRing (d + 1) [zR 0, zI r, zI u] h K := by
  have hp := sPart_r (hv := S 0 57) hu
  have hr := hasF_in hf
  have sz := szB_r i.wf hf
  refine eX10_binOfRing hE (X10_part hE (by omega) (by omega) (X10_sizeOf hE (i.wf.r8 hr) (i.sh r hr) hf ?_))
  rw [i.q.num (j := 57) (by omega)]
  refine X10_offBy hE sz.1 (by omega) (by omega) ⟨by omega, ?_⟩
  unfold sBin at hK
  generalize sPart u (S 0 57) = v at hp hK ⊢
  generalize szB (sLs S (sNk S) r) (sG S) (sH S) = x at sz hK ⊢
  have ho := sOff_r x (u := v) (by omega)
  have hd0 : 0 ≤ 12 * sOff x v / v := Int.ediv_nonneg (by omega) (by omega)
  have hd1 := Int.ediv_le_self v (show 0 ≤ 12 * sOff x v by omega)
  rwa [w32i (x := 12 * _) (by omega) (by omega), Int.tdiv_eq_ediv_of_nonneg (by omega), w32i (x := _ / v) (by omega) (by omega), Int.min_comm]
theorem R_hump (hE : isR E) (i : IR S h) {u bin : Int} (hK : ∀ h', IR S h' → K (aHump S u bin) h') : zCI E mX10_hump (d + 6) [zR 0, zI u, zI bin] h K := by
  refine eX10_hump (d := d + 5) hE (fun h1 e1 => ?_)
  have i1 := i.thr e1
  have k := hK h1 i1
  have wn := i.wf.n
  unfold WfN at wn
  obtain ⟨R, hR⟩ : ∃ R : Nat, S 0 24 = R := ⟨(S 0 24).toNat, by omega⟩
  unfold aHump at k hK
  refine X10_isUnit hE ⟨fun c => ?_, fun c => ⟨fun c2 => ?_, fun c2 => ⟨fun c3 => X10_laid hE i1 (fun h2 i2 => ?_), fun c3 => ?_⟩⟩⟩
  · rw [bI_0] at c
    rwa [if_neg (fun z => c z.1)] at k
  · rwa [if_neg (by omega)] at k
  · rw [bI_n] at c
    have k2 := hK h2 i2.ir
    rw [if_pos ⟨c, by omega, by omega⟩, show 8 = R + (8 - R) by omega, foR_ext (8 - R) (fun k hk => rk_out (by omega))] at k2
    have loop : ∀ (m r : Nat), r + m = R → 0 ≤ foR (gHp (sPart u (S 0 57)) bin) 0 (rk S (-1) (-1)) r → foR (gHp (sPart u (S 0 57)) bin) 0 (rk S (-1) (-1)) r ≤ r → zG E mX10_hump (d + 6) 33 [zR 0, zI u, zI bin, zI (foR (gHp (sPart u (S 0 57)) bin) 0 (rk S (-1) (-1)) r), zI r] [] h2 (qI K) := by
      intro m
      induction m with
      | zero =>
        intro r hr _ _
        have e : r = R := by omega
        subst e
        exact bX10_hump_33 (d := d + 5) hE ⟨fun _ => k2, fun c => absurd (by rw [i2.q.num (j := 24) (by omega)]; omega) c⟩
      | succ m ih =>
        intro r hr a0 a1
        have nx := ih (r + 1) (by omega)
        unfold foR at nx
        have er := rk_all (S := S) r
        have hrR : (r : Int) < S 0 24 := by omega
        refine bX10_hump_33 (d := d + 5) hE ⟨fun c => absurd c (by rw [i2.q.num (j := 24) (by omega)]; omega), fun _ => X10_hasFit hE (i.wf.r8 hrR) (i2.sh r hrR) ⟨fun c4 y ey z ez => ?_, fun c4 => R_bin hE i2 ?_ c ⟨fun c5 y ey z ez => ?_, fun c5 y ey z ez => ?_⟩⟩⟩
        · rw [bI_0] at c4
          rw [if_neg c4] at er
          rw [if_pos er] at nx
          rw [w_suc (by omega)] at ez
          rw [w32i (by omega) (by omega), Int.add_zero] at ey
          rw [ey, ez]
          exact nx a0 (by omega)
        · rwa [bI_n] at c4
        · rw [bI_n] at c4
          have sz := szB_r i.wf (r := r) c4
          rw [if_pos c4] at er
          rw [if_neg (by omega), er] at nx
          rw [w_suc (by omega)] at ez
          rw [w32i (by omega) (by omega), Int.add_zero] at ey
          rw [ey, ez]
          generalize foR (gHp (sPart u (S 0 57)) bin) 0 (rk S (-1) (-1)) r = acc at nx a0 a1 ⊢
          unfold gHp at nx
          rw [if_neg c5] at nx
          exact nx a0 (by omega)
        · rw [bI_n] at c4
          have sz := szB_r i.wf (r := r) c4
          rw [if_pos c4] at er
          rw [if_neg (by omega), er] at nx
          rw [w_suc (by omega)] at ez
          rw [w32i (by omega) (by omega)] at ey
          rw [ey, ez]
          generalize foR (gHp (sPart u (S 0 57)) bin) 0 (rk S (-1) (-1)) r = acc at nx a0 a1 ⊢
          unfold gHp at nx
          rw [if_pos (Decidable.not_not.mp c5)] at nx
          exact nx (by omega) (by omega)
    exact loop R 0 (by omega) (by unfold foR; omega) (by unfold foR; omega)
  · rwa [if_neg (by omega)] at k
/-! wander -/
def gWn (v m : Int) : Int → Int → Int := fun acc x => if 0 < sTimes x v then max acc ((sOff x v * m + sTimes x v - 1) / sTimes x v) else acc
def aWander (S : zH) (u l : Int) : Int := if isU u ∧ -1 ≤ l ∧ l < S 0 23 then foR (gWn (sPart u (S 0 57)) (if S 0 57 = 0 then 1 else 2)) 0 (rk S l (-1)) 8 else -2
theorem wn_step {x v m : Int} (hx : 0 ≤ x ∧ x < 1000000000) (hv : 0 < v) (hv2 : v ≤ 9999) (hm : m = 1 ∨ m = 2) (ht : 0 < sTimes x v) : w32 (Int.tdiv (w32 ((w32 (w32 (sOff x v * m) + sTimes x v)) - 1)) (sTimes x v)) = (sOff x v * m + sTimes x v - 1) / sTimes x v ∧ 0 ≤ (sOff x v * m + sTimes x v - 1) / sTimes x v ∧ (sOff x v * m + sTimes x v - 1) / sTimes x v ≤ 2000000000 := by
  have ho := sOff_r x hv
  have hT := sTimes_r (u := v) hx.1 (by omega) hv
  have hom : 0 ≤ sOff x v * m ∧ sOff x v * m ≤ 9999 := by rcases hm with e | e <;> subst e <;> omega
  generalize sOff x v * m = o at hom ⊢
  generalize sTimes x v = t at ht hT ⊢
  have q0 : 0 ≤ (o + t - 1) / t := Int.ediv_nonneg (by omega) (by omega)
  have q1 := Int.ediv_le_self t (show 0 ≤ o + t - 1 by omega)
  rw [w32i (x := o) (by omega) (by omega), w32i (x := o + t) (by omega) (by omega), w32i (x := o + t - 1) (by omega) (by omega), Int.tdiv_eq_ediv_of_nonneg (by omega), w32i (by omega) (by omega)]
  omega
theorem C_wander (hE : isC E) (i : IC S h) {u l : Int} (hK : ∀ h', IC S h' → K (aWander S u l) h') : zCI E mX9_wander (d + 6) [zR 0, zI u, zI l] h K := by
  have k := hK h i
  obtain ⟨b, i⟩ := i
  have wn := i.wf.n
  unfold WfN at wn
  have su := su_b hE i.hb
  unfold aWander at k hK
  refine eX9_wander (d := d + 5) hE su (X9_isUnit hE ⟨fun c => ?_, fun c => ⟨i.tld, ?_⟩⟩)
  · rw [bI_0] at c
    rwa [if_neg (fun z => c z.1)] at k
  rw [bI_n] at c
  rw [i.sv.la.1, w32i (by omega) (by omega)]
  refine X9_isBeyond hE ⟨fun c2 => C_gather hE i (fun h1 i1 s1 => ?_), fun c2 => ?_⟩
  · rw [bI_0] at c2
    have hp := sPart_r (hv := S 0 57) c
    have k1 := hK h1 i1.ic
    rw [if_pos ⟨c, by omega, by omega⟩, ← foR_cmp] at k1
    have hz := szL_rk i.wf l (-1)
    generalize cmpL (rk S l (-1)) 8 = li at s1 k1 hz
    have h8 := s1.2.1
    have hv := i1.hv
    generalize hvv : sPart u (S 0 57) = v at hp k1
    have hm12 : (if S 0 57 = 0 then (1 : Int) else 2) = 1 ∨ (if S 0 57 = 0 then (1 : Int) else 2) = 2 := by split <;> simp
    have hme1 : S 0 57 = 0 → (if S 0 57 = 0 then (1 : Int) else 2) = 1 := fun z => if_pos z
    have hme2 : ¬ S 0 57 = 0 → (if S 0 57 = 0 then (1 : Int) else 2) = 2 := fun z => if_neg z
    generalize (if S 0 57 = 0 then (1 : Int) else 2) = mu at k1 hm12 hme1 hme2
    have loop : ∀ (rest pre : List Int) (acc : Int), li = pre ++ rest → rest.foldl (gWn v mu) acc = li.foldl (gWn v mu) 0 → zG E mX9_wander (d + 6) 51 [zR 0, zU, zU, zI v, zI acc, zI (pre.length : Int), zU, zU] [] h1 (qI K) := by
      intro rest
      induction rest with
      | nil =>
        intro pre acc e es
        have el : li.length = pre.length := by rw [e]; simp
        rw [← es] at k1
        exact bX9_wander_51 (d := d + 5) hE su ⟨fun _ => k1, fun c => absurd (by rw [s1.1]; omega) c⟩
      | cons x rest ih =>
        intro pre acc e es
        have hlen : pre.length + 1 ≤ li.length := by rw [e]; simp
        have hx : li[pre.length]? = some x := by rw [e]; simp
        have hxs := hz x (by rw [e]; simp)
        have hr : h1 77 pre.length = x := s1.2.2 _ _ hx
        have step : ∀ acc' : Int, acc' = gWn v mu acc x → zG E mX9_wander (d + 6) 51 [zR 0, zU, zU, zI v, zI acc', zI ((pre.length + 1 : Nat) : Int), zU, zU] [] h1 (qI K) := by
          intro acc' ea
          have := ih (pre ++ [x]) acc' (by rw [e]; simp) (by rw [← es, ea]; rfl)
          simpa using this
        refine bX9_wander_51 (d := d + 5) hE su ⟨fun c => absurd c (by rw [s1.1]; omega), fun _ => ⟨nat_in (n := 8) (by omega), ?_⟩⟩
        rw [Int.toNat_natCast, hr]
        have g113 : 0 < sTimes x v → ∀ m : Int, m = mu → zG E mX9_wander (d + 6) 113 [zR 0, zU, zU, zI v, zI acc, zI (pre.length : Int), zI (sTimes x v), zU] [zI m, zI (sOff x v)] h1 (qI K) := by
          intro ht m em
          have ws := wn_step hxs (by omega) hp.2 hm12 ht
          refine bX9_wander_113 (d := d + 5) hE su (fun x1 e1 => ⟨by omega, fun x2 e2 x3 e3 => ?_⟩)
          rw [w_suc (by omega)] at e3
          rw [e1, em, ws.1] at e2
          rw [e3]
          exact step x2 (by unfold gWn; rw [if_pos ht]; exact e2)
        refine X9_timesBy hE hxs.1 (by omega) (by omega) (by omega) ⟨fun c3 => ⟨nat_in (n := 8) (by omega), ?_⟩, fun c3 y ey => ?_⟩
        · rw [hr]
          exact X9_offBy hE hxs.1 (by omega) (by omega) ⟨fun c4 => g113 c3 1 (hme1 (hv ▸ c4)).symm, fun c4 => g113 c3 2 (hme2 (hv ▸ c4)).symm⟩
        · rw [w_suc (by omega)] at ey
          rw [ey]
          exact step acc (by unfold gWn; rw [if_neg c3])
    rw [hv]
    refine X9_placesOf hE (by omega) (by omega) ?_
    rw [hvv]
    exact loop li [] 0 rfl rfl
  · rw [bI_n] at c2
    rwa [if_neg (by omega)] at k
theorem R_wander (hE : isR E) (i : IR S h) {u l : Int} (hK : ∀ h', IR S h' → K (aWander S u l) h') : zCI E mX10_wander (d + 6) [zR 0, zI u, zI l] h K := by
  refine eX10_wander (d := d + 5) hE (fun h1 e1 => ?_)
  have i1 := i.thr e1
  have k := hK h1 i1
  have wn := i.wf.n
  unfold WfN at wn
  obtain ⟨R, hR⟩ : ∃ R : Nat, S 0 24 = R := ⟨(S 0 24).toNat, by omega⟩
  unfold aWander at k hK
  have e23 : h1 0 23 = S 0 23 := i1.q.num (by omega)
  refine X10_isUnit hE ⟨fun c => ?_, fun c => ⟨fun c2 => ?_, fun c2 => ⟨fun c3 => X10_laid hE i1 (fun h2 i2 => R_reckon hE i2 (fun h3 i3 q3 => ?_)), fun c3 => ?_⟩⟩⟩
  · rw [bI_0] at c
    rwa [if_neg (fun z => c z.1)] at k
  · rwa [if_neg (by omega)] at k
  · rw [bI_n] at c
    have hp := sPart_r (hv := S 0 57) c
    have k3 := hK h3 i3.ir
    rw [if_pos ⟨c, by omega, by omega⟩, show 8 = R + (8 - R) by omega, foR_ext (8 - R) (fun k hk => rk_out (by omega))] at k3
    have hzr := rk_ok i.wf l (-1)
    have hv := i3.q.num (j := 57) (by omega)
    generalize hvv : sPart u (S 0 57) = v at hp k3
    have hm12 : (if S 0 57 = 0 then (1 : Int) else 2) = 1 ∨ (if S 0 57 = 0 then (1 : Int) else 2) = 2 := by split <;> simp
    have hme1 : S 0 57 = 0 → (if S 0 57 = 0 then (1 : Int) else 2) = 1 := fun z => if_pos z
    have hme2 : ¬ S 0 57 = 0 → (if S 0 57 = 0 then (1 : Int) else 2) = 2 := fun z => if_neg z
    generalize (if S 0 57 = 0 then (1 : Int) else 2) = mu at k3 hm12 hme1 hme2
    have loop : ∀ (m r : Nat), r + m = R → zG E mX10_wander (d + 6) 43 [zR 0, zI u, zU, zI (foR (gWn v mu) 0 (rk S l (-1)) r), zI r, zU, zU] [] h3 (qI K) := by
      intro m
      induction m with
      | zero =>
        intro r hr
        have e : r = R := by omega
        subst e
        exact bX10_wander_43 (d := d + 5) hE ⟨fun _ => k3, fun c => absurd (by rw [i3.q.num (j := 24) (by omega)]; omega) c⟩
      | succ m ih =>
        intro r hr
        have nx := ih (r + 1) (by omega)
        unfold foR at nx
        have er := q3 r (by omega)
        have hz := hzr r
        refine bX10_wander_43 (d := d + 5) hE ⟨fun c => absurd c (by rw [i3.q.num (j := 24) (by omega)]; omega), fun _ => ⟨nat_in (n := 8) (by omega), ?_⟩⟩
        rw [Int.toNat_natCast, er]
        refine ⟨fun c4 => ⟨nat_in (n := 8) (by omega), X10_part hE (by omega) (by omega) ?_⟩, fun c4 y ey => ?_⟩
        · rw [if_neg c4] at nx
          have hxs := hz.resolve_left c4
          generalize rk S l (-1) r = x at nx hxs er ⊢
          rw [hv, hvv]
          generalize foR (gWn v mu) 0 (rk S l (-1)) r = acc at nx ⊢
          have g110 : ∀ m : Int, m = mu → zG E mX10_wander (d + 6) 110 [zR 0, zI u, zU, zI acc, zI r, zI (sTimes x v), zU] [zI m, zI (sOff x v)] h3 (qI K) := by
            intro m em
            refine bX10_wander_110 (d := d + 5) hE (fun x1 e1 => ⟨fun c5 y ey => ?_, fun c5 => ⟨by omega, fun y ey z ez => ?_⟩⟩)
            · rw [w_suc (by omega)] at ey
              rw [ey]
              unfold gWn at nx
              rwa [if_neg (by omega)] at nx
            · have ws := wn_step hxs (by omega) hp.2 hm12 (show 0 < sTimes x v by omega)
              rw [w_suc (by omega)] at ez
              rw [e1, em, ws.1] at ey
              rw [ez, ey]
              unfold gWn at nx
              rwa [if_pos (by omega)] at nx
          refine X10_timesBy hE hxs.1 (by omega) (by omega) (by omega) ⟨nat_in (n := 8) (by omega), X10_part hE (by omega) (by omega) ?_⟩
          rw [hv, hvv, er]
          exact X10_offBy hE hxs.1 (by omega) (by omega) ⟨fun c6 => g110 1 (hme1 (hv ▸ c6)).symm, fun c6 => g110 2 (hme2 (hv ▸ c6)).symm⟩
        · rw [w_suc (by omega)] at ey
          rw [ey]
          rwa [if_pos (by omega)] at nx
    exact loop R 0 (by omega)
  · rwa [if_neg (by omega)] at k
end TRows
