/-! ===== topic: ahead of the reference ===== -/
section TAheadr
variable {E : zE} {d : Nat} {h : zH} {S : zH} {K : Int → zH → Prop}
theorem cT_ext {n : Nat} {P : Nat → Bool} {R : Nat} (hR : S 0 24 = R) : ∀ m, cT S n P (R + m) = cT S n P R
  | 0 => rfl
  | m + 1 => by
    rw [show R + (m + 1) = (R + m) + 1 by omega, cT, if_neg (fun z => by have := hasF_in z.1; omega)]
    exact cT_ext hR m
theorem R_ahead (hE : isR E) (i : IR S h) {n a b c w : Int} (hK : ∀ h', IR S h' → K (aAhead S n a b c w) h') : zCI E mX10_ahead (d + 6) [zR 0, zI n, zI a, zI b, zI c, zI w] h K := by
  refine eX10_ahead (d := d + 5) hE (fun h1 e1 => ?_)
  have i1 := i.thr e1
  have k := hK h1 i1
  have wn := i.wf.n
  unfold WfN at wn
  obtain ⟨R, hR⟩ : ∃ R : Nat, S 0 24 = R := ⟨(S 0 24).toNat, by omega⟩
  unfold aAhead at k hK
  rw [i1.q.num (j := 54) (by omega)]
  refine ⟨fun c1 => ?_, fun c1 => ⟨fun c2 => ?_, fun c2 => X10_areUnits hE ⟨fun c3 => ?_, fun c3 => ⟨fun c4 => ?_, fun c4 => ⟨fun c5 => ?_, fun c5 => ?_⟩⟩⟩⟩⟩
  · rwa [if_neg (by omega)] at k
  · rwa [if_neg (by omega)] at k
  · rw [bI_0] at c3
    rwa [if_neg (fun z => c3 z.2.1)] at k
  · rwa [if_neg (by omega)] at k
  · rw [bI_n] at c3
    have z := c3.1
    obtain ⟨N, hN⟩ : ∃ N : Nat, n = N := ⟨n.toNat, by omega⟩
    subst hN
    rw [Int.toNat_natCast] at hK
    rw [if_pos ⟨by omega, c3, by omega, by omega⟩] at hK
    have hNn : N ≤ (S 0 54).toNat := by omega
    have fo : szOk (rkN S N) := fun r => rkN_ok i.wf hNn r
    refine X10_shapesI (d := d + 1) hE i1 hNn (fun h2 fr2 s2 => ?_)
    have q2 : zq S h2 := fun c j hz => (fr2 c j (by unfold zn at hz; omega) (by unfold zn at hz; omega)).trans (i1.q c j hz)
    have z2 : szOk (h2 39) := by rw [show h2 39 = h1 39 from funext fun j => fr2 39 j (by omega) (by omega)]; exact i1.2.2.2
    refine X10_reckon hE (R := R) (by rw [q2.num (by omega)]; omega) (by omega) (fun r hr => s2 r (by omega)) (fun h3 fr3 k3 u3 => ?_)
    have q3 : zq S h3 := fun c j hz => (fr3 c j (by unfold zn at hz; omega)).trans (q2 c j hz)
    have k3' : ∀ r, r < R → h3 39 r = rkN S N r := by
      intro r hr
      rw [k3 r hr]
      unfold rkF rkN
      by_cases q : 3 ≤ (sLs S N r).length
      · rw [if_pos ⟨q, Or.inl rfl, Or.inl rfl⟩, if_pos q]
      · rw [if_neg (fun y => q y.1), if_neg q]
    have z3 : szOk (h3 39) := by
      intro r
      rcases Nat.lt_or_ge r R with y | y
      · rw [k3' r y]; exact fo r
      · rw [u3 r y]; exact z2 r
    have lu : ∀ v, lumpsR (h3 39) v R = lumpsR (rkN S N) v 8 := fun v => by
      rw [lumpsR_congr (g := rkN S N) (fun r hr => k3' r hr), lumpsR_ext (n := R) (m := 8) (by omega) (fun r q1 q2 => rkN_out (by omega))]
    refine X10_bestOf hE (n := R) (by rw [q3.num (by omega)]; omega) (by omega) z3 z ?_
    rw [q3.num (j := 57) (by omega), show (fun u => lumpsR (h3 39) (sPart u (S 0 57)) R) = (fun u => lumpsR (rkN S N) (sPart u (S 0 57)) 8) from funext fun u => lu _]
    change zG E mX10_ahead (d + 6) 67 [zR 0, zU, zU, zU, zU, zI w, zI (bsU S (rkN S N) a b c), zI 0, zU, zU] [] h3 (qI K)
    have hbu : isU (bsU S (rkN S N) a b c) := sBest_in z
    generalize bsU S (rkN S N) a b c = u at hK hbu ⊢
    have e8 : ∀ P, cT S N P 8 = cT S N P R := fun P => by rw [show 8 = R + (8 - R) by omega, cT_ext hR]
    rw [e8, e8] at hK
    have loop2 : ∀ (m r : Nat), r + m = R → ∀ h4 : zH, IRL S h4 → (∀ r', r' < R → h4 41 r' = rkN S N r') → zG E mX10_ahead (d + 6) 114 [zR 0, zU, zU, zU, zU, zI w, zI u, zI (cT S N (nrB S u) r), zI (cT S N (fun _ => true) r), zI r] [] h4 (qI K) := by
      intro m
      induction m with
      | zero =>
        intro r hr h4 i4 k4
        have e : r = R := by omega
        subst e
        have kk := hK h4 i4.ir
        refine bX10_ahead_114 (d := d + 5) hE ⟨fun _ => ⟨fun c6 => ⟨fun c7 => ?_, fun c7 => ?_⟩, fun c6 => ?_⟩, fun c => absurd (by rw [i4.q.num (j := 24) (by omega)]; omega) c⟩
        · rwa [if_neg c6, if_neg c7] at kk
        · rwa [if_neg c6, if_pos (by omega)] at kk
        · rwa [if_pos (by omega)] at kk
      | succ m ih =>
        intro r hr h4 i4 k4
        have nx := ih (r + 1) (by omega)
        have cr := cT_r (S := S) N (nrB S u) r
        have cr2 := cT_r (S := S) N (fun _ => true) r
        unfold cT at nx
        have hrR : (r : Int) < S 0 24 := by omega
        have hr8 := i.wf.r8 hrR
        refine bX10_ahead_114 (d := d + 5) hE ⟨fun c => absurd c (by rw [i4.q.num (j := 24) (by omega)]; omega), fun _ => X10_hasFit hE hr8 (i4.sh r hrR) ⟨fun c6 y ey => ?_, fun c6 => ?_⟩⟩
        · rw [bI_0] at c6
          rw [w_suc (by omega)] at ey
          rw [ey]
          rw [if_neg (fun q => c6 q.1), if_neg (fun q => c6 q.1)] at nx
          exact nx h4 i4 k4
        · rw [bI_n] at c6
          have hf : hasF S r := c6
          have sz := szB_r i.wf hf
          refine X10_sizeOf hE hr8 (i4.sh r hrR) hf ⟨nat_in (n := 8) hr8, ?_⟩
          rw [Int.toNat_natCast, k4 r (by omega)]
          refine ⟨fun c7 x ex => X10_sizeOf hE hr8 (i4.sh r hrR) hf (R_isNear hE i4 hf sz.1 (by omega) hbu (fun h5 i5 fr5 => ?_)), fun c7 y ey => ?_⟩
          · rw [w32i (by omega) (by omega)] at ex
            have e : nrB S u r = sNear S (S 0 57) u (szB (sLs S (sNk S) r) (sG S) (sH S)) ((sLs S (sNk S) r).length : Int) ((bsL (sLs S (sNk S) r) (sG S) (sH S) / 4 : Nat) : Int) := by
              unfold nrB sFt
              rw [decide_eq_true hf, Bool.true_and]
            rw [← e]
            have k5 : ∀ r', r' < R → h5 41 r' = rkN S N r' := fun r' hr' => (fr5 41 r' (by omega) (by omega) (by omega)).trans (k4 r' hr')
            refine ⟨fun c8 y ey v ev => ?_, fun c8 y ey v ev => ?_⟩
            · rw [bI_0] at c8
              rw [w_suc (by omega)] at ev
              rw [w32i (by omega) (by omega), Int.add_zero] at ey
              rw [ey, ev, ex]
              rw [if_neg (fun q => c8 q.2.2), if_pos ⟨hf, c7, rfl⟩] at nx
              exact nx h5 i5 k5
            · rw [bI_n] at c8
              rw [w_suc (by omega)] at ev
              rw [w32i (by omega) (by omega)] at ey
              rw [ey, ev, ex]
              rw [if_pos ⟨hf, c7, c8⟩, if_pos ⟨hf, c7, rfl⟩] at nx
              exact nx h5 i5 k5
          · rw [w_suc (by omega)] at ey
            rw [ey]
            rw [if_neg (fun q => c7 q.2.1), if_neg (fun q => c7 q.2.1)] at nx
            exact nx h4 i4 k4
    have loop1 : ∀ (m r : Nat), r + m = R → ∀ h4 : zH, (∀ c j, c ≠ 41 → h4 c j = h3 c j) → (∀ r', r' < r → h4 41 r' = rkN S N r') → zG E mX10_ahead (d + 6) 67 [zR 0, zU, zU, zU, zU, zI w, zI u, zI r, zU, zU] [] h4 (qI K) := by
      intro m
      induction m with
      | zero =>
        intro r hr h4 fr4 k4
        have e : r = R := by omega
        subst e
        have q4 : zq S h4 := fun c j hz => (fr4 c j (by unfold zn at hz; omega)).trans (q3 c j hz)
        refine bX10_ahead_67 (d := d + 5) hE ⟨fun _ h5 e5 => ?_, fun c => absurd (by rw [q4.num (j := 24) (by omega)]; omega) c⟩
        have i5 : IR S h5 := by
          refine ⟨i.wf, fun c j hz => ?_, fun q => absurd (by rw [e5, hset_eq]) q, ?_⟩
          · rw [e5, hset_ne (by unfold zn at hz; omega)]; exact q4 c j hz
          · rw [e5, hset_rne (by omega), show h4 39 = h3 39 from funext fun j => fr4 39 j (by omega)]; exact z3
        have k5 : ∀ r', r' < r → h5 41 r' = rkN S N r' := fun r' hr' => by rw [e5, hset_ne (by omega)]; exact k4 r' hr'
        -- what laid leaves of the row then
        refine eX10_laid (d := d + 4) hE ⟨fun c => X10_knownNotes hE i5 (X10_shapesI hE i5 (sNk_le i5.wf) (fun h6 fr hs h7 e7 => ?_)), fun q => absurd (by rw [e5, hset_eq]) q⟩
        refine loop2 r 0 (by omega) h7 ⟨i5.1, fun c j hz => ?_, ⟨by rw [e7, hset_eq]; decide, fun r hr => (hs r hr).sm (fun c j a b => by rw [e7, hset_ne (by omega)])⟩, ?_⟩ (fun r' hr' => ?_)
        · rw [e7, hset_ne (by unfold zn at hz; omega), fr c j (by unfold zn at hz; omega) (by unfold zn at hz; omega)]
          exact i5.2.1 c j hz
        · rw [e7, hset_rne (by omega), show h6 39 = h5 39 from funext fun j => fr 39 j (by omega) (by omega)]; exact i5.2.2.2
        · rw [e7, hset_ne (by omega), fr 41 r' (by omega) (by omega)]; exact k5 r' hr'
      | succ m ih =>
        intro r hr h4 fr4 k4
        have q4 : zq S h4 := fun c j hz => (fr4 c j (by unfold zn at hz; omega)).trans (q3 c j hz)
        refine bX10_ahead_67 (d := d + 5) hE ⟨fun c => absurd c (by rw [q4.num (j := 24) (by omega)]; omega), fun _ => ⟨nat_in (n := 8) (by omega), nat_in (n := 8) (by omega), fun h5 e5 y ey => ?_⟩⟩
        rw [Int.toNat_natCast, fr4 39 r (by omega), k3' r (by omega)] at e5
        rw [w_suc (by omega)] at ey
        rw [ey]
        refine ih (r + 1) (by omega) h5 (fun c j q => by rw [e5, hset_ne (by omega)]; exact fr4 c j q) (fun r' hr' => ?_)
        by_cases q : r' = r
        · subst q; rw [e5, hset_eq]
        · rw [e5, hset_ne (by omega)]; exact k4 r' (by omega)
    exact loop1 R 0 (by omega) h3 (fun _ _ _ => rfl) (fun r' hr' => absurd hr' (by omega))
  · rwa [if_neg (by omega)] at k
end TAheadr
