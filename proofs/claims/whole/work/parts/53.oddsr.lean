/-! ===== topic: odds of the reference ===== -/
section TOdds3
variable {E : zE} {d : Nat} {h : zH} {S : zH} {K : Int → zH → Prop}
theorem IRL.r40 {h' : zH} (i : IRL S h) (fr : ∀ c j, c ≠ 40 → h' c j = h c j) : IRL S h' := by
  refine i.mv (fun c j hz => fr c j (by unfold zn at hz; omega)) ?_
  rw [show h' 39 = h 39 from funext fun j => fr 39 j (by omega)]; exact i.z
theorem R_odds (hE : isR E) (i : IR S h) {u m : Int} (hK : ∀ h', IR S h' → K (aOdds S u m) h') : zCI E mX10_odds (d + 6) [zR 0, zI u, zI m] h K := by
  refine eX10_odds (d := d + 5) hE (fun h1 e1 => ?_)
  have i1 := i.thr e1
  have k := hK h1 i1
  have wn := i.wf.n
  unfold WfN at wn
  obtain ⟨R, hR⟩ : ∃ R : Nat, S 0 24 = R := ⟨(S 0 24).toNat, by omega⟩
  unfold aOdds at k hK
  refine X10_isUnit hE ⟨fun c => ?_, fun c => ⟨fun c2 => X10_laid hE i1 (fun h2 i2 => R_reckon hE i2 (fun h3 i3 q3 => R_many hE i3 (rkAt_rk q3) ⟨fun c3 => ?_, fun c3 => ?_⟩)), fun c2 => ?_⟩⟩
  · rw [bI_0] at c
    rwa [if_neg (fun z => c z.1)] at k
  · rw [bI_n] at c
    have hp := sPart_r (hv := S 0 57) c
    have cr := cntR_r (rk S (-1) (-1)) 8
    refine X10_part hE (by omega) (by omega) ?_
    rw [i3.q.num (j := 57) (by omega)]
    obtain ⟨M, hM⟩ : ∃ M : Nat, m = M := ⟨m.toNat, by omega⟩
    subst hM
    rw [Int.toNat_natCast] at hK
    have eo : odR S u 8 = odR S u R := by
      have : ∀ n, odR S u (R + n) = odR S u R := by
        intro n
        induction n with
        | zero => rfl
        | succ n ih =>
          rw [show R + (n + 1) = (R + n) + 1 by omega, odR, if_neg (fun z => by have := hasF_in z; omega)]
          exact ih
      rw [← this (8 - R), show R + (8 - R) = 8 by omega]
    rw [eo] at hK
    have bo := odR_b (S := S) c R
    generalize hT : suO (odR S u R) (9 - M) M = T at hK
    -- the sum
    have loop4 : ∀ h1 : zH, IRL S h1 → (∀ k, k < 9 → h1 40 k = odR S u R k) → ∀ (n j : Nat), j + n = 9 → ∀ y : Int, 0 ≤ y → y ≤ 1000000000 * j → y + suO (odR S u R) n j = T → zG E mX10_odds (d + 6) 243 [zR 0, zU, zU, zU, zI (w32 y), zI j, zU, zU] [] h1 (qI K) := by
      intro h1 i1 k1 n
      induction n with
      | zero =>
        intro j hj y y0 y1 es
        have k2 := hK h1 i1.ir
        rw [if_pos ⟨c, by omega, c3⟩, ← es] at k2
        unfold suO at k2
        rw [Int.add_zero] at k2
        exact bX10_odds_243 (d := d + 5) hE ⟨fun _ => k2, fun c => absurd (by omega) c⟩
      | succ n ih =>
        intro j hj y y0 y1 es
        have bj := bo j
        refine bX10_odds_243 (d := d + 5) hE ⟨fun c => absurd c (by omega), fun _ => ⟨nat_in (n := 9) (by omega), fun y2 e2 x3 e3 => ?_⟩⟩
        rw [Int.toNat_natCast, k1 j (by omega), w32_add_l] at e2
        rw [w_suc (by omega)] at e3
        rw [e3, e2]
        unfold suO at es
        exact ih (j + 1) (by omega) (y + odR S u R j) (by omega) (by omega) (by omega)
    -- the rings
    have loop : ∀ (n r : Nat), r + n = R → ∀ h1 : zH, IRL S h1 → (∀ k, k < 9 → h1 40 k = odR S u r k) → zG E mX10_odds (d + 6) 82 [zR 0, zI u, zI (M : Int), zI (sPart u (S 0 57)), zI r, zU, zU, zU] [] h1 (qI K) := by
      intro n
      induction n with
      | zero =>
        intro r hr h1 i1 k1
        have e : r = R := by omega
        subst e
        have g := loop4 h1 i1 k1 (9 - M) M (by omega) 0 (by omega) (by omega) (by rw [hT]; omega)
        rw [w32i (x := 0) (by omega) (by omega)] at g
        exact bX10_odds_82 (d := d + 5) hE ⟨fun _ => g, fun c => absurd (by rw [i1.q.num (j := 24) (by omega)]; omega) c⟩
      | succ n ih =>
        intro r hr h1 i1 k1
        have nx := ih (r + 1) (by omega)
        unfold odR at nx
        have hrR : (r : Int) < S 0 24 := by omega
        have hr8 := i.wf.r8 hrR
        refine bX10_odds_82 (d := d + 5) hE ⟨fun c => absurd c (by rw [i1.q.num (j := 24) (by omega)]; omega), fun _ => X10_hasFit hE hr8 (i1.sh r hrR) ⟨fun c4 => ?_, fun c4 y ey => ?_⟩⟩
        · rw [ne_eq, bI_n] at c4
          have hf : hasF S r := c4
          have sz := szB_r i.wf hf
          rw [if_pos hf] at nx
          refine X10_sizeOf hE hr8 (i1.sh r hrR) hf (X10_sizeOf hE hr8 (i1.sh r hrR) hf ⟨by omega, fun x6 e6 => ?_⟩)
          have nor := nO_r (S := S) c r
          have eK : nO S u r = nOn (nrK S u r) (sPart u (S 0 57)).toNat := rfl
          have em := Int.emod_nonneg (szB (sLs S (sNk S) r) (sG S) (sH S)) (show sPart u (S 0 57) ≠ 0 by omega)
          have em2 := emod_le_self (v := sPart u (S 0 57)) sz.1 (by omega)
          have enr : ∀ k : Nat, nrK S u r k = sNear S (S 0 57) u (szB (sLs S (sNk S) r) (sG S) (sH S) - szB (sLs S (sNk S) r) (sG S) (sH S) % sPart u (S 0 57) + k) ((sLs S (sNk S) r).length : Int) ((bsL (sLs S (sNk S) r) (sG S) (sH S) / 4 : Nat) : Int) := fun _ => rfl
          rw [Int.tmod_eq_emod_of_nonneg sz.1, w32i (x := szB (sLs S (sNk S) r) (sG S) (sH S) % sPart u (S 0 57)) (by omega) (by omega), w32i (by omega) (by omega)] at e6
          rw [← e6] at enr
          have hx6 : 0 ≤ x6 ∧ x6 ≤ 1000000 := by omega
          have bor := odR_b (S := S) c r
          generalize hf0 : odR S u r = f at nx bor k1
          generalize sPart u (S 0 57) = v at hp em em2 e6 eK nor nx ⊢
          obtain ⟨V, hV⟩ : ∃ V : Nat, v = V := ⟨v.toNat, by omega⟩
          subst hV
          rw [Int.toNat_natCast] at eK
          -- the spread
          have loop3 : ∀ (m : Nat), m ≤ 9 → ∀ h2 : zH, IRL S h2 → (∀ k, k < 9 → h2 40 k = if m ≤ k then spO f (nO S u r) V k else f k) → zG E mX10_odds (d + 6) 167 [zR 0, zI u, zI (M : Int), zI (V : Int), zI r, zU, zI (nO S u r), zI ((m : Int) - 1)] [] h2 (qI K) := by
            intro m
            induction m with
            | zero =>
              intro _ h2 i2 k2
              refine bX10_odds_167 (d := d + 5) hE ⟨fun _ y ey => ?_, fun c => absurd (by omega) c⟩
              rw [w_suc (by omega)] at ey
              rw [ey]
              refine nx h2 i2 (fun k hk => ?_)
              rw [k2 k hk, if_pos (by omega)]
            | succ m ih3 =>
              intro hm h2 i2 k2
              have sp := spO_p bor nor (by omega) hp.2 m
              have m1 := mul_bd (bor m) (o := V - nO S u r) (v := V) (by omega) hp.2
              have m2 := mul_bd (bor (m - 1)) nor hp.2
              have em : ((m + 1 : Nat) : Int) - 1 = (m : Int) := by omega
              rw [em]
              have ek : h2 40 m = f m := by rw [k2 m (by omega), if_neg (by omega)]
              have step : ∀ (v2 : Int) (h4 : zH) (x5 : Int), v2 = spO f (nO S u r) V m → h4 = hset h2 40 m v2 → x5 = w32 ((m : Int) + (-1)) → zG E mX10_odds (d + 6) 167 [zR 0, zI u, zI (M : Int), zI (V : Int), zI r, zU, zI (nO S u r), zI x5] [] h4 (qI K) := by
                intro v2 h4 x5 ev e4 e5
                rw [w32i (by omega) (by omega)] at e5
                rw [e5, show (m : Int) + -1 = (m : Int) - 1 by omega]
                refine ih3 (by omega) h4 (i2.r40 (fun c j n => by rw [e4, hset_ne (by omega)])) (fun k hk9 => ?_)
                by_cases z : k = m
                · subst z
                  rw [e4, hset_eq, if_pos (by omega)]; exact ev
                · rw [e4, hset_ne (by omega), k2 k hk9]
                  by_cases z2 : m ≤ k
                  · rw [if_pos (by omega), if_pos z2]
                  · rw [if_neg (by omega), if_neg z2]
              refine bX10_odds_167 (d := d + 5) hE ⟨fun c => absurd c (by omega), fun _ => ?_⟩
              rw [Int.toNat_natCast, ek, w32i (x := (V : Int) - nO S u r) (by omega) (by omega), w64i (x := f m * ((V : Int) - nO S u r)) (by omega) (by omega), Int.tdiv_eq_ediv_of_nonneg m1.1, w64i (x := f m * ((V : Int) - nO S u r) / V) (by omega) (by omega), w32i (x := f m * ((V : Int) - nO S u r) / V) (by omega) (by omega)]
              refine ⟨nat_in (n := 9) (by omega), by omega, fun c5 => ⟨nat_in (n := 9) (by omega), fun h4 e4 x5 e5 => step _ h4 x5 ?_ e4 e5⟩, fun c5 => ?_⟩
              · rw [w32i (by omega) (by omega)]
                unfold spO
                rw [if_pos (by omega)]
              · have ew : w32 ((m : Int) - 1) = ((m - 1 : Nat) : Int) := by rw [w32i (by omega) (by omega)]; omega
                have ek1 : h2 40 (m - 1) = f (m - 1) := by rw [k2 (m - 1) (by omega), if_neg (by omega)]
                rw [ew, Int.toNat_natCast, ek1, w64i (x := f (m - 1) * nO S u r) (by omega) (by omega), Int.tdiv_eq_ediv_of_nonneg m2.1, w64i (x := f (m - 1) * nO S u r / V) (by omega) (by omega), w32i (x := f (m - 1) * nO S u r / V) (by omega) (by omega), w32i (by omega) (by omega)]
                refine ⟨nat_in (n := 9) (by omega), by omega, nat_in (n := 9) (by omega), fun h4 e4 x5 e5 => step _ h4 x5 ?_ e4 e5⟩
                unfold spO
                rw [if_neg (by omega)]
          -- the count
          have loop2 : ∀ (m k : Nat), k + m = V → ∀ h2 : zH, IRL S h2 → (∀ j, h2 40 j = h1 40 j) → zG E mX10_odds (d + 6) 126 [zR 0, zI u, zI (M : Int), zI (V : Int), zI r, zI x6, zI (nOn (nrK S u r) k), zI k] [] h2 (qI K) := by
            intro m
            induction m with
            | zero =>
              intro k hk h2 i2 k2
              have e : k = V := by omega
              subst e
              rw [← eK]
              exact bX10_odds_126 (d := d + 5) hE ⟨fun _ => loop3 9 (by omega) h2 i2 (fun k hk => by rw [if_neg (by omega), k2 k]; exact k1 k hk), fun c => absurd (Int.le_refl _) c⟩
            | succ m ih2 =>
              intro k hk h2 i2 k2
              have n2 := ih2 (k + 1) (by omega)
              unfold nOn at n2
              have nr := nOn_r (nrK S u r) k
              rw [enr k] at n2
              refine bX10_odds_126 (d := d + 5) hE ⟨fun c => absurd c (by omega), fun _ => ?_⟩
              rw [w32i (x := x6 + (k : Int)) (by omega) (by omega)]
              refine R_isNear hE i2 hf (by omega) (by omega) c (fun h4 i4 fr4 => ⟨fun c5 y ey z ez => ?_, fun c5 y ey z ez => ?_⟩)
              · rw [bI_0] at c5
                rw [w_suc (by omega)] at ez
                rw [w32i (by omega) (by omega), Int.add_zero] at ey
                rw [ey, ez]
                rw [if_neg c5] at n2
                exact n2 h4 i4 (fun j => (fr4 40 j (by omega) (by omega) (by omega)).trans (k2 j))
              · rw [bI_n] at c5
                rw [w_suc (by omega)] at ez
                rw [w32i (by omega) (by omega)] at ey
                rw [ey, ez]
                rw [if_pos c5] at n2
                exact n2 h4 i4 (fun j => (fr4 40 j (by omega) (by omega) (by omega)).trans (k2 j))
          exact loop2 V 0 (by omega) h1 i1 (fun _ => rfl)
        · rw [ne_eq, bI_n] at c4
          rw [w_suc (by omega)] at ey
          rw [ey]
          rw [if_neg c4] at nx
          exact nx h1 i1 k1
    have loop0 : ∀ (n j : Nat), j + n = 9 → ∀ h1 : zH, IRL S h1 → (∀ k, k < j → h1 40 k = odR S u 0 k) → zG E mX10_odds (d + 6) 47 [zR 0, zI u, zI (M : Int), zI (sPart u (S 0 57)), zI j, zU, zU, zU] [] h1 (qI K) := by
      intro n
      induction n with
      | zero =>
        intro j hj h1 i1 k1
        exact bX10_odds_47 (d := d + 5) hE ⟨fun _ => loop R 0 (by omega) h1 i1 (fun k hk => k1 k (by omega)), fun c => absurd (by omega) c⟩
      | succ n ih =>
        intro j hj h1 i1 k1
        have step : ∀ (v : Int) (h4 : zH) (x : Int), v = odR S u 0 j → h4 = hset h1 40 j v → x = w32 ((j : Int) + 1) → zG E mX10_odds (d + 6) 47 [zR 0, zI u, zI (M : Int), zI (sPart u (S 0 57)), zI x, zU, zU, zU] [] h4 (qI K) := by
          intro v h4 x ev e4 ex
          rw [w_suc (by omega)] at ex
          rw [ex]
          refine ih (j + 1) (by omega) h4 (i1.r40 (fun c j n => by rw [e4, hset_ne (by omega)])) (fun k hk => ?_)
          by_cases z : k = j
          · subst z; rw [e4, hset_eq]; exact ev
          · rw [e4, hset_ne (by omega)]; exact k1 k (by omega)
        refine bX10_odds_47 (d := d + 5) hE ⟨fun c => absurd c (by omega), fun _ => ⟨fun c4 => ⟨nat_in (n := 9) (by omega), ?_⟩, fun c4 => ⟨nat_in (n := 9) (by omega), ?_⟩⟩⟩
        · rw [Int.toNat_natCast]
          exact fun h4 e4 x ex => step 0 h4 x (by unfold odR; rw [if_neg (by omega)]) e4 ex
        · rw [Int.toNat_natCast]
          exact fun h4 e4 x ex => step 1000000000 h4 x (by unfold odR; rw [if_pos (by omega)]) e4 ex
    exact loop0 9 0 rfl h3 i3 (fun k hk => absurd hk (by omega))
  · have k3 := hK h3 i3.ir
    rwa [if_neg (by omega)] at k3
  · rwa [if_neg (by omega)] at k
end TOdds3
