/-! ===== topic: chosen, odds ===== -/
section TOdds
variable {E : zE} {d : Nat} {h : zH} {S : zH} {K : Int → zH → Prop}
theorem loS_ne {P : Nat → Bool} {g : Nat → Int} {b : Nat} (hb : P b = true) : ∀ n, b < n → loS P g n ≠ -1
  | n + 1, hn => by
    unfold loS
    by_cases p : P n = true
    · rw [if_pos p]
      by_cases q : loS P g n = -1
      · rw [if_pos q]; omega
      · rw [if_neg q]
        split
        · exact q
        · omega
    · rw [if_neg p]
      have : b ≠ n := fun e => p (e ▸ hb)
      exact loS_ne hb n (by omega)
def chS (S : zH) (v : Int) (r : Nat) : Int := loS (wlP (sLs S (sNk S) r) (sG S) (sH S) (S 0 31)) (fun f => sOff (szF (sLs S (sNk S) r) (sG S) (sH S) f) v) 12
def chF (S : zH) (v : Int) (r : Nat) : Int := if hasF S r then szF (sLs S (sNk S) r) (sG S) (sH S) (chS S v r).toNat else -1
def chO (S : zH) (v : Int) : Nat → Int
  | 0 => 0
  | n + 1 => if hasF S n ∧ chS S v n ≠ (bsL (sLs S (sNk S) n) (sG S) (sH S) : Int) then chO S v n + 1 else chO S v n
theorem chO_r (v : Int) : ∀ n : Nat, 0 ≤ chO S v n ∧ chO S v n ≤ n
  | 0 => by unfold chO; omega
  | n + 1 => by
    have := chO_r v n
    unfold chO
    split <;> omega
theorem chS_ok (w : WfS S) (v : Int) (r : Nat) : ∃ k : Nat, chS S v r = k ∧ okF k := by
  have hb := wlP_best (sLs S (sNk S) r) (sG S) (sH S) w.sl.1
  have ne := loS_ne (g := fun f => sOff (szF (sLs S (sNk S) r) (sG S) (sH S) f) v) hb 12 (bs_lt _ _ _)
  rcases loS_in (wlP (sLs S (sNk S) r) (sG S) (sH S) (S 0 31)) (fun f => sOff (szF (sLs S (sNk S) r) (sG S) (sH S) f) v) 12 with e | ⟨k, e, _, p⟩
  · exact absurd e ne
  · refine ⟨k, e, ?_⟩
    unfold wlP at p
    rw [decide_eq_true_iff] at p
    exact p.1
theorem chF_ok (w : WfS S) (v : Int) : szOk (chF S v) := by
  intro r
  unfold chF
  split
  · rename_i z
    have := szF_r (w.pt (w.r8 (hasF_in z))) z w.g9 w.h20 (chS S v r).toNat
    right; omega
  · left; rfl
def aChosen (S : zH) (u w : Int) : Int := if isU u ∧ 0 ≤ w ∧ w ≤ 1 then (if w = 0 then lumpsR (chF S (sPart u (S 0 57))) (sPart u (S 0 57)) 8 else chO S (sPart u (S 0 57)) 8) else -1
theorem SizesAt.q {h' : zH} {l : List Int} (s : SizesAt h 76 l) (fr : frQ 52 h h') : SizesAt h' 76 l := ⟨by rw [fr _ _ (by omega)]; exact s.1, s.2.1, fun k x hk => by rw [fr _ _ (by omega)]; exact s.2.2 k x hk⟩
theorem ICb.sz {h' : zH} {b : Nat} (i : ICb S h b) (fr : ∀ c j, ¬ ((c = 76 ∧ j = 1) ∨ c = 77) → h' c j = h c j) : ICb S h' b :=
  i.mvC (fun c j n1 n2 n3 n4 n5 n6 => fr c j (by omega)) (i.fi.sm (fun c j a1 a2 => fr c j (by omega)))
theorem X0_shapeLeastOff_no (hE : isC E) {q : Nat} (hq : isFi E q) {L : Nat → List (Int × Int)} {G H : Nat} (hF : FiW h q L G H) {x t u : Int} (ht0 : 0 ≤ t) (ht : t ≤ 100000) (nf : ¬ fitd L x) (hK : K (-1) h) : zCI E mX0_shapeLeastOff (d + 6) [zR q, zI x, zI t, zI u] h K := by
  refine eX0_shapeLeastOff (d := d + 5) hE hq (X0_shapesAsWell hE hq hF ht0 ht (fun _ => ?_) (fun r' er h8 h3 h' fr hw ca => absurd ⟨by omega, by omega, by rw [er, Int.toNat_natCast]; exact h3⟩ nf))
  have loop : ∀ (m f : Nat), f + m = 12 → ∀ y : Int, zG E mX0_shapeLeastOff (d + 6) 17 [zR q, zI x, zU, zI u, zI 0, zI (-1), zI y, zI f, zU] [] h (qI K) := by
    intro m
    induction m with
    | zero =>
      intro f hf y
      exact bX0_shapeLeastOff_17 (d := d + 5) hE hq ⟨fun _ => hK, fun c => absurd (by omega) c⟩
    | succ m ih =>
      intro f hf y
      have eb : zand (zshr 0 (f : Int)) 1 = 0 := by
        have := zbit_wl (b := 0) (f := f) (by omega) (by omega)
        rw [Nat.zero_div] at this
        exact this
      refine bX0_shapeLeastOff_17 (d := d + 5) hE hq ⟨fun c => absurd c (by omega), fun _ => ⟨fun c => absurd eb c, fun _ v ev => ?_⟩⟩
      rw [w_suc (by omega)] at ev
      rw [ev]
      exact ih (f + 1) (by omega) y
  exact loop 12 0 rfl 0
theorem C_chosen (hE : isC E) (i : IC S h) {u w : Int} (hK : ∀ h', IC S h' → K (aChosen S u w) h') : zCI E mX9_chosen (d + 7) [zR 0, zI u, zI w] h K := by
  have k := hK h i
  obtain ⟨b, i⟩ := i
  have su := su_b hE i.hb
  have sl := i.wf.sl
  unfold aChosen at k hK
  refine eX9_chosen (d := d + 6) hE su (X9_isUnit hE ⟨fun c => ?_, fun c => X9_isBeyond hE ⟨fun c2 => ?_, fun c2 => ?_⟩⟩)
  · rw [bI_0] at c
    rwa [if_neg (fun z => c z.1)] at k
  · rw [bI_n] at c
    rw [bI_0] at c2
    have hp := sPart_r (hv := S 0 57) c
    rw [i.hv]
    refine X9_placesOf hE (by omega) (by omega) (fun h1 e1 => ?_)
    generalize hvv : sPart u (S 0 57) = v at hp hK
    have fo := chF_ok i.wf v
    have loop : ∀ (m r : Nat), r + m = 8 → ∀ h1 : zH, ICb S h1 b → SizesAt h1 76 (cmpL (chF S v) r) → zG E mX9_chosen (d + 7) 41 [zR 0, zU, zI w, zI v, zI (chO S v r), zI r, zU, zU] [] h1 (qI K) := by
      intro m
      induction m with
      | zero =>
        intro r hr h1 i1 s1
        have e : r = 8 := by omega
        subst e
        have k1 := hK h1 i1.ic
        rw [if_pos ⟨c, by omega, by omega⟩] at k1
        refine bX9_chosen_41 (d := d + 6) hE su ⟨fun _ => ⟨fun c3 => ?_, fun c3 => C_sum hE fo s1 (by omega) (by omega) ?_⟩, fun c => absurd (by decide) c⟩
        · rwa [if_neg c3] at k1
        · rwa [if_pos (by omega)] at k1
      | succ m ih =>
        intro r hr h1 i1 s1
        have nx := ih (r + 1) (by omega)
        unfold chO cmpL at nx
        have cr := chO_r (S := S) v r
        have ln := cmpL_ln (chF S v) r
        refine bX9_chosen_41 (d := d + 6) hE su ⟨fun c => absurd c (by omega), fun _ => ⟨i1.tld, ?_⟩⟩
        rw [i1.sv.sl]
        by_cases hf : hasF S r
        · have hfd : fitd (sLs S (sNk S)) (r : Int) := ⟨by omega, by omega, by rw [Int.toNat_natCast]; exact hf⟩
          have efr : chF S v r = szF (sLs S (sNk S) r) (sG S) (sH S) (chS S v r).toNat := if_pos hf
          obtain ⟨kk, ek, ok⟩ := chS_ok i.wf v r
          have zz := szF_r (i.wf.pt (show r < 8 by omega)) hf i.wf.g9 i.wf.h20 (chS S v r).toNat
          refine X0_shapeLeastOff hE (fi_52 hE) i1.fw sl.1 sl.2 (by omega) (by omega) rfl (by omega) hf (fun h2 fr2 hw2 ca2 => ?_)
          change zCI E mX0_fitAt (d + 6) [zR 52, zI r, zI (chS S v r)] h2 _
          refine X0_fitAt hE (fi_52 hE) hw2 (fun nf => absurd ⟨hfd, by omega⟩ nf) (fun r3 f3 er3 ef3 _ hf3 _ h3 fr3 hw3 ca3 => ?_)
          have e3 : r3 = r := by omega
          subst e3
          have ef : f3 = (chS S v r3).toNat := by omega
          have a1 := ca3.af hf3
          have i3 := (i1.mvQ fr2 hw2).mvQ fr3 hw3
          refine ⟨fun _ => ⟨nat_in (n := 96) (by omega), ?_⟩, fun c => absurd (by omega) c⟩
          rw [Int.toNat_natCast, show h3 59 (r3 * 12 + f3) = chF S v r3 by rw [efr, ← ef]; exact a1.2]
          refine X7_put hE (si_76 hE) ((s1.q fr2).q fr3) (by omega) (fun h4 fr4 s4 => ?_)
          have i4 := i3.sz fr4
          refine X0_bestShape hE (fi_52 hE) i4.fw (fun nf => absurd hfd nf) (fun r5 e5 _ _ h5 fr5 hw5 _ => ?_)
          have e5' : r5 = r3 := by omega
          subst e5'
          have i5 := i4.mvQ fr5 hw5
          rw [if_neg (by omega)] at nx
          change (chS S v r5 = _ → _) ∧ (¬ (chS S v r5 = _) → _)
          refine ⟨fun c3 y ey => ?_, fun c3 y ey z ez => ?_⟩
          · rw [w_suc (by omega)] at ey
            rw [ey]
            rw [if_neg (fun z => z.2 c3)] at nx
            exact nx h5 i5 (s4.q fr5)
          · rw [w_suc (by omega)] at ez
            rw [w32i (by omega) (by omega)] at ey
            rw [ey, ez]
            rw [if_pos ⟨hf, c3⟩] at nx
            exact nx h5 i5 (s4.q fr5)
        · have nfd : ¬ fitd (sLs S (sNk S)) (r : Int) := fun z => hf (by have := z.2.2; rwa [Int.toNat_natCast] at this)
          refine X0_shapeLeastOff_no hE (fi_52 hE) i1.fw sl.1 sl.2 nfd (X0_fitAt hE (fi_52 hE) i1.fw (fun _ => ⟨fun c => absurd rfl c, fun _ y ey => ?_⟩) (fun r3 f3 er3 ef3 h8 hf3 h33 h3 fr3 hw3 ca3 => absurd ⟨by omega, by omega, by rw [er3, Int.toNat_natCast]; exact h33⟩ nfd))
          rw [w_suc (by omega)] at ey
          rw [ey]
          have efr : chF S v r = -1 := if_neg hf
          rw [if_pos efr, if_neg (fun z => hf z.1)] at nx
          exact nx h1 i1 s1
    refine loop 8 0 rfl h1 (i.sz (fun c j n => by rw [e1, hset_ne (by omega)])) ⟨by rw [e1, hset_eq]; rfl, Nat.zero_le 8, fun k x hk => absurd hk (by intro z; cases z)⟩
  · rw [bI_n] at c2
    rwa [if_neg (by omega)] at k
theorem IRL.set39 (i : IRL S h) {r : Nat} {v : Int} (hv : v = -1 ∨ (0 ≤ v ∧ v < 1000000000)) : IRL S (hset h 39 r v) := by
  refine i.mv (fun c j hz => by rw [hset_ne (by unfold zn at hz; omega)]) (fun j => ?_)
  by_cases z : j = r
  · rw [z, hset_eq]; exact hv
  · rw [hset_ne (by omega)]; exact i.z j
theorem R_chosen (hE : isR E) (i : IR S h) {u w : Int} (hK : ∀ h', IR S h' → K (aChosen S u w) h') : zCI E mX10_chosen (d + 6) [zR 0, zI u, zI w] h K := by
  refine eX10_chosen (d := d + 5) hE (fun h1 e1 => ?_)
  have i1 := i.thr e1
  have k := hK h1 i1
  have wn := i.wf.n
  unfold WfN at wn
  have sl := i.wf.sl
  obtain ⟨R, hR⟩ : ∃ R : Nat, S 0 24 = R := ⟨(S 0 24).toNat, by omega⟩
  unfold aChosen at k hK
  refine X10_isUnit hE ⟨fun c => ?_, fun c => ⟨fun c2 => ?_, fun c2 => ⟨fun c3 => X10_laid hE i1 (fun h2 i2 => X10_part hE (by rw [bI_n] at c; omega) (by rw [bI_n] at c; omega) ?_), fun c3 => ?_⟩⟩⟩
  · rw [bI_0] at c
    rwa [if_neg (fun z => c z.1)] at k
  · rwa [if_neg (by omega)] at k
  · rw [bI_n] at c
    have hp := sPart_r (hv := S 0 57) c
    rw [i2.q.num (j := 57) (by omega)]
    have eo : ∀ v, chO S v 8 = chO S v R := by
      intro v
      have : ∀ m, chO S v (R + m) = chO S v R := by
        intro m
        induction m with
        | zero => rfl
        | succ m ih =>
          rw [show R + (m + 1) = (R + m) + 1 by omega, chO, if_neg (fun z => by have := hasF_in z.1; omega)]
          exact ih
      rw [← this (8 - R), show R + (8 - R) = 8 by omega]
    have fo := chF_ok i.wf (sPart u (S 0 57))
    have loop : ∀ (m r : Nat), r + m = R → ∀ h1 : zH, IRL S h1 → (∀ r', r' < r → h1 39 r' = chF S (sPart u (S 0 57)) r') → zG E mX10_chosen (d + 6) 39 [zR 0, zI u, zI w, zI (sPart u (S 0 57)), zI (chO S (sPart u (S 0 57)) r), zI r, zU, zU] [] h1 (qI K) := by
      intro m
      induction m with
      | zero =>
        intro r hr h1 i1 q1
        have e : r = R := by omega
        subst e
        have k1 := hK h1 i1.ir
        rw [if_pos ⟨c, by omega, by omega⟩, eo] at k1
        refine bX10_chosen_39 (d := d + 5) hE ⟨fun _ => ⟨fun c4 => ?_, fun c4 => R_lumpsOf hE i1 (f := chF S (sPart u (S 0 57))) ⟨fun r' hr' => q1 r' (by omega), fun r' hr' => if_neg (fun z => by have := hasF_in z; omega)⟩ c ?_⟩, fun c => absurd (by rw [i1.q.num (j := 24) (by omega)]; omega) c⟩
        · rwa [if_neg c4] at k1
        · rwa [if_pos (by omega)] at k1
      | succ m ih =>
        intro r hr h1 i1 q1
        have hrR : (r : Int) < S 0 24 := by omega
        have hr8 := i.wf.r8 hrR
        have nx := ih (r + 1) (by omega)
        unfold chO at nx
        have cr := chO_r (S := S) (sPart u (S 0 57)) r
        refine bX10_chosen_39 (d := d + 5) hE ⟨fun c => absurd c (by rw [i1.q.num (j := 24) (by omega)]; omega), fun _ => ⟨nat_in (n := 8) hr8, fun h4 e4 => ?_⟩⟩
        rw [Int.toNat_natCast] at e4
        have i4 : IRL S h4 := by rw [e4]; exact i1.set39 (Or.inl rfl)
        have hS := i4.sh r hrR
        refine X10_hasFit hE hr8 hS ⟨fun c4 => ?_, fun c4 y ey => ?_⟩
        · rw [ne_eq, bI_n] at c4
          have hf : hasF S r := c4
          have efr : chF S (sPart u (S 0 57)) r = szF (sLs S (sNk S) r) (sG S) (sH S) (chS S (sPart u (S 0 57)) r).toNat := if_pos hf
          obtain ⟨kk, ek, ok⟩ := chS_ok i.wf (sPart u (S 0 57)) r
          have hz : ∀ k, 0 ≤ szF (sLs S (sNk S) r) (sG S) (sH S) k := fun k => (szF_r (i.wf.pt hr8) hf i.wf.g9 i.wf.h20 k).1
          have hzz := fo r
          have ec : chS S (sPart u (S 0 57)) r = loS (wlP (sLs S (sNk S) r) (sG S) (sH S) (S 0 31)) (fun f => sOff (szF (sLs S (sNk S) r) (sG S) (sH S) f) (sPart u (S 0 57))) 12 := rfl
          generalize sPart u (S 0 57) = v at nx hp q1 cr efr ek ec hzz
          generalize hg : (fun f => sOff (szF (sLs S (sNk S) r) (sG S) (sH S) f) v) = g at ec
          have eg : ∀ f, sOff (szF (sLs S (sNk S) r) (sG S) (sH S) f) v = g f := fun f => congrFun hg f
          have lp : ∀ (m f : Nat), f + m = 12 → zG E mX10_chosen (d + 6) 74 [zR 0, zI u, zI w, zI v, zI (chO S v r), zI r, zI (loS (wlP (sLs S (sNk S) r) (sG S) (sH S) (S 0 31)) g f), zI f] [] h4 (qI K) := by
            intro m
            induction m with
            | zero =>
              intro f hf12
              have e : f = 12 := by omega
              subst e
              rw [← ec, ek]
              refine bX10_chosen_74 (d := d + 5) hE ⟨fun _ => ?_, fun c => absurd (by decide) c⟩
              rw [w_xi12 (by omega) (by omega), Int.toNat_natCast, Int.toNat_natCast]
              refine ⟨nat_in (n := 96) (by omega), nat_in (n := 8) hr8, fun h5 e5 => ⟨nat_in (n := 8) hr8, ?_⟩⟩
              rw [(hS.2.2 hf kk ok).1, show 2 * (shF (sLs S (sNk S) r) (sG S) (sH S) kk).2.1 = chF S v r by rw [efr, ek, Int.toNat_natCast]; rfl] at e5
              have i5 : IRL S h5 := by rw [e5]; exact i4.set39 hzz
              have e35 : h5 35 r = (bsL (sLs S (sNk S) r) (sG S) (sH S) : Int) := by rw [e5, hset_ne (by omega), hS.2.1, if_pos hf]
              have q5 : ∀ r', r' < r + 1 → h5 39 r' = chF S v r' := by
                intro r' hr'
                by_cases z : r' = r
                · subst z; rw [e5, hset_eq]
                · rw [e5, hset_ne (by omega), e4, hset_ne (by omega)]; exact q1 r' (by omega)
              rw [e35]
              refine ⟨fun c5 y ey z ez => ?_, fun c5 y ey z ez => ?_⟩
              · rw [w_suc (by omega)] at ez
                rw [w32i (by omega) (by omega), Int.add_zero] at ey
                rw [ey, ez]
                rw [if_neg (fun z => z.2 (by rw [ek]; exact c5))] at nx
                exact nx h5 i5 q5
              · rw [w_suc (by omega)] at ez
                rw [w32i (by omega) (by omega)] at ey
                rw [ey, ez]
                rw [if_pos ⟨hf, by rw [ek]; exact c5⟩] at nx
                exact nx h5 i5 q5
            | succ m ih2 =>
              intro f hf12
              have n2 := ih2 (f + 1) (by omega)
              have lin := loS_in (wlP (sLs S (sNk S) r) (sG S) (sH S) (S 0 31)) g f
              unfold loS at n2
              refine bX10_chosen_74 (d := d + 5) hE ⟨fun c => absurd c (by omega), fun _ => X10_isWell hE hr8 hS hf (i.wf.pt hr8) i.wf.g9 i.wf.h20 (i4.q.num (by omega)) sl.1 sl.2 (by omega) ⟨fun c5 y ey => ?_, fun c5 => ?_⟩⟩
              · rw [bI_0] at c5
                rw [w_suc (by omega)] at ey
                rw [ey]
                rwa [if_neg c5] at n2
              · rw [bI_n] at c5
                have okf : okF f := by
                  have p := c5
                  unfold wlP at p
                  rw [decide_eq_true_iff] at p
                  exact p.1
                rw [if_pos c5] at n2
                refine ⟨fun c6 y ey => ?_, fun c6 => ?_⟩
                · rw [w_suc (by omega)] at ey
                  rw [ey]
                  rwa [if_pos c6] at n2
                · obtain ⟨k2, ek2, hk2, pk2⟩ := lin.resolve_left c6
                  have ok2 : okF k2 := by
                    unfold wlP at pk2
                    rw [decide_eq_true_iff] at pk2
                    exact pk2.1
                  rw [if_neg c6] at n2
                  rw [ek2] at n2 ⊢
                  rw [w_xi12 (by omega) (by omega), w_xi12 (by omega) (by omega), Int.toNat_natCast, Int.toNat_natCast, (hS.2.2 hf f okf).1]
                  rw [Int.toNat_natCast] at n2
                  refine ⟨nat_in (n := 96) (by omega), X10_offBy hE (hz f) (by omega) (by omega) ⟨nat_in (n := 96) (by omega), ?_⟩⟩
                  rw [(hS.2.2 hf k2 ok2).1]
                  refine X10_offBy hE (hz k2) (by omega) (by omega) ?_
                  change (sOff (szF (sLs S (sNk S) r) (sG S) (sH S) k2) v ≤ sOff (szF (sLs S (sNk S) r) (sG S) (sH S) f) v → _) ∧ (¬ (sOff (szF (sLs S (sNk S) r) (sG S) (sH S) k2) v ≤ sOff (szF (sLs S (sNk S) r) (sG S) (sH S) f) v) → _)
                  rw [eg, eg]
                  refine ⟨fun c7 y ey => ?_, fun c7 y ey => ?_⟩
                  · rw [w_suc (by omega)] at ey
                    rw [ey]
                    rwa [if_pos c7] at n2
                  · rw [w_suc (by omega)] at ey
                    rw [ey]
                    rwa [if_neg c7] at n2
          exact lp 12 0 rfl
        · rw [ne_eq, bI_n] at c4
          have hf : ¬ hasF S r := c4
          rw [w_suc (by omega)] at ey
          rw [ey]
          rw [if_neg (fun z => hf z.1)] at nx
          refine nx h4 i4 (fun r' hr' => ?_)
          by_cases z : r' = r
          · subst z; rw [e4, hset_eq]; exact (if_neg hf).symm
          · rw [e4, hset_ne (by omega)]; exact q1 r' (by omega)
    exact loop R 0 (by omega) h2 i2 (fun r' hr' => absurd hr' (by omega))
  · rwa [if_neg (by omega)] at k
end TOdds
