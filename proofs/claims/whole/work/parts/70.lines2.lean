/-! ===== topic: ways and sayings of the class ===== -/
section TLines2
variable {E : zE} {d : Nat} {h : zH} {T : zH} {K : Int → zH → Prop}
theorem L_way (hE : isC E) {B : Nat → Int} {n q b : Nat} (a : AtC h B n q) (hb : b = 8 ∨ b = 27) (p : PvC T h b) (w : WfP T) (h0 : ∀ f, pWay B n T q = .inl f → ∀ h', frP b h h' → BdC h' b → FlC h' f → K 0 h') (h1 : ∀ r, pWay B n T q = .inr r → ∀ h', frP b h h' → PvC r.1 h' b → AtC h' B n r.2 → K 1 h') : zCI E mX4_readWay (d + 3) [zR 2, zR b] h K := by
  have su := su_b hE hb
  have wn := w.1
  obtain ⟨W, hW⟩ : ∃ W : Nat, T 0 25 = W := ⟨(T 0 25).toNat, by omega⟩
  have hWn : (T 0 25).toNat = W := by omega
  unfold pWay at h0 h1
  rw [hWn] at h0 h1
  refine eX4_readWay (d := d + 2) hE su (C_head hE a su.2.2.2.2.1 p.1.wa (by omega) (by omega) (by omega) (mx := 5) rfl (fun f ef h' fr fl => ⟨fun z => absurd rfl z, fun _ => h0 f (xB_l ef) h' (frP.m fr) (p.m hb fr).2.2.1 fl⟩) (fun v ev lt h2 fr2 e1 e2 a2 e5 => ⟨fun _ x3 ex3 => ?_, fun z => absurd (by decide) z⟩))
  rw [xB_r ev] at h0 h1
  rw [e5, hW, w32i (by omega) (by omega), show (W : Int) * 7 = ((7 * W : Nat) : Int) by omega] at ex3
  rw [ex3, w32i (x := ((7 * W : Nat) : Int) + 7) (by omega) (by omega)]
  refine ⟨fun z => absurd z (by omega), fun _ => ⟨fun _ => ?_, fun z => absurd (by omega) z⟩⟩
  rw [hWn] at fr2 e2
  have bd2 : BdC h2 b := p.2.2.1.mv (fun j => fr2 _ _ (by omega) (by omega) (by omega) (by omega))
  have frp2 : frP b h h2 := fun c j n1 n2 n3 n4 n5 => fr2 c j n1 n2 (by omega) (by omega)
  -- the first number
  refine bX4_readWay_41 (d := d + 2) hE su ⟨fun z => absurd z (by decide), fun _ => ⟨fun z => absurd rfl z, fun _ => bX4_readWay_57 (d := d + 2) hE su (C_num hE a2 (by omega) (by omega) (fun f ef h' fr fl => ⟨fun z => absurd rfl z, fun _ => h0 f (xB_l ef) h' (frp2.tr (frP.m fr)) (bd2.mv (fun j => fr _ _ (by omega) (by omega))) fl⟩) (fun c ec h3 fr3 a3 e3 => ⟨fun _ => ?_, fun z => absurd (by decide) z⟩))⟩⟩
  rw [xB_r ec] at h0 h1
  have ei : ∀ i : Nat, i < 7 → w32 (((7 * W : Nat) : Int) + (i : Int)) = ((7 * W + i : Nat) : Int) := fun i hi => by rw [w32i (by omega) (by omega)]; omega
  have ei0 : w32 (((7 * W : Nat) : Int) + 0) = ((7 * W : Nat) : Int) := ei 0 (by omega)
  rw [ei0, Int.toNat_natCast, e3]
  refine ⟨nat_in (n := 35) (by omega), fun h4 e4 y ey => ?_⟩
  rw [w32i (by omega) (by omega)] at ey
  rw [ey]
  generalize hT1 : hset (hset T 12 W v.1) 13 W c.1 = T1 at h0 h1
  have fr4 : ∀ c' j, ¬ (c' = 3 ∧ 3 ≤ j ∧ j ≤ 6) → ¬ (c' = 2 ∧ (j = 2 ∨ j = 3 ∨ j = 5)) → ¬ (c' = b + 5 ∧ j = 1) → ¬ (c' = b + 6 ∧ j = W) → ¬ (c' = b + 12 ∧ 7 * W ≤ j ∧ j < 7 * W + 7) → h4 c' j = h c' j := fun c' j n1 n2 n3 n4 n5 => by
    rw [e4, hset_ne (by omega), fr3 c' j n1 n2]
    exact fr2 c' j n1 n2 n3 (by omega)
  have loop : ∀ (m i : Nat), i + m = 6 → ∀ (q' : Nat) (Tc : zH) (h5 : zH), AtC h5 B n q' → (∀ c' j, ¬ (c' = 3 ∧ 3 ≤ j ∧ j ≤ 6) → ¬ (c' = 2 ∧ (j = 2 ∨ j = 3 ∨ j = 5)) → ¬ (c' = b + 12 ∧ 7 * W < j ∧ j < 7 * W + 7) → h5 c' j = h4 c' j) → (∀ c' j, ¬ (c' = 14 ∧ 6 * W ≤ j ∧ j < 6 * W + 6) → Tc c' j = T1 c' j) → (∀ j, j < i → h5 (b + 12) (7 * W + 1 + j) = Tc 14 (6 * W + j)) →
      (∀ f, xB (pBins B n W m i Tc q') (fun r => (.inr (hset r.1 0 25 (T 0 25 + 1), r.2) : Sum pF (zH × Nat))) = .inl f → ∀ h', frP b h h' → BdC h' b → FlC h' f → K 0 h') → (∀ r, xB (pBins B n W m i Tc q') (fun r => (.inr (hset r.1 0 25 (T 0 25 + 1), r.2) : Sum pF (zH × Nat))) = .inr r → ∀ h', frP b h h' → PvC r.1 h' b → AtC h' B n r.2 → K 1 h') →
      zG E mX4_readWay (d + 3) 41 [zR 2, zR b, zI ((7 * W : Nat) : Int), zI ((i + 1 : Nat) : Int)] [] h5 (qI K) := by
    intro m
    induction m with
    | zero =>
      intro i hi q' Tc h5 a5 fr5 ft k5 k0 k1
      have e6 : i = 6 := by omega
      subst e6
      refine bX4_readWay_41 (d := d + 2) hE su ⟨fun _ => ?_, fun z => absurd (by decide) z⟩
      refine k1 _ rfl h5 (fun c' j n1 n2 n3 n4 n5 => by rw [fr5 c' j n1 n2 (by omega)]; exact fr4 c' j n1 n2 (by omega) (by omega) (by omega)) ?_ a5
      have frA : ∀ c' j, ¬ (c' = 3 ∧ 3 ≤ j ∧ j ≤ 6) → ¬ (c' = 2 ∧ (j = 2 ∨ j = 3 ∨ j = 5)) → ¬ (c' = b + 5 ∧ j = 1) → ¬ (c' = b + 6 ∧ j = W) → ¬ (c' = b + 12 ∧ 7 * W ≤ j ∧ j < 7 * W + 7) → h5 c' j = h c' j := fun c' j n1 n2 n3 n4 n5 => by rw [fr5 c' j n1 n2 (by omega)]; exact fr4 c' j n1 n2 n3 n4 n5
      have rw' : ∀ c, c ≠ 2 → c ≠ 3 → c ≠ b + 5 → c ≠ b + 6 → c ≠ b + 12 → h5 c = h c := fun c n1 n2 n3 n4 n5 => funext fun j => frA c j (by omega) (by omega) (by omega) (by omega) (by omega)
      have tr : ∀ c, c ≠ 0 → c ≠ 12 → c ≠ 13 → c ≠ 14 → hset Tc 0 25 (T 0 25 + 1) c = T c := fun c n1 n2 n3 n4 => by
        rw [hset_rne n1]
        funext j
        rw [ft c j (by omega), ← hT1, hset_ne (by omega), hset_ne (by omega)]
      have tn : ∀ j, j ≠ 25 → hset Tc 0 25 (T 0 25 + 1) 0 j = T 0 j := fun j n1 => by rw [hset_ne (by omega), ft 0 j (by omega), ← hT1, hset_ne (by omega), hset_ne (by omega)]
      have hbr : ∀ j, j ≠ 99 → h5 b j = h b j := fun j _ => frA b j (by omega) (by omega) (by omega) (by omega) (by omega)
      obtain ⟨s1, s2, s3, s4, s5, s6, s7, s8, s9, s10, s11⟩ := p.1
      dsimp only
      refine ⟨⟨s1.c (by rw [rw' _ (by omega) (by omega) (by omega) (by omega) (by omega)]) (rw' _ (by omega) (by omega) (by omega) (by omega) (by omega)) (tn _ (by omega)) (tr _ (by omega) (by omega) (by omega) (by omega)), s2.c (by rw [rw' _ (by omega) (by omega) (by omega) (by omega) (by omega)]) (rw' _ (by omega) (by omega) (by omega) (by omega) (by omega)) (tn _ (by omega)) (tr _ (by omega) (by omega) (by omega) (by omega)), ?_, s4.c (by rw [rw' _ (by omega) (by omega) (by omega) (by omega) (by omega)]) (rw' _ (by omega) (by omega) (by omega) (by omega) (by omega)) (tn _ (by omega)) (tr _ (by omega) (by omega) (by omega) (by omega)), s5.c (fun c q1 q2 => rw' c (by omega) (by omega) (by omega) (by omega) (by omega)) (tn _ (by omega)) (fun c q1 q2 => tr c (by omega) (by omega) (by omega) (by omega)), ?_, s7.c (hbr 9 (by omega)) (rw' _ (by omega) (by omega) (by omega) (by omega) (by omega)) (tn _ (by omega)) (fun c q1 q2 => tr c (by omega) (by omega) (by omega) (by omega)), s8.c (by rw [rw' _ (by omega) (by omega) (by omega) (by omega) (by omega)]) (hbr 11 (by omega)) (rw' _ (by omega) (by omega) (by omega) (by omega) (by omega)) (rw' _ (by omega) (by omega) (by omega) (by omega) (by omega)) (tn _ (by omega)) (tr _ (by omega) (by omega) (by omega) (by omega)) (tr _ (by omega) (by omega) (by omega) (by omega)), by rw [hbr _ (by omega), tn _ (by omega)]; exact s9, by rw [hbr _ (by omega), tn _ (by omega)]; exact s10, by rw [hbr _ (by omega), tn _ (by omega)]; exact s11⟩, ⟨by rw [hbr _ (by omega), tn _ (by omega)]; exact p.2.1.1, by rw [hbr _ (by omega), tn _ (by omega)]; exact p.2.1.2⟩, p.2.2.c (rw' _ (by omega) (by omega) (by omega) (by omega) (by omega)) (rw' _ (by omega) (by omega) (by omega) (by omega) (by omega)) (tn _ (by omega))⟩
      · refine ⟨?_, fun k hk => ?_⟩
        · rw [hset_eq, fr5 _ _ (by omega) (by omega) (by omega), e4, hset_ne (by omega), fr3 _ _ (by omega) (by omega)]
          exact e1
        · rw [hset_eq] at hk
          rw [hset_ne (by omega), ft 12 k (by omega), ← hT1, hset_ne (by omega)]
          by_cases z : k = W
          · subst z
            rw [hset_eq, fr5 _ _ (by omega) (by omega) (by omega), e4, hset_ne (by omega), fr3 _ _ (by omega) (by omega)]
            exact e2
          · rw [hset_ne (by omega), frA _ _ (by omega) (by omega) (by omega) (by omega) (by omega)]
            exact s3.2 k (by omega)
      · intro k hk
        rw [hset_eq] at hk
        rw [hset_ne (by omega)]
        by_cases z : k = W
        · subst z
          refine ⟨?_, fun j hj => ?_⟩
          · rw [fr5 _ _ (by omega) (by omega) (by omega), e4, hset_eq, ft 13 k (by omega), ← hT1, hset_eq]
          · rw [hset_ne (by omega)]
            exact k5 j hj
        · have s := s6 k (by omega)
          refine ⟨?_, fun j hj => ?_⟩
          · rw [frA _ _ (by omega) (by omega) (by omega) (by omega) (by omega), ft 13 k (by omega), ← hT1, hset_ne (by omega), hset_ne (by omega)]
            exact s.1
          · rw [frA _ _ (by omega) (by omega) (by omega) (by omega) (by omega), hset_ne (by omega), ft 14 _ (by omega), ← hT1, hset_ne (by omega), hset_ne (by omega)]
            exact s.2 j hj
    | succ m ih =>
      intro i hi q' Tc h5 a5 fr5 ft k5 k0 k1
      have fq5 : frP b h h5 := fun c' j n1 n2 n3 n4 n5 => by rw [fr5 c' j n1 n2 (by omega)]; exact fr4 c' j n1 n2 (by omega) (by omega) (by omega)
      have bd5 : BdC h5 b := p.2.2.1.mv (fun j => by rw [fr5 _ _ (by omega) (by omega) (by omega)]; exact fr4 _ _ (by omega) (by omega) (by omega) (by omega) (by omega))
      unfold pBins at k0 k1
      refine bX4_readWay_41 (d := d + 2) hE su ⟨fun z => absurd z (by omega), fun _ => ⟨fun _ => bX4_readWay_57 (d := d + 2) hE su (C_num hE a5 (by omega) (by omega) (fun f ef h' fr fl => ⟨fun z => absurd rfl z, fun _ => k0 f (by rw [xB_l ef]; rfl) h' (fq5.tr (frP.m fr)) (bd5.mv (fun j => fr _ _ (by omega) (by omega))) fl⟩) (fun r er h6 fr6 a6 e6 => ⟨fun _ => ?_, fun z => absurd (by decide) z⟩)), fun z => absurd (by omega) z⟩⟩
      rw [ei (i + 1) (by omega), Int.toNat_natCast, e6]
      refine ⟨nat_in (n := 35) (by omega), fun h7 e7 y ey => ?_⟩
      rw [w_suc (by omega)] at ey
      rw [ey]
      rw [xB_r er] at k0 k1
      refine ih (i + 1) (by omega) r.2 (hset Tc 14 (6 * W + i) r.1) h7 (by rw [e7]; exact a6.set (by omega)) (fun c' j n1 n2 n3 => ?_) (fun c' j n1 => ?_) (fun j hj => ?_) k0 k1
      · rw [e7, hset_ne (by omega), fr6 c' j n1 n2]; exact fr5 c' j n1 n2 n3
      · rw [hset_ne (by omega)]; exact ft c' j n1
      · by_cases z : j = i
        · subst z
          rw [e7, show 7 * W + 1 + j = 7 * W + (j + 1) by omega, hset_eq, hset_eq]
        · rw [e7, hset_ne (by omega), fr6 _ _ (by omega) (by omega), hset_ne (by omega)]
          exact k5 j (by omega)
  exact loop 6 0 rfl c.2 T1 h4 (by rw [e4]; exact a3.set (by omega)) (fun _ _ _ _ _ => rfl) (fun _ _ _ => rfl) (fun j hj => absurd hj (by omega)) h0 h1
theorem C_meas (hE : isC E) {B : Nat → Int} {n q r : Nat} (a : AtC h B n q) (hr : isNm E r 6) (i : NmC T h r 27 15) (i0 : 0 ≤ T 0 27) (i1 : T 0 27 ≤ 6) (hr4 : 4 < r) (h0 : ∀ f, pMeas B n T q = .inl f → ∀ h', frM h h' → FlC h' f → K 0 h')
    (h1 : ∀ m, pMeas B n T q = .inr m → ∀ h', (∀ c j, ¬ (c = 3 ∧ 3 ≤ j ∧ j ≤ 6) → ¬ (c = 2 ∧ (j = 2 ∨ j = 3 ∨ j = 5)) → c ≠ r → c ≠ r + 1 → h' c j = h c j) → NmC m.2.1 h' r 27 15 → (∀ c j, c ≠ 15 → ¬ (c = 0 ∧ j = 27) → m.2.1 c j = T c j) → AtC h' B n m.2.2 → h' 2 5 = m.1 → K 1 h') : zCI E mX4_readMeasurer (d + 2) [zR 2, zR r] h K := by
  obtain ⟨m, hm⟩ : ∃ m : Nat, T 0 27 = m := ⟨(T 0 27).toNat, by omega⟩
  refine eX4_readMeasurer (d := d + 1) hE hr ?_
  rw [a.k, a.v]
  unfold pMeas at h0 h1
  refine ⟨fun k2 => i.find hE hr i0 (by omega) (fun h3 e3 => ?_), fun k2 => ?_⟩
  · rw [if_pos k2] at h0 h1
    have e5 : h3 2 5 = fnd (T 15) (tkV B n q) (T 0 27).toNat 0 := by rw [e3, hset_eq]
    have a3 : AtC h3 B n q := by rw [e3]; exact a.set (by omega)
    have fr3 : frM h h3 := by rw [e3]; exact (frM.rf h).s5
    have i3 : NmC T h3 r 27 15 := i.mv (fun j => ⟨fr3 _ _ (by omega) (by omega), fr3 _ _ (by omega) (by omega)⟩)
    rw [e5]
    refine ⟨fun z => C_adv hE a3 (fun h4 fr4 a4 => ?_), fun z => eX2_isFull hE hr ?_⟩
    · rw [if_neg z] at h1
      exact h1 _ rfl h4 (fun c j n1 n2 n3 n4 => by rw [fr4 c j n1]; exact fr3 c j n1 n2) (i3.mv (fun j => ⟨fr4 _ _ (by omega), fr4 _ _ (by omega)⟩)) (fun _ _ _ _ => rfl) a4 (by rw [fr4 _ _ (by omega)]; exact e5)
    · rw [if_pos (Decidable.not_not.mp z)] at h0 h1
      rw [i3.1, hm]
      refine ⟨fun z2 => ⟨fun _ => ?_, fun y => absurd rfl y⟩, fun z2 => ⟨fun y => absurd y (by decide), fun _ => C_refuse hE a3 (by decide) (fun h4 fr4 f4 => ?_)⟩⟩
      · rw [if_neg (show ¬ T 0 27 = 6 by omega)] at h1
        rw [a3.v]
        refine X2_putN hE hr (m := m) (by rw [i3.1, hm]) (by omega) (fun h5 e5' => ?_)
        have a5 : AtC h5 B n q := by rw [e5']; exact ((a3.set (by omega)).set (by omega)).set (by omega)
        refine C_adv hE a5 (fun h6 fr6 a6 => h1 _ rfl h6 (fun c j n1 n2 n3 n4 => ?_) ⟨?_, fun k hk => ?_⟩ (fun c j n1 n2 => ?_) a6 ?_)
        · rw [fr6 c j n1, e5', hset_ne (by omega), hset_ne (by omega), hset_ne (by omega)]; exact fr3 c j n1 n2
        · dsimp only
          rw [fr6 _ _ (by omega), e5', hset_ne (by omega), hset_eq, hset_eq, hm]; rfl
        · dsimp only at hk ⊢
          rw [hset_eq] at hk
          rw [show (T 0 27).toNat = m by omega]
          have e7 : h6 (r + 1) k = hset h3 (r + 1) m (tkV B n q) (r + 1) k := by rw [fr6 _ _ (by omega), e5', hset_ne (by omega), hset_ne (by omega)]
          have e8 : hset (hset T 15 m (tkV B n q)) 0 27 (T 0 27 + 1) 15 k = hset T 15 m (tkV B n q) 15 k := hset_ne (by omega)
          rw [e7, e8]
          by_cases y : k = m
          · rw [y, hset_eq, hset_eq]
          · rw [hset_ne (by omega), hset_ne (by omega)]; exact i3.2 k (by omega)
        · dsimp only
          rw [hset_ne n2, hset_ne (by omega)]
        · dsimp only
          rw [fr6 _ _ (by omega), e5', hset_eq, hm]
      · rw [if_pos (show T 0 27 = 6 by omega)] at h0
        exact h0 _ rfl h4 (fr3.tr fr4) f4
  · rw [if_neg k2] at h0
    exact C_refuse hE a (by decide) (fun h4 fr4 f4 => h0 _ rfl h4 fr4 f4)
theorem L_said (hE : isC E) {B : Nat → Int} {n q b : Nat} (a : AtC h B n q) (hb : b = 8 ∨ b = 27) (p : PvC T h b) (w : WfP T) (h0 : ∀ f, pSaid B n T q = .inl f → ∀ h', frP b h h' → BdC h' b → FlC h' f → K 0 h') (h1 : ∀ r, pSaid B n T q = .inr r → ∀ h', frP b h h' → PvC r.1 h' b → AtC h' B n r.2 → K 1 h') : zCI E mX4_readSaying (d + 3) [zR 2, zR b] h K := by
  have su := su_b hE hb
  have wn := w.1
  obtain ⟨W, hW⟩ : ∃ W : Nat, T 0 26 = W := ⟨(T 0 26).toNat, by omega⟩
  have hWn : (T 0 26).toNat = W := by omega
  unfold pSaid at h0 h1
  refine eX4_readSaying (d := d + 2) hE su (fun x1 e1 => ?_)
  rw [p.1.sy.1, hW, w32i (by omega) (by omega), show (W : Int) * 4 = ((4 * W : Nat) : Int) by omega] at e1
  rw [e1, w32i (x := ((4 * W : Nat) : Int) + 4) (by omega) (by omega)]
  refine ⟨fun z => absurd z (by omega), fun _ => ⟨fun z => C_adv hE a (fun h2 fr2 a2 => ?_), fun z => C_refuse hE a (by decide) (fun h4 fr4 f4 => ?_)⟩⟩
  · have n20 : ¬ T 0 26 = 20 := by omega
    rw [if_neg n20] at h0 h1
    have fr2' : frM h h2 := frM.x fr2
    have p2 := p.m hb fr2'
    have ei : ∀ i : Nat, i < 4 → w32 (((4 * W : Nat) : Int) + (i : Int)) = ((4 * W + i : Nat) : Int) := fun i hi => by rw [w32i (by omega) (by omega)]; omega
    have ei0 : w32 (((4 * W : Nat) : Int) + 0) = ((4 * W + 0 : Nat) : Int) := ei 0 (by omega)
    have ei1 : w32 (((4 * W : Nat) : Int) + 1) = ((4 * W + 1 : Nat) : Int) := ei 1 (by omega)
    have ei2 : w32 (((4 * W : Nat) : Int) + 2) = ((4 * W + 2 : Nat) : Int) := ei 2 (by omega)
    have ei3 : w32 (((4 * W : Nat) : Int) + 3) = ((4 * W + 3 : Nat) : Int) := ei 3 (by omega)
    rw [ei0, ei1, ei2, ei3]
    refine C_meas hE a2 su.2.2.2.2.2.1 p2.1.me (by omega) (by omega) (by omega) (fun f ef h' fr fl => ⟨fun z => absurd rfl z, fun _ => h0 f (xB_l ef) h' ((frP.m fr2').tr (frP.m fr)) (p2.m hb fr).2.2.1 fl⟩) (fun m em h3 fr3 nm3 tm a3 e3 => ⟨fun _ => ⟨nat_in (n := 80) (by omega), fun h8 e8 => ?_⟩, fun z => absurd (by decide) z⟩)
    rw [xB_r em] at h0 h1
    rw [Int.toNat_natCast, e3] at e8
    have fq3 : frP b h h3 := fun c j n1 n2 n3 n4 n5 => by rw [fr3 c j n1 n2 (by omega) (by omega)]; exact fr2' c j n1 n2
    have fq8 : frP b h h8 := by rw [e8]; exact fq3.st (by omega)
    have bd8 : BdC h8 b := p2.2.2.1.mv (fun j => by rw [e8, hset_ne (by omega)]; exact fr3 _ _ (by omega) (by omega) (by omega) (by omega))
    have a8 : AtC h8 B n m.2.2 := by rw [e8]; exact a3.set (by omega)
    have nr8 : NmC T h8 (b + 3) 24 3 := p2.1.ri.mv (fun j => ⟨by rw [e8, hset_ne (by omega)]; exact fr3 _ _ (by omega) (by omega) (by omega) (by omega), by rw [e8, hset_ne (by omega)]; exact fr3 _ _ (by omega) (by omega) (by omega) (by omega)⟩)
    refine C_told hE a8 su.2.2.2.1 nr8 (by omega) (by omega) (by omega) (fun f ef h' fr fl => ⟨fun z => absurd rfl z, fun _ => h0 f (xB_l ef) h' (fq8.tr (frP.m fr)) (bd8.mv (fun j => fr _ _ (by omega) (by omega))) fl⟩) (fun r er h9 fr9 a9 e9 => ⟨fun _ => ⟨nat_in (n := 80) (by omega), fun h11 e11 => ?_⟩, fun z => absurd (by decide) z⟩)
    rw [xB_r er] at h0 h1
    rw [Int.toNat_natCast, e9] at e11
    have fq11 : frP b h h11 := by rw [e11]; exact (fq8.tr (frP.m fr9)).st (by omega)
    have bd11 : BdC h11 b := bd8.mv (fun j => by rw [e11, hset_ne (by omega)]; exact fr9 _ _ (by omega) (by omega))
    have a11 : AtC h11 B n r.2 := by rw [e11]; exact a9.set (by omega)
    refine C_num hE a11 (by omega) (by omega) (fun f ef h' fr fl => ⟨fun z => absurd rfl z, fun _ => h0 f (xB_l ef) h' (fq11.tr (frP.m fr)) (bd11.mv (fun j => fr _ _ (by omega) (by omega))) fl⟩) (fun z ez h12 fr12 a12 e12 => ⟨fun _ => ⟨nat_in (n := 80) (by omega), fun h14 e14 => ?_⟩, fun z => absurd (by decide) z⟩)
    rw [xB_r ez] at h1
    rw [Int.toNat_natCast, e12] at e14
    have fq14 : frP b h h14 := by rw [e14]; exact (fq11.tr (frP.m fr12)).st (by omega)
    have bd14 : BdC h14 b := bd11.mv (fun j => by rw [e14, hset_ne (by omega)]; exact fr12 _ _ (by omega) (by omega))
    have a14 : AtC h14 B n z.2 := by rw [e14]; exact a12.set (by omega)
    have es26 : (stY m.2.1 m.1 r.1 z.1 (bI (tkK B n z.2 = 29))) = hset (hset (hset (hset (hset m.2.1 16 W m.1) 17 W r.1) 18 W z.1) 19 W (bI (tkK B n z.2 = 29))) 0 26 ((W + 1 : Nat) : Int) := by
      unfold stY
      rw [tm 0 26 (by omega) (by omega), hW, Int.toNat_natCast]
      rfl
    rw [es26] at h1
    -- the rest of the row, from any heap
    have fin : ∀ (bl : Int) (h15 h16 : zH), bl = bI (tkK B n z.2 = 29) → h15 = hset h14 (b + 13) (4 * W + 3) bl → (∀ c j, ¬ (c = 3 ∧ 3 ≤ j ∧ j ≤ 6) → ¬ (c = b ∧ j = 9) → h16 c j = h15 c j) → h16 b 9 = ((W + 1 : Nat) : Int) → PvC (hset (hset (hset (hset (hset m.2.1 16 W m.1) 17 W r.1) 18 W z.1) 19 W (bI (tkK B n z.2 = 29))) 0 26 ((W + 1 : Nat) : Int)) h16 b := by
      intro bl h15 h16 ebl e15 fr16 e169
      have back : ∀ c j, ¬ (c = 3 ∧ 3 ≤ j ∧ j ≤ 6) → ¬ (c = 2 ∧ (j = 2 ∨ j = 3 ∨ j = 5)) → ¬ (c = b ∧ j = 9) → ¬ (c = b + 13 ∧ 4 * W ≤ j ∧ j < 4 * W + 4) → h16 c j = h3 c j := fun c j n1 n2 n3 n4 => by
        rw [fr16 c j n1 n3, e15, hset_ne (by omega), e14, hset_ne (by omega), fr12 c j n1 n2, e11, hset_ne (by omega), fr9 c j n1 n2, e8, hset_ne (by omega)]
      have rw' : ∀ c, c ≠ 2 → c ≠ 3 → c ≠ b → c ≠ b + 7 → c ≠ b + 8 → c ≠ b + 13 → h16 c = h c := fun c n1 n2 n3 n4 n5 n6 => funext fun j => by rw [back c j (by omega) (by omega) (by omega) (by omega), fr3 c j (by omega) (by omega) (by omega) (by omega)]; exact fr2' c j (by omega) (by omega)
      have tr : ∀ c, c ≠ 0 → c ≠ 15 → c ≠ 16 → c ≠ 17 → c ≠ 18 → c ≠ 19 → hset (hset (hset (hset (hset m.2.1 16 W m.1) 17 W r.1) 18 W z.1) 19 W (bI (tkK B n z.2 = 29))) 0 26 ((W + 1 : Nat) : Int) c = T c := fun c n1 n2 n3 n4 n5 n6 => by
        rw [hset_rne n1, hset_rne n6, hset_rne n5, hset_rne n4, hset_rne n3]
        exact funext fun j => tm c j n2 (by omega)
      have tn : ∀ j, j ≠ 26 → j ≠ 27 → hset (hset (hset (hset (hset m.2.1 16 W m.1) 17 W r.1) 18 W z.1) 19 W (bI (tkK B n z.2 = 29))) 0 26 ((W + 1 : Nat) : Int) 0 j = T 0 j := fun j n1 n2 => by
        rw [hset_ne (by omega), hset_ne (by omega), hset_ne (by omega), hset_ne (by omega), hset_ne (by omega)]
        exact tm 0 j (by omega) (by omega)
      have hbr : ∀ j, j ≠ 9 → h16 b j = h b j := fun j n1 => by rw [back b j (by omega) (by omega) (by omega) (by omega), fr3 b j (by omega) (by omega) (by omega) (by omega)]; exact fr2' b j (by omega) (by omega)
      obtain ⟨s1, s2, s3, s4, s5, s6, s7, s8, s9, s10, s11⟩ := p.1
      refine ⟨⟨s1.c (by rw [rw' _ (by omega) (by omega) (by omega) (by omega) (by omega) (by omega)]) (rw' _ (by omega) (by omega) (by omega) (by omega) (by omega) (by omega)) (tn _ (by omega) (by omega)) (tr _ (by omega) (by omega) (by omega) (by omega) (by omega) (by omega)), s2.c (by rw [rw' _ (by omega) (by omega) (by omega) (by omega) (by omega) (by omega)]) (rw' _ (by omega) (by omega) (by omega) (by omega) (by omega) (by omega)) (tn _ (by omega) (by omega)) (tr _ (by omega) (by omega) (by omega) (by omega) (by omega) (by omega)), s3.c (by rw [rw' _ (by omega) (by omega) (by omega) (by omega) (by omega) (by omega)]) (rw' _ (by omega) (by omega) (by omega) (by omega) (by omega) (by omega)) (tn _ (by omega) (by omega)) (tr _ (by omega) (by omega) (by omega) (by omega) (by omega) (by omega)), ?_, s5.c (fun c q1 q2 => rw' c (by omega) (by omega) (by omega) (by omega) (by omega) (by omega)) (tn _ (by omega) (by omega)) (fun c q1 q2 => tr c (by omega) (by omega) (by omega) (by omega) (by omega) (by omega)), s6.c (rw' _ (by omega) (by omega) (by omega) (by omega) (by omega) (by omega)) (tn _ (by omega) (by omega)) (tr _ (by omega) (by omega) (by omega) (by omega) (by omega) (by omega)) (tr _ (by omega) (by omega) (by omega) (by omega) (by omega) (by omega)), ?_, s8.c (by rw [rw' _ (by omega) (by omega) (by omega) (by omega) (by omega) (by omega)]) (hbr 11 (by omega)) (rw' _ (by omega) (by omega) (by omega) (by omega) (by omega) (by omega)) (rw' _ (by omega) (by omega) (by omega) (by omega) (by omega) (by omega)) (tn _ (by omega) (by omega)) (tr _ (by omega) (by omega) (by omega) (by omega) (by omega) (by omega)) (tr _ (by omega) (by omega) (by omega) (by omega) (by omega) (by omega)), by rw [hbr _ (by omega), tn _ (by omega) (by omega)]; exact s9, by rw [hbr _ (by omega), tn _ (by omega) (by omega)]; exact s10, by rw [hbr _ (by omega), tn _ (by omega) (by omega)]; exact s11⟩, ⟨by rw [hbr _ (by omega), tn _ (by omega) (by omega)]; exact p.2.1.1, by rw [hbr _ (by omega), tn _ (by omega) (by omega)]; exact p.2.1.2⟩, p.2.2.c (rw' _ (by omega) (by omega) (by omega) (by omega) (by omega) (by omega)) (rw' _ (by omega) (by omega) (by omega) (by omega) (by omega) (by omega)) (tn _ (by omega) (by omega))⟩
      · refine nm3.c (back _ _ (by omega) (by omega) (by omega) (by omega)) (funext fun j => back _ _ (by omega) (by omega) (by omega) (by omega)) ?_ ?_
        · rw [hset_ne (by omega), hset_ne (by omega), hset_ne (by omega), hset_ne (by omega), hset_ne (by omega)]
        · rw [hset_rne (by omega), hset_rne (by omega), hset_rne (by omega), hset_rne (by omega), hset_rne (by omega)]
      · refine ⟨by rw [hset_eq]; exact e169, fun k hk => ?_⟩
        rw [hset_eq] at hk
        by_cases y : k = W
        · subst y
          refine ⟨?_, ?_, ?_, ?_⟩
          · rw [fr16 _ _ (by omega) (by omega), e15, hset_ne (by omega), e14, hset_ne (by omega), fr12 _ _ (by omega) (by omega), e11, hset_ne (by omega), fr9 _ _ (by omega) (by omega), e8, show 4 * k + 0 = 4 * k from rfl, hset_eq, hset_ne (by omega), hset_ne (by omega), hset_ne (by omega), hset_ne (by omega), hset_eq]
          · rw [fr16 _ _ (by omega) (by omega), e15, hset_ne (by omega), e14, hset_ne (by omega), fr12 _ _ (by omega) (by omega), e11, hset_eq, hset_ne (by omega), hset_ne (by omega), hset_ne (by omega), hset_eq]
          · rw [fr16 _ _ (by omega) (by omega), e15, hset_ne (by omega), e14, hset_eq, hset_ne (by omega), hset_ne (by omega), hset_eq]
          · rw [fr16 _ _ (by omega) (by omega), e15, hset_eq, hset_ne (by omega), hset_eq]
            exact ebl
        · have s := s7.2 k (by omega)
          have bk : ∀ i, i < 4 → h16 (b + 13) (4 * k + i) = h (b + 13) (4 * k + i) := fun i hi => by rw [back _ _ (by omega) (by omega) (by omega) (by omega), fr3 _ _ (by omega) (by omega) (by omega) (by omega)]; exact fr2' _ _ (by omega) (by omega)
          have b0 : h16 (b + 13) (4 * k) = h (b + 13) (4 * k) := bk 0 (by omega)
          rw [b0, bk 1 (by omega), bk 2 (by omega), bk 3 (by omega)]
          have ts : ∀ c, 16 ≤ c → c ≤ 19 → hset (hset (hset (hset (hset m.2.1 16 W m.1) 17 W r.1) 18 W z.1) 19 W (bI (tkK B n z.2 = 29))) 0 26 ((W + 1 : Nat) : Int) c k = T c k := fun c q1 q2 => by
            rw [hset_ne (by omega), hset_ne (by omega), hset_ne (by omega), hset_ne (by omega), hset_ne (by omega)]
            exact tm c k (by omega) (by omega)
          rw [ts 16 (by omega) (by omega), ts 17 (by omega) (by omega), ts 18 (by omega) (by omega), ts 19 (by omega) (by omega)]
          exact s
    have b9 : h14 b 9 = (W : Int) := by
      rw [e14, hset_ne (by omega), fr12 _ _ (by omega) (by omega), e11, hset_ne (by omega), fr9 _ _ (by omega) (by omega), e8, hset_ne (by omega), fr3 _ _ (by omega) (by omega) (by omega) (by omega), fr2' _ _ (by omega) (by omega), p.1.sy.1, hW]
    have g133 : ∀ s0 : Int, s0 = bI (tkK B n z.2 = 29) → zG E mX4_readSaying (d + 3) 133 [zR 2, zR b, zU] [zI s0, zI ((4 * W + 3 : Nat) : Int), zR (b + 13)] h14 (qI K) := by
      intro s0 es0
      refine bX4_readSaying_133 (d := d + 2) hE su ⟨nat_in (n := 80) (by omega), fun h15 e15 => ?_⟩
      rw [Int.toNat_natCast] at e15
      have a15 : AtC h15 B n z.2 := by rw [e15]; exact a14.set (by omega)
      have fq15 : frP b h h15 := by rw [e15]; exact fq14.st (by omega)
      have b15 : h15 b 9 = (W : Int) := by rw [e15, hset_ne (by omega)]; exact b9
      rw [a15.k]
      refine ⟨fun c h16 e16 => ?_, fun c => C_adv hE a15 (fun h17 fr17 a17 h16 e16 => ?_)⟩
      · rw [b15, w_suc (by omega)] at e16
        rw [if_neg c] at h1
        exact h1 _ rfl h16 (by rw [e16]; exact fq15.st (by omega)) (fin s0 h15 h16 es0 e15 (fun c j n1 n2 => by rw [e16, hset_ne n2]) (by rw [e16, hset_eq])) (by rw [e16]; exact a15.set (by omega))
      · have b17 : h17 b 9 = (W : Int) := by rw [fr17 _ _ (by omega)]; exact b15
        rw [b17, w_suc (by omega)] at e16
        rw [if_pos (Decidable.not_not.mp c)] at h1
        exact h1 _ rfl h16 (by rw [e16]; exact (fq15.tr (frP.m (frM.x fr17))).st (by omega)) (fin s0 h15 h16 es0 e15 (fun c j n1 n2 => by rw [e16, hset_ne n2]; exact fr17 c j n1) (by rw [e16, hset_eq])) (by rw [e16]; exact a17.set (by omega))
    rw [a14.k]
    exact ⟨fun c => g133 0 (by rw [bI_f c]), fun c => g133 1 (by rw [bI_t (Decidable.not_not.mp c)])⟩
  · have y20 : T 0 26 = 20 := by omega
    rw [if_pos y20] at h0
    exact h0 _ rfl h4 (frP.m fr4) (p.m hb fr4).2.2.1 f4
end TLines2
