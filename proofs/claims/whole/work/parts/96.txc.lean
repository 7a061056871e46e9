/-! ===== topic: text of the class ===== -/
section TTxc
variable {E : zE} {d : Nat} {h : zH} {S : zH} {K : Int → zH → Prop}
theorem C_learnAnew2 (hE : isC E) {b : Nat} (p : ICp S h b) {K : zH → Prop} (hK : ∀ h', ICb S h' b → h' 2 4 = h 2 4 → K h') : zCV E mX9_learnAnew (d + 5) [zR 0] h K := by
  obtain ⟨w, ⟨hb, h3, h4⟩, sv, bd, ot, ⟨L0, G0, H0, hF, hl⟩, tn⟩ := p
  have wn := w.n
  unfold WfN at wn
  have ot' := ot
  obtain ⟨a1, a2, a3, a4, a5, a6, a7, a8, a9, a10⟩ := ot'
  have bdb : BdC h b := by
    rcases hb with e | e
    · rw [e]; exact bd.1
    · rw [e]; exact bd.2
  have go : zCV E mX0_learn (d + 4) [zR 52, zR b, zR 46, zI (sNk S : Int), zI (h 0 7)] h (fun h_2 => K h_2) := by
    rw [a4]
    refine X0_learnI hE (Or.inl rfl) hb w sv bdb a8 a9 (sNk_le w) hF hl (fun h' fr f1 six => hK h' ?_ (fr _ _ (by omega)))
    refine ⟨w, ⟨hb, by rw [fr _ _ (by omega)]; exact h3, by rw [fr _ _ (by omega)]; exact h4⟩, sv.mv (fun c j q1 q2 => fr c j (by omega)), ⟨bd.1.mv (fun j => fr _ _ (by omega)), bd.2.mv (fun j => fr _ _ (by omega))⟩, ot.mv (fun c j q => fr c j (by omega)), six, f1, ?_⟩
    obtain ⟨L, G, H, hF2, hl2⟩ := tn
    exact ⟨L, G, H, hF2.sm (fun c j q1 q2 => fr c j (by omega)), hl2⟩
  refine eX9_learnAnew (d := d + 4) hE (su_b hE hb) ⟨h3, eX9_notesKnown hE ?_⟩
  unfold sNk at go
  rw [a3, a8]
  refine ⟨fun c => ?_, fun c => ?_⟩
  · rw [if_neg c] at go
    rwa [show (((S 0 55).toNat : Nat) : Int) = S 0 55 by omega] at go
  · rw [if_pos (Decidable.not_not.mp c)] at go
    rwa [show (((S 0 54).toNat : Nat) : Int) = S 0 54 by omega] at go
/-- the same in what it shows: the class's heap holds the other state as well -/
theorem ICb.alike {S' h' : zH} {b : Nat} (i : ICb S h b) (m : smH S S') (w' : WfS S') (fr : ∀ c j, ¬ (c = 0 ∧ j = 1) → c ≠ 2 → c ≠ 3 → c ≠ 6 → c ≠ 7 → ¬ (35 - b ≤ c ∧ c ≤ 35 - b + 18) → h' c j = h c j)
    (e1 : h' 0 1 = 0) (e2 : S' 0 2 = 0) (e51 : h' 2 2 = S' 0 51) (e52 : h' 2 3 = S' 0 52) (bd : BdC h' (35 - b)) : ICb S' h' b := by
  have w := i.wf
  have hb := i.hb
  have wn := w.n
  unfold WfN at wn
  obtain ⟨a1, a2, a3, a4, a5, a6, a7, a8, a9, a10⟩ := i.ot
  have sv : SvC S' h' b := (i.sv.mv (fun c j q1 q2 => fr c j (by omega) (by omega) (by omega) (by omega) (by omega) (by omega))).u m.1 w.bt
  have bdd : BdC h' 8 ∧ BdC h' 27 := by
    rcases hb with e | e
    · subst e
      exact ⟨i.bd.1.mv (fun j => fr _ _ (by omega) (by omega) (by omega) (by omega) (by omega) (by omega)), bd⟩
    · subst e
      exact ⟨bd, i.bd.2.mv (fun j => fr _ _ (by omega) (by omega) (by omega) (by omega) (by omega) (by omega))⟩
  refine ⟨w', ⟨hb, by rw [fr _ _ (by omega) (by omega) (by omega) (by omega) (by omega) (by omega)]; exact i.tld, by rw [fr _ _ (by omega) (by omega) (by omega) (by omega) (by omega) (by omega)]; exact i.spr⟩, sv, bdd, ⟨by rw [e1, e2], fun j hj => by omega, ?_, ?_, ?_, e51, e52, ?_, ?_, fun j hj => ?_⟩, fun r k hr hk => ?_, ?_, ?_⟩
  · rw [fr _ _ (by omega) (by omega) (by omega) (by omega) (by omega) (by omega), m.n5 (by omega) (by omega)]; exact a3
  · rw [fr _ _ (by omega) (by omega) (by omega) (by omega) (by omega) (by omega), m.n5 (by omega) (by omega)]; exact a4
  · rw [fr _ _ (by omega) (by omega) (by omega) (by omega) (by omega) (by omega), m.n5 (by omega) (by omega)]; exact a5
  · rw [fr _ _ (by omega) (by omega) (by omega) (by omega) (by omega) (by omega), m.n5 (by omega) (by omega)]; exact a8
  · rw [m.n5 (j := 54) (by omega) (by omega), m.row (c := 22) (by omega) (by omega), m.row (c := 23) (by omega) (by omega), m.row (c := 24) (by omega) (by omega), m.row (c := 25) (by omega) (by omega)]
    intro k hk
    rw [fr _ _ (by omega) (by omega) (by omega) (by omega) (by omega) (by omega), fr _ _ (by omega) (by omega) (by omega) (by omega) (by omega) (by omega), fr _ _ (by omega) (by omega) (by omega) (by omega) (by omega) (by omega), fr _ _ (by omega) (by omega) (by omega) (by omega) (by omega) (by omega)]
    exact a9 k hk
  · rw [fr _ _ (by omega) (by omega) (by omega) (by omega) (by omega) (by omega)]; exact a10 j hj
  · rw [m.n (j := 24) (by omega) (by omega)] at hr
    have g5 := (w.g.1 r hr).2.1
    rw [m.r (c := 5) (j := r) (by omega) (by omega) (show r < 8 by omega)] at hk
    have h8 : 10 * r + k < 80 := by omega
    have t := m.tr3 (sNk S) h8
    rw [m.nk, t.1, t.2.1, t.2.2, m.r (c := 8) (by omega) (by omega) (show 10 * r + k < 80 from h8), m.r (c := 9) (by omega) (by omega) (show 10 * r + k < 80 from h8), m.r (c := 10) (by omega) (by omega) (show 10 * r + k < 80 from h8)]
    have z := i.nw r k hr hk
    have e53 : ∀ j, h' 53 j = h 53 j := fun j => fr 53 j (by omega) (by omega) (by omega) (by omega) (by omega) (by omega)
    unfold sixF at z ⊢
    rw [e53, e53, e53, e53, e53, e53]
    exact z
  · have f := i.fi.sm (fun c j q1 q2 => fr c j (by omega) (by omega) (by omega) (by omega) (by omega) (by omega))
    rw [m.nk, m.gh.1, m.gh.2]
    exact ⟨f.1, f.2.1, f.2.2.1, fun r hr => by rw [m.ls w _ hr]; exact f.2.2.2 r hr⟩
  · obtain ⟨L, G, H, hF, hl⟩ := i.tn
    exact ⟨L, G, H, hF.sm (fun c j q1 q2 => fr c j (by omega) (by omega) (by omega) (by omega) (by omega) (by omega)), hl⟩
theorem smU.of {T A C : zH} (a : smU T A) (c : smU T C) : smU A C := by
  refine ⟨fun j a1 a2 => by rw [c.1 j a1 a2, a.1 j a1 a2], fun x j a1 a2 a3 => by rw [c.2.1 x j a1 a2 a3, a.2.1 x j a1 a2 a3], fun j hj => ?_⟩
  rw [a.1 28 (by omega) (by omega)] at hj
  rw [(a.2.2 j hj).1, (a.2.2 j hj).2]
  exact c.2.2 j hj
theorem C_text (hE : isC E) (i : IC S h) (bS : BdR S) {x : Int} (hK : ∀ h', (∀ S', RelT S x S' → IC S' h') → K (aText S x) h') : zCI E mX9_text (d + 7) [zR 0, zI x] h K := by
  obtain ⟨bt, i⟩ := i
  have hb := i.hb
  have hs : 35 - bt = 8 ∨ 35 - bt = 27 := by omega
  have spr := i.spr
  obtain ⟨bs, hbs⟩ : ∃ bs, 35 - bt = bs := ⟨_, rfl⟩
  rw [hbs] at hs spr
  have w := i.wf
  have wn := w.n
  unfold WfN at wn
  have ot := i.ot
  obtain ⟨a1, a2, a3, a4, a5, a6, a7, a8, a9, a10⟩ := ot
  have su := su_b hE hs
  unfold RelT aText at hK
  refine eX9_text (d := d + 6) hE su (su_b hE hb) ?_
  rw [a1]
  have no : ¬ okTx S x → K (-2) h := fun z => by
    have k := hK h (fun S' r => by rw [if_neg z] at r; rw [r]; exact i.ic)
    rwa [if_neg z] at k
  refine ⟨fun c => no (fun z => by omega), fun c => ⟨fun c2 h3 e3 => ⟨?_, ?_⟩, fun c2 => no (fun z => by omega)⟩⟩
  · rw [e3, hset_ne (by omega)]; exact spr
  have ok : okTx S x := ⟨by omega, c2⟩
  obtain ⟨n, hn⟩ : ∃ n : Nat, x = (n : Int) := ⟨x.toNat, by omega⟩
  subst hn
  rw [if_pos ok] at hK
  refine eX4_read (d := d + 5) hE su (fun h4 e4 h5 e5 h6 e6 => eX8_clear (d := d + 4) hE su (fun k1 g1 k2 g2 k3 g3 k4 g4 k5 g5 k6 g6 k7 g7 k8 g8 k9 g9 k10 g10 k11 g11 k12 g12 => J7_fill ⟨su.2.2.2.2.2.2.2.1, Nat.lt_of_le_of_lt (by omega) su.1, by omega⟩ ?_ (by omega)))
  obtain ⟨k13, z13⟩ : ∃ k, k = hrow k12 (bs + 10) 0 (fun _ => (0 : Int)) 8 := ⟨_, rfl⟩
  rw [← z13]
  have fr13 : ∀ c j, ¬ (c = 0 ∧ j = 1) → ¬ (c = 2 ∧ 2 ≤ j ∧ j ≤ 4) → ¬ (bs ≤ c ∧ c ≤ bs + 10) → c ≠ bs + 14 → k13 c j = h c j := fun c j n1 n2 n3 n4 => by
    rw [z13, hrow_ne (by omega), g12, hset_ne (by omega), g11, hset_ne (by omega), g10, hset_ne (by omega), g9, hset_ne (by omega), g8, hset_ne (by omega), g7, hset_ne (by omega), g6, hset_ne (by omega), g5, hset_ne (by omega), g4, hset_ne (by omega), g3, hset_ne (by omega), g2, hset_ne (by omega), g1, hset_ne (by omega), e6, hset_ne (by omega), e5, hset_ne (by omega), e4, hset_ne (by omega), e3, hset_ne (by omega)]
  have v1 : k13 (bs + 1) 1 = 0 := by rw [z13, hrow_ne (by omega), g12, hset_ne (by omega), g11, hset_ne (by omega), g10, hset_ne (by omega), g9, hset_ne (by omega), g8, hset_ne (by omega), g7, hset_ne (by omega), g6, hset_ne (by omega), g5, hset_ne (by omega), g4, hset_ne (by omega), g3, hset_ne (by omega), g2, hset_ne (by omega), g1, hset_eq]
  have v2 : k13 (bs + 3) 1 = 0 := by rw [z13, hrow_ne (by omega), g12, hset_ne (by omega), g11, hset_ne (by omega), g10, hset_ne (by omega), g9, hset_ne (by omega), g8, hset_ne (by omega), g7, hset_ne (by omega), g6, hset_ne (by omega), g5, hset_ne (by omega), g4, hset_ne (by omega), g3, hset_ne (by omega), g2, hset_eq]
  have v3 : k13 (bs + 5) 1 = 0 := by rw [z13, hrow_ne (by omega), g12, hset_ne (by omega), g11, hset_ne (by omega), g10, hset_ne (by omega), g9, hset_ne (by omega), g8, hset_ne (by omega), g7, hset_ne (by omega), g6, hset_ne (by omega), g5, hset_ne (by omega), g4, hset_ne (by omega), g3, hset_eq]
  have v4 : k13 (bs + 7) 1 = 0 := by rw [z13, hrow_ne (by omega), g12, hset_ne (by omega), g11, hset_ne (by omega), g10, hset_ne (by omega), g9, hset_ne (by omega), g8, hset_ne (by omega), g7, hset_ne (by omega), g6, hset_ne (by omega), g5, hset_ne (by omega), g4, hset_eq]
  have v5 : k13 bs 9 = 0 := by rw [z13, hrow_ne (by omega), g12, hset_ne (by omega), g11, hset_ne (by omega), g10, hset_ne (by omega), g9, hset_ne (by omega), g8, hset_ne (by omega), g7, hset_ne (by omega), g6, hset_ne (by omega), g5, hset_eq]
  have v6 : k13 (bs + 14) 4 = 0 := by rw [z13, hrow_ne (by omega), g12, hset_ne (by omega), g11, hset_ne (by omega), g10, hset_ne (by omega), g9, hset_ne (by omega), g8, hset_ne (by omega), g7, hset_ne (by omega), g6, hset_eq]
  have v7 : k13 bs 11 = 0 := by rw [z13, hrow_ne (by omega), g12, hset_ne (by omega), g11, hset_ne (by omega), g10, hset_ne (by omega), g9, hset_ne (by omega), g8, hset_ne (by omega), g7, hset_eq]
  have v8 : k13 bs 12 = 0 := by rw [z13, hrow_ne (by omega), g12, hset_ne (by omega), g11, hset_ne (by omega), g10, hset_ne (by omega), g9, hset_ne (by omega), g8, hset_eq]
  have v9 : k13 bs 13 = 0 := by rw [z13, hrow_ne (by omega), g12, hset_ne (by omega), g11, hset_ne (by omega), g10, hset_ne (by omega), g9, hset_eq]
  have v10 : k13 bs 14 = 4 := by rw [z13, hrow_ne (by omega), g12, hset_ne (by omega), g11, hset_ne (by omega), g10, hset_eq]
  have v11 : k13 bs 15 = 6 := by rw [z13, hrow_ne (by omega), g12, hset_ne (by omega), g11, hset_eq]
  have v12 : k13 bs 16 = 300 := by rw [z13, hrow_ne (by omega), g12, hset_eq]
  have vr : ∀ r : Nat, r < 8 → k13 (bs + 10) r = 0 := fun r hr => by
    have z := hrow_at (h := k12) (c := bs + 10) (o := 0) (f := fun _ => (0 : Int)) hr
    rw [Nat.zero_add] at z
    rw [z13, z]
  have v01 : k13 0 1 = 0 := by rw [z13, hrow_ne (by omega), g12, hset_ne (by omega), g11, hset_ne (by omega), g10, hset_ne (by omega), g9, hset_ne (by omega), g8, hset_ne (by omega), g7, hset_ne (by omega), g6, hset_ne (by omega), g5, hset_ne (by omega), g4, hset_ne (by omega), g3, hset_ne (by omega), g2, hset_ne (by omega), g1, hset_ne (by omega), e6, hset_ne (by omega), e5, hset_ne (by omega), e4, hset_ne (by omega), e3, hset_eq]
  have v22 : k13 2 2 = 0 := by rw [z13, hrow_ne (by omega), g12, hset_ne (by omega), g11, hset_ne (by omega), g10, hset_ne (by omega), g9, hset_ne (by omega), g8, hset_ne (by omega), g7, hset_ne (by omega), g6, hset_ne (by omega), g5, hset_ne (by omega), g4, hset_ne (by omega), g3, hset_ne (by omega), g2, hset_ne (by omega), g1, hset_ne (by omega), e6, hset_ne (by omega), e5, hset_ne (by omega), e4, hset_eq]
  have v23 : k13 2 3 = -1 := by rw [z13, hrow_ne (by omega), g12, hset_ne (by omega), g11, hset_ne (by omega), g10, hset_ne (by omega), g9, hset_ne (by omega), g8, hset_ne (by omega), g7, hset_ne (by omega), g6, hset_ne (by omega), g5, hset_ne (by omega), g4, hset_ne (by omega), g3, hset_ne (by omega), g2, hset_ne (by omega), g1, hset_ne (by omega), e6, hset_ne (by omega), e5, hset_eq]
  have v24 : k13 2 4 = 0 := by rw [z13, hrow_ne (by omega), g12, hset_ne (by omega), g11, hset_ne (by omega), g10, hset_ne (by omega), g9, hset_ne (by omega), g8, hset_ne (by omega), g7, hset_ne (by omega), g6, hset_ne (by omega), g5, hset_ne (by omega), g4, hset_ne (by omega), g3, hset_ne (by omega), g2, hset_ne (by omega), g1, hset_ne (by omega), e6, hset_eq]
  clear z13 g12 g11 g10 g9 g8 g7 g6 g5 g4 g3 g2 g1 e6 e5 e4 e3
  refine eX1_begin (d := d + 4) hE (fun m1 s1 m2 s2 m3 s3 => ?_)
  have fr3 : ∀ c j, ¬ (c = 3 ∧ 1 ≤ j ∧ j ≤ 3) → m3 c j = k13 c j := fun c j z => by rw [s3, hset_ne (by omega), s2, hset_ne (by omega), s1, hset_ne (by omega)]
  have u1 : m3 3 1 = ((1 : Nat) : Int) := by rw [s3, hset_ne (by omega), s2, hset_ne (by omega), s1, hset_eq]
  have u2 : m3 3 2 = (n : Int) := by rw [s3, hset_ne (by omega), s2, hset_eq]; omega
  have u3 : m3 3 3 = ((0 : Nat) : Int) := by rw [s3, hset_eq]; rfl
  have tx : TxC m3 (S 1) n := ⟨u1, u2, by omega, fun j hj => ⟨by rw [fr3 _ _ (by omega), fr13 _ _ (by omega) (by omega) (by omega) (by omega)]; exact a2 j (by omega), w.b j (by omega)⟩, fun j hj => by rw [fr3 _ _ (by omega), fr13 _ _ (by omega) (by omega) (by omega) (by omega)]; exact a10 j hj⟩
  refine X1_advance (d := d + 3) hE tx (Nat.zero_le n) u3 (fun m4 fr4 l4 => ?_)
  have f4 : ∀ c j, ¬ (c = 3 ∧ 1 ≤ j ∧ j ≤ 6) → m4 c j = k13 c j := fun c j z => by rw [fr4 c j (by omega), fr3 c j (by omega)]
  have fz : ∀ c j, ¬ (c = 0 ∧ j = 1) → ¬ (c = 2 ∧ 2 ≤ j ∧ j ≤ 4) → ¬ (c = 3 ∧ 1 ≤ j ∧ j ≤ 6) → ¬ (bs ≤ c ∧ c ≤ bs + 10) → c ≠ bs + 14 → m4 c j = h c j := fun c j n1 n2 n3 n4 n5 => by rw [f4 c j n3, fr13 c j n1 n2 n4 n5]
  have a0 : AtC m4 (S 1) n 0 := ⟨tx.mv fr4, l4, Nat.zero_le n, by rw [f4 _ _ (by omega)]; exact v22, by rw [f4 _ _ (by omega)]; exact v23⟩
  have bdb : BdC h bs := by
    rcases hs with e | e
    · rw [e]; exact i.bd.1
    · rw [e]; exact i.bd.2
  have t0 : ∀ j, ¬ (29 ≤ j ∧ j ≤ 31) → tS S 0 j = 0 := fun j hj => tS_0 hj
  have pv : PvC (tS S) m4 bs := by
    refine ⟨⟨⟨?_, fun k hk => ?_⟩, ⟨?_, fun k hk => ?_⟩, ⟨?_, fun k hk => ?_⟩, ⟨?_, fun k hk => ?_⟩, fun r hr => ?_, fun r hr => ?_, ⟨?_, fun k hk => ?_⟩, ⟨?_, ?_, fun k hk => ?_⟩, ?_, ?_, ?_⟩, ⟨?_, ?_⟩, ?_, fun r hr hr8 => ?_⟩
    · rw [t0 23 (by omega), f4 _ _ (by omega)]; exact v1
    · rw [t0 23 (by omega)] at hk; omega
    · rw [t0 24 (by omega), f4 _ _ (by omega)]; exact v2
    · rw [t0 24 (by omega)] at hk; omega
    · rw [t0 25 (by omega), f4 _ _ (by omega)]; exact v3
    · rw [t0 25 (by omega)] at hk; omega
    · rw [t0 27 (by omega), f4 _ _ (by omega)]; exact v4
    · rw [t0 27 (by omega)] at hk; omega
    · rw [t0 24 (by omega)] at hr; omega
    · rw [t0 25 (by omega)] at hr; omega
    · rw [t0 26 (by omega), f4 _ _ (by omega)]; exact v5
    · rw [t0 26 (by omega)] at hk; omega
    · rw [t0 28 (by omega), f4 _ _ (by omega)]; exact v6
    · rw [t0 28 (by omega), f4 _ _ (by omega), v7]
    · rw [t0 28 (by omega)] at hk; omega
    · rw [f4 _ _ (by omega)]; exact v10
    · rw [f4 _ _ (by omega)]; exact v11
    · rw [f4 _ _ (by omega)]; exact v12
    · rw [t0 32 (by omega), f4 _ _ (by omega)]; exact v8
    · rw [t0 33 (by omega), f4 _ _ (by omega)]; exact v9
    · exact bdb.mv (fun j => fz _ _ (by omega) (by omega) (by omega) (by omega) (by omega))
    · rw [f4 _ _ (by omega)]; exact vr r hr8
  have hB : ∀ j, j < n → 0 ≤ S 1 j ∧ S 1 j ≤ 255 := fun j hj => w.b j (by omega)
  have fq : ∀ h', frPl bs m4 h' → ∀ c j, ¬ (c = 0 ∧ j = 1) → c ≠ 2 → c ≠ 3 → c ≠ 6 → c ≠ 7 → ¬ (bs ≤ c ∧ c ≤ bs + 18) → h' c j = h c j := fun h' f c j n1 n2 n3 n4 n5 n6 => by rw [f c j (by omega) (by omega) n6 n4 n5, fz c j n1 (by omega) (by omega) (by omega) (by omega)]
  have f01 : ∀ h', frPl bs m4 h' → h' 0 1 = 0 := fun h' f => by rw [f 0 1 (by omega) (by omega) (by omega) (by omega) (by omega), f4 _ _ (by omega)]; exact v01
  refine C_lines (d := d) hE hs (n + 1) (tS S) 0 0 m4 (by omega) (Nat.le_refl 0) a0 pv tS_w (by rw [f4 _ _ (by omega)]; exact v24) (fun f ef h' fr bd fl => ⟨fun z => absurd rfl z, fun _ => ?_⟩) (fun r er h' fr p' w' e22 e24 => ⟨fun _ => ⟨?_, ?_, fun p1 q1 p2 q2 p3 q3 p4 q4 => ?_⟩, fun z => absurd (by decide) z⟩)
  · have et : tRes S (n : Int) = .inl f := by unfold tRes; rw [Int.toNat_natCast]; exact ef
    rw [et] at hK
    refine hK h' (fun S' rl => ?_)
    rw [if_pos ok] at rl
    obtain ⟨⟨w1, _, e2, _, _⟩, m, e51, e52⟩ := rl
    exact (i.alike m w1 (fun c j n1 n2 n3 n4 n5 n6 => fq h' fr c j n1 n2 n3 n4 n5 (by rw [← hbs]; exact n6)) (f01 h' fr) e2 (by rw [e51]; exact fl.1) (by rw [e52]; exact fl.2.1) (by rw [hbs]; exact bd)).ic
  · rw [fq h' fr _ _ (by omega) (by omega) (by omega) (by omega) (by omega) (by omega)]; exact i.tld
  · rw [fq h' fr _ _ (by omega) (by omega) (by omega) (by omega) (by omega) (by omega)]; exact spr
  · have et : tRes S (n : Int) = .inr r := by unfold tRes; rw [Int.toNat_natCast]; exact er
    rw [et] at hK
    have sb := pTx_b hB (n + 1) (tS S) 0 0 r (Nat.zero_le n) tS_w (tS_b bS) er
    have sn := sNew_ok w bS w' sb.1
    have o4 : ∀ c j, ¬ (c = 0 ∧ (j = 3 ∨ j = 4 ∨ j = 6)) → ¬ (c = 46 ∧ j = 5) → p4 c j = h' c j := fun c j n1 n2 => by rw [q4, hset_ne (by omega), q3, hset_ne (by omega), q2, hset_ne (by omega), q1, hset_ne (by omega)]
    have y3 : p4 0 3 = (bs : Nat) := by rw [q4, hset_ne (by omega), q3, hset_ne (by omega), q2, hset_ne (by omega), q1, hset_eq]
    have y4 : p4 0 4 = (bt : Nat) := by rw [q4, hset_ne (by omega), q3, hset_ne (by omega), q2, hset_eq]
    have y6 : p4 0 6 = -1 := by rw [q4, hset_eq]
    have y5 : p4 46 5 = 0 := by rw [q4, hset_ne (by omega), q3, hset_eq]
    clear q4 q3 q2 q1
    have icp : ICp (sNew S r.1) p4 bs := by
      refine ⟨sn.2.1, ⟨hs, y3, by rw [y4]; omega⟩, (p'.1.u sn.1 w'.bt).mv (fun c j n1 n2 => o4 c j (by omega) (by omega)), ?_, ⟨?_, fun j hj => ?_, ?_, ?_, ?_, ?_, ?_, ?_, fun k hk => ?_, fun j hj => ?_⟩, ?_, ?_⟩
      · have bdt : BdC p4 bt := by
          have z : BdC h bt := by
            rcases hb with e | e
            · rw [e]; exact i.bd.1
            · rw [e]; exact i.bd.2
          exact z.mv (fun j => by rw [o4 _ _ (by omega) (by omega)]; exact fq h' fr _ _ (by omega) (by omega) (by omega) (by omega) (by omega) (by omega))
        have bds : BdC p4 bs := p'.2.2.1.mv (fun j => o4 _ _ (by omega) (by omega))
        rcases hb with e | e
        · have e' : bs = 27 := by omega
          rw [e] at bdt
          rw [e'] at bds
          exact ⟨bdt, bds⟩
        · have e' : bs = 8 := by omega
          rw [e] at bdt
          rw [e'] at bds
          exact ⟨bds, bdt⟩
      · rw [o4 _ _ (by omega) (by omega)]; exact f01 h' fr
      · have z : sNew S r.1 0 2 = 0 := rfl
        omega
      · rw [y6]; rfl
      · rw [sNew_o (by omega), o4 _ _ (by omega) (by omega), fq h' fr _ _ (by omega) (by omega) (by omega) (by omega) (by omega) (by omega)]; exact a4
      · rw [sNew_o (by omega), o4 _ _ (by omega) (by omega), fq h' fr _ _ (by omega) (by omega) (by omega) (by omega) (by omega) (by omega)]; exact a5
      · rw [o4 _ _ (by omega) (by omega), e22.1]; rfl
      · rw [o4 _ _ (by omega) (by omega), e22.2]; rfl
      · rw [y5]; rfl
      · exact absurd hk (Nat.not_lt_zero _)
      · rw [o4 _ _ (by omega) (by omega), fq h' fr _ _ (by omega) (by omega) (by omega) (by omega) (by omega) (by omega)]; exact a10 j hj
      · obtain ⟨L, G, H, hF, hl⟩ := i.fi10
        exact ⟨L, G, H, hF.sm (fun c j q1 q2 => by rw [o4 _ _ (by omega) (by omega)]; exact fq h' fr _ _ (by omega) (by omega) (by omega) (by omega) (by omega) (by omega)), hl⟩
      · obtain ⟨L, G, H, hF, hl⟩ := i.tn
        exact ⟨L, G, H, hF.sm (fun c j q1 q2 => by rw [o4 _ _ (by omega) (by omega)]; exact fq h' fr _ _ (by omega) (by omega) (by omega) (by omega) (by omega) (by omega)), hl⟩
    refine C_learnAnew2 (d := d + 1) hE icp (fun h10 i10 e10 => ?_)
    have k := hK h10 (fun S' rl => ?_)
    · rw [e10, o4 _ _ (by omega) (by omega), e24]
      exact k
    · rw [if_pos ok] at rl
      obtain ⟨⟨w1, _, e2, e56, e57⟩, u, _, e51, e52, e54, e55, rr⟩ := rl
      have m : smH (sNew S r.1) S' := by
        refine ⟨sn.1.of u, fun c j c1 c2 => by rw [rr c j c1 c2, sNew_q (by omega) (by omega)], fun j c1 c2 => ?_⟩
        have cs : j = 54 ∨ j = 55 ∨ j = 56 ∨ j = 57 := by omega
        rcases cs with z | z | z | z <;> subst z
        · rw [e54]; rfl
        · rw [e55]; rfl
        · rw [e56, sNew_o (by omega)]
        · rw [e57, sNew_o (by omega)]
      obtain ⟨c1, c2, c3, c4, c5, c6, c7, c8, c9, c10⟩ := i10.ot
      exact (i10.alike m w1 (fun _ _ _ _ _ _ _ _ => rfl) (by rw [c1]; rfl) e2 (by rw [c6, e51]; rfl) (by rw [c7, e52]; rfl) (by
        rcases hs with e | e
        · rw [e]; exact i10.bd.2
        · rw [e]; exact i10.bd.1)).ic
end TTxc
