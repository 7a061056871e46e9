/-! ===== topic: text of the reference ===== -/
section TTxr
variable {E : zE} {d : Nat} {h : zH} {S : zH} {K : Int → zH → Prop}
theorem bt_0 : btk 0 3 = 0 ∧ btk 0 5 = 0 ∧ btk 0 6 = 0 := by
  unfold btk zshr zand
  decide +kernel
/-- the state behind a fault -/
theorem rT_f (i : IR S h) {h' h2 : zH} (fr : ∀ c j, ¬ (c = 0 ∧ (j = 0 ∨ j = 2 ∨ (32 ≤ j ∧ j ≤ 53))) → ¬ (2 ≤ c ∧ c ≤ 21 ∧ hO c ≤ j) → h2 c j = h c j) (e2 : h2 0 2 = 0) (bd : BdR h2) : smH S h2 ∧ IR h2 h2 ∧ h2 0 56 = S 0 56 ∧ h2 0 57 = S 0 57 := by
  have q := i.q
  have w := i.wf
  have wn := w.n
  unfold WfN at wn
  have m : smH S h2 := by
    refine ⟨⟨fun j a b => ?_, fun c j a b e => ?_, fun j hj => ?_⟩, fun c j a b => ?_, fun j a b => ?_⟩
    · rw [fr _ _ (by omega) (by omega)]; exact q.num (by omega)
    · rw [fr _ _ (by omega) (by omega)]; exact q c j (Or.inl ⟨by omega, by omega⟩)
    · have rl := w.r
      unfold rlOk at rl
      have o20 : hO 20 = 64 := rfl
      have o21 : hO 21 = 64 := rfl
      rw [fr 20 j (by omega) (by omega), fr 21 j (by omega) (by omega)]
      exact ⟨q 20 j (Or.inl ⟨by omega, by omega⟩), q 21 j (Or.inl ⟨by omega, by omega⟩)⟩
    · rw [fr _ _ (by omega) (by omega)]; exact q c j (Or.inl ⟨by omega, by omega⟩)
    · rw [fr _ _ (by omega) (by omega)]; exact q.num (by omega)
  refine ⟨m, ⟨m.wf w e2, fun c j _ => rfl, fun z r hr => ?_, ?_⟩, m.n5 (j := 56) (by omega) (by omega), m.n5 (j := 57) (by omega) (by omega)⟩
  · rw [fr 0 74 (by omega) (by omega)] at z
    rw [m.n (j := 24) (by omega) (by omega)] at hr
    have s := i.2.2.1 z r hr
    rw [m.nk, m.gh.1, m.gh.2]
    exact ShR_c (s.sm (fun c j a b => fr c j (by omega) (by omega))) (m.ls w _ (by omega)).symm
  · rw [show h2 39 = h 39 from funext fun j => fr 39 j (by omega) (by omega)]; exact i.2.2.2
/-- the state behind a text that was read -/
theorem rT_s (i : IR S h) {h' h3 : zH} {T : zH} (w : WfP T) (hf : HfR T h') (bd : BdR h') (fz : h' 39 = h 39) (e56 : h3 0 56 = S 0 56) (e57 : h3 0 57 = S 0 57)
    (e2 : h3 0 2 = 0) (e51 : h3 0 51 = 0) (e52 : h3 0 52 = -1) (e54 : h3 0 54 = 0) (e55 : h3 0 55 = -1) (e74 : h3 0 74 = 0) (en : ∀ j, 23 ≤ j → j ≤ 31 → h3 0 j = h' 0 (j + 9))
    (cp : ∀ c j, 2 ≤ c → c ≤ 21 → j < hO c → h3 c j = h' c (hO c + j)) (cq : ∀ c j, 2 ≤ c → c ≤ 21 → hO c ≤ j → h3 c j = h' c j) (c39 : h3 39 = h' 39) : smU T h3 ∧ IR h3 h3 ∧ BdR h3 := by
  have wS := i.wf.n
  unfold WfN at wS
  have wp := w.1
  have u : smU T h3 := by
    refine ⟨fun j a b => ?_, fun c j a b e => ?_, fun j hj => ?_⟩
    · rw [en j a b]; exact hf.1 j a b
    · rw [cp c j a (by omega) e]; exact hf.2.1 c j a b e
    · have r := w.2.2.2.2
      unfold rlOk at r
      have z := hf.2.2 j hj
      rw [cp 20 j (by omega) (by omega) (show j < 64 by omega), cp 21 j (by omega) (by omega) (show j < 64 by omega)]
      exact z
  have b3 : BdR h3 := by
    refine ⟨fun s hs => ?_, fun s hs => ?_⟩
    · rw [cq 6 _ (by omega) (by omega) (show 80 ≤ 80 + s by omega), cq 7 _ (by omega) (by omega) (show 80 ≤ 80 + s by omega), cq 8 _ (by omega) (by omega) (show 80 ≤ 80 + s by omega), cq 9 _ (by omega) (by omega) (show 80 ≤ 80 + s by omega), cq 10 _ (by omega) (by omega) (show 80 ≤ 80 + s by omega), cq 11 _ (by omega) (by omega) (show 80 ≤ 80 + s by omega)]
      exact bd.1 s hs
    · rw [cq 19 _ (by omega) (by omega) (show 20 ≤ 20 + s by omega)]; exact bd.2 s hs
  refine ⟨u, ⟨WfS_u u w.bt ?_ (fun s hs => ?_) w.2.1 w.2.2.1 w.2.2.2.1 w.2.2.2.2 ?_ (fun j hj => by omega), fun c j _ => rfl, fun z => absurd e74 z, ?_⟩, b3⟩
  · unfold WfN
    rw [e2, e54, e55, e56, e57, u.1 23 (by omega) (by omega), u.1 24 (by omega) (by omega), u.1 25 (by omega) (by omega), u.1 26 (by omega) (by omega), u.1 27 (by omega) (by omega), u.1 29 (by omega) (by omega), u.1 30 (by omega) (by omega), u.1 31 (by omega) (by omega)]
    omega
  · rw [cp 6 s (by omega) (by omega) (show s < 80 from hs), cp 7 s (by omega) (by omega) (show s < 80 from hs), cp 8 s (by omega) (by omega) (show s < 80 from hs), cp 9 s (by omega) (by omega) (show s < 80 from hs), cp 10 s (by omega) (by omega) (show s < 80 from hs), cp 11 s (by omega) (by omega) (show s < 80 from hs)]
    exact bd.1 s hs
  · unfold WfT
    rw [e54]
    exact ⟨fun k hk => absurd hk (Nat.not_lt_zero _), fun k hk => by omega⟩
  · rw [c39, fz]; exact i.2.2.2
theorem R_text (hE : isR E) (i : IR S h) (bS : BdR S) {x : Int} (hK : ∀ h' S', RelT S x S' → IR S' h' → K (aText S x) h') : zCI E mX10_text (d + 132) [zR 0, zI x] h K := by
  have q := i.q
  have w := i.wf
  have wn := w.n
  unfold WfN at wn
  unfold RelT aText at hK
  refine eX10_text (d := d + 131) hE (fun h1 e1 => ?_)
  have i1 := i.thr e1
  have e12 : h1 0 2 = S 0 2 := i1.q.num (by omega)
  rw [e12]
  have no : ¬ okTx S x → K (-2) h1 := fun z => by
    have k := hK h1 S (by rw [if_neg z]) i1
    rwa [if_neg z] at k
  refine ⟨fun c => no (fun z => by omega), fun c => ⟨fun c2 h4 e4 h5 e5 h6 e6 h7 e7 h8 e8 h9 e9 h10 e10 h11 e11 h12 e12 h13 e13 h14 e14 h15 e15 h16 e16 h17 e17 h18 e18 h19 e19 h20 e20 h21 e21 => ?_, fun c2 => no (fun z => by omega)⟩⟩
  have ok : okTx S x := ⟨by omega, c2⟩
  obtain ⟨n, hn⟩ : ∃ n : Nat, x = (n : Int) := ⟨x.toNat, by omega⟩
  subst hn
  rw [if_pos ok] at hK
  have fr : ∀ c j, ¬ (c = 0 ∧ (j = 0 ∨ j = 2 ∨ (32 ≤ j ∧ j ≤ 53))) → h21 c j = h c j := fun c j z => by
    rw [e21, hset_ne (by omega), e20, hset_ne (by omega), e19, hset_ne (by omega), e18, hset_ne (by omega), e17, hset_ne (by omega), e16, hset_ne (by omega), e15, hset_ne (by omega), e14, hset_ne (by omega), e13, hset_ne (by omega), e12, hset_ne (by omega), e11, hset_ne (by omega), e10, hset_ne (by omega), e9, hset_ne (by omega), e8, hset_ne (by omega), e7, hset_ne (by omega), e6, hset_ne (by omega), e5, hset_ne (by omega), e4, hset_ne (by omega), e1, hset_ne (by omega)]
  have v44 : h21 0 44 = (n : Int) := by rw [e21, hset_ne (by omega), e20, hset_ne (by omega), e19, hset_ne (by omega), e18, hset_ne (by omega), e17, hset_ne (by omega), e16, hset_ne (by omega), e15, hset_ne (by omega), e14, hset_ne (by omega), e13, hset_ne (by omega), e12, hset_ne (by omega), e11, hset_ne (by omega), e10, hset_ne (by omega), e9, hset_ne (by omega), e8, hset_ne (by omega), e7, hset_ne (by omega), e6, hset_ne (by omega), e5, hset_ne (by omega), e4, hset_eq]
  have v2 : h21 0 2 = 0 := by rw [e21, hset_ne (by omega), e20, hset_ne (by omega), e19, hset_ne (by omega), e18, hset_ne (by omega), e17, hset_ne (by omega), e16, hset_ne (by omega), e15, hset_ne (by omega), e14, hset_ne (by omega), e13, hset_ne (by omega), e12, hset_ne (by omega), e11, hset_ne (by omega), e10, hset_ne (by omega), e9, hset_ne (by omega), e8, hset_ne (by omega), e7, hset_ne (by omega), e6, hset_ne (by omega), e5, hset_eq]
  have v45 : h21 0 45 = 0 := by rw [e21, hset_ne (by omega), e20, hset_ne (by omega), e19, hset_ne (by omega), e18, hset_ne (by omega), e17, hset_ne (by omega), e16, hset_ne (by omega), e15, hset_ne (by omega), e14, hset_ne (by omega), e13, hset_ne (by omega), e12, hset_ne (by omega), e11, hset_ne (by omega), e10, hset_ne (by omega), e9, hset_ne (by omega), e8, hset_ne (by omega), e7, hset_ne (by omega), e6, hset_eq]
  have v49 : h21 0 49 = 0 := by rw [e21, hset_ne (by omega), e20, hset_ne (by omega), e19, hset_ne (by omega), e18, hset_ne (by omega), e17, hset_ne (by omega), e16, hset_ne (by omega), e15, hset_ne (by omega), e14, hset_ne (by omega), e13, hset_ne (by omega), e12, hset_ne (by omega), e11, hset_ne (by omega), e10, hset_ne (by omega), e9, hset_ne (by omega), e8, hset_ne (by omega), e7, hset_eq]
  have v50 : h21 0 50 = (-1) := by rw [e21, hset_ne (by omega), e20, hset_ne (by omega), e19, hset_ne (by omega), e18, hset_ne (by omega), e17, hset_ne (by omega), e16, hset_ne (by omega), e15, hset_ne (by omega), e14, hset_ne (by omega), e13, hset_ne (by omega), e12, hset_ne (by omega), e11, hset_ne (by omega), e10, hset_ne (by omega), e9, hset_ne (by omega), e8, hset_eq]
  have v32 : h21 0 32 = 0 := by rw [e21, hset_ne (by omega), e20, hset_ne (by omega), e19, hset_ne (by omega), e18, hset_ne (by omega), e17, hset_ne (by omega), e16, hset_ne (by omega), e15, hset_ne (by omega), e14, hset_ne (by omega), e13, hset_ne (by omega), e12, hset_ne (by omega), e11, hset_ne (by omega), e10, hset_ne (by omega), e9, hset_eq]
  have v33 : h21 0 33 = 0 := by rw [e21, hset_ne (by omega), e20, hset_ne (by omega), e19, hset_ne (by omega), e18, hset_ne (by omega), e17, hset_ne (by omega), e16, hset_ne (by omega), e15, hset_ne (by omega), e14, hset_ne (by omega), e13, hset_ne (by omega), e12, hset_ne (by omega), e11, hset_ne (by omega), e10, hset_eq]
  have v34 : h21 0 34 = 0 := by rw [e21, hset_ne (by omega), e20, hset_ne (by omega), e19, hset_ne (by omega), e18, hset_ne (by omega), e17, hset_ne (by omega), e16, hset_ne (by omega), e15, hset_ne (by omega), e14, hset_ne (by omega), e13, hset_ne (by omega), e12, hset_ne (by omega), e11, hset_eq]
  have v35 : h21 0 35 = 0 := by rw [e21, hset_ne (by omega), e20, hset_ne (by omega), e19, hset_ne (by omega), e18, hset_ne (by omega), e17, hset_ne (by omega), e16, hset_ne (by omega), e15, hset_ne (by omega), e14, hset_ne (by omega), e13, hset_ne (by omega), e12, hset_eq]
  have v36 : h21 0 36 = 0 := by rw [e21, hset_ne (by omega), e20, hset_ne (by omega), e19, hset_ne (by omega), e18, hset_ne (by omega), e17, hset_ne (by omega), e16, hset_ne (by omega), e15, hset_ne (by omega), e14, hset_ne (by omega), e13, hset_eq]
  have v37 : h21 0 37 = 0 := by rw [e21, hset_ne (by omega), e20, hset_ne (by omega), e19, hset_ne (by omega), e18, hset_ne (by omega), e17, hset_ne (by omega), e16, hset_ne (by omega), e15, hset_ne (by omega), e14, hset_eq]
  have v38 : h21 0 38 = 4 := by rw [e21, hset_ne (by omega), e20, hset_ne (by omega), e19, hset_ne (by omega), e18, hset_ne (by omega), e17, hset_ne (by omega), e16, hset_ne (by omega), e15, hset_eq]
  have v39 : h21 0 39 = 6 := by rw [e21, hset_ne (by omega), e20, hset_ne (by omega), e19, hset_ne (by omega), e18, hset_ne (by omega), e17, hset_ne (by omega), e16, hset_eq]
  have v40 : h21 0 40 = 300 := by rw [e21, hset_ne (by omega), e20, hset_ne (by omega), e19, hset_ne (by omega), e18, hset_ne (by omega), e17, hset_eq]
  have v41 : h21 0 41 = 0 := by rw [e21, hset_ne (by omega), e20, hset_ne (by omega), e19, hset_ne (by omega), e18, hset_eq]
  have v42 : h21 0 42 = 0 := by rw [e21, hset_ne (by omega), e20, hset_ne (by omega), e19, hset_eq]
  have v43 : h21 0 43 = 0 := by rw [e21, hset_ne (by omega), e20, hset_eq]
  have v53 : h21 0 53 = 0 := by rw [e21, hset_eq]
  have tx : TxR h21 (S 1) n := ⟨v44, by omega, fun j hj => ⟨by rw [fr 1 j (by omega)]; exact q 1 j (Or.inl ⟨by omega, by omega⟩), w.b j (by omega)⟩⟩
  clear e21 e20 e19 e18 e17 e16 e15 e14 e13 e12 e11 e10 e9 e8 e7 e6 e5 e4
  refine X10_token (d := d + 129) hE tx (Nat.zero_le n) v45 (fun h22 fr22 l22 => ?_)
  have a22 : AtR h22 (S 1) n 0 := ⟨tx.mv fr22, l22, Nat.zero_le n, by rw [fr22 _ _ (by omega)]; exact v49, by rw [fr22 _ _ (by omega)]; exact v50⟩
  have hf : HfR (tS S) h22 := by
    refine ⟨fun j a b => ?_, fun c j a b e => ?_, fun j hj => ?_⟩
    · rw [fr22 0 _ (by omega)]
      have cs : j = 23 ∨ j = 24 ∨ j = 25 ∨ j = 26 ∨ j = 27 ∨ j = 28 ∨ j = 29 ∨ j = 30 ∨ j = 31 := by omega
      rcases cs with z | z | z | z | z | z | z | z | z <;> subst z
      · exact v32
      · exact v33
      · exact v34
      · exact v35
      · exact v36
      · exact v37
      · exact v38
      · exact v39
      · exact v40
    · rw [fr22 c _ (by omega), fr c _ (by omega), tS_c (by omega)]
      exact q c _ (Or.inl ⟨by omega, by omega⟩)
    · rw [tS_0 (by omega)] at hj
      omega
  have b22 : BdR h22 := bS.mv (fun c j hc => by rw [fr22 _ _ (by omega), fr _ _ (by omega)]; exact q c j (Or.inl ⟨by omega, by omega⟩))
  have td : TdR (tS S) h22 := by
    have e42 : h22 0 42 = 0 := by rw [fr22 _ _ (by omega)]; exact v42
    have t28 : tS S 0 28 = 0 := tS_0 (by omega)
    have z := bt_0
    refine ⟨by rw [e42]; omega, ⟨?_, ?_, ?_⟩, fun _ => ⟨by rw [fr22 _ _ (by omega)]; exact v41, by rw [fr22 _ _ (by omega)]; exact v53⟩⟩
    · rw [e42, z.1, t28, bI_f (fun y => y rfl)]
    · rw [e42, z.2.1, tS_0 (by omega)]
    · rw [e42, z.2.2, tS_0 (by omega)]
  have fr2 : ∀ h', frT h22 h' → ∀ c j, ¬ (c = 0 ∧ (j = 0 ∨ j = 2 ∨ (32 ≤ j ∧ j ≤ 53))) → ¬ (2 ≤ c ∧ c ≤ 21 ∧ hO c ≤ j) → h' c j = h c j := fun h' f c j z1 z2 => by
    rw [f c j (by omega) (by omega) (by omega) z2, fr22 c j (by omega), fr c j z1]
  have e2 : ∀ h', frT h22 h' → h' 0 2 = 0 := fun h' f => by
    rw [f 0 2 (by omega) (by omega) (by omega) (by omega), fr22 0 2 (by omega)]; exact v2
  refine R_lines (d := d) hE (n + 1) (tS S) 0 0 h22 (by omega) (Nat.le_refl 0) a22 hf b22 tS_w td (by rw [fr22 _ _ (by omega)]; exact v43) (fun f ef h' fT b' fl => ?_) (fun r er h' fT b' hf' w' e49 e43 l9 => ?_)
  · refine bX10_text_139 (d := d + 131) hE (fun k1 g1 k2 g2 => ?_)
    have o1 : ∀ c j, ¬ (c = 0 ∧ (j = 51 ∨ j = 52)) → k2 c j = h' c j := fun c j z => by rw [g2, hset_ne (by omega), g1, hset_ne (by omega)]
    have k51 : k2 0 51 = f.1 := by rw [g2, hset_ne (by omega), g1, hset_eq]; exact fl.1
    have k52 : k2 0 52 = (f.2 : Int) := by rw [g2, hset_eq, g1, hset_ne (by omega)]; exact fl.2.1
    have k49 : k2 0 49 = f.1 := by rw [o1 _ _ (by omega)]; exact fl.1
    refine ⟨fun z => absurd (by rw [← k49]; exact z) fl.2.2, fun _ => ?_⟩
    have bk : BdR k2 := b'.mv (fun c j hc => o1 c j (by omega))
    have k20 : k2 0 2 = 0 := by rw [o1 _ _ (by omega)]; exact e2 h' fT
    have g := rT_f (h' := h') (h2 := k2) i (fun c j z1 z2 => by rw [o1 c j (by omega)]; exact fr2 h' fT c j z1 z2) k20 bk
    have et : tRes S (n : Int) = .inl f := by unfold tRes; rw [Int.toNat_natCast]; exact ef
    have k := hK k2 k2 (by rw [if_pos ok, et]; exact ⟨⟨g.2.1.wf, bk, k20, g.2.2⟩, g.1, k51, k52⟩) g.2.1
    rw [et] at k
    exact k
  · refine bX10_text_139 (d := d + 131) hE (fun k1 g1 k2 g2 => ?_)
    have o1 : ∀ c j, ¬ (c = 0 ∧ (j = 51 ∨ j = 52)) → k2 c j = h' c j := fun c j z => by rw [g2, hset_ne (by omega), g1, hset_ne (by omega)]
    have k51 : k2 0 51 = 0 := by rw [g2, hset_ne (by omega), g1, hset_eq]; exact e49.1
    have k52 : k2 0 52 = -1 := by rw [g2, hset_eq, g1, hset_ne (by omega)]; exact e49.2
    have k49 : k2 0 49 = 0 := by rw [o1 _ _ (by omega)]; exact e49.1
    refine ⟨fun _ => eX10_lays hE (fun p1 f1 p2 f2 p3 f3 p4 f4 p5 f5 p6 f6 p7 f7 p8 f8 p9 f9 p10 f10 p11 f11 p12 f12 => ?_), fun z => absurd k49 z⟩
    have o12 : ∀ c j, ¬ (c = 0 ∧ ((23 ≤ j ∧ j ≤ 31) ∨ j = 54 ∨ j = 55 ∨ j = 74)) → p12 c j = k2 c j := fun c j z => by rw [f12, hset_ne (by omega), f11, hset_ne (by omega), f10, hset_ne (by omega), f9, hset_ne (by omega), f8, hset_ne (by omega), f7, hset_ne (by omega), f6, hset_ne (by omega), f5, hset_ne (by omega), f4, hset_ne (by omega), f3, hset_ne (by omega), f2, hset_ne (by omega), f1, hset_ne (by omega)]
    have u23 : p12 0 23 = k2 0 32 := by rw [f12, hset_ne (by omega), f11, hset_ne (by omega), f10, hset_ne (by omega), f9, hset_ne (by omega), f8, hset_ne (by omega), f7, hset_ne (by omega), f6, hset_ne (by omega), f5, hset_ne (by omega), f4, hset_ne (by omega), f3, hset_ne (by omega), f2, hset_ne (by omega), f1, hset_eq]
    have u24 : p12 0 24 = k2 0 33 := by rw [f12, hset_ne (by omega), f11, hset_ne (by omega), f10, hset_ne (by omega), f9, hset_ne (by omega), f8, hset_ne (by omega), f7, hset_ne (by omega), f6, hset_ne (by omega), f5, hset_ne (by omega), f4, hset_ne (by omega), f3, hset_ne (by omega), f2, hset_eq, f1, hset_ne (by omega)]
    have u25 : p12 0 25 = k2 0 34 := by rw [f12, hset_ne (by omega), f11, hset_ne (by omega), f10, hset_ne (by omega), f9, hset_ne (by omega), f8, hset_ne (by omega), f7, hset_ne (by omega), f6, hset_ne (by omega), f5, hset_ne (by omega), f4, hset_ne (by omega), f3, hset_eq, f2, hset_ne (by omega), f1, hset_ne (by omega)]
    have u26 : p12 0 26 = k2 0 35 := by rw [f12, hset_ne (by omega), f11, hset_ne (by omega), f10, hset_ne (by omega), f9, hset_ne (by omega), f8, hset_ne (by omega), f7, hset_ne (by omega), f6, hset_ne (by omega), f5, hset_ne (by omega), f4, hset_eq, f3, hset_ne (by omega), f2, hset_ne (by omega), f1, hset_ne (by omega)]
    have u27 : p12 0 27 = k2 0 36 := by rw [f12, hset_ne (by omega), f11, hset_ne (by omega), f10, hset_ne (by omega), f9, hset_ne (by omega), f8, hset_ne (by omega), f7, hset_ne (by omega), f6, hset_ne (by omega), f5, hset_eq, f4, hset_ne (by omega), f3, hset_ne (by omega), f2, hset_ne (by omega), f1, hset_ne (by omega)]
    have u28 : p12 0 28 = k2 0 37 := by rw [f12, hset_ne (by omega), f11, hset_ne (by omega), f10, hset_ne (by omega), f9, hset_ne (by omega), f8, hset_ne (by omega), f7, hset_ne (by omega), f6, hset_eq, f5, hset_ne (by omega), f4, hset_ne (by omega), f3, hset_ne (by omega), f2, hset_ne (by omega), f1, hset_ne (by omega)]
    have u29 : p12 0 29 = k2 0 38 := by rw [f12, hset_ne (by omega), f11, hset_ne (by omega), f10, hset_ne (by omega), f9, hset_ne (by omega), f8, hset_ne (by omega), f7, hset_eq, f6, hset_ne (by omega), f5, hset_ne (by omega), f4, hset_ne (by omega), f3, hset_ne (by omega), f2, hset_ne (by omega), f1, hset_ne (by omega)]
    have u30 : p12 0 30 = k2 0 39 := by rw [f12, hset_ne (by omega), f11, hset_ne (by omega), f10, hset_ne (by omega), f9, hset_ne (by omega), f8, hset_eq, f7, hset_ne (by omega), f6, hset_ne (by omega), f5, hset_ne (by omega), f4, hset_ne (by omega), f3, hset_ne (by omega), f2, hset_ne (by omega), f1, hset_ne (by omega)]
    have u31 : p12 0 31 = k2 0 40 := by rw [f12, hset_ne (by omega), f11, hset_ne (by omega), f10, hset_ne (by omega), f9, hset_eq, f8, hset_ne (by omega), f7, hset_ne (by omega), f6, hset_ne (by omega), f5, hset_ne (by omega), f4, hset_ne (by omega), f3, hset_ne (by omega), f2, hset_ne (by omega), f1, hset_ne (by omega)]
    have u54 : p12 0 54 = 0 := by rw [f12, hset_ne (by omega), f11, hset_ne (by omega), f10, hset_eq]
    have u55 : p12 0 55 = -1 := by rw [f12, hset_ne (by omega), f11, hset_eq]
    have u74 : p12 0 74 = 0 := by rw [f12, hset_eq]
    clear f12 f11 f10 f9 f8 f7 f6 f5 f4 f3 f2 f1
    have b12 : BdR p12 := b'.mv (fun c j hc => by rw [o12 c j (by omega), o1 c j (by omega)])
    refine R_laysC hE b12 (fun h3 cp => ?_)
    have dl : ∀ c, c ≤ 21 → dL 22 22 22 0 c = hO c := fun c hc => by
      unfold dL
      rw [if_pos (by omega)]
    have c0 : ∀ j, h3 0 j = p12 0 j := fun j => by rw [cp 0 j, if_neg (by omega)]
    have g := rT_s (h' := h') (h3 := h3) i w' hf' b' (funext fun j => fr2 h' fT 39 j (by omega) (by omega)) ?_ ?_ ?_ ?_ ?_ ?_ ?_ ?_ ?_ ?_ ?_ ?_
    · have et : tRes S (n : Int) = .inr r := by unfold tRes; rw [Int.toNat_natCast]; exact er
      have q2 : h3 0 2 = 0 := by rw [c0, o12 _ _ (by omega), o1 _ _ (by omega)]; exact e2 h' fT
      have q51 : h3 0 51 = 0 := by rw [c0, o12 _ _ (by omega)]; exact k51
      have q52 : h3 0 52 = -1 := by rw [c0, o12 _ _ (by omega)]; exact k52
      have q56 : h3 0 56 = S 0 56 := by rw [c0, o12 _ _ (by omega), o1 _ _ (by omega), fr2 h' fT 0 56 (by omega) (by omega)]; exact q.num (by omega)
      have q57 : h3 0 57 = S 0 57 := by rw [c0, o12 _ _ (by omega), o1 _ _ (by omega), fr2 h' fT 0 57 (by omega) (by omega)]; exact q.num (by omega)
      have k := hK h3 h3 (by rw [if_pos ok, et]; exact ⟨⟨g.2.1.wf, g.2.2, q2, q56, q57⟩, g.1, w', q51, q52, by rw [c0]; exact u54, by rw [c0]; exact u55, fun c j a b => by rw [cp c j, if_neg (by omega), o12 _ _ (by omega), o1 _ _ (by omega), fr2 h' fT c j (by omega) (by omega)]; exact q c j (Or.inl ⟨by omega, by omega⟩)⟩) g.2.1
      rw [et] at k
      rw [c0, o12 _ _ (by omega), o1 _ _ (by omega), e43]
      exact k
    · rw [c0, o12 _ _ (by omega), o1 _ _ (by omega), fr2 h' fT 0 56 (by omega) (by omega)]; exact q.num (by omega)
    · rw [c0, o12 _ _ (by omega), o1 _ _ (by omega), fr2 h' fT 0 57 (by omega) (by omega)]; exact q.num (by omega)
    · rw [c0, o12 _ _ (by omega), o1 _ _ (by omega)]; exact e2 h' fT
    · rw [c0, o12 _ _ (by omega)]; exact k51
    · rw [c0, o12 _ _ (by omega)]; exact k52
    · rw [c0]; exact u54
    · rw [c0]; exact u55
    · rw [c0]; exact u74
    · intro j a b
      rw [c0, ← o1 0 (j + 9) (by omega)]
      have cs : j = 23 ∨ j = 24 ∨ j = 25 ∨ j = 26 ∨ j = 27 ∨ j = 28 ∨ j = 29 ∨ j = 30 ∨ j = 31 := by omega
      rcases cs with z | z | z | z | z | z | z | z | z <;> subst z
      · exact u23
      · exact u24
      · exact u25
      · exact u26
      · exact u27
      · exact u28
      · exact u29
      · exact u30
      · exact u31
    · intro c j a b e
      rw [cp c j, dl c b, if_pos ⟨a, b, e⟩, o12 _ _ (by omega), o1 _ _ (by omega)]
    · intro c j a b e
      rw [cp c j, dl c b, if_neg (by omega), o12 _ _ (by omega), o1 _ _ (by omega)]
    · funext j
      rw [cp 39 j, if_neg (by omega), o12 _ _ (by omega), o1 _ _ (by omega)]
end TTxr
