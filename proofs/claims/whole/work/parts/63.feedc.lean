/-! ===== topic: feed of the class ===== -/
section TFeedc
variable {E : zE} {d : Nat} {h : zH} {S : zH} {K : Int → zH → Prop}
theorem X9_put4 (hE : isC E) {p : Nat} (hp : h 0 1 = p) (hp4 : p + 4 ≤ 900) {x : Int} {K : zH → Prop} (hK : ∀ h', (∀ c j, ¬ (c = 1 ∧ p ≤ j ∧ j < p + 4) → ¬ (c = 0 ∧ j = 1) → h' c j = h c j) → h' 0 1 = ((p + 4 : Nat) : Int) → (∀ i, i < 4 → h' 1 (p + i) = bt x (((24 - 8 * i : Nat)) : Int)) → K h') : zCV E mX9_putFourBytes d [zR 0, zI x] h K := by
  have loop : ∀ (m i : Nat), i + m = 4 → ∀ h1 : zH, (∀ c j, ¬ (c = 1 ∧ p ≤ j ∧ j < p + i) → ¬ (c = 0 ∧ j = 1) → h1 c j = h c j) → h1 0 1 = ((p + i : Nat) : Int) → (∀ i', i' < i → h1 1 (p + i') = bt x (((24 - 8 * i' : Nat)) : Int)) → zG E mX9_putFourBytes d 3 [zR 0, zI x, zI (24 - 8 * (i : Int))] [] h1 (qV K) := by
    intro m
    induction m with
    | zero =>
      intro i hi h1 fr e1 k1
      have e : i = 4 := by omega
      subst e
      exact bX9_putFourBytes_3 hE ⟨fun _ => hK h1 fr e1 k1, fun c => absurd (by omega) c⟩
    | succ m ih =>
      intro i hi h1 fr e1 k1
      have es : (24 - 8 * (i : Int)) = ((24 - 8 * i : Nat) : Int) := by omega
      have bc := bt_c (x := x) (k := 24 - 8 * i) (by omega)
      have br := bt_r x (((24 - 8 * i : Nat)) : Int)
      refine bX9_putFourBytes_3 hE ⟨fun c => absurd c (by omega), fun _ => ⟨fun c => absurd c (by rw [e1]; omega), fun _ => ?_⟩⟩
      rw [es, bc, e1, Int.toNat_natCast]
      refine ⟨nat_in (n := 900) (by omega), by omega, fun h3 e3 h4 e4 y ey => ?_⟩
      have q3 : h3 0 1 = ((p + i : Nat) : Int) := by rw [e3, hset_ne (by omega)]; exact e1
      rw [q3, w_suc (by omega)] at e4
      rw [w32i (by omega) (by omega)] at ey
      rw [ey, show ((24 - 8 * i : Nat) : Int) + -8 = 24 - 8 * ((i + 1 : Nat) : Int) by omega]
      refine ih (i + 1) (by omega) h4 (fun c j n1 n2 => ?_) ?_ (fun i' hi' => ?_)
      · rw [e4, hset_ne (by omega), e3, hset_ne (by omega)]; exact fr c j (by omega) n2
      · rw [e4, hset_eq]; rfl
      · by_cases z : i' = i
        · subst z; rw [e4, hset_ne (by omega), e3, hset_eq]
        · rw [e4, hset_ne (by omega), e3, hset_ne (by omega)]; exact k1 i' (by omega)
  refine eX9_putFourBytes hE ?_
  have := loop 4 0 rfl h (fun _ _ _ _ => rfl) hp (fun i' hi' => absurd hi' (by omega))
  exact this
theorem sm_all {S' : zH} (r : ∀ c j, c ≠ 1 → ¬ (c = 0 ∧ j = 2) → S' c j = S c j) : sNk S' = sNk S ∧ sTr S' = sTr S ∧ sLs S' = sLs S ∧ sG S' = sG S ∧ sH S' = sH S := by
  have rr : ∀ c, c ≠ 1 → c ≠ 0 → S' c = S c := fun c n1 n2 => funext fun j => r c j n1 (by omega)
  have eT : sTr S' = sTr S := by
    funext n
    unfold sTr
    rw [rr 6 (by omega) (by omega), rr 7 (by omega) (by omega), rr 11 (by omega) (by omega), rr 22 (by omega) (by omega), rr 23 (by omega) (by omega), rr 24 (by omega) (by omega), rr 25 (by omega) (by omega)]
  refine ⟨?_, eT, ?_, ?_, ?_⟩
  · unfold sNk
    rw [r 0 54 (by omega) (by omega), r 0 55 (by omega) (by omega)]
  · funext n
    unfold sLs
    rw [eT, r 0 56 (by omega) (by omega), r 0 24 (by omega) (by omega), rr 5 (by omega) (by omega), rr 8 (by omega) (by omega), rr 9 (by omega) (by omega), rr 10 (by omega) (by omega)]
  · unfold sG
    rw [r 0 29 (by omega) (by omega)]
  · unfold sH
    rw [r 0 30 (by omega) (by omega)]
theorem C_feed (hE : isC E) (i : IC S h) {a b c e f : Int} (hK : ∀ h', IC (uFeed S a b c e f) h' → K (aFeed S) h') : zCI E mX9_feed (d + 1) [zR 0, zI a, zI b, zI c, zI e, zI f] h K := by
  obtain ⟨bt', i⟩ := i
  have hb := i.hb
  have wn := i.wf.n
  unfold WfN at wn
  obtain ⟨a1, a2, a3, a4, a5, a6, a7, a8, a9, a10⟩ := i.ot
  unfold uFeed aFeed at hK
  refine eX9_feed hE ?_
  rw [a1, w32i (by omega) (by omega)]
  refine ⟨fun c1 => absurd c1 (by omega), fun _ => ⟨fun c1 => ?_, fun c1 => ?_⟩⟩
  · have c8 : S 0 2 ≤ 880 := by omega
    rw [if_pos c8, if_pos c8] at hK
    obtain ⟨p, hp⟩ : ∃ p : Nat, S 0 2 = p := ⟨(S 0 2).toNat, by omega⟩
    refine X9_put4 hE (p := p) (by rw [a1]; exact hp) (by omega) (fun h1 f1 p1 b1 => X9_put4 hE (p := p + 4) p1 (by omega) (fun h2 f2 p2 b2 => X9_put4 hE (p := p + 4 + 4) p2 (by omega) (fun h3 f3 p3 b3 => X9_put4 hE (p := p + 4 + 4 + 4) p3 (by omega) (fun h4 f4 p4 b4 => X9_put4 hE (p := p + 4 + 4 + 4 + 4) p4 (by omega) (fun h5 f5 p5 b5 => ?_)))))
    have fr : ∀ c' j, ¬ (c' = 1 ∧ p ≤ j ∧ j < p + 20) → ¬ (c' = 0 ∧ j = 1) → h5 c' j = h c' j := fun c' j n1 n2 => by
      rw [f5 c' j (by omega) n2, f4 c' j (by omega) n2, f3 c' j (by omega) n2, f2 c' j (by omega) n2, f1 c' j (by omega) n2]
    have ep : h5 0 1 = S 0 2 + 20 := by rw [p5, hp]; omega
    rw [ep]
    have by5 : ∀ k, k < 20 → h5 1 (p + k) = fdB a b c e f k := by
      intro k hk
      unfold fdB
      rcases (show k < 4 ∨ (4 ≤ k ∧ k < 8) ∨ (8 ≤ k ∧ k < 12) ∨ (12 ≤ k ∧ k < 16) ∨ (16 ≤ k ∧ k < 20) by omega) with z | z | z | z | z
      · rw [if_pos z, show k % 4 = k by omega, f5 _ _ (by omega) (by omega), f4 _ _ (by omega) (by omega), f3 _ _ (by omega) (by omega), f2 _ _ (by omega) (by omega)]
        exact b1 k z
      · rw [if_neg (by omega), if_pos z.2, show k % 4 = k - 4 by omega, f5 _ _ (by omega) (by omega), f4 _ _ (by omega) (by omega), f3 _ _ (by omega) (by omega), show p + k = p + 4 + (k - 4) by omega]
        exact b2 (k - 4) (by omega)
      · rw [if_neg (by omega), if_neg (by omega), if_pos z.2, show k % 4 = k - 8 by omega, f5 _ _ (by omega) (by omega), f4 _ _ (by omega) (by omega), show p + k = p + 4 + 4 + (k - 8) by omega]
        exact b3 (k - 8) (by omega)
      · rw [if_neg (by omega), if_neg (by omega), if_neg (by omega), if_pos z.2, show k % 4 = k - 12 by omega, f5 _ _ (by omega) (by omega), show p + k = p + 4 + 4 + 4 + (k - 12) by omega]
        exact b4 (k - 12) (by omega)
      · rw [if_neg (by omega), if_neg (by omega), if_neg (by omega), if_neg (by omega), show k % 4 = k - 16 by omega, show p + k = p + 4 + 4 + 4 + 4 + (k - 16) by omega]
        exact b5 (k - 16) (by omega)
    have o : ∀ c' j, c' ≠ 1 → ¬ (c' = 0 ∧ j = 2) → hset (stF S a b c e f 20) 0 2 (S 0 2 + 20) c' j = S c' j := fun c' j n1 n2 => by rw [hset_ne n2, stF_ne n1]
    have sm := sm_all o
    refine hK h5 ⟨bt', fd_wf i.wf c8, ⟨hb, by rw [fr _ _ (by omega) (by omega)]; exact i.tld, by rw [fr _ _ (by omega) (by omega)]; exact i.spr⟩, (i.sv.mv (fun c j q1 q2 => fr c j (by omega) (by omega))).ms ⟨fun c' h1 h2 => funext fun j => o c' j (by omega) (by omega), fun j h1 h2 => o 0 j (by omega) (by omega)⟩, ⟨i.bd.1.mv (fun j => fr _ _ (by omega) (by omega)), i.bd.2.mv (fun j => fr _ _ (by omega) (by omega))⟩, ?_, ?_, ?_, ?_⟩
    · refine ⟨by rw [hset_eq]; exact ep, fun j hj => ?_, by rw [fr _ _ (by omega) (by omega), o _ _ (by omega) (by omega)]; exact a3, by rw [fr _ _ (by omega) (by omega), o _ _ (by omega) (by omega)]; exact a4, by rw [fr _ _ (by omega) (by omega), o _ _ (by omega) (by omega)]; exact a5, by rw [fr _ _ (by omega) (by omega), o _ _ (by omega) (by omega)]; exact a6, by rw [fr _ _ (by omega) (by omega), o _ _ (by omega) (by omega)]; exact a7, by rw [fr _ _ (by omega) (by omega), o _ _ (by omega) (by omega)]; exact a8, fun n hn => ?_, fun j hj => by rw [fr _ _ (by omega) (by omega)]; exact a10 j hj⟩
      · rw [hset_eq] at hj
        rw [hset_ne (by omega)]
        unfold stF
        rw [show (S 0 2).toNat = p by omega]
        by_cases z : p ≤ j
        · rw [if_pos ⟨rfl, z, by omega⟩]
          have := by5 (j - p) (by omega)
          rwa [show p + (j - p) = j by omega] at this
        · rw [if_neg (fun q => z q.2.1), fr _ _ (by omega) (by omega)]
          exact a2 j (by omega)
      · rw [o _ _ (by omega) (by omega)] at hn
        rw [fr _ _ (by omega) (by omega), fr _ _ (by omega) (by omega), fr _ _ (by omega) (by omega), fr _ _ (by omega) (by omega), o _ _ (by omega) (by omega), o _ _ (by omega) (by omega), o _ _ (by omega) (by omega), o _ _ (by omega) (by omega)]
        exact a9 n hn
    · intro r k hr hk
      rw [o _ _ (by omega) (by omega)] at hr hk
      have z := i.nw r k hr hk
      rw [sm.1, sm.2.1, o _ _ (by omega) (by omega), o _ _ (by omega) (by omega), o _ _ (by omega) (by omega)]
      unfold sixF at z ⊢
      rw [fr _ _ (by omega) (by omega), fr _ _ (by omega) (by omega), fr _ _ (by omega) (by omega), fr _ _ (by omega) (by omega), fr _ _ (by omega) (by omega), fr _ _ (by omega) (by omega)]
      exact z
    · rw [sm.1, sm.2.2.1, sm.2.2.2.1, sm.2.2.2.2]
      exact i.fi.sm (fun c j q1 q2 => fr c j (by omega) (by omega))
    · obtain ⟨L, G, H, hF, hl⟩ := i.tn
      exact ⟨L, G, H, hF.sm (fun c j q1 q2 => fr c j (by omega) (by omega)), hl⟩
  · have c8 : ¬ S 0 2 ≤ 880 := by omega
    rw [if_neg c8, if_neg c8] at hK
    exact hK h i.ic
end TFeedc
