/-! ===== topic: notes, known, mode ===== -/
section TUpd
variable {E : zE} {d : Nat} {h : zH} {S : zH} {K : Int → zH → Prop}
/-- the told survey is the same -/
def smT (S S' : zH) : Prop := (∀ c, 2 ≤ c → c ≤ 21 → S' c = S c) ∧ ∀ j, 23 ≤ j → j ≤ 31 → S' 0 j = S 0 j
theorem SvC.ms {S' : zH} {b : Nat} (i : SvC S h b) (m : smT S S') : SvC S' h b := by
  have r := m.1
  have n := m.2
  unfold SvC NmC RgC WyC SyC RuC at i ⊢
  rw [n 23 (by omega) (by omega), n 24 (by omega) (by omega), n 25 (by omega) (by omega), n 26 (by omega) (by omega), n 27 (by omega) (by omega), n 28 (by omega) (by omega), n 29 (by omega) (by omega), n 30 (by omega) (by omega), n 31 (by omega) (by omega), r 2 (by omega) (by omega), r 3 (by omega) (by omega), r 4 (by omega) (by omega), r 5 (by omega) (by omega), r 6 (by omega) (by omega), r 7 (by omega) (by omega), r 8 (by omega) (by omega), r 9 (by omega) (by omega), r 10 (by omega) (by omega), r 11 (by omega) (by omega), r 12 (by omega) (by omega), r 13 (by omega) (by omega), r 14 (by omega) (by omega), r 15 (by omega) (by omega), r 16 (by omega) (by omega), r 17 (by omega) (by omega), r 18 (by omega) (by omega), r 19 (by omega) (by omega), r 20 (by omega) (by omega), r 21 (by omega) (by omega)]
  exact i
theorem WfS.ms {S' : zH} (w : WfS S) (m : smT S S') (wn : WfN S') (wt : WfT S') (wb : WfB S') : WfS S' := by
  have r := m.1
  have n := m.2
  refine ⟨wn, ?_, ?_, ?_, wt, ?_, wb⟩
  · have g := w.g
    unfold WfG at g ⊢
    rw [n 23 (by omega) (by omega), n 24 (by omega) (by omega), r 4 (by omega) (by omega), r 5 (by omega) (by omega), r 6 (by omega) (by omega), r 7 (by omega) (by omega), r 8 (by omega) (by omega), r 9 (by omega) (by omega), r 10 (by omega) (by omega), r 11 (by omega) (by omega)]
    exact g
  · have g := w.w
    unfold WfW at g ⊢
    rw [n 25 (by omega) (by omega), r 13 (by omega) (by omega), r 14 (by omega) (by omega)]
    exact g
  · have g := w.y
    unfold WfY at g ⊢
    rw [n 24 (by omega) (by omega), n 26 (by omega) (by omega), n 27 (by omega) (by omega), r 16 (by omega) (by omega), r 17 (by omega) (by omega), r 18 (by omega) (by omega), r 19 (by omega) (by omega)]
    exact g
  · have g := w.r
    unfold rlOk at g ⊢
    rw [n 28 (by omega) (by omega), r 20 (by omega) (by omega), r 21 (by omega) (by omega)]
    exact g
theorem zq.set (q : zq S h) (c k : Nat) (v : Int) : zq (hset S c k v) (hset h c k v) := by
  intro c' j hz
  unfold hset
  split
  · rfl
  · exact q c' j hz
theorem zq.out (q : zq S h) {c k : Nat} {v : Int} (hn : ¬ zn c k) : zq S (hset h c k v) := by
  intro c' j hz
  rw [hset_ne (fun z => hn (by rw [← z.1, ← z.2]; exact hz))]
  exact q c' j hz
/-- before learning -/
def ICp (S h : zH) (b : Nat) : Prop := WfS S ∧ ((b = 8 ∨ b = 27) ∧ h 0 3 = (b : Nat) ∧ h 0 4 = ((35 - b : Nat) : Int)) ∧ SvC S h b ∧ (BdC h 8 ∧ BdC h 27) ∧ othC S h ∧ (∃ L G H, FiInv h 52 L G H ∧ ∀ r, r < 8 → (L r).length ≤ 10) ∧ thnC h
theorem C_learnAnew (hE : isC E) {b : Nat} (p : ICp S h b) {K : zH → Prop} (hK : ∀ h', ICb S h' b → K h') : zCV E mX9_learnAnew (d + 5) [zR 0] h K := by
  obtain ⟨w, ⟨hb, h3, h4⟩, sv, bd, ot, ⟨L0, G0, H0, hF, hl⟩, tn⟩ := p
  have wn := w.n
  unfold WfN at wn
  have ot' := ot
  obtain ⟨a1, a2, a3, a4, a5, a6, a7, a8, a9, a10⟩ := ot'
  have bdb : BdC h b := by
    rcases hb with e | e
    · rw [e]; exact bd.1
    · rw [e]; exact bd.2
  have go : zCV E mX0_learn (d + 4) [zR 52, zR b, zR 46, zI (sNk S : Int), zI (h 0 7)] h (fun h_2 => K h_2) := by
    rw [a4]
    refine X0_learnI hE (Or.inl rfl) hb w sv bdb a8 a9 (sNk_le w) hF hl (fun h' fr f1 six => hK h' ?_)
    refine ⟨w, ⟨hb, by rw [fr _ _ (by omega)]; exact h3, by rw [fr _ _ (by omega)]; exact h4⟩, sv.mv (fun c j q1 q2 => fr c j (by omega)), ⟨bd.1.mv (fun j => fr _ _ (by omega)), bd.2.mv (fun j => fr _ _ (by omega))⟩, ot.mv (fun c j q => fr c j (by omega)), six, f1, ?_⟩
    obtain ⟨L, G, H, hF2, hl2⟩ := tn
    exact ⟨L, G, H, hF2.sm (fun c j q1 q2 => fr c j (by omega)), hl2⟩
  refine eX9_learnAnew (d := d + 4) hE (su_b hE hb) ⟨h3, eX9_notesKnown hE ?_⟩
  unfold sNk at go
  rw [a3, a8]
  refine ⟨fun c => ?_, fun c => ?_⟩
  · rw [if_neg c] at go
    rwa [show (((S 0 55).toNat : Nat) : Int) = S 0 55 by omega] at go
  · rw [if_pos (Decidable.not_not.mp c)] at go
    rwa [show (((S 0 54).toNat : Nat) : Int) = S 0 54 by omega] at go
theorem ICb.fi10 {b : Nat} (i : ICb S h b) : ∃ L G H, FiInv h 52 L G H ∧ ∀ r, r < 8 → (L r).length ≤ 10 := ⟨_, _, _, i.fi, fun r hr => (i.wf.pt hr).1⟩
/-! a note more -/
def stN (S : zH) (k w a b : Int) : zH := hset (hset (hset (hset (hset S 22 (S 0 54).toNat k) 23 (S 0 54).toNat w) 24 (S 0 54).toNat a) 25 (S 0 54).toNat b) 0 54 (S 0 54 + 1)
def ntOk (S : zH) (k w a b : Int) : Prop := S 0 54 < 60 ∧ (k = 0 ∨ k = 1 ∨ k = 2) ∧ (k = 2 → 0 ≤ w ∧ w < S 0 54) ∧ (k ≠ 2 → 0 ≤ w ∧ w < 80) ∧ (k = 1 → a = 0 ∨ a = 1) ∧ (k = 0 → -999 ≤ a ∧ a ≤ 999 ∧ -999 ≤ b ∧ b ≤ 999)
theorem stN_o {k w a b : Int} {c j : Nat} (h1 : ¬ (22 ≤ c ∧ c ≤ 25)) (h2 : ¬ (c = 0 ∧ j = 54)) : stN S k w a b c j = S c j := by
  unfold stN
  rw [hset_ne h2, hset_ne (by omega), hset_ne (by omega), hset_ne (by omega), hset_ne (by omega)]
theorem stN_54 {k w a b : Int} : stN S k w a b 0 54 = S 0 54 + 1 := by
  unfold stN
  rw [hset_eq]
theorem stN_at {k w a b : Int} : stN S k w a b 22 (S 0 54).toNat = k ∧ stN S k w a b 23 (S 0 54).toNat = w ∧ stN S k w a b 24 (S 0 54).toNat = a ∧ stN S k w a b 25 (S 0 54).toNat = b := by
  unfold stN
  refine ⟨?_, ?_, ?_, ?_⟩
  · rw [hset_ne (by omega), hset_ne (by omega), hset_ne (by omega), hset_ne (by omega), hset_eq]
  · rw [hset_ne (by omega), hset_ne (by omega), hset_ne (by omega), hset_eq]
  · rw [hset_ne (by omega), hset_ne (by omega), hset_eq]
  · rw [hset_ne (by omega), hset_eq]
theorem stN_lo {k w a b : Int} {c j : Nat} (hj : j ≠ (S 0 54).toNat) (hc : 22 ≤ c ∧ c ≤ 25) : stN S k w a b c j = S c j := by
  unfold stN
  rw [hset_ne (by omega), hset_ne (by omega), hset_ne (by omega), hset_ne (by omega), hset_ne (by omega)]
theorem stN_sm {k w a b : Int} : smT S (stN S k w a b) := ⟨fun c h1 h2 => funext fun j => stN_o (by omega) (by omega), fun j h1 h2 => stN_o (by omega) (by omega)⟩
theorem stN_wf (wf : WfS S) {k w a b : Int} (o : ntOk S k w a b) : WfS (stN S k w a b) := by
  have wn := wf.n
  unfold ntOk at o
  refine wf.ms stN_sm ?_ ?_ ?_
  · unfold WfN at wn ⊢
    rw [stN_54, stN_o (c := 0) (j := 2) (by omega) (by omega), stN_o (c := 0) (j := 23) (by omega) (by omega), stN_o (c := 0) (j := 24) (by omega) (by omega), stN_o (c := 0) (j := 25) (by omega) (by omega), stN_o (c := 0) (j := 26) (by omega) (by omega), stN_o (c := 0) (j := 27) (by omega) (by omega), stN_o (c := 0) (j := 29) (by omega) (by omega), stN_o (c := 0) (j := 30) (by omega) (by omega), stN_o (c := 0) (j := 31) (by omega) (by omega), stN_o (c := 0) (j := 55) (by omega) (by omega), stN_o (c := 0) (j := 56) (by omega) (by omega), stN_o (c := 0) (j := 57) (by omega) (by omega)]
    omega
  · unfold WfN at wn
    refine ⟨fun i hi => ?_, fun i hi => ?_⟩
    · rw [stN_54] at hi
      by_cases z : i = (S 0 54).toNat
      · subst z
        rw [stN_at.1, stN_at.2.1, stN_at.2.2.1]
        omega
      · rw [stN_lo z (by omega), stN_lo z (by omega), stN_lo z (by omega)]
        exact wf.t.1 i (by omega)
    · rw [stN_54] at hi
      by_cases z : i = (S 0 54).toNat
      · subst z
        rw [stN_at.1, stN_at.2.2.1, stN_at.2.2.2]
        exact o.2.2.2.2.2
      · rw [stN_lo z (by omega), stN_lo z (by omega), stN_lo z (by omega)]
        exact wf.t.2 i (by omega)
  · have g := wf.b
    unfold WfB at g ⊢
    rw [stN_o (c := 0) (j := 2) (by omega) (by omega), show stN S k w a b 1 = S 1 from funext fun j => stN_o (by omega) (by omega)]
    exact g
theorem X10_noted (hE : isR E) (i : IR S h) {k w a b : Int} (o : ntOk S k w a b) (hK : ∀ h', IR (stN S k w a b) h' → K (S 0 54) h') : zCI E mX10_noted d [zR 0, zI k, zI w, zI a, zI b] h K := by
  have wn := i.wf.n
  unfold WfN at wn
  have o' := o
  unfold ntOk at o'
  have e54 := i.q.num (j := 54) (by omega)
  refine eX10_noted hE ?_
  rw [e54]
  refine ⟨by omega, fun h1 e1 => ?_⟩
  have k1 : h1 0 54 = S 0 54 := by rw [e1, hset_ne (by omega)]; exact e54
  rw [k1]
  refine ⟨by omega, fun h2 e2 => ?_⟩
  have k2 : h2 0 54 = S 0 54 := by rw [e2, hset_ne (by omega)]; exact k1
  rw [k2]
  refine ⟨by omega, fun h3 e3 => ?_⟩
  have k3 : h3 0 54 = S 0 54 := by rw [e3, hset_ne (by omega)]; exact k2
  rw [k3]
  refine ⟨by omega, fun h4 e4 h5 e5 h6 e6 => ?_⟩
  have k4 : h4 0 54 = S 0 54 := by rw [e4, hset_ne (by omega)]; exact k3
  rw [k4, w32i (by omega) (by omega)] at e5
  have k6 : h6 0 54 = S 0 54 + 1 := by rw [e6, hset_ne (by omega), e5, hset_eq]
  rw [k6, w32i (by omega) (by omega), show S 0 54 + 1 - 1 = S 0 54 by omega]
  refine hK h6 ⟨stN_wf i.wf o, ?_, fun z => absurd (by rw [e6, hset_eq]) z, ?_⟩
  · rw [e6]
    refine zq.out ?_ (by unfold zn; omega)
    rw [e5, e4, e3, e2, e1]
    unfold stN
    exact ((((i.q.set 22 _ k).set 23 _ w).set 24 _ a).set 25 _ b).set 0 54 _
  · rw [e6, hset_rne (by omega), e5, hset_rne (by omega), e4, hset_rne (by omega), e3, hset_rne (by omega), e2, hset_rne (by omega), e1, hset_rne (by omega)]
    exact i.2.2.2
theorem C_takeNote (hE : isC E) {bt : Nat} (i : ICb S h bt) {k w a b : Int} (o : S 0 54 < 60 → ntOk S k w a b) {x : Int} (hx : x = if k = 2 then w else 6 * w) (h0 : ¬ S 0 54 < 60 → K (-1) h) (hK : S 0 54 < 60 → ∀ h', ICb (stN S k w a b) h' bt → K (S 0 54) h') : zCI E mX9_takeNote (d + 6) [zR 0, zI k, zI x, zI a, zI b] h K := by
  have wn := i.wf.n
  unfold WfN at wn
  have hb := i.hb
  have ot := i.ot
  obtain ⟨a1, a2, a3, a4, a5, a6, a7, a8, a9, a10⟩ := ot
  refine eX9_takeNote (d := d + 5) hE (eX3_put hE ?_)
  rw [a8]
  refine ⟨fun c => ⟨by omega, fun h2 e2 => ?_⟩, fun c => ⟨fun _ => h0 c, fun c2 => absurd rfl c2⟩⟩
  have k2 : h2 46 5 = S 0 54 := by rw [e2, hset_ne (by omega)]; exact a8
  rw [k2]
  refine ⟨by omega, fun h3 e3 => ?_⟩
  have k3 : h3 46 5 = S 0 54 := by rw [e3, hset_ne (by omega)]; exact k2
  rw [k3]
  refine ⟨by omega, fun h4 e4 => ?_⟩
  have k4 : h4 46 5 = S 0 54 := by rw [e4, hset_ne (by omega)]; exact k3
  rw [k4]
  refine ⟨by omega, fun h5 e5 h6 e6 => ?_⟩
  have k5 : h5 46 5 = S 0 54 := by rw [e5, hset_ne (by omega)]; exact k4
  rw [k5, w32i (by omega) (by omega)] at e6
  have k6 : h6 46 5 = S 0 54 + 1 := by rw [e6, hset_eq]
  rw [k6, w32i (by omega) (by omega), show S 0 54 + 1 - 1 = S 0 54 by omega]
  have fr : ∀ c j, ¬ (47 ≤ c ∧ c ≤ 50) → ¬ (c = 46 ∧ j = 5) → h6 c j = h c j := fun c j n1 n2 => by
    rw [e6, hset_ne n2, e5, hset_ne (by omega), e4, hset_ne (by omega), e3, hset_ne (by omega), e2, hset_ne (by omega)]
  refine ⟨fun c2 => absurd c2 (by omega), fun _ => C_learnAnew hE (S := stN S k w a b) ?_ (hK c)⟩
  refine ⟨stN_wf i.wf (o c), ⟨hb, by rw [fr _ _ (by omega) (by omega)]; exact i.tld, by rw [fr _ _ (by omega) (by omega)]; exact i.spr⟩, (i.sv.mv (fun c j q1 q2 => fr c j (by omega) (by omega))).ms stN_sm, ⟨i.bd.1.mv (fun j => fr _ _ (by omega) (by omega)), i.bd.2.mv (fun j => fr _ _ (by omega) (by omega))⟩, ?_, ?_, ?_⟩
  · refine ⟨by rw [fr _ _ (by omega) (by omega), stN_o (by omega) (by omega)]; exact a1, fun j hj => ?_, by rw [fr _ _ (by omega) (by omega), stN_o (by omega) (by omega)]; exact a3, by rw [fr _ _ (by omega) (by omega), stN_o (by omega) (by omega)]; exact a4, by rw [fr _ _ (by omega) (by omega), stN_o (by omega) (by omega)]; exact a5, by rw [fr _ _ (by omega) (by omega), stN_o (by omega) (by omega)]; exact a6, by rw [fr _ _ (by omega) (by omega), stN_o (by omega) (by omega)]; exact a7, by rw [k6, stN_54], fun n hn => ?_, fun j hj => by rw [fr _ _ (by omega) (by omega)]; exact a10 j hj⟩
    · rw [stN_o (by omega) (by omega)] at hj
      rw [fr _ _ (by omega) (by omega), stN_o (by omega) (by omega)]; exact a2 j hj
    · rw [stN_54] at hn
      by_cases z : n = (S 0 54).toNat
      · subst z
        rw [stN_at.1, stN_at.2.1, stN_at.2.2.1, stN_at.2.2.2, ← hx]
        refine ⟨?_, ?_, ?_, ?_⟩
        · rw [e6, hset_ne (by omega), e5, hset_ne (by omega), e4, hset_ne (by omega), e3, hset_ne (by omega), e2, hset_eq]
        · rw [e6, hset_ne (by omega), e5, hset_ne (by omega), e4, hset_ne (by omega), e3, hset_eq]
        · rw [e6, hset_ne (by omega), e5, hset_ne (by omega), e4, hset_eq]
        · rw [e6, hset_ne (by omega), e5, hset_eq]
      · rw [stN_lo z (by omega), stN_lo z (by omega), stN_lo z (by omega), stN_lo z (by omega)]
        have := a9 n (by omega)
        rw [e6, e5, e4, e3, e2]
        rw [hset_ne (by omega), hset_ne (by omega), hset_ne (by omega), hset_ne (by omega), hset_ne (by omega), hset_ne (by omega), hset_ne (by omega), hset_ne (by omega), hset_ne (by omega), hset_ne (by omega), hset_ne (by omega), hset_ne (by omega), hset_ne (by omega), hset_ne (by omega), hset_ne (by omega), hset_ne (by omega), hset_ne (by omega), hset_ne (by omega), hset_ne (by omega), hset_ne (by omega)]
        exact this
  · obtain ⟨L, G, H, hF, hl⟩ := i.fi10
    exact ⟨L, G, H, hF.sm (fun c j q1 q2 => fr c j (by omega) (by omega)), hl⟩
  · obtain ⟨L, G, H, hF, hl⟩ := i.tn
    exact ⟨L, G, H, hF.sm (fun c j q1 q2 => fr c j (by omega) (by omega)), hl⟩
end TUpd
