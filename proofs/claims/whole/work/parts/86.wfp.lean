/-! ===== topic: a line keeps what holds of a survey that is being read ===== -/
section TWfp
variable {T : zH} {B : Nat → Int} {n : Nat}
theorem WfW.c {T' : zH} (w : WfW T) (e : T' 0 25 = T 0 25) (e1 : T' 13 = T 13) (e2 : T' 14 = T 14) : WfW T' := by
  unfold WfW at w ⊢
  rw [e, e1, e2]; exact w
theorem WfY.c {T' : zH} (w : WfY T) (e : T' 0 26 = T 0 26) (e27 : T 0 27 ≤ T' 0 27) (e24 : T 0 24 ≤ T' 0 24) (er : ∀ c, 16 ≤ c → c ≤ 19 → T' c = T c) : WfY T' := by
  intro s hs
  rw [e] at hs
  have a := w s hs
  rw [er 16 (by omega) (by omega), er 17 (by omega) (by omega), er 18 (by omega) (by omega), er 19 (by omega) (by omega)]
  exact ⟨⟨a.1.1, by omega⟩, ⟨a.2.1.1, by omega⟩, a.2.2⟩
theorem rlOk.c {T' : zH} (w : rlOk T) (e : T' 0 28 = T 0 28) (e1 : T' 20 = T 20) (e2 : T' 21 = T 21) : rlOk T' := by
  unfold rlOk at w ⊢
  rw [e, e1, e2]; exact w
/-- told numbers stay -/
def tdS (T T' : zH) : Prop := T' 0 28 = T 0 28 ∧ T' 0 32 = T 0 32 ∧ T' 0 33 = T 0 33
theorem pFresh_q {f : Nat → Int} {m q : Nat} {a : Int × Nat} (hq : q ≤ n) (e : pFresh B n f m q = .inr a) : a.2 ≤ n ∧ q < a.2 := by
  have r := tkQ_r (B := B) hq
  unfold pFresh at e
  split at e
  · rename_i c
    split at e
    · cases e
      have := r.2.2 (by omega)
      dsimp only
      omega
    · cases e
  · cases e
theorem pTold_q {f : Nat → Int} {m q : Nat} {a : Int × Nat} (hq : q ≤ n) (e : pTold B n f m q = .inr a) : a.2 ≤ n ∧ q < a.2 ∧ 0 ≤ a.1 ∧ a.1 < m := by
  have r := tkQ_r (B := B) hq
  unfold pTold at e
  split at e
  · rename_i c
    split at e
    · cases e
    · rename_i c2
      cases e
      have := r.2.2 (by omega)
      rcases fnd_r (f := f) (x := tkV B n q) m 0 with z | z
      · exact absurd z c2
      · dsimp only
        omega
  · cases e
theorem pHead_q {c s q : Nat} {mx : Int} {a : Int × Nat} (hq : q ≤ n) (e : pHead B n T c s mx q = .inr a) : T 0 c ≠ mx ∧ a.2 ≤ n ∧ q < a.2 := by
  unfold pHead at e
  split at e
  · cases e
  · rename_i z
    have r := tkQ_r (B := B) hq
    have := pFresh_q r.2.1 e
    exact ⟨z, this.1, by omega⟩
theorem pLand_w (w : WfP T) {q : Nat} (hq : q ≤ n) {r : zH × Nat} (e : pLand B n T q = .inr r) : WfP r.1 ∧ tdS T r.1 ∧ q < r.2 ∧ r.2 ≤ n := by
  unfold pLand at e
  cases h : pHead B n T 23 2 4 q with
  | inl f => rw [xB_l h] at e; cases e
  | inr v =>
    rw [xB_r h] at e
    cases e
    have hv := pHead_q hq h
    obtain ⟨wn, wr, ww, wy, wl⟩ := w
    have tn : ∀ j, j ≠ 23 → hset (hset T 2 (T 0 23).toNat v.1) 0 23 (T 0 23 + 1) 0 j = T 0 j := fun j n1 => by rw [hset_ne (by omega), hset_ne (by omega)]
    have t23 : hset (hset T 2 (T 0 23).toNat v.1) 0 23 (T 0 23 + 1) 0 23 = T 0 23 + 1 := hset_eq _ _ _ _
    have tr : ∀ c, c ≠ 0 → c ≠ 2 → hset (hset T 2 (T 0 23).toNat v.1) 0 23 (T 0 23 + 1) c = T c := fun c n1 n2 => by rw [hset_rne n1, hset_rne n2]
    dsimp only
    generalize hset (hset T 2 (T 0 23).toNat v.1) 0 23 (T 0 23 + 1) = T' at tn t23 tr
    refine ⟨⟨?_, fun r hr => ?_, ww.c (tn _ (by omega)) (tr _ (by omega) (by omega)) (tr _ (by omega) (by omega)), wy.c (tn _ (by omega)) (by rw [tn _ (by omega)]; omega) (by rw [tn _ (by omega)]; omega) (fun c a b => tr c (by omega) (by omega)), wl.c (tn _ (by omega)) (tr _ (by omega) (by omega)) (tr _ (by omega) (by omega))⟩, ⟨tn _ (by omega), tn _ (by omega), tn _ (by omega)⟩, hv.2.2, hv.2.1⟩
    · rw [t23, tn 24 (by omega), tn 25 (by omega), tn 26 (by omega), tn 27 (by omega), tn 29 (by omega), tn 30 (by omega), tn 31 (by omega), tn 32 (by omega), tn 33 (by omega)]
      omega
    · rw [tn 24 (by omega)] at hr
      have := wr r hr
      rw [tr 4 (by omega) (by omega), tr 5 (by omega) (by omega), t23]
      omega
theorem pGrid_w (w : WfP T) {q : Nat} (hq : q ≤ n) {r : zH × Nat} (e : pGrid B n T q = .inr r) : WfP r.1 ∧ (r.1 0 28 = T 0 28 ∧ r.1 0 32 = 1 ∧ r.1 0 33 = T 0 33) ∧ q < r.2 ∧ r.2 ≤ n := by
  unfold pGrid at e
  have rq := tkQ_r (B := B) hq
  split at e
  · cases h : pNum B n 0 9 (tkQ B n q) with
    | inl f => rw [xB_l h] at e; cases e
    | inr a =>
      rw [xB_r h] at e
      have ha := pNum_q rq.2.1 h
      cases h2 : pNum B n 1 20 a.2 with
      | inl f => rw [xB_l h2] at e; cases e
      | inr b =>
        rw [xB_r h2] at e
        have hb := pNum_q ha.1 h2
        cases e
        obtain ⟨wn, wr, ww, wy, wl⟩ := w
        have tn : ∀ j, j ≠ 29 → j ≠ 30 → j ≠ 32 → hset (hset (hset T 0 29 a.1) 0 30 b.1) 0 32 1 0 j = T 0 j := fun j n1 n2 n3 => by rw [hset_ne (by omega), hset_ne (by omega), hset_ne (by omega)]
        have t29 : hset (hset (hset T 0 29 a.1) 0 30 b.1) 0 32 1 0 29 = a.1 := by rw [hset_ne (by omega), hset_ne (by omega), hset_eq]
        have t30 : hset (hset (hset T 0 29 a.1) 0 30 b.1) 0 32 1 0 30 = b.1 := by rw [hset_ne (by omega), hset_eq]
        have t32 : hset (hset (hset T 0 29 a.1) 0 30 b.1) 0 32 1 0 32 = 1 := hset_eq _ _ _ _
        have tr : ∀ c, c ≠ 0 → hset (hset (hset T 0 29 a.1) 0 30 b.1) 0 32 1 c = T c := fun c n1 => by rw [hset_rne n1, hset_rne n1, hset_rne n1]
        dsimp only
        generalize hset (hset (hset T 0 29 a.1) 0 30 b.1) 0 32 1 = T' at tn t29 t30 t32 tr
        refine ⟨⟨?_, fun r hr => ?_, ww.c (tn _ (by omega) (by omega) (by omega)) (tr _ (by omega)) (tr _ (by omega)), wy.c (tn _ (by omega) (by omega) (by omega)) (by rw [tn _ (by omega) (by omega) (by omega)]; omega) (by rw [tn _ (by omega) (by omega) (by omega)]; omega) (fun c a b => tr c (by omega)), wl.c (tn _ (by omega) (by omega) (by omega)) (tr _ (by omega)) (tr _ (by omega))⟩, ⟨tn _ (by omega) (by omega) (by omega), t32, tn _ (by omega) (by omega) (by omega)⟩, by omega, hb.1⟩
        · rw [t29, t30, t32, tn 23 (by omega) (by omega) (by omega), tn 24 (by omega) (by omega) (by omega), tn 25 (by omega) (by omega) (by omega), tn 26 (by omega) (by omega) (by omega), tn 27 (by omega) (by omega) (by omega), tn 31 (by omega) (by omega) (by omega), tn 33 (by omega) (by omega) (by omega)]
          omega
        · rw [tn 24 (by omega) (by omega) (by omega)] at hr
          rw [tr 4 (by omega), tr 5 (by omega), tn 23 (by omega) (by omega) (by omega)]
          exact wr r hr
  · cases e
theorem pSlack_w (w : WfP T) {q : Nat} (hq : q ≤ n) {r : zH × Nat} (e : pSlack B n T q = .inr r) : WfP r.1 ∧ (r.1 0 28 = T 0 28 ∧ r.1 0 32 = T 0 32 ∧ r.1 0 33 = 1) ∧ q < r.2 ∧ r.2 ≤ n := by
  unfold pSlack at e
  have rq := tkQ_r (B := B) hq
  split at e
  · cases h : pNum B n 0 9999 (tkQ B n q) with
    | inl f => rw [xB_l h] at e; cases e
    | inr a =>
      rw [xB_r h] at e
      have ha := pNum_q rq.2.1 h
      cases e
      obtain ⟨wn, wr, ww, wy, wl⟩ := w
      have tn : ∀ j, j ≠ 31 → j ≠ 33 → hset (hset T 0 31 a.1) 0 33 1 0 j = T 0 j := fun j n1 n2 => by rw [hset_ne (by omega), hset_ne (by omega)]
      have t31 : hset (hset T 0 31 a.1) 0 33 1 0 31 = a.1 := by rw [hset_ne (by omega), hset_eq]
      have t33 : hset (hset T 0 31 a.1) 0 33 1 0 33 = 1 := hset_eq _ _ _ _
      have tr : ∀ c, c ≠ 0 → hset (hset T 0 31 a.1) 0 33 1 c = T c := fun c n1 => by rw [hset_rne n1, hset_rne n1]
      dsimp only
      generalize hset (hset T 0 31 a.1) 0 33 1 = T' at tn t31 t33 tr
      refine ⟨⟨?_, fun r hr => ?_, ww.c (tn _ (by omega) (by omega)) (tr _ (by omega)) (tr _ (by omega)), wy.c (tn _ (by omega) (by omega)) (by rw [tn _ (by omega) (by omega)]; omega) (by rw [tn _ (by omega) (by omega)]; omega) (fun c a b => tr c (by omega)), wl.c (tn _ (by omega) (by omega)) (tr _ (by omega)) (tr _ (by omega))⟩, ⟨tn _ (by omega) (by omega), tn _ (by omega) (by omega), t33⟩, by omega, ha.1⟩
      · rw [t31, t33, tn 23 (by omega) (by omega), tn 24 (by omega) (by omega), tn 25 (by omega) (by omega), tn 26 (by omega) (by omega), tn 27 (by omega) (by omega), tn 29 (by omega) (by omega), tn 30 (by omega) (by omega), tn 32 (by omega) (by omega)]
        omega
      · rw [tn 24 (by omega) (by omega)] at hr
        rw [tr 4 (by omega), tr 5 (by omega), tn 23 (by omega) (by omega)]
        exact wr r hr
  · cases e
theorem pBins_w {w0 : Nat} : ∀ (m b : Nat) (Tc : zH) (q : Nat) (r : zH × Nat), q ≤ n → pBins B n w0 m b Tc q = .inr r → (∀ c j, ¬ (c = 14 ∧ 6 * w0 + b ≤ j ∧ j < 6 * w0 + b + m) → r.1 c j = Tc c j) ∧ (∀ j, 6 * w0 + b ≤ j → j < 6 * w0 + b + m → 0 ≤ r.1 14 j ∧ r.1 14 j ≤ 99) ∧ q ≤ r.2 ∧ r.2 ≤ n
  | 0, b, Tc, q, r, hq, e => by
    unfold pBins at e
    cases e
    exact ⟨fun _ _ _ => rfl, fun j a c => absurd c (by omega), Nat.le_refl _, hq⟩
  | m + 1, b, Tc, q, r, hq, e => by
    unfold pBins at e
    cases h : pNum B n 0 99 q with
    | inl f => rw [xB_l h] at e; cases e
    | inr a =>
      rw [xB_r h] at e
      have ha := pNum_q hq h
      have ih := pBins_w m (b + 1) _ a.2 r ha.1 e
      refine ⟨fun c j z => ?_, fun j z1 z2 => ?_, by omega, ih.2.2.2⟩
      · rw [ih.1 c j (by omega), hset_ne (by omega)]
      · by_cases y : j = 6 * w0 + b
        · rw [ih.1 14 j (by omega), y, hset_eq]
          exact ha.2.2
        · exact ih.2.1 j (by omega) (by omega)
theorem pWay_w (w : WfP T) {q : Nat} (hq : q ≤ n) {r : zH × Nat} (e : pWay B n T q = .inr r) : WfP r.1 ∧ tdS T r.1 ∧ q < r.2 ∧ r.2 ≤ n := by
  unfold pWay at e
  cases h : pHead B n T 25 12 5 q with
  | inl f => rw [xB_l h] at e; cases e
  | inr v =>
    rw [xB_r h] at e
    have hv := pHead_q hq h
    cases h2 : pNum B n 1 99 v.2 with
    | inl f => rw [xB_l h2] at e; cases e
    | inr a =>
      rw [xB_r h2] at e
      have ha := pNum_q hv.2.1 h2
      obtain ⟨wn, wr, ww, wy, wl⟩ := w
      obtain ⟨k, hk⟩ : ∃ k : Nat, T 0 25 = (k : Int) := ⟨(T 0 25).toNat, by omega⟩
      have hkn : (T 0 25).toNat = k := by omega
      rw [hkn] at e
      cases h3 : pBins B n k 6 0 (hset (hset T 12 k v.1) 13 k a.1) a.2 with
      | inl f => rw [xB_l h3] at e; cases e
      | inr b =>
        rw [xB_r h3] at e
        have hb := pBins_w 6 0 _ _ b ha.1 h3
        cases e
        have tn : ∀ j, j ≠ 25 → hset b.1 0 25 (T 0 25 + 1) 0 j = T 0 j := fun j n1 => by rw [hset_ne (by omega), hb.1 0 j (by omega), hset_ne (by omega), hset_ne (by omega)]
        have t25 : hset b.1 0 25 (T 0 25 + 1) 0 25 = T 0 25 + 1 := hset_eq _ _ _ _
        have tr : ∀ c, c ≠ 0 → c ≠ 12 → c ≠ 13 → c ≠ 14 → hset b.1 0 25 (T 0 25 + 1) c = T c := fun c n1 n2 n3 n4 => funext fun j => by rw [hset_ne (by omega), hb.1 c j (by omega), hset_ne (by omega), hset_ne (by omega)]
        have t13 : ∀ j, hset b.1 0 25 (T 0 25 + 1) 13 j = if j = k then a.1 else T 13 j := fun j => by
          rw [hset_ne (by omega), hb.1 13 j (by omega)]
          split
          · rename_i z; rw [z, hset_eq]
          · rename_i z; rw [hset_ne (by omega), hset_ne (by omega)]
        have t14 : ∀ j, ¬ (6 * k ≤ j ∧ j < 6 * k + 6) → hset b.1 0 25 (T 0 25 + 1) 14 j = T 14 j := fun j z => by rw [hset_ne (by omega), hb.1 14 j (by omega), hset_ne (by omega), hset_ne (by omega)]
        have u14 : ∀ j, 6 * k ≤ j → j < 6 * k + 6 → 0 ≤ hset b.1 0 25 (T 0 25 + 1) 14 j ∧ hset b.1 0 25 (T 0 25 + 1) 14 j ≤ 99 := fun j z1 z2 => by rw [hset_ne (by omega)]; exact hb.2.1 j (by omega) (by omega)
        dsimp only
        generalize hset b.1 0 25 (T 0 25 + 1) = T' at tn t25 tr t13 t14 u14
        refine ⟨⟨?_, fun r hr => ?_, fun w1 hw => ?_, wy.c (tn _ (by omega)) (by rw [tn _ (by omega)]; omega) (by rw [tn _ (by omega)]; omega) (fun c a b => tr c (by omega) (by omega) (by omega) (by omega)), wl.c (tn _ (by omega)) (tr _ (by omega) (by omega) (by omega) (by omega)) (tr _ (by omega) (by omega) (by omega) (by omega))⟩, ⟨tn _ (by omega), tn _ (by omega), tn _ (by omega)⟩, by omega, hb.2.2.2⟩
        · rw [t25, tn 23 (by omega), tn 24 (by omega), tn 26 (by omega), tn 27 (by omega), tn 29 (by omega), tn 30 (by omega), tn 31 (by omega), tn 32 (by omega), tn 33 (by omega)]
          omega
        · rw [tn 24 (by omega)] at hr
          rw [tr 4 (by omega) (by omega) (by omega) (by omega), tr 5 (by omega) (by omega) (by omega) (by omega), tn 23 (by omega)]
          exact wr r hr
        · rw [t25] at hw
          rw [t13 w1]
          by_cases z : w1 = k
          · rw [if_pos z]
            subst z
            exact ⟨ha.2.2.1, ha.2.2.2, fun b hb => u14 _ (by omega) (by omega)⟩
          · rw [if_neg z]
            have := ww w1 (by omega)
            exact ⟨this.1, this.2.1, fun b hb => by rw [t14 _ (by omega)]; exact this.2.2 b hb⟩
end TWfp
