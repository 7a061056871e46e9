/-! ===== topic: sayings, rings, rules and lines keep it too ===== -/
section TWfp2
variable {T : zH} {B : Nat → Int} {n : Nat}
theorem pMeas_w {q : Nat} (hq : q ≤ n) (h27 : 0 ≤ T 0 27 ∧ T 0 27 ≤ 6) {m : Int × zH × Nat} (e : pMeas B n T q = .inr m) : (∀ c j, ¬ (c = 15) → ¬ (c = 0 ∧ j = 27) → m.2.1 c j = T c j) ∧ (T 0 27 ≤ m.2.1 0 27 ∧ m.2.1 0 27 ≤ 6) ∧ (0 ≤ m.1 ∧ m.1 < m.2.1 0 27) ∧ q < m.2.2 ∧ m.2.2 ≤ n := by
  have rq := tkQ_r (B := B) hq
  unfold pMeas at e
  split at e
  · rename_i k2
    have := rq.2.2 (by omega)
    split at e
    · split at e
      · cases e
      · rename_i c c6
        cases e
        dsimp only
        have t27 : hset (hset T 15 (T 0 27).toNat (tkV B n q)) 0 27 (T 0 27 + 1) 0 27 = T 0 27 + 1 := hset_eq _ _ _ _
        rw [t27]
        exact ⟨fun c j n1 n2 => by rw [hset_ne n2, hset_ne (by omega)], by omega, by omega, by omega, rq.2.1⟩
    · rename_i c
      cases e
      rcases fnd_r (f := T 15) (x := tkV B n q) (T 0 27).toNat 0 with z | z
      · exact absurd z c
      · dsimp only
        exact ⟨fun _ _ _ _ => rfl, by omega, by omega, by omega, rq.2.1⟩
  · cases e
theorem pSaid_w (w : WfP T) {q : Nat} (hq : q ≤ n) {r : zH × Nat} (e : pSaid B n T q = .inr r) : WfP r.1 ∧ tdS T r.1 ∧ q < r.2 ∧ r.2 ≤ n := by
  obtain ⟨wn, wr, ww, wy, wl⟩ := w
  have rq := tkQ_r (B := B) hq
  unfold pSaid at e
  split at e
  · cases e
  · rename_i nf
    cases h : pMeas B n T (tkQ B n q) with
    | inl f => rw [xB_l h] at e; cases e
    | inr m =>
      rw [xB_r h] at e
      have hm := pMeas_w rq.2.1 (by omega) h
      cases h2 : pTold B n (T 3) (T 0 24).toNat m.2.2 with
      | inl f => rw [xB_l h2] at e; cases e
      | inr g =>
        rw [xB_r h2] at e
        have hg := pTold_q hm.2.2.2.2 h2
        cases h3 : pNum B n 1 99999 g.2 with
        | inl f => rw [xB_l h3] at e; cases e
        | inr z =>
          rw [xB_r h3] at e
          have hz := pNum_q hg.1 h3
          have rz := tkQ_r (B := B) (q := z.2) hz.1
          cases e
          have m26 : m.2.1 0 26 = T 0 26 := hm.1 0 26 (by omega) (by omega)
          obtain ⟨y, hy⟩ : ∃ y : Nat, T 0 26 = (y : Int) := ⟨(T 0 26).toNat, by omega⟩
          have hyn : (m.2.1 0 26).toNat = y := by omega
          dsimp only
          unfold stY
          rw [hyn, m26]
          have tn : ∀ j, j ≠ 26 → j ≠ 27 → hset (hset (hset (hset (hset m.2.1 16 y m.1) 17 y g.1) 18 y z.1) 19 y (bI (tkK B n z.2 = 29))) 0 26 (T 0 26 + 1) 0 j = T 0 j := fun j n1 n2 => by rw [hset_ne (by omega), hset_ne (by omega), hset_ne (by omega), hset_ne (by omega), hset_ne (by omega)]; exact hm.1 0 j (by omega) (by omega)
          have t26 : hset (hset (hset (hset (hset m.2.1 16 y m.1) 17 y g.1) 18 y z.1) 19 y (bI (tkK B n z.2 = 29))) 0 26 (T 0 26 + 1) 0 26 = T 0 26 + 1 := hset_eq _ _ _ _
          have t27 : hset (hset (hset (hset (hset m.2.1 16 y m.1) 17 y g.1) 18 y z.1) 19 y (bI (tkK B n z.2 = 29))) 0 26 (T 0 26 + 1) 0 27 = m.2.1 0 27 := by rw [hset_ne (by omega), hset_ne (by omega), hset_ne (by omega), hset_ne (by omega), hset_ne (by omega)]
          have tr : ∀ c, c ≠ 0 → c ≠ 15 → ¬ (16 ≤ c ∧ c ≤ 19) → hset (hset (hset (hset (hset m.2.1 16 y m.1) 17 y g.1) 18 y z.1) 19 y (bI (tkK B n z.2 = 29))) 0 26 (T 0 26 + 1) c = T c := fun c n1 n2 n3 => funext fun j => by rw [hset_ne (by omega), hset_ne (by omega), hset_ne (by omega), hset_ne (by omega), hset_ne (by omega)]; exact hm.1 c j (by omega) (by omega)
          have ty : ∀ c j, 16 ≤ c → c ≤ 19 → j ≠ y → hset (hset (hset (hset (hset m.2.1 16 y m.1) 17 y g.1) 18 y z.1) 19 y (bI (tkK B n z.2 = 29))) 0 26 (T 0 26 + 1) c j = T c j := fun c j n1 n2 n3 => by rw [hset_ne (by omega), hset_ne (by omega), hset_ne (by omega), hset_ne (by omega), hset_ne (by omega)]; exact hm.1 c j (by omega) (by omega)
          have y16 : hset (hset (hset (hset (hset m.2.1 16 y m.1) 17 y g.1) 18 y z.1) 19 y (bI (tkK B n z.2 = 29))) 0 26 (T 0 26 + 1) 16 y = m.1 := by rw [hset_ne (by omega), hset_ne (by omega), hset_ne (by omega), hset_ne (by omega), hset_eq]
          have y17 : hset (hset (hset (hset (hset m.2.1 16 y m.1) 17 y g.1) 18 y z.1) 19 y (bI (tkK B n z.2 = 29))) 0 26 (T 0 26 + 1) 17 y = g.1 := by rw [hset_ne (by omega), hset_ne (by omega), hset_ne (by omega), hset_eq]
          have y18 : hset (hset (hset (hset (hset m.2.1 16 y m.1) 17 y g.1) 18 y z.1) 19 y (bI (tkK B n z.2 = 29))) 0 26 (T 0 26 + 1) 18 y = z.1 := by rw [hset_ne (by omega), hset_ne (by omega), hset_eq]
          have y19 : hset (hset (hset (hset (hset m.2.1 16 y m.1) 17 y g.1) 18 y z.1) 19 y (bI (tkK B n z.2 = 29))) 0 26 (T 0 26 + 1) 19 y = bI (tkK B n z.2 = 29) := by rw [hset_ne (by omega), hset_eq]
          generalize hset (hset (hset (hset (hset m.2.1 16 y m.1) 17 y g.1) 18 y z.1) 19 y (bI (tkK B n z.2 = 29))) 0 26 (T 0 26 + 1) = T' at tn t26 t27 tr ty y16 y17 y18 y19
          refine ⟨⟨?_, fun r hr => ?_, ww.c (tn _ (by omega) (by omega)) (tr _ (by omega) (by omega) (by omega)) (tr _ (by omega) (by omega) (by omega)), fun s hs => ?_, wl.c (tn _ (by omega) (by omega)) (tr _ (by omega) (by omega) (by omega)) (tr _ (by omega) (by omega) (by omega))⟩, ⟨tn _ (by omega) (by omega), tn _ (by omega) (by omega), tn _ (by omega) (by omega)⟩, ?_, ?_⟩
          · rw [t26, t27, tn 23 (by omega) (by omega), tn 24 (by omega) (by omega), tn 25 (by omega) (by omega), tn 29 (by omega) (by omega), tn 30 (by omega) (by omega), tn 31 (by omega) (by omega), tn 32 (by omega) (by omega), tn 33 (by omega) (by omega)]
            omega
          · rw [tn 24 (by omega) (by omega)] at hr
            rw [tr 4 (by omega) (by omega) (by omega), tr 5 (by omega) (by omega) (by omega), tn 23 (by omega) (by omega)]
            exact wr r hr
          · rw [t26] at hs
            rw [t27, tn 24 (by omega) (by omega)]
            by_cases q : s = y
            · subst q
              rw [y16, y17, y18, y19]
              exact ⟨hm.2.2.1, ⟨hg.2.2.1, by omega⟩, hz.2.2, bI_01⟩
            · have := wy s (by omega)
              rw [ty 16 s (by omega) (by omega) q, ty 17 s (by omega) (by omega) q, ty 18 s (by omega) (by omega) q, ty 19 s (by omega) (by omega) q]
              exact ⟨⟨this.1.1, by omega⟩, this.2.1, this.2.2⟩
          · split <;> omega
          · split
            · exact rz.2.1
            · exact hz.1
theorem pSt6_q {q : Nat} (hq : q ≤ n) {r : z6 × Nat} (e : pSt6 B n q = .inr r) : q < r.2 ∧ r.2 ≤ n := by
  unfold pSt6 at e
  cases h : pSig B n 999 q with
  | inl f => rw [xB_l h] at e; cases e
  | inr x =>
    rw [xB_r h] at e
    have hx := pSig_q hq h
    cases h2 : pSig B n 999 x.2 with
    | inl f => rw [xB_l h2] at e; cases e
    | inr y =>
      rw [xB_r h2] at e
      have hy := pSig_q hx.1 h2
      cases h3 : pLn B n y.2 with
      | inl f => rw [xB_l h3] at e; cases e
      | inr l =>
        rw [xB_r h3] at e
        cases e
        have hl : y.2 ≤ l.2.2 ∧ l.2.2 ≤ n := by
          unfold pLn at h3
          split at h3
          · have rq := tkQ_r (B := B) hy.1
            cases h4 : pSig B n 99 (tkQ B n y.2) with
            | inl f => rw [xB_l h4] at h3; cases h3
            | inr u =>
              rw [xB_r h4] at h3
              have hu := pSig_q rq.2.1 h4
              cases h5 : pSig B n 99 u.2 with
              | inl f => rw [xB_l h5] at h3; cases h3
              | inr v =>
                rw [xB_r h5] at h3
                have hv := pSig_q hu.1 h5
                cases h3
                dsimp only
                omega
          · cases h3
            dsimp only
            omega
        have n1 := nxK_r (B := B) (k := 24) hl.2
        have n2 := nxK_r (B := B) (k := 25) n1.2
        dsimp only
        omega
theorem pStones_w {R : Nat} : ∀ (m k : Nat) (Tc : zH) (q : Nat) (r : zH × Nat), q ≤ n → k + m = 11 → Tc 5 R = (k : Int) → pStones B n R m k Tc q = .inr r → k ≤ 10 → (∀ c j, ¬ (c = 5 ∧ j = R) → ¬ (6 ≤ c ∧ c ≤ 11) → r.1 c j = Tc c j) ∧ (0 ≤ r.1 5 R ∧ r.1 5 R ≤ 10) ∧ q ≤ r.2 ∧ r.2 ≤ n
  | 0, k, Tc, q, r, hq, hk, t5, e, k10 => absurd hk (by omega)
  | m + 1, k, Tc, q, r, hq, hk, t5, e, k10 => by
    unfold pStones at e
    split at e
    · split at e
      · cases e
      · rename_i c c10
        cases h : pSt6 B n (tkQ B n q) with
        | inl f => rw [xB_l h] at e; cases e
        | inr v =>
          rw [xB_r h] at e
          have rq := tkQ_r (B := B) hq
          have hv := pSt6_q rq.2.1 h
          have ih := pStones_w m (k + 1) _ v.2 r hv.2 (by omega) (by rw [hset_eq]) e (by omega)
          refine ⟨fun c j n1 n2 => ?_, ih.2.1, by omega, ih.2.2.2⟩
          rw [ih.1 c j n1 n2, hset_ne n1, st6_o (by omega)]
    · cases e
      dsimp only
      exact ⟨fun _ _ _ _ => rfl, by omega, Nat.le_refl _, hq⟩
theorem pRing_w (w : WfP T) {q : Nat} (hq : q ≤ n) {r : zH × Nat} (e : pRing B n T q = .inr r) : WfP r.1 ∧ tdS T r.1 ∧ q < r.2 ∧ r.2 ≤ n := by
  obtain ⟨wn, wr, ww, wy, wl⟩ := w
  unfold pRing at e
  cases h : pHead B n T 24 3 8 q with
  | inl f => rw [xB_l h] at e; cases e
  | inr v =>
    rw [xB_r h] at e
    have hv := pHead_q hq h
    cases h2 : pTold B n (T 2) (T 0 23).toNat v.2 with
    | inl f => rw [xB_l h2] at e; cases e
    | inr l =>
      rw [xB_r h2] at e
      have hl := pTold_q hv.2.1 h2
      obtain ⟨R, hR⟩ : ∃ R : Nat, T 0 24 = (R : Int) := ⟨(T 0 24).toNat, by omega⟩
      have hRn : (T 0 24).toNat = R := by omega
      rw [hRn] at e
      have ps := pStones_w 11 0 _ l.2 r hl.1 (by omega) (by rw [hset_ne (by omega), hset_eq]; rfl) e (by omega)
      obtain ⟨p1, p2, p3, p4⟩ := ps
      have tn : ∀ j, j ≠ 24 → r.1 0 j = T 0 j := fun j n1 => by rw [p1 0 j (by omega) (by omega), hset_ne (by omega), hset_ne (by omega), hset_ne (by omega), hset_ne (by omega)]
      have t24 : r.1 0 24 = T 0 24 + 1 := by rw [p1 0 24 (by omega) (by omega), hset_eq]
      have tr : ∀ c, c ≠ 0 → ¬ (3 ≤ c ∧ c ≤ 11) → r.1 c = T c := fun c n1 n2 => funext fun j => by rw [p1 c j (by omega) (by omega), hset_ne (by omega), hset_ne (by omega), hset_ne (by omega), hset_ne (by omega)]
      have t4 : ∀ j, r.1 4 j = if j = R then l.1 else T 4 j := fun j => by
        rw [p1 4 j (by omega) (by omega), hset_ne (by omega), hset_ne (by omega)]
        split
        · rename_i z; rw [z, hset_eq]
        · rename_i z; rw [hset_ne (by omega), hset_ne (by omega)]
      have t5 : ∀ j, j ≠ R → r.1 5 j = T 5 j := fun j z => by rw [p1 5 j (by omega) (by omega), hset_ne (by omega), hset_ne (by omega), hset_ne (by omega), hset_ne (by omega)]
      refine ⟨⟨?_, fun g hg => ?_, ww.c (tn _ (by omega)) (tr _ (by omega) (by omega)) (tr _ (by omega) (by omega)), wy.c (tn _ (by omega)) (by rw [tn _ (by omega)]; omega) (by rw [t24]; omega) (fun c a b => tr c (by omega) (by omega)), wl.c (tn _ (by omega)) (tr _ (by omega) (by omega)) (tr _ (by omega) (by omega))⟩, ⟨tn _ (by omega), tn _ (by omega), tn _ (by omega)⟩, by omega, p4⟩
      · rw [t24, tn 23 (by omega), tn 25 (by omega), tn 26 (by omega), tn 27 (by omega), tn 29 (by omega), tn 30 (by omega), tn 31 (by omega), tn 32 (by omega), tn 33 (by omega)]
        omega
      · rw [t24] at hg
        rw [t4 g, tn 23 (by omega)]
        by_cases z : g = R
        · rw [if_pos z, z]
          exact ⟨p2.1, p2.2, hl.2.2.1, by omega⟩
        · rw [if_neg z, t5 g z]
          exact wr g (by omega)
theorem yRes_e {s : yS} (hB : ∀ j, j < n → 0 ≤ B j ∧ B j ≤ 255) : ∀ (m : Nat) (s : yS), s.1 ≤ n → n - s.1 < m → yInv s → ∀ r, yRes B n s = .inr r → s.1 ≤ r.2 ∧ r.2 ≤ n ∧ r.1.length ≤ 64 ∧ dpR r.1 0 1
  | 0, _, _, hm, _, _, _ => absurd hm (Nat.not_lt_zero _)
  | m + 1, (q, wt, W, O, op, kn), hq, hm, iv, r, e => by
    dsimp only at hq hm
    cases st : yStep B n (q, wt, W, O, op, kn) with
    | inl x =>
      rw [yRes_l st] at e
      subst e
      cases wt with
      | true =>
        rw [yStep_t] at st
        exfalso
        unfold yOp at st
        split at st
        · split at st <;> cases st
        · split at st
          · cases st
          · split at st
            · cases st
            · split at st <;> cases st
      | false =>
        rw [yStep_f] at st
        obtain ⟨O', q'⟩ := r
        have ye := yInv_end iv st
        dsimp only
        exact ⟨by omega, by omega, ye.2.2.2.1, ye.2.2.2.2⟩
    | inr s' =>
      have yr := yRes_r (s := (q, wt, W, O, op, kn)) hq st
      dsimp only at yr
      rw [yr.1] at e
      have iv' : yInv s' := by
        cases wt with
        | true => rw [yStep_t] at st; exact yInv_op hB hq iv st
        | false => rw [yStep_f] at st; exact yInv_sg iv st
      have ih := yRes_e (s := s) hB m s' yr.2.1 (by omega) iv' r e
      dsimp only
      exact ⟨by omega, ih.2⟩
theorem pNear_w (hB : ∀ j, j < n → 0 ≤ B j ∧ B j ≤ 255) (w : WfP T) {q : Nat} (hq : q ≤ n) (hk : tkK B n q ≠ 0) {r : zH × Nat} (e : pNear B n T q = .inr r) : WfP r.1 ∧ (T 0 28 = 0 ∧ r.1 0 28 ≠ 0 ∧ r.1 0 32 = T 0 32 ∧ r.1 0 33 = T 0 33) ∧ q < r.2 ∧ r.2 ≤ n := by
  obtain ⟨wn, wr, ww, wy, wl⟩ := w
  have rq := tkQ_r (B := B) hq
  have lt := rq.2.2 hk
  unfold pNear at e
  split at e
  · rename_i c
    cases h : yRes B n (tkQ B n q, true, [], [], 0, 0) with
    | inl f => rw [xB_l h] at e; cases e
    | inr o =>
      rw [xB_r h] at e
      cases e
      have ho := yRes_e (s := (tkQ B n q, true, [], [], 0, 0)) hB (n + 1) (tkQ B n q, true, [], [], 0, 0) rq.2.1 (by dsimp only; omega) (yInv_0 _) o h
      dsimp only at ho ⊢
      have tn : ∀ j, j ≠ 28 → setO T o.1 0 j = T 0 j := fun j n1 => setO_o (by omega) (by omega) (by omega)
      have tr : ∀ c, c ≠ 0 → c ≠ 20 → c ≠ 21 → setO T o.1 c = T c := fun c n1 n2 n3 => funext fun j => setO_o n2 n3 (by omega)
      have nz : o.1.length ≠ 0 := by
        intro z
        have z2 : o.1 = [] := List.eq_nil_of_length_eq_zero z
        have hd := ho.2.2.2
        rw [z2] at hd
        have hd' : (0 : Nat) = 1 := hd
        exact absurd hd' (by decide)
      refine ⟨⟨?_, fun r hr => ?_, ww.c (tn _ (by omega)) (tr _ (by omega) (by omega) (by omega)) (tr _ (by omega) (by omega) (by omega)), wy.c (tn _ (by omega)) (by rw [tn _ (by omega)]; omega) (by rw [tn _ (by omega)]; omega) (fun c a b => tr c (by omega) (by omega) (by omega)), setO_rl ho.2.2.2 ho.2.2.1⟩, ⟨c, by rw [setO_n]; omega, tn _ (by omega), tn _ (by omega)⟩, by omega, ho.2.1⟩
      · rw [tn 23 (by omega), tn 24 (by omega), tn 25 (by omega), tn 26 (by omega), tn 27 (by omega), tn 29 (by omega), tn 30 (by omega), tn 31 (by omega), tn 32 (by omega), tn 33 (by omega)]
        exact wn
      · rw [tn 24 (by omega)] at hr
        rw [tr 4 (by omega) (by omega) (by omega), tr 5 (by omega) (by omega) (by omega), tn 23 (by omega)]
        exact wr r hr
  · cases e
theorem pLine_w (hB : ∀ j, j < n → 0 ≤ B j ∧ B j ≤ 255) (w : WfP T) {q : Nat} (hq : q ≤ n) {r : zH × Nat} (e : pLine B n T q = .inr r) : WfP r.1 ∧ q < r.2 ∧ r.2 ≤ n := by
  unfold pLine at e
  split at e
  · have := pLand_w w hq e; exact ⟨this.1, this.2.2⟩
  · split at e
    · have := pRing_w w hq e; exact ⟨this.1, this.2.2⟩
    · split at e
      · have := pWay_w w hq e; exact ⟨this.1, this.2.2⟩
      · split at e
        · have := pNear_w hB w hq (by omega) e; exact ⟨this.1, this.2.2⟩
        · split at e
          · have := pSaid_w w hq e; exact ⟨this.1, this.2.2⟩
          · split at e
            · have := pGrid_w w hq e; exact ⟨this.1, this.2.2⟩
            · split at e
              · have := pSlack_w w hq e; exact ⟨this.1, this.2.2⟩
              · cases e
end TWfp2
