/-! ===== topic: a text's stones are bounded ===== -/
section TBnd
variable {T : zH} {B : Nat → Int} {n : Nat}
theorem stB.c {T' : zH} (b : stB T) (e : ∀ c j, 6 ≤ c → c ≤ 11 → T' c j = T c j) : stB T' := fun s hs => by
  rw [e 6 s (by omega) (by omega), e 7 s (by omega) (by omega), e 8 s (by omega) (by omega), e 9 s (by omega) (by omega), e 10 s (by omega) (by omega), e 11 s (by omega) (by omega)]
  exact b s hs
theorem pSt6_b {q : Nat} (hq : q ≤ n) {r : z6 × Nat} (e : pSt6 B n q = .inr r) : bd6 r.1 ∧ (r.1.2.2.2.2.1 = 0 ∨ r.1.2.2.2.2.1 = 1) ∧ (r.1.2.2.2.2.2 = 0 ∨ r.1.2.2.2.2.2 = 1) := by
  unfold pSt6 at e
  cases h : pSig B n 999 q with
  | inl f => rw [xB_l h] at e; cases e
  | inr x =>
    rw [xB_r h] at e
    have hx := pSig_q hq h
    cases h2 : pSig B n 999 x.2 with
    | inl f => rw [xB_l h2] at e; cases e
    | inr y =>
      rw [xB_r h2] at e
      have hy := pSig_q hx.1 h2
      cases h3 : pLn B n y.2 with
      | inl f => rw [xB_l h3] at e; cases e
      | inr l =>
        rw [xB_r h3] at e
        cases e
        have hl : -99 ≤ l.1 ∧ l.1 ≤ 99 ∧ -99 ≤ l.2.1 ∧ l.2.1 ≤ 99 := by
          unfold pLn at h3
          split at h3
          · have rq := tkQ_r (B := B) hy.1
            cases h4 : pSig B n 99 (tkQ B n y.2) with
            | inl f => rw [xB_l h4] at h3; cases h3
            | inr u =>
              rw [xB_r h4] at h3
              have hu := pSig_q rq.2.1 h4
              cases h5 : pSig B n 99 u.2 with
              | inl f => rw [xB_l h5] at h3; cases h3
              | inr v =>
                rw [xB_r h5] at h3
                have hv := pSig_q hu.1 h5
                cases h3
                dsimp only
                omega
          · cases h3
            dsimp only
            omega
        exact ⟨⟨⟨by dsimp only; omega, by dsimp only; omega, by dsimp only; omega, by dsimp only; omega⟩, hl⟩, bI_01, bI_01⟩
theorem stB.st (b : stB T) {s : Nat} {v : z6} (b6 : bd6 v) (b5 : v.2.2.2.2.1 = 0 ∨ v.2.2.2.2.1 = 1) (b4 : v.2.2.2.2.2 = 0 ∨ v.2.2.2.2.2 = 1) : stB (st6 T s v) := fun t ht => by
  unfold st6
  by_cases z : t = s
  · subst z
    have e6 : hset (hset (hset (hset (hset (hset T 6 t v.1) 7 t v.2.1) 8 t v.2.2.1) 9 t v.2.2.2.1) 10 t v.2.2.2.2.1) 11 t v.2.2.2.2.2 6 t = v.1 := by rw [hset_ne (by omega), hset_ne (by omega), hset_ne (by omega), hset_ne (by omega), hset_ne (by omega), hset_eq]
    have e7 : hset (hset (hset (hset (hset (hset T 6 t v.1) 7 t v.2.1) 8 t v.2.2.1) 9 t v.2.2.2.1) 10 t v.2.2.2.2.1) 11 t v.2.2.2.2.2 7 t = v.2.1 := by rw [hset_ne (by omega), hset_ne (by omega), hset_ne (by omega), hset_ne (by omega), hset_eq]
    have e8 : hset (hset (hset (hset (hset (hset T 6 t v.1) 7 t v.2.1) 8 t v.2.2.1) 9 t v.2.2.2.1) 10 t v.2.2.2.2.1) 11 t v.2.2.2.2.2 8 t = v.2.2.1 := by rw [hset_ne (by omega), hset_ne (by omega), hset_ne (by omega), hset_eq]
    have e9 : hset (hset (hset (hset (hset (hset T 6 t v.1) 7 t v.2.1) 8 t v.2.2.1) 9 t v.2.2.2.1) 10 t v.2.2.2.2.1) 11 t v.2.2.2.2.2 9 t = v.2.2.2.1 := by rw [hset_ne (by omega), hset_ne (by omega), hset_eq]
    have e10 : hset (hset (hset (hset (hset (hset T 6 t v.1) 7 t v.2.1) 8 t v.2.2.1) 9 t v.2.2.2.1) 10 t v.2.2.2.2.1) 11 t v.2.2.2.2.2 10 t = v.2.2.2.2.1 := by rw [hset_ne (by omega), hset_eq]
    rw [e6, e7, e8, e9, e10, hset_eq]
    exact ⟨b6.1, b6.2, b5, b4⟩
  · have e : ∀ c, hset (hset (hset (hset (hset (hset T 6 s v.1) 7 s v.2.1) 8 s v.2.2.1) 9 s v.2.2.2.1) 10 s v.2.2.2.2.1) 11 s v.2.2.2.2.2 c t = T c t := fun c => by rw [hset_ne (by omega), hset_ne (by omega), hset_ne (by omega), hset_ne (by omega), hset_ne (by omega), hset_ne (by omega)]
    rw [e, e, e, e, e, e]
    exact b t ht
theorem pStones_b {R : Nat} : ∀ (m k : Nat) (Tc : zH) (q : Nat) (r : zH × Nat), q ≤ n → stB Tc → pStones B n R m k Tc q = .inr r → stB r.1
  | 0, k, Tc, q, r, hq, b, e => by
    unfold pStones at e
    cases e
    exact b
  | m + 1, k, Tc, q, r, hq, b, e => by
    unfold pStones at e
    split at e
    · split at e
      · cases e
      · cases h : pSt6 B n (tkQ B n q) with
        | inl f => rw [xB_l h] at e; cases e
        | inr v =>
          rw [xB_r h] at e
          have rq := tkQ_r (B := B) hq
          have hv := pSt6_q rq.2.1 h
          have hb := pSt6_b rq.2.1 h
          exact pStones_b m (k + 1) _ v.2 r hv.2 ((b.st hb.1 hb.2.1 hb.2.2).c (fun c j a1 a2 => hset_ne (by omega))) e
    · cases e
      exact b
theorem pLine_b (b : stB T) (w : WfP T) {q : Nat} (hq : q ≤ n) {r : zH × Nat} (e : pLine B n T q = .inr r) : stB r.1 := by
  unfold pLine at e
  have wn := w.1
  split at e
  · unfold pLand at e
    cases h : pHead B n T 23 2 4 q with
    | inl f => rw [xB_l h] at e; cases e
    | inr v =>
      rw [xB_r h] at e
      cases e
      exact b.c (fun c j a1 a2 => by dsimp only; rw [hset_ne (by omega), hset_ne (by omega)])
  · split at e
    · unfold pRing at e
      cases h : pHead B n T 24 3 8 q with
      | inl f => rw [xB_l h] at e; cases e
      | inr v =>
        rw [xB_r h] at e
        have hv := pHead_q hq h
        cases h2 : pTold B n (T 2) (T 0 23).toNat v.2 with
        | inl f => rw [xB_l h2] at e; cases e
        | inr l =>
          rw [xB_r h2] at e
          have hl := pTold_q hv.2.1 h2
          exact pStones_b 11 0 _ l.2 r hl.1 (b.c (fun c j a1 a2 => by rw [hset_ne (by omega), hset_ne (by omega), hset_ne (by omega), hset_ne (by omega)])) e
    · split at e
      · unfold pWay at e
        cases h : pHead B n T 25 12 5 q with
        | inl f => rw [xB_l h] at e; cases e
        | inr v =>
          rw [xB_r h] at e
          have hv := pHead_q hq h
          cases h2 : pNum B n 1 99 v.2 with
          | inl f => rw [xB_l h2] at e; cases e
          | inr l =>
            rw [xB_r h2] at e
            have hl := pNum_q hv.2.1 h2
            cases h3 : pBins B n (T 0 25).toNat 6 0 (hset (hset T 12 (T 0 25).toNat v.1) 13 (T 0 25).toNat l.1) l.2 with
            | inl f => rw [xB_l h3] at e; cases e
            | inr g =>
              rw [xB_r h3] at e
              have hg := pBins_w 6 0 _ l.2 g hl.1 h3
              cases e
              exact b.c (fun c j a1 a2 => by dsimp only; rw [hset_ne (by omega), hg.1 c j (by omega), hset_ne (by omega), hset_ne (by omega)])
      · split at e
        · unfold pNear at e
          split at e
          · cases h : yRes B n (tkQ B n q, true, [], [], 0, 0) with
            | inl f => rw [xB_l h] at e; cases e
            | inr v =>
              rw [xB_r h] at e
              cases e
              exact b.c (fun c j a1 a2 => by dsimp only; exact setO_o (by omega) (by omega) (by omega))
          · cases e
        · split at e
          · unfold pSaid at e
            split at e
            · cases e
            · have rq := tkQ_r (B := B) hq
              cases h : pMeas B n T (tkQ B n q) with
              | inl f => rw [xB_l h] at e; cases e
              | inr m =>
                rw [xB_r h] at e
                have hm := pMeas_w rq.2.1 (by omega) h
                cases h2 : pTold B n (T 3) (T 0 24).toNat m.2.2 with
                | inl f => rw [xB_l h2] at e; cases e
                | inr l =>
                  rw [xB_r h2] at e
                  cases h3 : pNum B n 1 99999 l.2 with
                  | inl f => rw [xB_l h3] at e; cases e
                  | inr z =>
                    rw [xB_r h3] at e
                    cases e
                    unfold stY
                    exact b.c (fun c j a1 a2 => by dsimp only; rw [hset_ne (by omega), hset_ne (by omega), hset_ne (by omega), hset_ne (by omega), hset_ne (by omega), hm.1 c j (by omega) (by omega)])
          · split at e
            · unfold pGrid at e
              split at e
              · cases h : pNum B n 0 9 (tkQ B n q) with
                | inl f => rw [xB_l h] at e; cases e
                | inr v =>
                  rw [xB_r h] at e
                  cases h2 : pNum B n 1 20 v.2 with
                  | inl f => rw [xB_l h2] at e; cases e
                  | inr l =>
                    rw [xB_r h2] at e
                    cases e
                    exact b.c (fun c j a1 a2 => by dsimp only; rw [hset_ne (by omega), hset_ne (by omega), hset_ne (by omega)])
              · cases e
            · split at e
              · unfold pSlack at e
                split at e
                · cases h : pNum B n 0 9999 (tkQ B n q) with
                  | inl f => rw [xB_l h] at e; cases e
                  | inr v =>
                    rw [xB_r h] at e
                    cases e
                    exact b.c (fun c j a1 a2 => by dsimp only; rw [hset_ne (by omega), hset_ne (by omega)])
                · cases e
              · cases e
theorem pTx_b (hB : ∀ j, j < n → 0 ≤ B j ∧ B j ≤ 255) : ∀ (m : Nat) (T : zH) (q l : Nat) (r : zH × Nat), q ≤ n → WfP T → stB T → pTx B n m T q l = .inr r → stB r.1 ∧ WfP r.1
  | 0, T, q, l, r, hq, w, b, e => by
    unfold pTx at e
    cases e
    exact ⟨b, w⟩
  | m + 1, T, q, l, r, hq, w, b, e => by
    unfold pTx at e
    split at e
    · cases e
      exact ⟨b, w⟩
    · cases h : pLs B n T q with
      | inl f => rw [xB_l h] at e; cases e
      | inr v =>
        rw [xB_r h] at e
        have pw := pLs_w hB w hq h
        unfold pLs at h
        cases h2 : pLine B n T q with
        | inl f => rw [xB_l h2] at h; cases h
        | inr u =>
          rw [xB_r h2] at h
          have bu := pLine_b b w hq h2
          split at h
          · cases h
            exact pTx_b hB m _ _ (l + 1) r pw.2.2 pw.1 bu e
          · cases h
/-- a state that a text leads to -/
def sNew (S T : zH) : zH := fun c j => if c = 0 then (if j = 2 then 0 else if j = 51 then 0 else if j = 52 then -1 else if j = 54 then 0 else if j = 55 then -1 else if 23 ≤ j ∧ j ≤ 31 then T 0 j else S 0 j) else if 2 ≤ c ∧ c ≤ 21 ∧ j < hO c then T c j else S c j
theorem sNew_n {S : zH} {j : Nat} (h1 : 23 ≤ j) (h2 : j ≤ 31) : sNew S T 0 j = T 0 j := by
  unfold sNew
  rw [if_pos rfl, if_neg (by omega), if_neg (by omega), if_neg (by omega), if_neg (by omega), if_neg (by omega), if_pos ⟨h1, h2⟩]
theorem sNew_o {S : zH} {j : Nat} (h1 : 56 ≤ j) : sNew S T 0 j = S 0 j := by
  unfold sNew
  rw [if_pos rfl, if_neg (by omega), if_neg (by omega), if_neg (by omega), if_neg (by omega), if_neg (by omega), if_neg (by omega)]
theorem sNew_r {S : zH} {c j : Nat} (h1 : 2 ≤ c) (h2 : c ≤ 21) (h3 : j < hO c) : sNew S T c j = T c j := by
  unfold sNew
  rw [if_neg (by omega), if_pos ⟨h1, h2, h3⟩]
theorem sNew_q {S : zH} {c j : Nat} (h0 : c ≠ 0) (h1 : ¬ (2 ≤ c ∧ c ≤ 21 ∧ j < hO c)) : sNew S T c j = S c j := by
  unfold sNew
  rw [if_neg h0, if_neg h1]
theorem sNew_ok {S : zH} (wS : WfS S) (bS : BdR S) (w : WfP T) (b : stB T) : smU T (sNew S T) ∧ WfS (sNew S T) ∧ BdR (sNew S T) := by
  have wn := wS.n
  unfold WfN at wn
  have wp := w.1
  have wl := w.2.2.2.2
  unfold rlOk at wl
  have u : smU T (sNew S T) := ⟨fun j a1 a2 => sNew_n a1 a2, fun c j a1 a2 a3 => sNew_r a1 (by omega) a3, fun j hj => ⟨sNew_r (by omega) (by omega) (show j < 64 by omega), sNew_r (by omega) (by omega) (show j < 64 by omega)⟩⟩
  have e2 : sNew S T 0 2 = 0 := rfl
  have e54 : sNew S T 0 54 = 0 := rfl
  have e55 : sNew S T 0 55 = -1 := rfl
  refine ⟨u, WfS_u u w.bt ?_ (fun s hs => ?_) w.2.1 w.2.2.1 w.2.2.2.1 w.2.2.2.2 ?_ (fun j hj => by omega), ?_⟩
  · unfold WfN
    rw [e2, e54, e55, sNew_o (j := 56) (by omega), sNew_o (j := 57) (by omega), sNew_n (j := 23) (by omega) (by omega), sNew_n (j := 24) (by omega) (by omega), sNew_n (j := 25) (by omega) (by omega), sNew_n (j := 26) (by omega) (by omega), sNew_n (j := 27) (by omega) (by omega), sNew_n (j := 29) (by omega) (by omega), sNew_n (j := 30) (by omega) (by omega), sNew_n (j := 31) (by omega) (by omega)]
    omega
  · rw [sNew_r (c := 6) (by omega) (by omega) (show s < 80 from hs), sNew_r (c := 7) (by omega) (by omega) (show s < 80 from hs), sNew_r (c := 8) (by omega) (by omega) (show s < 80 from hs), sNew_r (c := 9) (by omega) (by omega) (show s < 80 from hs), sNew_r (c := 10) (by omega) (by omega) (show s < 80 from hs), sNew_r (c := 11) (by omega) (by omega) (show s < 80 from hs)]
    exact b s hs
  · unfold WfT
    rw [e54]
    exact ⟨fun k hk => absurd hk (Nat.not_lt_zero _), fun k hk => by omega⟩
  · refine ⟨fun s hs => ?_, fun s hs => ?_⟩
    · have z : ∀ c, 6 ≤ c → c ≤ 11 → sNew S T c (80 + s) = S c (80 + s) := fun c a1 a2 => sNew_q (by omega) (by have := hO_g (c := c); omega)
      rw [z 6 (by omega) (by omega), z 7 (by omega) (by omega), z 8 (by omega) (by omega), z 9 (by omega) (by omega), z 10 (by omega) (by omega), z 11 (by omega) (by omega)]
      exact bS.1 s hs
    · rw [sNew_q (c := 19) (by omega) (by have := hO_g (c := 19); omega)]
      exact bS.2 s hs
theorem tS_b {S : zH} (b : BdR S) : stB (tS S) := fun s hs => by
  rw [tS_c (c := 6) (by omega), tS_c (c := 7) (by omega), tS_c (c := 8) (by omega), tS_c (c := 9) (by omega), tS_c (c := 10) (by omega), tS_c (c := 11) (by omega)]
  exact b.1 s hs
end TBnd
