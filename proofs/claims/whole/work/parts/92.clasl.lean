/-! ===== topic: the class's lines ===== -/
section TClasl
variable {E : zE} {d : Nat} {B : Nat → Int} {n : Nat}
def frPl (b : Nat) (h h' : zH) : Prop := ∀ c j, ¬ (c = 3 ∧ 3 ≤ j ∧ j ≤ 6) → ¬ (c = 2 ∧ 2 ≤ j ∧ j ≤ 5) → ¬ (b ≤ c ∧ c ≤ b + 18) → c ≠ 6 → c ≠ 7 → h' c j = h c j
theorem frPl.p {b : Nat} {h h' : zH} (x : frP b h h') : frPl b h h' := fun c j n1 n2 n3 n4 n5 => x c j n1 (by omega) n3 n4 n5
theorem frPl.rf (b : Nat) (h : zH) : frPl b h h := fun _ _ _ _ _ _ _ => rfl
theorem frPl.tr {b : Nat} {h h1 h2 : zH} (x : frPl b h h1) (y : frPl b h1 h2) : frPl b h h2 := fun c j n1 n2 n3 n4 n5 => (y c j n1 n2 n3 n4 n5).trans (x c j n1 n2 n3 n4 n5)
theorem C_lines (hE : isC E) {b : Nat} (hb : b = 8 ∨ b = 27) {K : Int → zH → Prop} : ∀ (m : Nat) (T : zH) (q l : Nat) (h : zH), n - q < m → l ≤ q → AtC h B n q → PvC T h b → WfP T → h 2 4 = (l : Int) →
    (∀ f, pTx B n m T q l = .inl f → ∀ h', frPl b h h' → BdC h' b → FlC h' f → K 0 h') →
    (∀ r, pTx B n m T q l = .inr r → ∀ h', frPl b h h' → PvC r.1 h' b → WfP r.1 → (h' 2 2 = 0 ∧ h' 2 3 = -1) → h' 2 4 = (r.2 : Int) → K 1 h') →
    zG E mX4_read (d + 6) 31 [zR 2, zU, zI (n : Int), zR b, zI (l : Int)] [] h (qI K)
  | 0, _, _, _, _, hm, _, _, _, _, _, _, _ => absurd hm (Nat.not_lt_zero _)
  | m + 1, T, q, l, h, hm, hl, a, p, w, e4, h0, h1 => by
    have su := su_b hE hb
    have hq := a.2.2.1
    have h900 := a.1.2.2.1
    unfold pTx at h0 h1
    refine bX4_read_31 (d := d + 5) hE su ⟨fun z => absurd z (by omega), fun _ => ?_⟩
    rw [a.k]
    refine ⟨fun c => ?_, fun c => ?_⟩
    · rw [if_pos c] at h1
      exact h1 _ rfl h (frPl.rf b h) p w a.2.2.2 e4
    · rw [if_neg c] at h0 h1
      unfold pLs at h0 h1
      refine C_line (d := d) hE a hb p w (fun f ef h' fr bd fl => ⟨fun z => absurd rfl z, fun _ => h0 f (xB_l (xB_l ef)) h' (frPl.p fr) bd fl⟩) (fun r er h' fr p' a' => ⟨fun _ => ?_, fun z => absurd (by decide) z⟩)
      rw [xB_r er] at h0 h1
      have pw := pLine_w a.1.by w hq er
      rw [a'.k]
      refine ⟨fun c4 => C_adv (d := d + 4) hE a' (fun h2 fr2 a2 h3 e3 x ex => ?_), fun c4 => C_refuse hE a' (by decide) (fun h2 fr2 f2 => ?_)⟩
      · rw [if_pos c4] at h0 h1
        have q4 : h2 2 4 = (l : Int) := by rw [fr2 _ _ (by omega), fr 2 4 (by omega) (by omega) (by omega) (by omega) (by omega)]; exact e4
        have rq := tkQ_r (B := B) pw.2.2
        rw [q4, w_suc (by omega)] at e3
        rw [w_suc (by omega)] at ex
        rw [ex]
        have fr3 : frPl b h h3 := fun c j n1 n2 n3 n4 n5 => by rw [e3, hset_ne (by omega), fr2 c j n1]; exact fr c j n1 (by omega) n3 n4 n5
        have p3 : PvC r.1 h3 b := by
          have p2 := p'.m hb (frM.x fr2)
          refine ⟨p2.1.mv (fun c j q1 q2 => by rw [e3, hset_ne (by omega)]), ⟨by rw [e3, hset_ne (by omega)]; exact p2.2.1.1, by rw [e3, hset_ne (by omega)]; exact p2.2.1.2⟩, p2.2.2.c (by rw [e3]; exact hset_rne (by omega)) (by rw [e3]; exact hset_rne (by omega)) rfl⟩
        exact C_lines hE hb m r.1 (tkQ B n r.2) (l + 1) h3 (by omega) (by omega) (by rw [e3]; exact a2.set (by omega)) p3 pw.1 (by rw [e3, hset_eq]) (fun f ef h4 fr4 => h0 f ef h4 (fr3.tr fr4)) (fun r2 er2 h4 fr4 p4 w4 => h1 r2 er2 h4 (fr3.tr fr4) p4 w4)
      · rw [if_neg c4] at h0
        exact h0 _ rfl h2 (frPl.p (fr.tr (frP.m fr2))) (p'.m hb fr2).2.2.1 f2
end TClasl
