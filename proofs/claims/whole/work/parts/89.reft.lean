/-! ===== topic: the reference's text: its lines ===== -/
section TReft
variable {E : zE} {d : Nat} {B : Nat → Int} {n : Nat}
def pTx (B : Nat → Int) (n : Nat) : Nat → zH → Nat → Nat → Sum pF (zH × Nat)
  | 0, T, _, l => .inr (T, l)
  | m + 1, T, q, l => if tkK B n q = 0 then .inr (T, l) else xB (pLs B n T q) (fun r => pTx B n m r.1 r.2 (l + 1))
theorem pLs_w {T : zH} (hB : ∀ j, j < n → 0 ≤ B j ∧ B j ≤ 255) (w : WfP T) {q : Nat} (hq : q ≤ n) {r : zH × Nat} (e : pLs B n T q = .inr r) : WfP r.1 ∧ q < r.2 ∧ r.2 ≤ n := by
  unfold pLs at e
  cases h : pLine B n T q with
  | inl f => rw [xB_l h] at e; cases e
  | inr v =>
    rw [xB_r h] at e
    have hv := pLine_w hB w hq h
    have rq := tkQ_r (B := B) hv.2.2
    split at e
    · cases e
      exact ⟨hv.1, by dsimp only; omega, rq.2.1⟩
    · cases e
theorem R_lines (hE : isR E) {K : Int → zH → Prop} : ∀ (m : Nat) (T : zH) (q l : Nat) (h : zH), n - q < m → l ≤ q → AtR h B n q → HfR T h → BdR h → WfP T → TdR T h → h 0 43 = (l : Int) →
    (∀ f, pTx B n m T q l = .inl f → ∀ h', frT h h' → BdR h' → FlR h' f → zG E mX10_text (d + 132) 139 [zR 0, zU] [] h' (qI K)) →
    (∀ r, pTx B n m T q l = .inr r → ∀ h', frT h h' → BdR h' → HfR r.1 h' → WfP r.1 → (h' 0 49 = 0 ∧ h' 0 50 = -1) → h' 0 43 = (r.2 : Int) → r.2 ≤ 900 → zG E mX10_text (d + 132) 139 [zR 0, zU] [] h' (qI K)) →
    zG E mX10_text (d + 132) 117 [zR 0, zU] [] h (qI K)
  | 0, _, _, _, _, hm, _, _, _, _, _, _, _, _, _ => absurd hm (Nat.not_lt_zero _)
  | m + 1, T, q, l, h, hm, hl, a, i, b, w, td, e43, h0, h1 => by
    have hq := a.2.2.1
    have h900 := a.1.2.1
    have hB : ∀ j, j < n → 0 ≤ B j ∧ B j ≤ 255 := fun j hj => (a.1.2.2 j hj).2
    have sk := a.sk
    unfold skR at sk
    unfold pTx at h0 h1
    refine bX10_text_117 (d := d + 131) hE ⟨fun z => absurd a.2.2.2.1 z, fun _ => ⟨fun c => ?_, fun c => ?_⟩⟩
    · have k0 : tkK B n q = 0 := by omega
      rw [if_pos k0] at h1
      exact h1 _ rfl h (frT.rf h) b i w a.2.2.2 e43 (by dsimp only; omega)
    · have k0 : ¬ tkK B n q = 0 := by omega
      rw [if_neg k0] at h0 h1
      refine R_line (d := d) hE a i b w td (by omega) e43 (fun f ef h' fr b' fl => ?_) (fun r er h' fr b' i' td' a' e' => ?_)
      · exact bX10_text_117 (d := d + 131) hE ⟨fun _ => h0 f (xB_l ef) h' fr b' fl, fun z => absurd fl.ne z⟩
      · rw [xB_r er] at h0 h1
        have pw := pLs_w hB w hq er
        exact R_lines hE m r.1 r.2 (l + 1) h' (by omega) (by omega) a' i' b' pw.1 td' e' (fun f ef h2 fr2 => h0 f ef h2 (fr.tr fr2)) (fun r2 er2 h2 fr2 => h1 r2 er2 h2 (fr.tr fr2))
end TReft
