/-! ===== topic: the class's line and its lines ===== -/
section TClas
variable {E : zE} {d : Nat} {h : zH} {T : zH} {B : Nat → Int} {n : Nat} {K : Int → zH → Prop}
theorem C_line (hE : isC E) {q b : Nat} (a : AtC h B n q) (hb : b = 8 ∨ b = 27) (p : PvC T h b) (w : WfP T) (h0 : ∀ f, pLine B n T q = .inl f → ∀ h', frP b h h' → BdC h' b → FlC h' f → K 0 h') (h1 : ∀ r, pLine B n T q = .inr r → ∀ h', frP b h h' → PvC r.1 h' b → AtC h' B n r.2 → K 1 h') : zCI E mX4_readLine (d + 5) [zR 2, zR b] h K := by
  have su := su_b hE hb
  unfold pLine at h0 h1
  refine eX4_readLine (d := d + 4) hE su ?_
  rw [a.k]
  refine ⟨fun c => ?_, fun c => ?_, fun c => ?_, fun c => ?_, fun c => ?_, fun c => ?_, fun c => ?_, fun c => bX4_readLine_113 (d := d + 4) hE su ?_⟩
  · rw [if_pos c] at h0 h1
    exact L_land (d := d + 2) hE a hb p w (fun f ef h' x y z => ⟨Or.inl rfl, h0 f ef h' x y z⟩) (fun r er h' x y z => ⟨Or.inr rfl, h1 r er h' x y z⟩)
  · have m1 : ¬ tkK B n q = 20 := by omega
    rw [if_neg m1, if_pos c] at h0 h1
    exact L_ring (d := d) hE a hb p w (fun f ef h' x y z => ⟨Or.inl rfl, h0 f ef h' x y z⟩) (fun r er h' x y z => ⟨Or.inr rfl, h1 r er h' x y z⟩)
  · have m1 : ¬ tkK B n q = 20 := by omega
    have m2 : ¬ tkK B n q = 21 := by omega
    rw [if_neg m1, if_neg m2, if_pos c] at h0 h1
    exact L_way (d := d + 1) hE a hb p w (fun f ef h' x y z => ⟨Or.inl rfl, h0 f ef h' x y z⟩) (fun r er h' x y z => ⟨Or.inr rfl, h1 r er h' x y z⟩)
  · have m1 : ¬ tkK B n q = 20 := by omega
    have m2 : ¬ tkK B n q = 21 := by omega
    have m3 : ¬ tkK B n q = 26 := by omega
    rw [if_neg m1, if_neg m2, if_neg m3, if_pos c] at h0 h1
    exact L_rule (d := d) hE a hb p (fun f ef h' x y z => ⟨Or.inl rfl, h0 f ef h' x y z⟩) (fun r er h' x y z => ⟨Or.inr rfl, h1 r er h' x y z⟩)
  · have m1 : ¬ tkK B n q = 20 := by omega
    have m2 : ¬ tkK B n q = 21 := by omega
    have m3 : ¬ tkK B n q = 26 := by omega
    have m4 : ¬ tkK B n q = 27 := by omega
    rw [if_neg m1, if_neg m2, if_neg m3, if_neg m4, if_pos c] at h0 h1
    exact L_said (d := d + 1) hE a hb p w (fun f ef h' x y z => ⟨Or.inl rfl, h0 f ef h' x y z⟩) (fun r er h' x y z => ⟨Or.inr rfl, h1 r er h' x y z⟩)
  · have m1 : ¬ tkK B n q = 20 := by omega
    have m2 : ¬ tkK B n q = 21 := by omega
    have m3 : ¬ tkK B n q = 26 := by omega
    have m4 : ¬ tkK B n q = 27 := by omega
    have m5 : ¬ tkK B n q = 28 := by omega
    rw [if_neg m1, if_neg m2, if_neg m3, if_neg m4, if_neg m5, if_pos c] at h0 h1
    exact L_grid (d := d + 1) hE a hb p w (fun f ef h' x y z => ⟨Or.inl rfl, h0 f ef h' x y z⟩) (fun r er h' x y z => ⟨Or.inr rfl, h1 r er h' x y z⟩)
  · have m1 : ¬ tkK B n q = 20 := by omega
    have m2 : ¬ tkK B n q = 21 := by omega
    have m3 : ¬ tkK B n q = 26 := by omega
    have m4 : ¬ tkK B n q = 27 := by omega
    have m5 : ¬ tkK B n q = 28 := by omega
    have m6 : ¬ tkK B n q = 30 := by omega
    rw [if_neg m1, if_neg m2, if_neg m3, if_neg m4, if_neg m5, if_neg m6, if_pos c] at h0 h1
    exact L_slack (d := d + 1) hE a hb p w (fun f ef h' x y z => ⟨Or.inl rfl, h0 f ef h' x y z⟩) (fun r er h' x y z => ⟨Or.inr rfl, h1 r er h' x y z⟩)
  · rw [if_neg c.1, if_neg c.2.1, if_neg c.2.2.1, if_neg c.2.2.2.1, if_neg c.2.2.2.2.1, if_neg c.2.2.2.2.2.1, if_neg c.2.2.2.2.2.2] at h0
    exact C_refuse hE a (by decide) (fun h4 fr4 fl => h0 _ rfl h4 (frP.m fr4) (p.m hb fr4).2.2.1 fl)
end TClas
