/-! ===== topic: reckon (reference) ===== -/
section TReckon
variable {E : zE} {d : Nat} {h : zH}
def frK (h h' : zH) : Prop := ∀ c j, c ≠ 39 → h' c j = h c j
theorem ShR.sm {h' : zH} {L : Nat → List (Int × Int)} {G H r : Nat} (hS : ShR h L G H r) (fr : ∀ c j, 33 ≤ c → c ≤ 36 → h' c j = h c j) : ShR h' L G H r := by
  refine ⟨by rw [fr _ _ (by omega) (by omega)]; exact hS.1, by rw [fr _ _ (by omega) (by omega)]; exact hS.2.1, fun h3 f hf => ?_⟩
  rw [fr _ _ (by omega) (by omega), fr _ _ (by omega) (by omega)]
  exact hS.2.2 h3 f hf
theorem X10_reckon (hE : isR E) {L : Nat → List (Int × Int)} {G H R : Nat} (hR : h 0 24 = R) (hR8 : R ≤ 8) (hS : ∀ r, r < R → ShR h L G H r) {a b : Int} {K : zH → Prop}
    (hK : ∀ h', frK h h' → (∀ r, r < R → h' 39 r = rkF L G H (h 4) a b r) → (∀ r, R ≤ r → h' 39 r = h 39 r) → K h') : zCV E mX10_reckon (d + 1) [zR 0, zI a, zI b] h K := by
  have loop : ∀ (m r : Nat), r + m = R → ∀ h1 : zH, frK h h1 → (∀ r', r' < r → h1 39 r' = rkF L G H (h 4) a b r') → (∀ r', r ≤ r' → h1 39 r' = h 39 r') → zG E mX10_reckon (d + 1) 2 [zR 0, zI a, zI b, zI r, zU] [] h1 (qV K) := by
    intro m
    induction m with
    | zero =>
      intro r hr h1 fr h39 hu
      have e : r = R := by omega
      subst e
      have e24 : h1 0 24 = r := by rw [fr _ _ (by omega)]; exact hR
      refine bX10_reckon_2 hE ⟨fun _ => hK h1 fr h39 hu, fun c => absurd (by rw [e24]; exact Int.le_refl _) c⟩
    | succ m ih =>
      intro r hr h1 fr h39 hu
      have hrR : r < R := by omega
      have hr8 : r < 8 := by omega
      have e24 : h1 0 24 = R := by rw [fr _ _ (by omega)]; exact hR
      have hS1 : ShR h1 L G H r := (hS r hrR).sm (fun c j _ _ => fr c j (by omega))
      have hb := bsL_ok (L r) G H
      have set : ∀ v : Int, v = rkF L G H (h 4) a b r → ∀ h2 : zH, h2 = hset h1 39 r v → ∀ x : Int, x = w32 ((r : Int) + 1) → zG E mX10_reckon (d + 1) 2 [zR 0, zI a, zI b, zI x, zU] [] h2 (qV K) := by
        intro v ev h2 e2 x ex
        rw [w_suc (by omega)] at ex
        rw [ex]
        refine ih (r + 1) (by omega) h2 (fun c j n => by rw [e2, hset_ne (by omega)]; exact fr c j n) (fun r' hr' => ?_) (fun r' hr' => by rw [e2, hset_ne (by omega)]; exact hu r' (by omega))
        by_cases z : r' = r
        · subst z; rw [e2, hset_eq]; exact ev
        · rw [e2, hset_ne (by omega)]; exact h39 r' (by omega)
      have no : ¬ (3 ≤ (L r).length ∧ (a = -1 ∨ h 4 r = a) ∧ (b = -1 ∨ ((bsL (L r) G H / 4 : Nat) : Int) = b)) → zG E mX10_reckon (d + 1) 55 [zR 0, zI a, zI b, zI r, zU] [zI 0] h1 (qV K) := by
        intro n
        refine bX10_reckon_55 hE ⟨fun _ => ⟨nat_in (n := 8) hr8, ?_⟩, fun c => absurd rfl c⟩
        rw [Int.toNat_natCast]
        exact set (-1) (by unfold rkF; rw [if_neg n])
      have yes : (3 ≤ (L r).length ∧ (a = -1 ∨ h 4 r = a) ∧ (b = -1 ∨ ((bsL (L r) G H / 4 : Nat) : Int) = b)) → zG E mX10_reckon (d + 1) 55 [zR 0, zI a, zI b, zI r, zU] [zI 1] h1 (qV K) := by
        intro y
        refine bX10_reckon_55 hE ⟨fun c => absurd c (by decide), fun _ => X10_sizeOf hE hr8 hS1 y.1 ⟨nat_in (n := 8) hr8, ?_⟩⟩
        rw [Int.toNat_natCast]
        exact set _ (by unfold rkF; rw [if_pos y])
      have g33 : 3 ≤ (L r).length → (a = -1 ∨ h 4 r = a) → zG E mX10_reckon (d + 1) 33 [zR 0, zI a, zI b, zI r, zU] [] h1 (qV K) := by
        intro h3 ha
        have t4 : w32 (Int.tdiv (bsL (L r) G H : Int) 4) = ((bsL (L r) G H / 4 : Nat) : Int) := by
          rw [Int.tdiv_eq_ediv_of_nonneg (by omega), w32i (by omega) (by omega)]; omega
        refine bX10_reckon_33 hE ⟨fun c => yes ⟨h3, ha, Or.inl c⟩, fun c => ⟨nat_in (n := 8) hr8, ?_⟩⟩
        rw [Int.toNat_natCast, hS1.2.1, if_pos h3, t4]
        exact ⟨fun c2 => no (fun z => z.2.2.elim c c2), fun c2 => yes ⟨h3, ha, Or.inr (by omega)⟩⟩
      refine bX10_reckon_2 hE ⟨fun c => absurd c (by rw [e24]; omega), fun _ => X10_hasFit hE hr8 hS1 ⟨fun c => no (fun z => bI_0.mp c z.1), fun c => ?_⟩⟩
      have h3 : 3 ≤ (L r).length := by
        by_cases z : 3 ≤ (L r).length
        · exact z
        · exact absurd (bI_0.mpr z) c
      refine ⟨fun c2 => g33 h3 (Or.inl c2), fun c2 => ⟨nat_in (n := 16) (by omega), ?_⟩⟩
      rw [Int.toNat_natCast, fr 4 r (by omega)]
      exact ⟨fun c3 => no (fun z => z.2.1.elim c2 c3), fun c3 => g33 h3 (Or.inr (by omega))⟩
  exact eX10_reckon hE (loop R 0 (by omega) h (fun _ _ _ => rfl) (fun r hr => absurd hr (by omega)) (fun _ _ => rfl))
end TReckon
