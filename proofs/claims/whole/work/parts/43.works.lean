/-! ===== topic: the rule worked out by the reference ===== -/
section TWorks
variable {E : zE} {d : Nat} {h : zH}
theorem X10_is0 (hE : isR E) {K : Int → zH → Prop} (hK : K 0 h) : zCJ E mX10_is d [zI 0] h K := eX10_is hE ⟨fun _ => hK, fun c => absurd rfl c⟩
theorem X10_is1 (hE : isR E) {K : Int → zH → Prop} (hK : K 1 h) : zCJ E mX10_is d [zI 1] h K := eX10_is hE ⟨fun c => absurd c (by decide), fun _ => hK⟩
theorem X10_works (hE : isR E) {s : Int} {n : Nat} (hn : h 0 81 = n) (hn64 : n ≤ 64) (hs : rB s) (hn2 : 2 ≤ n) (hx : vB (h 37 (n - 2))) (hy : vB (h 37 (n - 1))) {K : Int → zH → Prop}
    (h0 : rEr s (h 37 (n - 2)) (h 37 (n - 1)) = true → ∀ h', (∀ c j, c ≠ 37 → ¬ (c = 0 ∧ j = 81) → h' c j = h c j) → K 0 h')
    (h1 : rEr s (h 37 (n - 2)) (h 37 (n - 1)) = false → ∀ h', (∀ c j, c ≠ 37 → ¬ (c = 0 ∧ j = 81) → h' c j = h c j) → h' 0 81 = ((n - 1 : Nat) : Int) → h' 37 = uN (h 37) (n - 2) (rJn s (h 37 (n - 2)) (h 37 (n - 1))) → K 1 h') : zCI E mX10_works (d + 1) [zR 0, zI s] h K := by
  refine eX10_works hE ?_
  rw [hn, w_p1 (by omega) (by omega), w_p2 hn2 (by omega), Int.toNat_natCast, Int.toNat_natCast]
  generalize hxe : h 37 (n - 2) = x at hx h0 h1
  generalize hye : h 37 (n - 1) = y at hy h0 h1
  unfold rB at hs
  refine ⟨nat_in (n := 64) (by omega), fun y' ey => ⟨fun c260 => ⟨nat_in (n := 64) (by omega), fun x' ex h4 e4 => ?_⟩, fun c => absurd (by omega) c⟩⟩
  subst ey ex
  have e81 : h4 0 81 = ((n - 1 : Nat) : Int) := by rw [e4, hset_eq]
  have fr4 : ∀ c j, ¬ (c = 0 ∧ j = 81) → h4 c j = h c j := fun c j z => by rw [e4, hset_ne z]
  have r4 : h4 37 = h 37 := by rw [e4]; exact hset_rne (by omega)
  have g407 : ∀ v : Int, ((v = rJn s x' y' ∧ rEr s x' y' = false ∧ vB v) ∨ (rEr s x' y' = true ∧ ¬ vB v)) → zG E mX10_works (d + 1) 407 [zR 0, zU, zU, zU, zU, zU, zJ v, zU] [] h4 (qI K) := by
    intro v hv
    refine bX10_works_407 hE ?_
    rw [e81, w_p1 (by omega) (by omega), Int.toNat_natCast, show n - 1 - 1 = n - 2 by omega]
    refine ⟨nat_in (n := 64) (by omega), fun h5 e5 => ?_⟩
    have fr5 : ∀ c j, c ≠ 37 → ¬ (c = 0 ∧ j = 81) → h5 c j = h c j := fun c j z1 z2 => by rw [e5, hset_ne (fun z => z1 z.1)]; exact fr4 c j z2
    have r5 : h5 37 = uN (h 37) (n - 2) v := by rw [e5, hset_row, r4]
    have s5 : h5 0 81 = ((n - 1 : Nat) : Int) := by rw [e5, hset_ne (by omega)]; exact e81
    rcases hv with ⟨z1, z2, z3⟩ | ⟨z1, z2⟩
    · unfold vB at z3
      subst z1
      exact ⟨fun c => absurd c (by omega), fun _ => ⟨fun c => absurd c (by omega), fun _ => h1 z2 h5 fr5 s5 r5⟩⟩
    · unfold vB at z2
      exact ⟨fun c => h0 z1 h5 fr5, fun c => ⟨fun c => h0 z1 h5 fr5, fun c2 => absurd (by omega) z2⟩⟩
  have fr4' : ∀ c j, c ≠ 37 → ¬ (c = 0 ∧ j = 81) → h4 c j = h c j := fun c j _ z => fr4 c j z
  have plain : ∀ v : Int, rEr s x' y' = false → v = rJn s x' y' → vB v → zG E mX10_works (d + 1) 407 [zR 0, zU, zU, zU, zU, zU, zJ v, zU] [] h4 (qI K) := fun v z1 z2 z3 => g407 v (Or.inl ⟨z2, z1, z3⟩)
  have hx' := hx
  have hy' := hy
  unfold vB at hx' hy'
  have v0 : vB 0 := by unfold vB; omega
  have v1 : vB 1 := by unfold vB; omega
  refine ⟨fun c => ?_, fun c => ?_, fun c => ?_, fun c => ?_, fun c => ?_, fun c => ?_, fun c => ?_, fun c => ?_, fun c => ?_, fun c => ?_, fun c => ?_, fun c => ?_⟩
  · subst c
    have e : rEr 42 x' y' = decide (x' ≠ 0 ∧ 1000000000000 / sAbs x' < sAbs y') := rfl
    have ej : rJn 42 x' y' = x' * y' := rfl
    rw [zabsJ_b (x := x') (by omega) (by omega), zabsJ_b (x := y') (by omega) (by omega)]
    refine ⟨fun c2 v ev => ?_, fun c2 => ⟨?_, ?_⟩⟩
    · have er : rEr 42 x' y' = false := by rw [e, decide_eq_false_iff_not]; exact fun z => z.1 c2
      have jb := rJn_b hx hy er
      rw [ej] at jb
      have jb' := jb
      unfold vB at jb'
      rw [w64i (by omega) (by omega)] at ev
      subst ev
      exact plain _ er rfl jb
    · unfold sAbs; split <;> omega
    · have ha : 0 < sAbs x' := by unfold sAbs; split <;> omega
      have hd : 0 ≤ 1000000000000 / sAbs x' := Int.ediv_nonneg (by omega) (by omega)
      have hd2 := Int.ediv_le_self (sAbs x') (show (0 : Int) ≤ 1000000000000 by omega)
      rw [Int.tdiv_eq_ediv_of_nonneg (by omega), w64i (x := 1000000000000 / sAbs x') (by omega) (by omega)]
      refine ⟨fun c3 v ev => ?_, fun c3 => ?_⟩
      · have er : rEr 42 x' y' = false := by rw [e, decide_eq_false_iff_not]; omega
        have jb := rJn_b hx hy er
        rw [ej] at jb
        have jb' := jb
        unfold vB at jb'
        rw [w64i (by omega) (by omega)] at ev
        subst ev
        exact plain _ er rfl jb
      · exact h0 (by rw [e, decide_eq_true_iff]; omega) h4 fr4'
  · subst c
    have e : rEr 43 x' y' = decide (1000000000000 < sAbs (x' + y')) := rfl
    intro v ev
    rw [w64i (by omega) (by omega)] at ev
    subst ev
    by_cases z : vB (x' + y')
    · refine plain _ ?_ rfl z
      rw [e, decide_eq_false_iff_not]
      unfold vB at z
      unfold sAbs
      split <;> omega
    · refine g407 _ (Or.inr ⟨?_, z⟩)
      rw [e, decide_eq_true_iff]
      unfold vB at z
      unfold sAbs
      split <;> omega
  · subst c
    have e : rEr 45 x' y' = decide (1000000000000 < sAbs (x' - y')) := rfl
    intro v ev
    rw [w64i (by omega) (by omega)] at ev
    subst ev
    by_cases z : vB (x' - y')
    · refine plain _ ?_ rfl z
      rw [e, decide_eq_false_iff_not]
      unfold vB at z
      unfold sAbs
      split <;> omega
    · refine g407 _ (Or.inr ⟨?_, z⟩)
      rw [e, decide_eq_true_iff]
      unfold vB at z
      unfold sAbs
      split <;> omega
  · subst c
    have e : rEr 47 x' y' = decide (y' = 0) := rfl
    refine ⟨fun c2 => ⟨c2, fun v ev => ?_⟩, fun c2 => ?_⟩
    · have jb := tdiv_b (y := y') hx
      have jb' := jb
      unfold vB at jb'
      rw [w64i (by omega) (by omega)] at ev
      subst ev
      exact plain _ (by rw [e, decide_eq_false_iff_not]; exact c2) rfl jb
    · exact h0 (by rw [e, decide_eq_true_iff]; exact Decidable.not_not.mp c2) h4 fr4'
  · subst c
    have ej : rJn 60 x' y' = bI (x' < y') := rfl
    exact ⟨fun c2 => X10_is0 hE (plain 0 rfl (by rw [ej, bI_f (by omega)]) v0), fun c2 => X10_is1 hE (plain 1 rfl (by rw [ej, bI_t (by omega)]) v1)⟩
  · subst c
    have ej : rJn 61 x' y' = bI (x' = y') := rfl
    exact ⟨fun c2 => X10_is0 hE (plain 0 rfl (by rw [ej, bI_f (by omega)]) v0), fun c2 => X10_is1 hE (plain 1 rfl (by rw [ej, bI_t (by omega)]) v1)⟩
  · subst c
    have ej : rJn 62 x' y' = bI (y' < x') := rfl
    exact ⟨fun c2 => X10_is0 hE (plain 0 rfl (by rw [ej, bI_f (by omega)]) v0), fun c2 => X10_is1 hE (plain 1 rfl (by rw [ej, bI_t (by omega)]) v1)⟩
  · subst c
    have ej : rJn 256 x' y' = bI (x' ≤ y') := rfl
    exact ⟨fun c2 => X10_is0 hE (plain 0 rfl (by rw [ej, bI_f (by omega)]) v0), fun c2 => X10_is1 hE (plain 1 rfl (by rw [ej, bI_t (by omega)]) v1)⟩
  · subst c
    have ej : rJn 257 x' y' = bI (x' ≠ y') := rfl
    exact ⟨fun c2 => X10_is0 hE (plain 0 rfl (by rw [ej, bI_f (by omega)]) v0), fun c2 => X10_is1 hE (plain 1 rfl (by rw [ej, bI_t (by omega)]) v1)⟩
  · subst c
    have ej : rJn 258 x' y' = bI (y' ≤ x') := rfl
    exact ⟨fun c2 => X10_is0 hE (plain 0 rfl (by rw [ej, bI_f (by omega)]) v0), fun c2 => X10_is1 hE (plain 1 rfl (by rw [ej, bI_t (by omega)]) v1)⟩
  · subst c
    have ej : rJn 261 x' y' = bI (x' ≠ 0 ∧ y' ≠ 0) := rfl
    exact ⟨fun c2 => X10_is0 hE (plain 0 rfl (by rw [ej, bI_f (by omega)]) v0), fun c2 => ⟨fun c3 => X10_is0 hE (plain 0 rfl (by rw [ej, bI_f (by omega)]) v0), fun c3 => X10_is1 hE (plain 1 rfl (by rw [ej, bI_t (by omega)]) v1)⟩⟩
  · have c2 : s = 262 := by omega
    subst c2
    have ej : rJn 262 x' y' = bI (x' ≠ 0 ∨ y' ≠ 0) := rfl
    exact ⟨fun c2 => X10_is1 hE (plain 1 rfl (by rw [ej, bI_t (by omega)]) v1), fun c2 => ⟨fun c3 => X10_is0 hE (plain 0 rfl (by rw [ej, bI_f (by omega)]) v0), fun c3 => X10_is1 hE (plain 1 rfl (by rw [ej, bI_t (by omega)]) v1)⟩⟩
theorem X10_worksN (hE : isR E) {n : Nat} (hn : h 0 81 = n) (hn64 : n ≤ 64) (hn1 : 1 ≤ n) {K : Int → zH → Prop} (hK : K 1 (hset h 37 (n - 1) (bI (h 37 (n - 1) = 0)))) : zCI E mX10_works (d + 1) [zR 0, zI 260] h K := by
  refine eX10_works hE ?_
  rw [hn, w_p1 (by omega) (by omega), Int.toNat_natCast]
  refine ⟨nat_in (n := 64) (by omega), fun y' ey => ⟨fun c => absurd rfl c, fun _ => ⟨fun c => X10_is0 hE ⟨nat_in (n := 64) (by omega), fun h2 e2 => ?_⟩, fun c => X10_is1 hE ⟨nat_in (n := 64) (by omega), fun h2 e2 => ?_⟩⟩⟩⟩
  · rw [e2]
    rwa [← ey, bI_f c] at hK
  · rw [e2]
    rwa [← ey, bI_t (Decidable.not_not.mp c)] at hK
/-- is a ring near: by the rule, or by an eighth -/
def nmF (hv unit size st so : Int) (j : Nat) : Int := if j = 0 then sOff size (sPart unit hv) else if j = 1 then unit else if j = 2 then size else if j = 3 then sTimes size (sPart unit hv) else if j = 4 then st else so
def sNear (S : zH) (hv unit size st so : Int) : Bool :=
  if S 0 28 = 0 then decide (8 * sOff size (sPart unit hv) ≤ unit)
  else rvR (nmF hv unit size st so) (S 20) (S 21) (S 0 28).toNat 0 (fun _ => 0) 0
/-- a rule that can be worked out -/
def rlOk (S : zH) : Prop := 0 ≤ S 0 28 ∧ S 0 28 ≤ 64 ∧ (S 0 28 ≠ 0 → rwR (S 20) (S 21) (S 0 28).toNat 0 0)
def frN (h h' : zH) : Prop := ∀ c j, c ≠ 37 → c ≠ 38 → ¬ (c = 0 ∧ j = 81) → h' c j = h c j
theorem sTimes_r {s u : Int} (h0 : 0 ≤ s) (h1 : s ≤ 1000000000) (hu : 0 < u) : 0 ≤ sTimes s u ∧ sTimes s u ≤ 1000000001 := by
  have a := Int.ediv_nonneg h0 (show 0 ≤ u by omega)
  have b := Int.ediv_le_self u h0
  unfold sTimes
  split <;> omega
end TWorks
