/-! ===== topic: the reference's line ===== -/
section TRefn
variable {E : zE} {d : Nat} {h : zH} {T : zH} {B : Nat → Int} {n : Nat}
def pLine (B : Nat → Int) (n : Nat) (T : zH) (q : Nat) : Sum pF (zH × Nat) := if tkK B n q = 20 then pLand B n T q else if tkK B n q = 21 then pRing B n T q else if tkK B n q = 26 then pWay B n T q else if tkK B n q = 27 then pNear B n T q else if tkK B n q = 28 then pSaid B n T q else if tkK B n q = 30 then pGrid B n T q else if tkK B n q = 31 then pSlack B n T q else .inl (1, tkP B n q)
def pLs (B : Nat → Int) (n : Nat) (T : zH) (q : Nat) : Sum pF (zH × Nat) := xB (pLine B n T q) (fun r => if tkK B n r.2 = 4 then .inr (r.1, tkQ B n r.2) else .inl (1, tkP B n r.2))
def frT (h h' : zH) : Prop := ∀ c j, ¬ (c = 0 ∧ 32 ≤ j ∧ j ≤ 43) → ¬ (c = 0 ∧ 45 ≤ j ∧ j ≤ 50) → ¬ (c = 0 ∧ j = 53) → ¬ (2 ≤ c ∧ c ≤ 21 ∧ hO c ≤ j) → h' c j = h c j
theorem frT.rf (h : zH) : frT h h := fun _ _ _ _ _ _ => rfl
theorem frT.tr {h h1 h2 : zH} (a : frT h h1) (b : frT h1 h2) : frT h h2 := fun c j n m k l => (b c j n m k l).trans (a c j n m k l)
theorem frT.e {h h' : zH} (a : frE h h') : frT h h' := fun c j n m _ l => a c j (by omega) m l
theorem frT.w {h h' : zH} (a : frWr h h') : frT h h' := frT.e (frE.w a)
theorem frT.g {h h' : zH} (a : frGr h h') : frT h h' := fun c j n m k l => a c j (by omega) (fun z => l (by
  rcases z.1 with y | y <;> subst y
  · exact ⟨by omega, by omega, z.2⟩
  · exact ⟨by omega, by omega, z.2⟩))
theorem frT.s0 {h h1 : zH} (a : frT h h1) {j : Nat} {v : Int} (hj : 32 ≤ j ∧ j ≤ 43) : frT h (hset h1 0 j v) := fun c' j' n m k l => by
  rw [hset_ne (fun z => n (by rw [z.1, z.2]; exact ⟨rfl, hj⟩))]
  exact a c' j' n m k l
def btk (a x : Int) : Int := zand (zshr a x) 1
/-- what was told -/
def TdR (T h : zH) : Prop := (0 ≤ h 0 42 ∧ h 0 42 < 128) ∧ (btk (h 0 42) 3 = bI (T 0 28 ≠ 0) ∧ btk (h 0 42) 5 = T 0 32 ∧ btk (h 0 42) 6 = T 0 33) ∧ (T 0 28 = 0 → h 0 41 = 0 ∧ h 0 53 = 0)
theorem bt_or : ∀ a : Nat, a < 128 → ∀ x : Nat, x < 7 → (0 ≤ zor (a : Int) (zshl 1 (x : Int)) ∧ zor (a : Int) (zshl 1 (x : Int)) < 128) ∧ btk (zor (a : Int) (zshl 1 (x : Int))) 3 = (if x = 3 then 1 else btk (a : Int) 3) ∧ btk (zor (a : Int) (zshl 1 (x : Int))) 5 = (if x = 5 then 1 else btk (a : Int) 5) ∧ btk (zor (a : Int) (zshl 1 (x : Int))) 6 = (if x = 6 then 1 else btk (a : Int) 6) := by
  unfold btk zor zshl zshr zand
  decide +kernel
theorem R_isFull (hE : isR E) (i : HfR T h) {x : Int} {K : Int → zH → Prop} (hK : K (bI ((x = 0 ∧ T 0 23 = 4) ∨ (x = 1 ∧ T 0 24 = 8) ∨ (x = 2 ∧ T 0 25 = 5) ∨ (x = 4 ∧ T 0 26 = 20))) h) : zCI E mX10_isFull d [zR 0, zI x] h K := by
  have e0 : h 0 32 = T 0 23 := i.1 23 (by omega) (by omega)
  have e1 : h 0 33 = T 0 24 := i.1 24 (by omega) (by omega)
  have e2 : h 0 34 = T 0 25 := i.1 25 (by omega) (by omega)
  have e3 : h 0 35 = T 0 26 := i.1 26 (by omega) (by omega)
  have no : ¬ ((x = 0 ∧ T 0 23 = 4) ∨ (x = 1 ∧ T 0 24 = 8) ∨ (x = 2 ∧ T 0 25 = 5) ∨ (x = 4 ∧ T 0 26 = 20)) → K 0 h := fun z => by rwa [bI_f z] at hK
  have ye : ((x = 0 ∧ T 0 23 = 4) ∨ (x = 1 ∧ T 0 24 = 8) ∨ (x = 2 ∧ T 0 25 = 5) ∨ (x = 4 ∧ T 0 26 = 20)) → K 1 h := fun z => by rwa [bI_t z] at hK
  have b26 : ¬ (x = 0 ∧ T 0 23 = 4) → ¬ (x = 1 ∧ T 0 24 = 8) → zG E mX10_isFull d 26 [zR 0, zI x] [] h (qI K) := by
    intro n1 n2
    refine bX10_isFull_26 hE ?_
    rw [e2, e3]
    refine ⟨fun c => ⟨fun c4 => no (by omega), fun c4 => ⟨fun c5 => no (by omega), fun c5 => ye (by omega)⟩⟩, fun c => ⟨fun c4 => ye (by omega), fun c4 => ⟨fun c5 => no (by omega), fun c5 => absurd (by omega) c5⟩⟩⟩
  refine eX10_isFull hE ?_
  rw [e0, e1]
  exact ⟨fun c => ⟨fun c1 => b26 (by omega) (by omega), fun c1 => ⟨fun c2 => ye (by omega), fun c2 => b26 (by omega) (by omega)⟩⟩, fun c => ⟨fun c1 => ye (by omega), fun c1 => ⟨fun c2 => b26 (by omega) (by omega), fun c2 => absurd (by omega) c2⟩⟩⟩
/-- the line's end -/
theorem R_l254 (hE : isR E) {q : Nat} {hh : zH} (a : AtR h B n q) (fr : frT hh h) (bd : BdR h) {l : Nat} (hl : l ≤ 900) (e43 : h 0 43 = (l : Int)) {K : zH → Prop}
    (h0 : tkK B n q ≠ 4 → ∀ h', frT hh h' → BdR h' → FlR h' (1, tkP B n q) → K h')
    (h1 : tkK B n q = 4 → ∀ h', frT hh h' → BdR h' → (∀ c j, ¬ (c = 0 ∧ 43 ≤ j ∧ j ≤ 48) → h' c j = h c j) → AtR h' B n (tkQ B n q) → h' 0 43 = ((l + 1 : Nat) : Int) → K h') : zG E mX10_line (d + 3) 254 [zR 0, zU] [] h (qV K) := by
  refine bX10_line_254 (d := d + 2) hE ⟨fun _ => R_sign hE a (kk := 4) (by decide) (by decide) (by decide) ⟨fun c => R_tok hE a (fun h2 fr2 a2 h3 e3 => ?_), fun c => R_wrong hE a (by decide) (fun h2 fr2 f2 h3 e3 => ?_)⟩, fun z => absurd a.2.2.2.1 z⟩
  · rw [fr2 _ _ (by omega), e43, w_suc (by omega)] at e3
    refine h1 (bI_e c) h3 (by rw [e3]; exact (fr.tr (frT.w (frWr.y fr2))).s0 (by omega)) (by rw [e3]; exact (bd.w (frWr.y fr2)).so (by omega)) (fun c j z => by rw [e3, hset_ne (by omega)]; exact fr2 c j (by omega)) (by rw [e3]; exact a2.st (by omega)) (by rw [e3, hset_eq])
  · refine h0 (bI_ne (Decidable.not_not.mp c)) h3 (by rw [e3]; exact (fr.tr (frT.w fr2)).s0 (by omega)) (by rw [e3]; exact (bd.w fr2).so (by omega)) (by rw [e3]; exact f2.st (by omega))
theorem R_l254f (hE : isR E) (e : h 0 49 ≠ 0) {K : zH → Prop} (hK : K h) : zG E mX10_line (d + 1) 254 [zR 0, zU] [] h (qV K) := bX10_line_254 hE ⟨fun z => absurd z e, fun _ => hK⟩
theorem AtR.lw {q : Nat} (a : AtR h B n q) : (h 0 47 = 0 ∧ h 0 48 ≤ 6) ↔ (tkK B n q = 20 ∨ tkK B n q = 21 ∨ tkK B n q = 26 ∨ tkK B n q = 27 ∨ tkK B n q = 28 ∨ tkK B n q = 30 ∨ tkK B n q = 31) := by
  have sk := a.sk
  unfold skR at sk
  have aux : ∀ k : Int, 20 ≤ k → k ≤ 40 → (rIx (k - 20) ≤ 6 ↔ (k = 20 ∨ k = 21 ∨ k = 26 ∨ k = 27 ∨ k = 28 ∨ k = 30 ∨ k = 31)) := by
    intro k a1 a2
    obtain ⟨j, hj⟩ : ∃ j : Nat, k - 20 = (j : Int) := ⟨(k - 20).toNat, by omega⟩
    have t : ∀ j : Nat, j < 21 → (([0, 1, 7, 8, 9, 10, 2, 3, 4, 11, 5, 6, 12, 13, 14, 15, 16, 17, 18, 19, 20] : List Int).getD j 0 ≤ 6 ↔ (j = 0 ∨ j = 1 ∨ j = 6 ∨ j = 7 ∨ j = 8 ∨ j = 10 ∨ j = 11)) := by decide
    unfold rIx
    rw [hj, Int.toNat_natCast, t j (by omega)]
    omega
  constructor
  · intro z
    have s1 : 20 ≤ tkK B n q ∧ tkK B n q ≤ 40 ∧ h 0 48 = rIx (tkK B n q - 20) := by omega
    rw [s1.2.2] at z
    exact (aux _ s1.1 s1.2.1).mp z.2
  · intro z
    have s1 : 20 ≤ tkK B n q ∧ tkK B n q ≤ 40 ∧ h 0 47 = 0 ∧ h 0 48 = rIx (tkK B n q - 20) := by omega
    rw [s1.2.2.2]
    exact ⟨s1.2.2.1, (aux _ s1.1 s1.2.1).mpr z⟩
theorem AtR.w48 {q : Nat} (a : AtR h B n q) {k : Int} {i : Int} (hk : tkK B n q = k) (h20 : 20 ≤ k) (h40 : k ≤ 40) (hi : rIx (k - 20) = i) : h 0 48 = i := by
  have sk := a.sk
  unfold skR at sk
  subst hk
  have s1 : h 0 48 = rIx (tkK B n q - 20) := by omega
  rw [s1]; exact hi
end TRefn
