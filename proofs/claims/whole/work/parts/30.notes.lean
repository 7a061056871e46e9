/-! ===== topic: notes; both sides ===== -/
section TNotes
variable {E : zE} {d : Nat} {h : zH} {K : zH → Prop}
theorem J7_fill {a n : Nat} (ha : zsh E a = (20, n) ∧ a < zN E ∧ n < 2147483648) {v : Int} (hK : K (hrow h a 0 (fun _ => v) n)) (hn : n < 1000000) : zCV E mJ7_fill_53178 d [zR a, zI v] h K := by
  refine eJ7_fill_53178 ha (fun x1 e1 => ?_)
  rw [e1]
  have loop : ∀ (k i : Nat), i + k = n → zG E mJ7_fill_53178 d 5 [zR a, zI v, zI i, zI n] [] (hrow h a 0 (fun _ => v) i) (qV K) := by
    intro k
    induction k with
    | zero =>
      intro i hi
      have : i = n := by omega
      subst this
      exact bJ7_fill_53178_5 ha ⟨fun _ => hK, fun c => absurd (Int.le_refl _) c⟩
    | succ k ih =>
      intro i hi
      have nx := ih (i + 1) (by omega)
      refine bJ7_fill_53178_5 ha ⟨fun c => absurd c (by omega), fun c => ⟨nat_in (by omega), fun h2 e2 x3 e3 => ?_⟩⟩
      have hh := hrow_s h a 0 (fun _ => v) i
      rw [Nat.zero_add] at hh
      rw [Int.toNat_natCast, hh] at e2
      rw [w_suc (by omega)] at e3
      rw [e2, e3]
      exact nx
  have := loop n 0 (by omega)
  rw [hrow_0] at this
  exact this
def updN (f : Nat → Int) (k v : Int) : Nat → Int := fun j => if (j : Int) = k then v else f j
/-- which of the first n notes are struck, the last k of them looked at -/
def stS (nk nw : Nat → Int) (n : Nat) : Nat → Nat → Int
  | 0 => fun _ => 0
  | k + 1 => if nk (n - 1 - k) = 2 ∧ stS nk nw n k (n - 1 - k) = 0 then updN (stS nk nw n k) (nw (n - 1 - k)) 1 else stS nk nw n k
abbrev zTri : Type := (Nat → Int) × (Nat → Int) × (Nat → Int)
/-- the stones behind the first i notes -/
def apS (st nk nw na nb : Nat → Int) (b : zTri) : Nat → zTri
  | 0 => b
  | i + 1 => if st i ≠ 0 ∨ nk i = 2 then apS st nk nw na nb b i
    else if nk i = 1 then ((apS st nk nw na nb b i).1, (apS st nk nw na nb b i).2.1, updN (apS st nk nw na nb b i).2.2 (nw i) (na i))
    else (updN (apS st nk nw na nb b i).1 (nw i) (na i), updN (apS st nk nw na nb b i).2.1 (nw i) (nb i), (apS st nk nw na nb b i).2.2)
def nOk (nk nw na : Nat → Int) (n : Nat) : Prop := ∀ i, i < n → (nk i = 0 ∨ nk i = 1 ∨ nk i = 2) ∧ (nk i = 2 → 0 ≤ nw i ∧ nw i < i) ∧ (nk i ≠ 2 → 0 ≤ nw i ∧ nw i < 80) ∧ (nk i = 1 → na i = 0 ∨ na i = 1)
/-- the class's notes -/
def NotesC (h : zH) (nk nw na nb : Nat → Int) (n : Nat) : Prop := ∀ i, i < n → h 47 i = nk i ∧ h 48 i = (if nk i = 2 then nw i else 6 * nw i) ∧ h 49 i = na i ∧ h 50 i = nb i
theorem X3_findStruck (hE : isC E) {nk nw na nb : Nat → Int} {n : Nat} (hn : n ≤ 60) (hN : NotesC h nk nw na nb n) (ho : nOk nk nw na n)
    (hK : ∀ h', (∀ c j, c ≠ 51 → h' c j = h c j) → (∀ j, j < 60 → h' 51 j = stS nk nw n n j) → K h') : zCV E mX3_findStruck (d + 1) [zR 46, zI n] h K := by
  refine eX3_findStruck hE (J7_fill ⟨sC_51 hE, cC_51 hE, by omega⟩ (fun x2 e2 => ?_) (by omega))
  rw [w32i (by omega) (by omega)] at e2
  rw [e2]
  have loop : ∀ (m k : Nat), k + m = n → ∀ h1, (∀ c j, c ≠ 51 → h1 c j = h c j) → (∀ j, j < 60 → h1 51 j = stS nk nw n k j) → zG E mX3_findStruck (d + 1) 12 [zR 46, zU, zI ((n : Int) - 1 - k), zU] [] h1 (qV K) := by
    intro m
    induction m with
    | zero =>
      intro k hk h1 fr hs
      have : k = n := by omega
      subst this
      exact bX3_findStruck_12 hE ⟨fun _ => hK h1 fr hs, fun c => absurd (by omega) c⟩
    | succ m ih =>
      intro k hk h1 fr hs
      generalize hi : n - 1 - k = i
      have ei : (n : Int) - 1 - k = (i : Int) := by omega
      have hin : i < n := by omega
      have hNi := hN i hin
      have hoi := ho i hin
      have e47 : h1 47 i = nk i := by rw [fr 47 i (by omega)]; exact hNi.1
      have e48 : h1 48 i = (if nk i = 2 then nw i else 6 * nw i) := by rw [fr 48 i (by omega)]; exact hNi.2.1
      have e51 := hs i (by omega)
      have nx : ∀ x, x = w32 ((i : Int) + (-1)) → x = (n : Int) - 1 - ((k + 1 : Nat) : Int) := by
        intro x e
        rw [w32i (by omega) (by omega)] at e
        omega
      have skip : ¬ (nk i = 2 ∧ stS nk nw n k i = 0) → ∀ x, x = w32 ((i : Int) + (-1)) → zG E mX3_findStruck (d + 1) 12 [zR 46, zU, zI x, zU] [] h1 (qV K) := by
        intro hc x e
        rw [nx x e]
        refine ih (k + 1) (by omega) h1 fr (fun j hj => ?_)
        rw [stS, hi, if_neg hc]
        exact hs j hj
      rw [ei]
      refine bX3_findStruck_12 hE ⟨fun c => absurd c (by omega), fun c => ⟨nat_in (n := 60) (by omega), fun w ew => ⟨nat_in (n := 60) (by omega), ?_⟩⟩⟩
      rw [Int.toNat_natCast] at ew ⊢
      rw [e47, e51]
      rw [e48] at ew
      refine ⟨fun c1 => skip (fun z => c1 z.1), fun c1 => ⟨nat_in (n := 60) (by omega), fun c2 => skip (fun z => c2 z.2), fun c2 => ?_⟩⟩
      have c1' : nk i = 2 := Decidable.not_not.mp c1
      have c2' : stS nk nw n k i = 0 := Decidable.not_not.mp c2
      rw [if_pos c1'] at ew
      have hw := hoi.2.1 c1'
      refine ⟨fun c3 => absurd c3 (by omega), fun c3 => ⟨fun c4 => absurd c4 (by omega), fun c4 => ⟨⟨by omega, by omega⟩, fun h2 e2' x e => ?_⟩⟩⟩
      rw [nx x e]
      refine ih (k + 1) (by omega) h2 (fun c j hc => ?_) (fun j hj => ?_)
      · rw [e2']; unfold hset; rw [if_neg (by omega)]; exact fr c j hc
      · rw [stS, hi, if_pos ⟨c1', c2'⟩, e2']
        unfold hset updN
        by_cases z : (j : Int) = nw i
        · rw [if_pos (by omega), if_pos z]
        · rw [if_neg (by omega), if_neg z]
          exact hs j hj
  have := loop n 0 (by omega) (hrow h 51 0 (fun _ => 0) 60) (fun c j hc => hrow_ne hc) (fun j hj => by
    have := hrow_at (h := h) (c := 51) (o := 0) (f := fun _ => 0) (n := 60) (i := j) hj
    rw [Nat.zero_add] at this
    rw [this]; rfl)
  simpa using this
def StAt (h : zH) (a : Nat) (T : zTri) : Prop := ∀ s, s < 80 → h a (s * 6) = T.1 s ∧ h a (s * 6 + 1) = T.2.1 s ∧ h a (s * 6 + 5) = T.2.2 s
theorem X3_bring (hE : isC E) {a : Nat} (ha : zsh E a = (20, 480) ∧ a < zN E) (ha51 : a ≠ 51 ∧ a ≠ 47 ∧ a ≠ 48 ∧ a ≠ 49 ∧ a ≠ 50) {nk nw na nb : Nat → Int} {n t : Nat} (hnt : n ≤ t) (ht : t ≤ 60) (hm : h 46 5 = t) (h46 : a ≠ 46) (hN : NotesC h nk nw na nb n) (ho : nOk nk nw na n) {T : zTri} (hT : StAt h a T)
    (hK : ∀ h', (∀ c j, c ≠ 51 → c ≠ a → h' c j = h c j) → (∀ s f, s < 80 → 2 ≤ f → f ≤ 4 → h' a (s * 6 + f) = h a (s * 6 + f)) → StAt h' a (apS (stS nk nw n n) nk nw na nb T n) → K h') : zCV E mX3_bring (d + 2) [zR 46, zR a, zI n] h K := by
  refine eX3_bring (d := d + 1) hE ha (fun x1 e1 => ?_)
  rw [hm, Int.min_eq_left (by omega)] at e1
  rw [e1]
  refine X3_findStruck hE (by omega) hN ho (fun h0 fr0 hs0 => ?_)
  have loop : ∀ (k i : Nat), i + k = n → ∀ h1, (∀ c j, c ≠ a → h1 c j = h0 c j) → (∀ s f, s < 80 → 2 ≤ f → f ≤ 4 → h1 a (s * 6 + f) = h a (s * 6 + f)) → StAt h1 a (apS (stS nk nw n n) nk nw na nb T i) → zG E mX3_bring (d + 2) 17 [zR 46, zR a, zU, zI n, zI i, zU] [] h1 (qV K) := by
    intro k
    induction k with
    | zero =>
      intro i hi h1 fr hf hA
      have : i = n := by omega
      subst this
      refine bX3_bring_17 (d := d + 1) hE ha ⟨fun _ => hK h1 (fun c j c1 c2 => (fr c j c2).trans (fr0 c j c1)) hf hA, fun c => absurd (Int.le_refl _) c⟩
    | succ k ih =>
      intro i hi h1 fr hf hA
      have hin : i < n := by omega
      have hNi := hN i hin
      have hoi := ho i hin
      have e47 : h1 47 i = nk i := by rw [fr 47 i (by omega), fr0 47 i (by omega)]; exact hNi.1
      have e48 : h1 48 i = (if nk i = 2 then nw i else 6 * nw i) := by rw [fr 48 i (by omega), fr0 48 i (by omega)]; exact hNi.2.1
      have e49 : h1 49 i = na i := by rw [fr 49 i (by omega), fr0 49 i (by omega)]; exact hNi.2.2.1
      have e50 : h1 50 i = nb i := by rw [fr 50 i (by omega), fr0 50 i (by omega)]; exact hNi.2.2.2
      have e51 : h1 51 i = stS nk nw n n i := by rw [fr 51 i (by omega)]; exact hs0 i (by omega)
      have go : ∀ h2, (∀ c j, c ≠ a → h2 c j = h0 c j) → (∀ s f, s < 80 → 2 ≤ f → f ≤ 4 → h2 a (s * 6 + f) = h a (s * 6 + f)) → StAt h2 a (apS (stS nk nw n n) nk nw na nb T (i + 1)) → zG E mX3_bring (d + 2) 134 [zR 46, zR a, zU, zI n, zI i, zU] [] h2 (qV K) := by
        intro h2 b1 b2 b3
        refine bX3_bring_134 (d := d + 1) hE ha (fun x e => ?_)
        rw [w_suc (by omega)] at e
        rw [e]
        exact ih (i + 1) (by omega) h2 b1 b2 b3
      have skip : (stS nk nw n n i ≠ 0 ∨ nk i = 2) → zG E mX3_bring (d + 2) 134 [zR 46, zR a, zU, zI n, zI i, zU] [] h1 (qV K) := by
        intro hc
        refine go h1 fr hf ?_
        rw [apS, if_pos hc]
        exact hA
      refine bX3_bring_17 (d := d + 1) hE ha ⟨fun c => absurd c (by omega), fun c => ⟨nat_in (n := 60) (by omega), fun w ew => ⟨nat_in (n := 60) (by omega), ?_⟩⟩⟩
      rw [Int.toNat_natCast] at ew ⊢
      rw [e51, e47, e49]
      rw [e48] at ew
      refine ⟨fun c1 => skip (Or.inl c1), fun c1 => ⟨nat_in (n := 60) (by omega), fun c2 => skip (Or.inr c2), fun c2 => ?_⟩⟩
      rw [if_neg c2] at ew
      have hw := hoi.2.2.1 c2
      obtain ⟨u, hu⟩ : ∃ u : Nat, nw i = u := ⟨(nw i).toNat, by omega⟩
      have eS : ¬ (stS nk nw n n i ≠ 0 ∨ nk i = 2) := fun z => z.elim c1 c2
      refine ⟨fun c3 => absurd c3 (by omega), fun c3 => ?_⟩
      rw [w32i (x := w + 6) (by omega) (by omega), w32i (x := w + 5) (by omega) (by omega), w32i (x := w + 0) (by omega) (by omega), w32i (x := w + 1) (by omega) (by omega)]
      have t5 : (w + 5).toNat = u * 6 + 5 := by omega
      have t0 : (w + 0).toNat = u * 6 := by omega
      have t1 : (w + 1).toNat = u * 6 + 1 := by omega
      refine ⟨fun c4 => ⟨nat_in (n := 60) (by omega), fun c5 => ⟨nat_in (n := 60) (by omega), fun c6 => ?_, fun c6 => ⟨nat_in (n := 60) (by omega), ⟨by omega, by omega⟩, fun h2 e2 => ?_⟩⟩, fun c5 => ⟨nat_in (n := 60) (by omega), ⟨by omega, by omega⟩, fun h2 e2 => ⟨nat_in (n := 60) (by omega), ⟨by omega, by omega⟩, fun h3 e3 => ?_⟩⟩⟩, fun c4 => absurd c4 (by omega)⟩
      · exact absurd hoi.1 (fun z => by omega)
      · rw [t5] at e2
        have c6' : nk i = 1 := Decidable.not_not.mp c6
        refine go h2 (fun c j hc => ?_) (fun s f hs b1 b2 => ?_) (fun s hs => ?_)
        · rw [e2]; unfold hset; rw [if_neg (by omega)]; exact fr c j hc
        · rw [e2]; unfold hset; rw [if_neg (by omega)]; exact hf s f hs b1 b2
        · rw [apS, if_neg eS, if_pos c6', e2]
          have := hA s hs
          unfold hset updN
          dsimp only
          rw [if_neg (by omega), if_neg (by omega)]
          refine ⟨this.1, this.2.1, ?_⟩
          by_cases z : s = u
          · rw [if_pos (by omega), if_pos (by omega)]
          · rw [if_neg (by omega), if_neg (by omega)]; exact this.2.2
      · rw [t0] at e2
        rw [t1] at e3
        have c5' : nk i = 0 := Decidable.not_not.mp c5
        have e50' : h2 50 i = nb i := by rw [e2]; unfold hset; rw [if_neg (by omega)]; exact e50
        rw [e50'] at e3
        refine go h3 (fun c j hc => ?_) (fun s f hs b1 b2 => ?_) (fun s hs => ?_)
        · rw [e3, e2]; unfold hset; rw [if_neg (by omega), if_neg (by omega)]; exact fr c j hc
        · rw [e3, e2]; unfold hset; rw [if_neg (by omega), if_neg (by omega)]; exact hf s f hs b1 b2
        · rw [apS, if_neg eS, if_neg (by omega), e3, e2]
          have := hA s hs
          unfold hset updN
          dsimp only
          by_cases z : s = u
          · subst z
            rw [if_neg (by omega), if_pos (by omega), if_pos (by omega), if_pos (by omega), if_pos (by omega), if_neg (by omega), if_neg (by omega)]
            exact ⟨rfl, rfl, this.2.2⟩
          · rw [if_neg (by omega), if_neg (by omega), if_neg (by omega), if_neg (by omega), if_neg (by omega), if_neg (by omega), if_neg (by omega), if_neg (by omega)]
            exact this
  exact loop n 0 (by omega) h0 (fun _ _ _ => rfl) (fun s f hs b1 b2 => fr0 _ _ ha51.1) (fun s hs => by
    have := hT s hs
    rw [fr0 _ _ ha51.1, fr0 _ _ ha51.1, fr0 _ _ ha51.1]
    exact this)
end TNotes
