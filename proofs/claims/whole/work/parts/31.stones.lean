/-! ===== topic: stones as known, those that stand; the reference ===== -/
section TStones
variable {E : zE} {d : Nat} {h : zH} {K : zH → Prop}
def NotesR (h : zH) (nk nw na nb : Nat → Int) (n : Nat) : Prop := ∀ i, i < n → h 22 i = nk i ∧ h 23 i = nw i ∧ h 24 i = na i ∧ h 25 i = nb i
def frS (h h' : zH) : Prop := ∀ c j, ¬ (26 ≤ c ∧ c ≤ 29) → h' c j = h c j
theorem frS.set {h h1 : zH} (fr : frS h h1) {c0 j0 : Nat} {v : Int} (hc : 26 ≤ c0 ∧ c0 ≤ 29) : frS h (hset h1 c0 j0 v) := by
  intro c j hcj
  unfold hset
  rw [if_neg (by omega)]
  exact fr c j hcj
def TriR (h : zH) (T : zTri) : Prop := ∀ s, s < 80 → h 27 s = T.1 s ∧ h 28 s = T.2.1 s ∧ h 29 s = T.2.2 s
theorem hset_eq (h : zH) (c j : Nat) (v : Int) : hset h c j v c j = v := by simp [hset]
theorem hset_ne {h : zH} {c j : Nat} {v : Int} {c' j' : Nat} (hn : ¬ (c' = c ∧ j' = j)) : hset h c j v c' j' = h c' j' := if_neg hn
theorem X10_stones (hE : isR E) {nk nw na nb : Nat → Int} {n : Nat} (hn : n ≤ 60) (hN : NotesR h nk nw na nb n) (ho : nOk nk nw na n) (hg : ∀ s, s < 80 → h 11 s = 0 ∨ h 11 s = 1)
    (hK : ∀ h', frS h h' → TriR h' (apS (stS nk nw n n) nk nw na nb (h 6, h 7, h 11) n) → K h') : zCV E mX10_stones d [zR 0, zI n] h K := by
  -- forward
  have loopF : ∀ (k i : Nat), i + k = n → ∀ h1, frS h h1 → (∀ j, j < n → h1 26 j = stS nk nw n n j) → TriR h1 (apS (stS nk nw n n) nk nw na nb (h 6, h 7, h 11) i) → zG E mX10_stones d 117 [zR 0, zI n, zI i, zU] [] h1 (qV K) := by
    intro k
    induction k with
    | zero =>
      intro i hi h1 fr hs hT
      have : i = n := by omega
      subst this
      exact bX10_stones_117 hE ⟨fun _ => hK h1 fr hT, fun c => absurd (Int.le_refl _) c⟩
    | succ k ih =>
      intro i hi h1 fr hs hT
      have hin : i < n := by omega
      have hNi := hN i hin
      have hoi := ho i hin
      have e22 : h1 22 i = nk i := by rw [fr 22 i (by omega)]; exact hNi.1
      have e23 : h1 23 i = nw i := by rw [fr 23 i (by omega)]; exact hNi.2.1
      have e24 : h1 24 i = na i := by rw [fr 24 i (by omega)]; exact hNi.2.2.1
      have e25 : h1 25 i = nb i := by rw [fr 25 i (by omega)]; exact hNi.2.2.2
      have e26 := hs i hin
      have b60 : (0 : Int) ≤ (i : Int) ∧ (i : Int) < 60 := nat_in (n := 60) (by omega)
      have skip : (stS nk nw n n i ≠ 0 ∨ nk i = 2) → ∀ x, x = w32 ((i : Int) + 1) → zG E mX10_stones d 117 [zR 0, zI n, zI x, zU] [] h1 (qV K) := by
        intro hc x e
        rw [w_suc (by omega)] at e
        rw [e]
        refine ih (i + 1) (by omega) h1 fr hs ?_
        rw [apS, if_pos hc]
        exact hT
      refine bX10_stones_117 hE ⟨fun c => absurd c (by omega), fun c => ⟨b60, ?_⟩⟩
      rw [Int.toNat_natCast, e26, e22]
      refine ⟨fun c1 => skip (Or.inl c1), fun c1 => ⟨b60, fun c2 => ⟨b60, fun w ew => ⟨b60, ?_⟩⟩, fun c2 => skip (Or.inr (Decidable.not_not.mp c2))⟩⟩
      have eS : ¬ (stS nk nw n n i ≠ 0 ∨ nk i = 2) := fun z => z.elim c1 c2
      have hw := hoi.2.2.1 c2
      obtain ⟨u, hu⟩ : ∃ u : Nat, nw i = u := ⟨(nw i).toNat, by omega⟩
      rw [e23, hu] at ew
      have bu : (0 : Int) ≤ w ∧ w < 80 := by omega
      have tu : w.toNat = u := by omega
      refine ⟨fun c3 => ⟨b60, bu, fun h2 e2 => ⟨b60, bu, fun h3 e3 x e => ?_⟩⟩, fun c3 => ⟨b60, ?_⟩⟩
      · rw [tu, e24] at e2
        have e25' : h2 25 i = nb i := by rw [e2, hset_ne (by omega)]; exact e25
        rw [tu, e25'] at e3
        rw [w_suc (by omega)] at e
        rw [e]
        refine ih (i + 1) (by omega) h3 ?_ (fun j hj => ?_) (fun s hs' => ?_)
        · rw [e3, e2]; exact (fr.set (by omega)).set (by omega)
        · rw [e3, e2, hset_ne (by omega), hset_ne (by omega)]; exact hs j hj
        · rw [apS, if_neg eS, if_neg c3, e3, e2]
          have := hT s hs'
          unfold updN
          dsimp only
          by_cases z : s = u
          · subst z
            rw [hset_ne (by omega), hset_eq, hset_eq, hset_ne (by omega), hset_ne (by omega), if_pos (by omega), if_pos (by omega)]
            exact ⟨rfl, rfl, this.2.2⟩
          · rw [hset_ne (by omega), hset_ne (by omega), hset_ne (by omega), hset_ne (by omega), hset_ne (by omega), hset_ne (by omega), if_neg (by omega), if_neg (by omega)]
            exact this
      · have c3' : nk i = 1 := Decidable.not_not.mp c3
        have hna := hoi.2.2.2 c3'
        have fin : ∀ h2, h2 = hset h1 29 u (na i) → ∀ x, x = w32 ((i : Int) + 1) → zG E mX10_stones d 117 [zR 0, zI n, zI x, zU] [] h2 (qV K) := by
          intro h2 e2 x e
          rw [w_suc (by omega)] at e
          rw [e]
          refine ih (i + 1) (by omega) h2 ?_ (fun j hj => ?_) (fun s hs' => ?_)
          · rw [e2]; exact fr.set (by omega)
          · rw [e2, hset_ne (by omega)]; exact hs j hj
          · rw [apS, if_neg eS, if_pos c3', e2]
            have := hT s hs'
            unfold updN
            dsimp only
            rw [hset_ne (by omega), hset_ne (by omega)]
            refine ⟨this.1, this.2.1, ?_⟩
            by_cases z : s = u
            · subst z
              rw [hset_eq, if_pos (by omega)]
            · rw [hset_ne (by omega), if_neg (by omega)]
              exact this.2.2
        rw [e24, tu]
        refine ⟨fun c4 => ⟨bu, fun h2 e2 => fin h2 (by rw [e2, hna.resolve_right c4])⟩, fun c4 => ⟨bu, fun h2 e2 => fin h2 (by rw [e2, Decidable.not_not.mp c4])⟩⟩
  -- backward
  have loopB : ∀ (m k : Nat), k + m = n → ∀ h1, frS h h1 → (∀ j, j < n → h1 26 j = stS nk nw n k j) → TriR h1 (h 6, h 7, h 11) → zG E mX10_stones d 74 [zR 0, zI n, zI ((n : Int) - 1 - k), zU] [] h1 (qV K) := by
    intro m
    induction m with
    | zero =>
      intro k hk h1 fr hs hT
      have : k = n := by omega
      subst this
      refine bX10_stones_74 hE ⟨fun _ => ?_, fun c => absurd (by omega) c⟩
      exact loopF k 0 (by omega) h1 fr hs hT
    | succ m ih =>
      intro k hk h1 fr hs hT
      generalize hi : n - 1 - k = i
      have ei : (n : Int) - 1 - k = (i : Int) := by omega
      have hin : i < n := by omega
      have hNi := hN i hin
      have hoi := ho i hin
      have e22 : h1 22 i = nk i := by rw [fr 22 i (by omega)]; exact hNi.1
      have e23 : h1 23 i = nw i := by rw [fr 23 i (by omega)]; exact hNi.2.1
      have e26 := hs i hin
      have b60 : (0 : Int) ≤ (i : Int) ∧ (i : Int) < 60 := nat_in (n := 60) (by omega)
      have nx : ∀ x, x = w32 ((i : Int) + (-1)) → x = (n : Int) - 1 - ((k + 1 : Nat) : Int) := by
        intro x e
        rw [w32i (by omega) (by omega)] at e
        omega
      have skip : ¬ (nk i = 2 ∧ stS nk nw n k i = 0) → ∀ x, x = w32 ((i : Int) + (-1)) → zG E mX10_stones d 74 [zR 0, zI n, zI x, zU] [] h1 (qV K) := by
        intro hc x e
        rw [nx x e]
        refine ih (k + 1) (by omega) h1 fr (fun j hj => ?_) hT
        rw [stS, hi, if_neg hc]
        exact hs j hj
      rw [ei]
      refine bX10_stones_74 hE ⟨fun c => absurd c (by omega), fun c => ⟨b60, ?_⟩⟩
      rw [Int.toNat_natCast, e26, e22, e23]
      refine ⟨fun c1 => skip (fun z => c1 z.2), fun c1 => ⟨b60, fun c2 => skip (fun z => c2 z.1), fun c2 => ?_⟩⟩
      have c1' : stS nk nw n k i = 0 := Decidable.not_not.mp c1
      have c2' : nk i = 2 := Decidable.not_not.mp c2
      have hw := hoi.2.1 c2'
      refine ⟨b60, ⟨by omega, by omega⟩, fun h2 e2 x e => ?_⟩
      rw [nx x e]
      refine ih (k + 1) (by omega) h2 ?_ (fun j hj => ?_) (fun s hs' => ?_)
      · rw [e2]; exact fr.set (by omega)
      · rw [stS, hi, if_pos ⟨c2', c1'⟩, e2]
        unfold updN
        by_cases z : (j : Int) = nw i
        · rw [if_pos z, show (nw i).toNat = j by omega, hset_eq]
        · rw [if_neg z, hset_ne (by omega)]
          exact hs j hj
      · rw [e2, hset_ne (by omega), hset_ne (by omega), hset_ne (by omega)]
        exact hT s hs'
  -- none struck
  have loopC : ∀ (k i : Nat), i + k = n → ∀ h1, frS h h1 → (∀ j, j < i → h1 26 j = 0) → TriR h1 (h 6, h 7, h 11) → zG E mX10_stones d 52 [zR 0, zI n, zI i, zU] [] h1 (qV K) := by
    intro k
    induction k with
    | zero =>
      intro i hi h1 fr hs hT
      have : i = n := by omega
      subst this
      refine bX10_stones_52 hE ⟨fun _ x2 e2 => ?_, fun c => absurd (Int.le_refl _) c⟩
      rw [w32i (by omega) (by omega)] at e2
      have := loopB i 0 (by omega) h1 fr hs hT
      rw [e2]
      simpa using this
    | succ k ih =>
      intro i hi h1 fr hs hT
      refine bX10_stones_52 hE ⟨fun c => absurd c (by omega), fun c => ⟨nat_in (n := 60) (by omega), fun h3 e3 x4 e4 => ?_⟩⟩
      rw [Int.toNat_natCast] at e3
      rw [w_suc (by omega)] at e4
      rw [e4]
      refine ih (i + 1) (by omega) h3 ?_ (fun j hj => ?_) (fun s hs' => ?_)
      · rw [e3]; exact fr.set (by omega)
      · rw [e3]
        by_cases z : j = i
        · subst z; exact hset_eq _ _ _ _
        · rw [hset_ne (by omega)]; exact hs j (by omega)
      · rw [e3, hset_ne (by omega), hset_ne (by omega), hset_ne (by omega)]
        exact hT s hs'
  -- as the text told them
  have loopA : ∀ (k s : Nat), s + k = 80 → ∀ h1, frS h h1 → (∀ t, t < s → h1 27 t = h 6 t ∧ h1 28 t = h 7 t ∧ h1 29 t = h 11 t) → zG E mX10_stones d 2 [zR 0, zI n, zI s, zU] [] h1 (qV K) := by
    intro k
    induction k with
    | zero =>
      intro s hs h1 fr hT
      have : s = 80 := by omega
      subst this
      refine bX10_stones_2 hE ⟨fun _ => ?_, fun c => absurd (by decide) c⟩
      exact loopC n 0 (by omega) h1 fr (fun j hj => absurd hj (by omega)) hT
    | succ k ih =>
      intro s hs h1 fr hT
      have b160 : (0 : Int) ≤ (s : Int) ∧ (s : Int) < 160 := nat_in (n := 160) (by omega)
      have b80 : (0 : Int) ≤ (s : Int) ∧ (s : Int) < 80 := nat_in (n := 80) (by omega)
      refine bX10_stones_2 hE ⟨fun c => absurd c (by omega), fun c => ⟨b160, b80, fun h2 e2 => ⟨b160, b80, fun h3 e3 => ⟨b160, b80, ?_⟩⟩⟩⟩
      rw [Int.toNat_natCast] at e2 e3 ⊢
      have f2 : frS h h2 := by rw [e2]; exact fr.set (by omega)
      have f3 : frS h h3 := by rw [e3]; exact f2.set (by omega)
      rw [f3 11 s (by omega)]
      refine ⟨hg s (by omega), fun h4 e4 x5 e5 => ?_⟩
      rw [w_suc (by omega)] at e5
      rw [e5]
      rw [fr 6 s (by omega)] at e2
      rw [f2 7 s (by omega)] at e3
      refine ih (s + 1) (by omega) h4 ?_ (fun t ht => ?_)
      · rw [e4]; exact f3.set (by omega)
      · rw [e4, e3, e2]
        by_cases z : t = s
        · subst z
          rw [hset_ne (by omega), hset_ne (by omega), hset_eq, hset_ne (by omega), hset_eq, hset_eq]
          exact ⟨rfl, rfl, rfl⟩
        · rw [hset_ne (by omega), hset_ne (by omega), hset_ne (by omega), hset_ne (by omega), hset_ne (by omega), hset_ne (by omega), hset_ne (by omega), hset_ne (by omega), hset_ne (by omega)]
          exact hT t (by omega)
  exact eX10_stones hE (loopA 80 0 (by omega) h (fun _ _ _ => rfl) (fun t ht => absurd ht (by omega)))
theorem zand_1 {m : Int} (h0 : 0 ≤ m) (h3 : m ≤ 3) : zand m 1 = m % 2 := by
  rcases (show m = 0 ∨ m = 1 ∨ m = 2 ∨ m = 3 by omega) with rfl | rfl | rfl | rfl <;> decide +kernel
theorem zand_2 {m : Int} (h0 : 0 ≤ m) (h3 : m ≤ 3) : zand m 2 = if 2 ≤ m then 2 else 0 := by
  rcases (show m = 0 ∨ m = 1 ∨ m = 2 ∨ m = 3 by omega) with rfl | rfl | rfl | rfl <;> decide +kernel
/-- which stones of a ring stand, and where, behind the first k -/
def sdL (inc : Nat → Bool) (vx vy : Nat → Int) : Nat → List (Int × Int)
  | 0 => []
  | k + 1 => if inc k then sdL inc vx vy k ++ [(vx k, vy k)] else sdL inc vx vy k
def sInc (mode : Int) (T : zTri) (ag : Nat → Int) (r : Nat) (k : Nat) : Bool := decide (T.2.2 (10 * r + k) = 0) && !(decide (mode % 2 = 1) && decide (ag (10 * r + k) ≠ 0))
def sVx (mode : Int) (X lx : Nat → Int) (r k : Nat) : Int := X (10 * r + k) + (if 2 ≤ mode then lx (10 * r + k) else 0)
def sPts (mode : Int) (T : zTri) (ag lx ly : Nat → Int) (r k : Nat) : List (Int × Int) := sdL (sInc mode T ag r) (sVx mode T.1 lx r) (sVx mode T.2.1 ly r) k
theorem sdL_len (inc : Nat → Bool) (vx vy : Nat → Int) : ∀ k, (sdL inc vx vy k).length ≤ k
  | 0 => by simp [sdL]
  | k + 1 => by
    have := sdL_len inc vx vy k
    unfold sdL
    split
    · simp; omega
    · omega
theorem sdL_mem {inc : Nat → Bool} {vx vy : Nat → Int} {p : Int × Int} : ∀ {k : Nat}, p ∈ sdL inc vx vy k → ∃ j, j < k ∧ p = (vx j, vy j)
  | 0, hp => by cases hp
  | k + 1, hp => by
    unfold sdL at hp
    split at hp
    · rcases List.mem_append.mp hp with q | q
      · obtain ⟨j, a1, a2⟩ := sdL_mem q
        exact ⟨j, by omega, a2⟩
      · simp at q
        exact ⟨k, by omega, q⟩
    · obtain ⟨j, a1, a2⟩ := sdL_mem hp
      exact ⟨j, by omega, a2⟩
def lX (l : List (Int × Int)) (i : Nat) : Int := (l.getD i (0, 0)).1
def lY (l : List (Int × Int)) (i : Nat) : Int := (l.getD i (0, 0)).2
theorem lX_app (l : List (Int × Int)) (p : Int × Int) : lX (l ++ [p]) l.length = p.1 ∧ lY (l ++ [p]) l.length = p.2 := by simp [lX, lY]
theorem lX_app' (l : List (Int × Int)) (p : Int × Int) {i : Nat} (hi : i < l.length) : lX (l ++ [p]) i = lX l i ∧ lY (l ++ [p]) i = lY l i := by simp [lX, lY, hi, List.getElem?_append_left hi]
theorem X10_stands (hE : isR E) {T : zTri} (hT : TriR h T) {r n : Nat} (hr : r < 8) (hn : h 5 r = n) (hn10 : n ≤ 10) {mode : Int} (hm : h 0 56 = mode) (hm0 : 0 ≤ mode) (hm3 : mode ≤ 3) (hb : ∀ s, s < 80 → -999 ≤ T.1 s ∧ T.1 s ≤ 999 ∧ -999 ≤ T.2.1 s ∧ T.2.1 s ≤ 999) (hl : ∀ s, s < 80 → -99 ≤ h 8 s ∧ h 8 s ≤ 99 ∧ -99 ≤ h 9 s ∧ h 9 s ≤ 99)
    (hK : ∀ h' : zH, (∀ c j, c ≠ 30 → c ≠ 31 → ¬ (c = 0 ∧ j = 68) → h' c j = h c j) → h' 0 68 = ((sPts mode T (h 10) (h 8) (h 9) r n).length : Int) → (∀ i, i < (sPts mode T (h 10) (h 8) (h 9) r n).length → h' 30 i = lX (sPts mode T (h 10) (h 8) (h 9) r n) i ∧ h' 31 i = lY (sPts mode T (h 10) (h 8) (h 9) r n) i) → K h') : zCV E mX10_stands d [zR 0, zI r] h K := by
  have z1 := zand_1 hm0 hm3
  have z2 := zand_2 hm0 hm3
  have loop : ∀ (m k : Nat), k + m = n → ∀ h1 : zH, (∀ c j, c ≠ 30 → c ≠ 31 → ¬ (c = 0 ∧ j = 68) → h1 c j = h c j) → h1 0 68 = ((sPts mode T (h 10) (h 8) (h 9) r k).length : Int) → (∀ i, i < (sPts mode T (h 10) (h 8) (h 9) r k).length → h1 30 i = lX (sPts mode T (h 10) (h 8) (h 9) r k) i ∧ h1 31 i = lY (sPts mode T (h 10) (h 8) (h 9) r k) i) → zG E mX10_stands d 7 [zR 0, zI r, zI k, zU] [] h1 (qV K) := by
    intro m
    induction m with
    | zero =>
      intro k hk h1 fr hc hp
      have : k = n := by omega
      subst this
      have e5 : h1 5 r = k := by rw [fr 5 r (by omega) (by omega) (by omega)]; exact hn
      refine bX10_stands_7 hE ⟨nat_in (n := 16) (by omega), ?_⟩
      rw [Int.toNat_natCast, e5]
      exact ⟨fun _ => hK h1 fr hc hp, fun c => absurd (Int.le_refl _) c⟩
    | succ m ih =>
      intro k hk h1 fr hc hp
      have e5 : h1 5 r = n := by rw [fr 5 r (by omega) (by omega) (by omega)]; exact hn
      have hs : 10 * r + k < 80 := by omega
      have es : w32 (w32 (10 * (r : Int)) + (k : Int)) = ((10 * r + k : Nat) : Int) := by
        rw [w32i (x := 10 * (r : Int)) (by omega) (by omega), w32i (by omega) (by omega)]; omega
      generalize hsv : 10 * r + k = s at hs es
      have hTs := hT s hs
      have e27 : h1 27 s = T.1 s := by rw [fr 27 s (by omega) (by omega) (by omega)]; exact hTs.1
      have e28 : h1 28 s = T.2.1 s := by rw [fr 28 s (by omega) (by omega) (by omega)]; exact hTs.2.1
      have e29 : h1 29 s = T.2.2 s := by rw [fr 29 s (by omega) (by omega) (by omega)]; exact hTs.2.2
      have e10 : h1 10 s = h 10 s := fr 10 s (by omega) (by omega) (by omega)
      have e8 : h1 8 s = h 8 s := fr 8 s (by omega) (by omega) (by omega)
      have e9 : h1 9 s = h 9 s := fr 9 s (by omega) (by omega) (by omega)
      have e56 : h1 0 56 = mode := by rw [fr 0 56 (by omega) (by omega) (by omega)]; exact hm
      have hbs := hb s hs
      have hls := hl s hs
      have hlen := sdL_len (sInc mode T (h 10) r) (sVx mode T.1 (h 8) r) (sVx mode T.2.1 (h 9) r) k
      change (sPts mode T (h 10) (h 8) (h 9) r k).length ≤ k at hlen
      have nxt : ∀ x, x = w32 ((k : Int) + 1) → x = ((k + 1 : Nat) : Int) := fun x e => by rw [e]; exact w_suc (by omega)
      have skip : sInc mode T (h 10) r k = false → ∀ x, x = w32 ((k : Int) + 1) → zG E mX10_stands d 7 [zR 0, zI r, zI x, zU] [] h1 (qV K) := by
        intro hi x e
        rw [nxt x e]
        have ep : sPts mode T (h 10) (h 8) (h 9) r (k + 1) = sPts mode T (h 10) (h 8) (h 9) r k := by
          show sdL _ _ _ (k + 1) = sdL _ _ _ k
          rw [sdL, if_neg (by rw [hi]; decide)]
        refine ih (k + 1) (by omega) h1 fr ?_ ?_
        · rw [ep]; exact hc
        · rw [ep]; exact hp
      have b80 : (0 : Int) ≤ ((s : Nat) : Int) ∧ ((s : Nat) : Int) < 80 := nat_in (n := 80) hs
      have b160 : (0 : Int) ≤ ((s : Nat) : Int) ∧ ((s : Nat) : Int) < 160 := nat_in (n := 160) (by omega)
      generalize hL : sPts mode T (h 10) (h 8) (h 9) r k = l at hc hp hlen
      have bl : (0 : Int) ≤ h1 0 68 ∧ h1 0 68 < 10 := by rw [hc]; omega
      have take : sInc mode T (h 10) r k = true → zG E mX10_stands d 55 [zR 0, zI r, zI k, zI s] [] h1 (qV K) := by
        intro hi
        have ep : sPts mode T (h 10) (h 8) (h 9) r (k + 1) = l ++ [(sVx mode T.1 (h 8) r k, sVx mode T.2.1 (h 9) r k)] := by
          rw [← hL]
          show sdL _ _ _ (k + 1) = sdL _ _ _ k ++ _
          rw [sdL, if_pos hi]
        have vx : sVx mode T.1 (h 8) r k = T.1 s + (if 2 ≤ mode then h 8 s else 0) := by unfold sVx; rw [hsv]
        have vy : sVx mode T.2.1 (h 9) r k = T.2.1 s + (if 2 ≤ mode then h 9 s else 0) := by unfold sVx; rw [hsv]
        have bx : ∀ z : Int, z = (if 2 ≤ mode then h 8 s else 0) → w32 (T.1 s + z) = sVx mode T.1 (h 8) r k := by
          intro z ez
          rw [vx, ← ez]
          refine w32i ?_ ?_ <;> (rw [ez]; split <;> omega)
        have by_ : ∀ z : Int, z = (if 2 ≤ mode then h 9 s else 0) → w32 (T.2.1 s + z) = sVx mode T.2.1 (h 9) r k := by
          intro z ez
          rw [vy, ← ez]
          refine w32i ?_ ?_ <;> (rw [ez]; split <;> omega)
        have fin : ∀ h2, h2 = hset h1 30 l.length (sVx mode T.1 (h 8) r k) → ∀ h3, h3 = hset h2 31 l.length (sVx mode T.2.1 (h 9) r k) → ∀ h4, h4 = hset h3 0 68 ((l.length + 1 : Nat) : Int) → ∀ x, x = w32 ((k : Int) + 1) → zG E mX10_stands d 7 [zR 0, zI r, zI x, zU] [] h4 (qV K) := by
          intro h2 e2 h3 e3 h4 e4 x e
          rw [nxt x e]
          refine ih (k + 1) (by omega) h4 (fun c j c1 c2 c3 => ?_) ?_ (fun i hi2 => ?_)
          · rw [e4, e3, e2, hset_ne (by omega), hset_ne (by omega), hset_ne (by omega)]
            exact fr c j c1 c2 c3
          · rw [e4, hset_eq, ep]; simp
          · rw [ep] at hi2 ⊢
            rw [e4, e3, e2]
            by_cases z : i = l.length
            · subst z
              have := lX_app l (sVx mode T.1 (h 8) r k, sVx mode T.2.1 (h 9) r k)
              rw [hset_ne (by omega), hset_ne (by omega), hset_eq, hset_ne (by omega), hset_eq, this.1, this.2]
              exact ⟨rfl, rfl⟩
            · have hil : i < l.length := by simp at hi2; omega
              have := lX_app' l (sVx mode T.1 (h 8) r k, sVx mode T.2.1 (h 9) r k) hil
              rw [hset_ne (by omega), hset_ne (by omega), hset_ne (by omega), hset_ne (by omega), hset_ne (by omega), hset_ne (by omega), this.1, this.2]
              exact hp i hil
        have g89 : ∀ s0 : Int, s0 = (if 2 ≤ mode then h 8 s else 0) → zG E mX10_stands d 89 [zR 0, zI r, zI k, zI s] [zI s0, zI (h1 27 s), zI (h1 0 68), zR 30] h1 (qV K) := by
          intro s0 es0
          refine bX10_stands_89 hE ⟨bl, fun h2 e2 => ⟨b80, ?_⟩⟩
          rw [hc, Int.toNat_natCast, e27, bx s0 es0] at e2
          have f56 : h2 0 56 = mode := by rw [e2, hset_ne (by omega)]; exact e56
          have f68 : h2 0 68 = l.length := by rw [e2, hset_ne (by omega)]; exact hc
          have f28 : h2 28 s = T.2.1 s := by rw [e2, hset_ne (by omega)]; exact e28
          have f9 : h2 9 s = h 9 s := by rw [e2, hset_ne (by omega)]; exact e9
          rw [f56, z2, f68, Int.toNat_natCast, Int.toNat_natCast, f28, f9]
          have bl2 : (0 : Int) ≤ ((l.length : Nat) : Int) ∧ ((l.length : Nat) : Int) < 10 := nat_in (n := 10) (by omega)
          refine ⟨fun c4 => ⟨bl2, fun h3 e3 h4 e4 x e => ?_⟩, fun c4 => ⟨b160, bl2, fun h3 e3 h4 e4 x e => ?_⟩⟩
          · rw [by_ 0 (by rw [if_neg (by intro z; rw [if_pos z] at c4; exact c4 rfl)])] at e3
            have g68 : h3 0 68 = l.length := by rw [e3, hset_ne (by omega)]; exact f68
            rw [g68, w_suc (by omega)] at e4
            exact fin h2 e2 h3 e3 h4 e4 x e
          · have hm2 : 2 ≤ mode := by
              rcases Int.lt_or_le mode 2 with z | z
              · rw [if_neg (by omega)] at c4; exact absurd (by decide) c4
              · exact z
            rw [by_ (h 9 s) (by rw [if_pos hm2])] at e3
            have g68 : h3 0 68 = l.length := by rw [e3, hset_ne (by omega)]; exact f68
            rw [g68, w_suc (by omega)] at e4
            exact fin h2 e2 h3 e3 h4 e4 x e
        refine bX10_stands_55 hE ⟨b80, ?_⟩
        rw [e56, z2, Int.toNat_natCast, e8]
        refine ⟨fun c4 => g89 0 ?_, fun c4 => ⟨b160, g89 (h 8 s) ?_⟩⟩
        · rw [if_neg (by intro z; rw [if_pos z] at c4; exact c4 rfl)]
        · rcases Int.lt_or_le mode 2 with z | z
          · rw [if_neg (by omega)] at c4; exact absurd (by decide) c4
          · rw [if_pos z]
      refine bX10_stands_7 hE ⟨nat_in (n := 16) (by omega), ?_⟩
      rw [Int.toNat_natCast, e5]
      refine ⟨fun c => absurd c (by omega), fun c x2 ex2 => ?_⟩
      rw [es] at ex2
      rw [ex2, Int.toNat_natCast, e29, e56, z1, e10]
      have incs : sInc mode T (h 10) r k = (decide (T.2.2 s = 0) && !(decide (mode % 2 = 1) && decide (h 10 s ≠ 0))) := by unfold sInc; rw [hsv]
      refine ⟨b80, fun c1 => skip (by rw [incs]; simp [c1]), fun c1 => ?_⟩
      have c1' : T.2.2 s = 0 := Decidable.not_not.mp c1
      refine ⟨fun c2 => take (by rw [incs]; simp [c1', c2]), fun c2 => ⟨b160, fun c3 => take (by rw [incs]; simp [c1', c3]), fun c3 => skip ?_⟩⟩
      have c2' : mode % 2 = 1 := Decidable.not_not.mp c2
      rw [incs]; simp [c1', c2', c3]
  refine eX10_stands hE (fun h1 e1 => ?_)
  refine loop n 0 (by omega) h1 (fun c j c1 c2 c3 => ?_) ?_ (fun i hi => ?_)
  · rw [e1, hset_ne c3]
  · rw [e1, hset_eq]; rfl
  · simp [sPts, sdL] at hi
end TStones
