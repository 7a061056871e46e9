/-! ===== topic: odds ===== -/
section TOdds2
variable {E : zE} {d : Nat} {h : zH} {S : zH} {K : Int → zH → Prop}
theorem w32_add_l (a b : Int) : w32 (w32 a + b) = w32 (a + b) := by
  rw [w32_def (w32 a + b), w32_def (a + b), w32_def a]
  omega
theorem emod_le_self {a v : Int} (ha : 0 ≤ a) (hv : 0 < v) : a % v ≤ a := by
  have h1 := Int.mul_ediv_add_emod a v
  have h2 := Int.ediv_nonneg ha (show 0 ≤ v by omega)
  have h3 := Int.mul_nonneg (show 0 ≤ v by omega) h2
  omega
def nOn (P : Nat → Bool) : Nat → Int
  | 0 => 0
  | n + 1 => if P n = true then nOn P n + 1 else nOn P n
theorem nOn_r (P : Nat → Bool) : ∀ n : Nat, 0 ≤ nOn P n ∧ nOn P n ≤ n
  | 0 => by unfold nOn; omega
  | n + 1 => by
    have := nOn_r P n
    unfold nOn
    split <;> omega
/-- of the places in the ring's unit, how many would be near -/
def nrK (S : zH) (u : Int) (r : Nat) (k : Nat) : Bool := sNear S (S 0 57) u (szB (sLs S (sNk S) r) (sG S) (sH S) - szB (sLs S (sNk S) r) (sG S) (sH S) % sPart u (S 0 57) + k) ((sLs S (sNk S) r).length : Int) ((bsL (sLs S (sNk S) r) (sG S) (sH S) / 4 : Nat) : Int)
def nO (S : zH) (u : Int) (r : Nat) : Int := nOn (nrK S u r) (sPart u (S 0 57)).toNat
theorem nO_r {u : Int} (hu : isU u) (r : Nat) : 0 ≤ nO S u r ∧ nO S u r ≤ sPart u (S 0 57) := by
  have hp := sPart_r (hv := S 0 57) hu
  have := nOn_r (nrK S u r) (sPart u (S 0 57)).toNat
  unfold nO
  omega
def spO (f : Nat → Int) (o v : Int) (k : Nat) : Int := f k * (v - o) / v + (if k = 0 then 0 else f (k - 1) * o / v)
def odR (S : zH) (u : Int) : Nat → Nat → Int
  | 0 => fun k => if k = 0 then 1000000000 else 0
  | n + 1 => if hasF S n then spO (odR S u n) (nO S u n) (sPart u (S 0 57)) else odR S u n
def bdO (f : Nat → Int) : Prop := ∀ k, 0 ≤ f k ∧ f k ≤ 1000000000
theorem mul_bd {a o v : Int} (ha : 0 ≤ a ∧ a ≤ 1000000000) (ho : 0 ≤ o ∧ o ≤ v) (hv : v ≤ 9999) : 0 ≤ a * o ∧ a * o ≤ 1000000000 * o ∧ a * o ≤ 9999000000000 := by
  have h1 : 0 ≤ a * o := Int.mul_nonneg ha.1 ho.1
  have h2 : a * o ≤ 1000000000 * o := Int.mul_le_mul_of_nonneg_right ha.2 ho.1
  omega
theorem spO_p {f : Nat → Int} (hf : bdO f) {o v : Int} (ho : 0 ≤ o ∧ o ≤ v) (hv : 0 < v) (hv2 : v ≤ 9999) (k : Nat) : (0 ≤ f k * (v - o) / v ∧ f k * (v - o) / v ≤ 1000000000) ∧ (0 ≤ f (k - 1) * o / v ∧ f (k - 1) * o / v ≤ 1000000000) ∧ f k * (v - o) / v + f (k - 1) * o / v ≤ 1000000000 := by
  have m1 := mul_bd (hf k) (o := v - o) (v := v) (by omega) hv2
  have m2 := mul_bd (hf (k - 1)) ho hv2
  have a0 : 0 ≤ f k * (v - o) / v := Int.ediv_nonneg m1.1 (by omega)
  have b0 : 0 ≤ f (k - 1) * o / v := Int.ediv_nonneg m2.1 (by omega)
  have a1 : f k * (v - o) / v * v ≤ f k * (v - o) := Int.ediv_mul_le _ (by omega)
  have b1 : f (k - 1) * o / v * v ≤ f (k - 1) * o := Int.ediv_mul_le _ (by omega)
  have s : (f k * (v - o) / v + f (k - 1) * o / v) * v ≤ 1000000000 * v := by
    rw [Int.add_mul]
    omega
  have t := Int.le_of_mul_le_mul_right s hv
  omega
theorem spO_b {f : Nat → Int} (hf : bdO f) {o v : Int} (ho : 0 ≤ o ∧ o ≤ v) (hv : 0 < v) (hv2 : v ≤ 9999) : bdO (spO f o v) := by
  intro k
  have := spO_p hf ho hv hv2 k
  unfold spO
  split <;> omega
theorem odR_b {u : Int} (hu : isU u) : ∀ n, bdO (odR S u n)
  | 0 => by
    intro k
    unfold odR
    split <;> omega
  | n + 1 => by
    have ih := odR_b hu n
    have hp := sPart_r (hv := S 0 57) hu
    unfold odR
    split
    · exact spO_b ih (nO_r hu n) (by omega) (by omega)
    · exact ih
def suO (f : Nat → Int) : Nat → Nat → Int
  | 0, _ => 0
  | m + 1, i => f i + suO f m (i + 1)
theorem suO_b {f : Nat → Int} (hf : bdO f) : ∀ m i : Nat, 0 ≤ suO f m i ∧ suO f m i ≤ 1000000000 * m
  | 0, i => by unfold suO; omega
  | m + 1, i => by
    have := suO_b hf m (i + 1)
    have := hf i
    unfold suO
    omega
noncomputable def aOdds (S : zH) (u m : Int) : Int := if isU u ∧ 0 ≤ m ∧ m ≤ cntR (rk S (-1) (-1)) 8 then w32 (suO (odR S u 8) (9 - m.toNat) m.toNat) else -1
theorem ftN_cnt : ∀ n : Nat, ((ftN (sLs S (sNk S)) n : Nat) : Int) = cntR (rk S (-1) (-1)) n ∨ ¬ WfS S
  | 0 => Or.inl rfl
  | n + 1 => by
    rcases ftN_cnt n with e | e
    · by_cases w : WfS S
      · left
        have er := rk_all (S := S) n
        unfold ftN cntR
        by_cases z : hasF S n
        · have := szB_r w z
          rw [if_pos z] at er
          rw [if_pos z, if_neg (by omega)]
          omega
        · rw [if_neg z] at er
          rw [if_neg z, if_pos er]
          exact e
      · exact Or.inr w
    · exact Or.inr e
/-! the class -/
theorem J7_fillJ {a n : Nat} (ha : zsh E a = (23, n) ∧ a < zN E ∧ n < 2147483648) {v : Int} {K : zH → Prop} (hK : K (hrow h a 0 (fun _ => v) n)) (hn : n < 1000000) : zCV E mJ7_fill_d0a16 d [zR a, zJ v] h K := by
  refine eJ7_fill_d0a16 ha (fun x1 e1 => ?_)
  rw [e1]
  have loop : ∀ (k i : Nat), i + k = n → zG E mJ7_fill_d0a16 d 6 [zR a, zJ v, zU, zI i, zI n] [] (hrow h a 0 (fun _ => v) i) (qV K) := by
    intro k
    induction k with
    | zero =>
      intro i hi
      have : i = n := by omega
      subst this
      exact bJ7_fill_d0a16_6 ha ⟨fun _ => hK, fun c => absurd (Int.le_refl _) c⟩
    | succ k ih =>
      intro i hi
      have nx := ih (i + 1) (by omega)
      refine bJ7_fill_d0a16_6 ha ⟨fun c => absurd c (by omega), fun c => ⟨nat_in (by omega), fun h2 e2 x3 e3 => ?_⟩⟩
      have hh := hrow_s h a 0 (fun _ => v) i
      rw [Nat.zero_add] at hh
      rw [Int.toNat_natCast, hh] at e2
      rw [w_suc (by omega)] at e3
      rw [e2, e3]
      exact nx
  have := loop n 0 (by omega)
  rw [hrow_0] at this
  exact this
theorem C_nearOnes (hE : isC E) {b : Nat} (i : ICb S h b) {r : Nat} (hf : hasF S r) {u : Int} (hu : isU u) (hK : ∀ h', ICb S h' b → (∀ j, h' 80 j = h 80 j) → K (nO S u r) h') : zCI E mX9_nearOnes (d + 5) [zR 0, zI r, zI u] h K := by
  have hr8 := i.wf.r8 (hasF_in hf)
  have hb := i.hb
  have hp := sPart_r (hv := S 0 57) hu
  have sz := szB_r i.wf hf
  have t4 := w_t4 (b := bsL (sLs S (sNk S) r) (sG S) (sH S)) (by have := bs_lt (sLs S (sNk S) r) (sG S) (sH S); omega)
  have nfd : fitd (sLs S (sNk S)) (r : Int) := ⟨by omega, by omega, by rw [Int.toNat_natCast]; exact hf⟩
  refine eX9_nearOnes (d := d + 4) hE (X0_bestShape hE (fi_52 hE) i.fw (fun nf => absurd nfd nf) (fun r1 e1 _ _ h1 fr1 hw1 _ => ?_))
  have er1 : r1 = r := by omega
  subst er1
  have i1 := i.mvQ fr1 hw1
  rw [i1.hv]
  refine X9_placesOf hE (by omega) (by omega) ⟨fun c => absurd c (by omega), fun _ => ⟨fun _ => X0_bestSize hE (fi_52 hE) hw1 (fun nf => absurd nfd nf) (fun r2 e2 _ _ h2 fr2 hw2 => ⟨by omega, fun x6 e6 => ?_⟩), fun c => absurd (by omega) c⟩⟩
  have er2 : r2 = r1 := by omega
  subst er2
  have i2 := i1.mvQ fr2 hw2
  have k80 : ∀ j, h2 80 j = h 80 j := fun j => (fr2 80 j (by omega)).trans (fr1 80 j (by omega))
  have eK : nO S u r2 = nOn (nrK S u r2) (sPart u (S 0 57)).toNat := rfl
  rw [eK] at hK
  have em := Int.emod_nonneg (szB (sLs S (sNk S) r2) (sG S) (sH S)) (show sPart u (S 0 57) ≠ 0 by omega)
  have em2 := emod_le_self (v := sPart u (S 0 57)) sz.1 (by omega)
  have enr : ∀ k : Nat, nrK S u r2 k = sNear S (S 0 57) u (szB (sLs S (sNk S) r2) (sG S) (sH S) - szB (sLs S (sNk S) r2) (sG S) (sH S) % sPart u (S 0 57) + k) ((sLs S (sNk S) r2).length : Int) ((bsL (sLs S (sNk S) r2) (sG S) (sH S) / 4 : Nat) : Int) := fun _ => rfl
  rw [Int.tmod_eq_emod_of_nonneg sz.1, w32i (x := szB (sLs S (sNk S) r2) (sG S) (sH S) % sPart u (S 0 57)) (by omega) (by omega), w32i (by omega) (by omega)] at e6
  rw [← e6] at enr
  have hx6 : 0 ≤ x6 ∧ x6 ≤ 1000000 := by omega
  generalize sPart u (S 0 57) = v at hp hK em em2 e6 ⊢
  obtain ⟨V, hV⟩ : ∃ V : Nat, v = V := ⟨v.toNat, by omega⟩
  subst hV
  rw [Int.toNat_natCast] at hK
  have loop : ∀ (m k : Nat), k + m = V → ∀ h3 : zH, ICb S h3 b → (∀ j, h3 80 j = h 80 j) → zG E mX9_nearOnes (d + 5) 57 [zR 0, zI r2, zI u, zI (bsL (sLs S (sNk S) r2) (sG S) (sH S) : Int), zI (V : Int), zU, zI x6, zI (nOn (nrK S u r2) k), zI k] [] h3 (qI K) := by
    intro m
    induction m with
    | zero =>
      intro k hk h3 i3 k3
      have e : k = V := by omega
      subst e
      exact bX9_nearOnes_57 (d := d + 4) hE ⟨fun _ => hK h3 i3 k3, fun c => absurd (Int.le_refl _) c⟩
    | succ m ih =>
      intro k hk h3 i3 k3
      have nx := ih (k + 1) (by omega)
      unfold nOn at nx
      have nr := nOn_r (nrK S u r2) k
      rw [enr k] at nx
      refine bX9_nearOnes_57 (d := d + 4) hE ⟨fun c => absurd c (by omega), fun _ => ⟨nat_in (n := 8) hr8, ?_⟩⟩
      rw [Int.toNat_natCast, (i3.fi.2.2.2 r2 hr8).1, t4.1, w32i (x := x6 + (k : Int)) (by omega) (by omega)]
      refine C_isNearAs hE i3 hf (by omega) (by omega) hu (fun h4 i4 fr4 => ⟨fun c y ey => ?_, fun c y ey z ez => ?_⟩)
      · rw [bI_0] at c
        rw [w_suc (by omega)] at ey
        rw [ey]
        rw [if_neg c] at nx
        exact nx h4 i4 (fun j => (fr4 80 j (by omega) (by omega)).trans (k3 j))
      · rw [bI_n] at c
        rw [w_suc (by omega)] at ez
        rw [w32i (by omega) (by omega)] at ey
        rw [ey, ez]
        rw [if_pos c] at nx
        exact nx h4 i4 (fun j => (fr4 80 j (by omega) (by omega)).trans (k3 j))
  exact loop V 0 (by omega) h2 i2 k80
theorem X9_spreadRow (hE : isC E) {f : Nat → Int} (hf : bdO f) (h80 : ∀ k, k < 9 → h 80 k = f k) {o v : Int} (ho : 0 ≤ o ∧ o ≤ v) (hv : 0 < v) (hv2 : v ≤ 9999) {K : zH → Prop}
    (hK : ∀ h', (∀ c j, c ≠ 80 → h' c j = h c j) → (∀ k, k < 9 → h' 80 k = spO f o v k) → K h') : zCV E mX9_spreadRow d [zR 0, zJ o, zJ v] h K := by
  refine eX9_spreadRow hE ⟨fun _ x ex => ?_, fun c => absurd hv c⟩
  rw [w32i (by omega) (by omega)] at ex
  rw [ex]
  have loop : ∀ (m : Nat), m ≤ 9 → ∀ h1 : zH, (∀ c j, c ≠ 80 → h1 c j = h c j) → (∀ k, k < 9 → h1 80 k = if m ≤ k then spO f o v k else f k) → zG E mX9_spreadRow d 16 [zR 0, zJ o, zU, zJ v, zU, zI ((m : Int) - 1), zU, zU] [] h1 (qV K) := by
    intro m
    induction m with
    | zero =>
      intro _ h1 fr hk
      refine bX9_spreadRow_16 hE ⟨fun _ => hK h1 fr (fun k hk9 => ?_), fun c => absurd (by omega) c⟩
      rw [hk k hk9, if_pos (by omega)]
    | succ m ih =>
      intro hm h1 fr hk
      have sp := spO_p hf ho hv hv2 m
      have m1 := mul_bd (hf m) (o := v - o) (v := v) (by omega) hv2
      have m2 := mul_bd (hf (m - 1)) ho hv2
      have em : ((m + 1 : Nat) : Int) - 1 = (m : Int) := by omega
      rw [em]
      have ek : h1 80 m = f m := by rw [hk m (by omega), if_neg (by omega)]
      have g43 : ∀ s0 : Int, (s0 = if m = 0 then 0 else f (m - 1) * o / v) → zG E mX9_spreadRow d 43 [zR 0, zJ o, zU, zJ v, zU, zI m, zU, zU] [zJ s0] h1 (qV K) := by
        intro s0 es
        have hs : 0 ≤ s0 ∧ s0 ≤ 1000000000 := by rw [es]; split <;> omega
        refine bX9_spreadRow_43 hE ?_
        rw [Int.toNat_natCast, ek, w64i (x := v - o) (by omega) (by omega), w64i (x := f m * (v - o)) (by omega) (by omega), Int.tdiv_eq_ediv_of_nonneg m1.1, w64i (x := f m * (v - o) / v) (by omega) (by omega), w64i (x := f m * (v - o) / v + s0) (by omega) (by omega)]
        refine ⟨nat_in (n := 9) (by omega), by omega, nat_in (n := 9) (by omega), fun h2 e2 y ey => ?_⟩
        rw [w32i (by omega) (by omega)] at ey
        rw [ey, show (m : Int) + -1 = (m : Int) - 1 by omega]
        refine ih (by omega) h2 (fun c j n => by rw [e2, hset_ne (by omega)]; exact fr c j n) (fun k hk9 => ?_)
        by_cases z : k = m
        · subst z
          rw [e2, hset_eq, if_pos (by omega), es]; rfl
        · rw [e2, hset_ne (by omega), hk k hk9]
          by_cases z2 : m ≤ k
          · rw [if_pos (by omega), if_pos z2]
          · rw [if_neg (by omega), if_neg z2]
      refine bX9_spreadRow_16 hE ⟨fun c => absurd c (by omega), fun _ => ⟨fun c => g43 0 (by rw [if_pos (by omega)]), fun c => ?_⟩⟩
      have ew : w32 ((m : Int) - 1) = ((m - 1 : Nat) : Int) := by rw [w32i (by omega) (by omega)]; omega
      have ek1 : h1 80 (m - 1) = f (m - 1) := by rw [hk (m - 1) (by omega), if_neg (by omega)]
      rw [ew, Int.toNat_natCast, ek1, w64i (x := f (m - 1) * o) (by omega) (by omega), Int.tdiv_eq_ediv_of_nonneg m2.1, w64i (x := f (m - 1) * o / v) (by omega) (by omega)]
      exact ⟨nat_in (n := 9) (by omega), by omega, g43 _ (by rw [if_neg (by omega)])⟩
  have := loop 9 (by omega) h (fun _ _ _ => rfl) (fun k hk => by rw [if_neg (by omega)]; exact h80 k hk)
  exact this
theorem ICb.r80 {h' : zH} {b : Nat} (i : ICb S h b) (fr : ∀ c j, c ≠ 80 → h' c j = h c j) : ICb S h' b :=
  i.mvC (fun c j n1 n2 n3 n4 n5 n6 => fr c j (by omega)) (i.fi.sm (fun c j a1 a2 => fr c j (by omega)))
theorem C_odds (hE : isC E) (i : IC S h) {u m : Int} (hK : ∀ h', IC S h' → K (aOdds S u m) h') : zCI E mX9_odds (d + 6) [zR 0, zI u, zI m] h K := by
  have k := hK h i
  obtain ⟨b, i⟩ := i
  unfold aOdds at k hK
  have ft : ((ftN (sLs S (sNk S)) 8 : Nat) : Int) = cntR (rk S (-1) (-1)) 8 := (ftN_cnt 8).resolve_right (fun z => z i.wf)
  have cr := cntR_r (rk S (-1) (-1)) 8
  refine eX9_odds (d := d + 5) hE (X9_isUnit hE ⟨fun c => ?_, fun c => ⟨fun c2 => ?_, fun c2 => X0_fittedRings hE (fi_52 hE) i.fi ?_⟩⟩)
  · rw [bI_0] at c
    rwa [if_neg (fun z => c z.1)] at k
  · rwa [if_neg (by omega)] at k
  · rw [bI_n] at c
    rw [ft]
    have hp := sPart_r (hv := S 0 57) c
    refine ⟨fun c3 => J7_fillJ ⟨sC_80 hE, cC_80 hE, by omega⟩ (fun h7 e7 => ?_) (by omega), fun c3 => ?_⟩
    · obtain ⟨M, hM⟩ : ∃ M : Nat, m = M := ⟨m.toNat, by omega⟩
      subst hM
      rw [Int.toNat_natCast] at hK
      have bo := odR_b (S := S) c 8
      generalize hT : suO (odR S u 8) (9 - M) M = T at hK
      have loop2 : ∀ h1 : zH, ICb S h1 b → (∀ k, k < 9 → h1 80 k = odR S u 8 k) → ∀ (n j : Nat), j + n = 9 → ∀ y : Int, 0 ≤ y → y ≤ 1000000000 * j → y + suO (odR S u 8) n j = T → zG E mX9_odds (d + 6) 91 [zR 0, zU, zU, zJ y, zU, zI j] [] h1 (qI K) := by
        intro h1 i1 k1 n
        induction n with
        | zero =>
          intro j hj y y0 y1 es
          have k2 := hK h1 i1.ic
          rw [if_pos ⟨c, by omega, c3⟩, ← es] at k2
          unfold suO at k2
          rw [Int.add_zero] at k2
          exact bX9_odds_91 (d := d + 5) hE ⟨fun _ => k2, fun c => absurd (by omega) c⟩
        | succ n ih =>
          intro j hj y y0 y1 es
          have bj := bo j
          refine bX9_odds_91 (d := d + 5) hE ⟨fun c => absurd c (by omega), fun _ => ⟨nat_in (n := 9) (by omega), fun y2 e2 x3 e3 => ?_⟩⟩
          rw [Int.toNat_natCast, k1 j (by omega), w64i (by omega) (by omega)] at e2
          rw [w_suc (by omega)] at e3
          rw [e3]
          unfold suO at es
          exact ih (j + 1) (by omega) y2 (by omega) (by omega) (by omega)
      have loop : ∀ (n r : Nat), r + n = 8 → ∀ h1 : zH, ICb S h1 b → (∀ k, k < 9 → h1 80 k = odR S u r k) → zG E mX9_odds (d + 6) 43 [zR 0, zI u, zI (M : Int), zI r, zU, zU] [] h1 (qI K) := by
        intro n
        induction n with
        | zero =>
          intro r hr h1 i1 k1
          have e : r = 8 := by omega
          subst e
          exact bX9_odds_43 (d := d + 5) hE ⟨fun _ => loop2 h1 i1 k1 (9 - M) M (by omega) 0 (by omega) (by omega) (by rw [hT]; omega), fun c => absurd (by decide) c⟩
        | succ n ih =>
          intro r hr h1 i1 k1
          have nx := ih (r + 1) (by omega)
          unfold odR at nx
          refine bX9_odds_43 (d := d + 5) hE ⟨fun c => absurd c (by omega), fun _ => X0_isFitted hE (fi_52 hE) i1.fi ⟨fun c4 y ey => ?_, fun c4 => ?_⟩⟩
          · rw [bI_0] at c4
            rw [w_suc (by omega)] at ey
            rw [ey]
            rw [if_neg (fun z => c4 ⟨by omega, by omega, by rw [Int.toNat_natCast]; exact z⟩)] at nx
            exact nx h1 i1 k1
          · rw [bI_n] at c4
            have hf : hasF S r := by have := c4.2.2; rwa [Int.toNat_natCast] at this
            rw [if_pos hf] at nx
            refine C_nearOnes hE i1 hf c (fun h2 i2 k2 => ?_)
            rw [i2.hv]
            refine X9_placesOf hE (by omega) (by omega) (X9_spreadRow hE (odR_b c r) (fun k hk => (k2 k).trans (k1 k hk)) (nO_r c r) (by omega) (by omega) (fun h3 fr3 k3 y ey => ?_))
            rw [w_suc (by omega)] at ey
            rw [ey]
            exact nx h3 (i2.r80 fr3) k3
      have fr7 : ∀ c j, c ≠ 80 → h7 c j = h c j := fun c j n => by rw [e7, hset_ne (by omega), hrow_ne n]
      refine loop 8 0 rfl h7 (i.r80 fr7) (fun k hk => ?_)
      unfold odR
      by_cases z : k = 0
      · subst z; rw [e7, hset_eq, if_pos rfl]
      · have := hrow_at (h := h) (c := 80) (o := 0) (f := fun _ => 0) (n := 9) (i := k) hk
        rw [Nat.zero_add] at this
        rw [e7, hset_ne (by omega), this, if_neg z]
    · rwa [if_neg (by omega)] at k
end TOdds2
