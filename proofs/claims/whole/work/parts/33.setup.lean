/-! ===== topic: the class's stones that stand ===== -/
section TSetUp
variable {E : zE} {d : Nat} {h : zH} {K : zH → Prop}
theorem zor_b {a b : Int} (ha : a = 0 ∨ a = 1) (hb : b = 0 ∨ b = 1) : (zor a b = 0 ∨ zor a b = 1) ∧ (zor a b = 0 → a = 0 ∧ b = 0) := by
  rcases ha with rfl | rfl <;> rcases hb with rfl | rfl <;> decide +kernel
/-- the further fields of the stones of a row -/
def FdAt (h : zH) (a : Nat) (lx ly ag : Nat → Int) : Prop := ∀ s, s < 80 → h a (s * 6 + 2) = lx s ∧ h a (s * 6 + 3) = ly s ∧ h a (s * 6 + 4) = ag s
def suPost (h : zH) (q r : Nat) (l : List (Int × Int)) (h' : zH) : Prop :=
  (∀ c j, ¬ ((c = q + 2 ∨ c = q + 5) ∧ j = r) → ¬ ((c = q + 3 ∨ c = q + 4) ∧ r * 10 ≤ j ∧ j < r * 10 + 10) → h' c j = h c j) ∧ h' (q + 2) r = (l.length : Int) ∧ (∀ i, i < l.length → h' (q + 3) (r * 10 + i) = lX l i ∧ h' (q + 4) (r * 10 + i) = lY l i) ∧
  (h' (q + 5) r = 0 ∨ (h' (q + 5) r = h (q + 5) r ∧ h (q + 2) r = (l.length : Int) ∧ ∀ i, i < l.length → h (q + 3) (r * 10 + i) = lX l i ∧ h (q + 4) (r * 10 + i) = lY l i))
theorem X0_setUp (hE : isC E) {q : Nat} (hq : isFi E q) {T : zTri} {lx ly ag : Nat → Int} (hT : StAt h (q + 1) T) (hF : FdAt h (q + 1) lx ly ag) {r n : Nat} (hr : r < 8) (hn10 : n ≤ 10) {mode : Int} (hm0 : 0 ≤ mode) (hm3 : mode ≤ 3)
    (hb : ∀ s, s < 80 → -999 ≤ T.1 s ∧ T.1 s ≤ 999 ∧ -999 ≤ T.2.1 s ∧ T.2.1 s ≤ 999) (hl : ∀ s, s < 80 → -99 ≤ lx s ∧ lx s ≤ 99 ∧ -99 ≤ ly s ∧ ly s ≤ 99)
    (hK : ∀ h', suPost h q r (sPts mode T ag lx ly r n) h' → K h') : zCV E mX0_setUp (d + 1) [zR q, zI r, zI n, zI mode] h K := by
  have z1 := zand_1 hm0 hm3
  have z2 := zand_2 hm0 hm3
  have loop : ∀ (inn : Int), (inn = 0 ↔ ¬ 2 ≤ mode) → ∀ (m k : Nat), k + m = n → ∀ (h1 : zH) (ch : Int), (ch = 0 ∨ ch = 1) →
      (∀ c j, ¬ ((c = q + 3 ∨ c = q + 4) ∧ r * 10 ≤ j ∧ j < r * 10 + (sPts mode T ag lx ly r k).length) → h1 c j = h c j) →
      (∀ i, i < (sPts mode T ag lx ly r k).length → h1 (q + 3) (r * 10 + i) = lX (sPts mode T ag lx ly r k) i ∧ h1 (q + 4) (r * 10 + i) = lY (sPts mode T ag lx ly r k) i) →
      (ch = 0 → ∀ i, i < (sPts mode T ag lx ly r k).length → h (q + 3) (r * 10 + i) = lX (sPts mode T ag lx ly r k) i ∧ h (q + 4) (r * 10 + i) = lY (sPts mode T ag lx ly r k) i) →
      zG E mX0_setUp (d + 1) 22 [zR q, zI r, zI n, zI mode, zI inn, zI ch, zI ((sPts mode T ag lx ly r k).length : Int), zI k, zU, zU, zU, zU] [] h1 (qV K) := by
    intro inn hinn m
    induction m with
    | zero =>
      intro k hk h1 ch hch fr hp hc
      have e : k = n := by omega
      subst e
      have hlen := sdL_len (sInc mode T ag r) (sVx mode T.1 lx r) (sVx mode T.2.1 ly r) k
      change (sPts mode T ag lx ly r k).length ≤ k at hlen
      generalize sPts mode T ag lx ly r k = l at fr hp hc hK hlen ⊢
      have b8 : (0 : Int) ≤ (r : Int) ∧ (r : Int) < 8 := nat_in (n := 8) hr
      have fr' : ∀ c j, ¬ ((c = q + 3 ∨ c = q + 4) ∧ r * 10 ≤ j ∧ j < r * 10 + 10) → h1 c j = h c j := fun c j hcj => fr c j (fun z => hcj ⟨z.1, z.2.1, by omega⟩)
      have post0 : ∀ h2 h3, h2 = hset h1 (q + 5) r 0 → h3 = hset h2 (q + 2) r (l.length : Int) → K h3 := by
        intro h2 h3 e2 e3
        refine hK h3 ⟨fun c j n1 n2 => ?_, ?_, fun i hi => ?_, Or.inl ?_⟩
        · rw [e3, e2, hset_ne (fun z => n1 ⟨Or.inl z.1, z.2⟩), hset_ne (fun z => n1 ⟨Or.inr z.1, z.2⟩)]
          exact fr' c j n2
        · rw [e3, hset_eq]
        · rw [e3, e2, hset_ne (by omega), hset_ne (by omega), hset_ne (by omega), hset_ne (by omega)]
          exact hp i hi
        · rw [e3, e2, hset_ne (by omega), hset_eq]
      have g206 : zG E mX0_setUp (d + 1) 206 [zR q, zI r, zU, zU, zU, zI ch, zI (l.length : Int), zU, zU, zU, zU, zU] [] h1 (qV K) := by
        refine bX0_setUp_206 hE hq ?_
        rw [Int.toNat_natCast]
        refine ⟨fun c => ⟨b8, fun h2 e2 => ⟨b8, fun h3 e3 => post0 h2 h3 e2 e3⟩⟩, fun c => ⟨b8, fun c2 => ⟨b8, fun h5 e5 => ?_⟩, fun c2 => ⟨b8, fun h6 e6 => ⟨b8, fun h7 e7 => post0 h6 h7 e6 e7⟩⟩⟩⟩
        have e2 : h1 (q + 2) r = h (q + 2) r := fr' _ _ (by omega)
        refine hK h5 ⟨fun c' j n1 n2 => ?_, ?_, fun i hi => ?_, Or.inr ⟨?_, ?_, hc (Decidable.not_not.mp c)⟩⟩
        · rw [e5, hset_ne (fun z => n1 ⟨Or.inl z.1, z.2⟩)]; exact fr' c' j n2
        · rw [e5, hset_eq]
        · rw [e5, hset_ne (by omega), hset_ne (by omega)]; exact hp i hi
        · rw [e5, hset_ne (by omega)]; exact fr' _ _ (by omega)
        · rw [← e2]; exact c2.symm
      exact bX0_setUp_22 hE hq ⟨fun _ => g206, fun c => absurd (Int.le_refl _) c⟩
    | succ m ih =>
      intro k hk h1 ch hch fr hp hc
      have hs : 10 * r + k < 80 := by omega
      have hlen := sdL_len (sInc mode T ag r) (sVx mode T.1 lx r) (sVx mode T.2.1 ly r) k
      change (sPts mode T ag lx ly r k).length ≤ k at hlen
      have w0 : ((r : Int) * 10 + k) * 6 = (((10 * r + k) * 6 : Nat) : Int) := by omega
      generalize hsv : 10 * r + k = s at hs w0
      have hTs := hT s hs
      have hFs := hF s hs
      have k1 : ∀ j, h1 (q + 1) j = h (q + 1) j := fun j => fr _ _ (by omega)
      have hbs := hb s hs
      have hls := hl s hs
      have incs : sInc mode T ag r k = (decide (T.2.2 s = 0) && !(decide (mode % 2 = 1) && decide (ag s ≠ 0))) := by unfold sInc; rw [hsv]
      have nxt : ∀ x, x = w32 ((k : Int) + 1) → x = ((k + 1 : Nat) : Int) := fun x e => by rw [e]; exact w_suc (by omega)
      have skip : sInc mode T ag r k = false → ∀ x, x = w32 ((k : Int) + 1) → zG E mX0_setUp (d + 1) 22 [zR q, zI r, zI n, zI mode, zI inn, zI ch, zI ((sPts mode T ag lx ly r k).length : Int), zI x, zU, zU, zU, zU] [] h1 (qV K) := by
        intro hi x e
        rw [nxt x e]
        have ep : sPts mode T ag lx ly r (k + 1) = sPts mode T ag lx ly r k := by
          show sdL _ _ _ (k + 1) = sdL _ _ _ k
          rw [sdL, if_neg (by rw [hi]; decide)]
        have := ih (k + 1) (by omega) h1 ch hch
        rw [ep] at this
        exact this fr hp hc
      have eix : ∀ f : Nat, f ≤ 5 → w32 ((((10 * r + k) * 6 : Nat) : Int) + (f : Int)) = (((10 * r + k) * 6 + f : Nat) : Int) := by
        intro f hf
        rw [w32i (by omega) (by omega)]; omega
      rw [hsv] at eix
      have bix : ∀ f : Nat, f ≤ 5 → (0 : Int) ≤ ((s * 6 + f : Nat) : Int) ∧ ((s * 6 + f : Nat) : Int) < 480 := fun f hf => nat_in (n := 480) (by omega)
      have e0 : w32 (((s * 6 : Nat) : Int) + 0) = ((s * 6 + 0 : Nat) : Int) := eix 0 (by omega)
      have e1 : w32 (((s * 6 : Nat) : Int) + 1) = ((s * 6 + 1 : Nat) : Int) := eix 1 (by omega)
      have e2 : w32 (((s * 6 : Nat) : Int) + 2) = ((s * 6 + 2 : Nat) : Int) := eix 2 (by omega)
      have e3 : w32 (((s * 6 : Nat) : Int) + 3) = ((s * 6 + 3 : Nat) : Int) := eix 3 (by omega)
      have e4 : w32 (((s * 6 : Nat) : Int) + 4) = ((s * 6 + 4 : Nat) : Int) := eix 4 (by omega)
      have e5 : w32 (((s * 6 : Nat) : Int) + 5) = ((s * 6 + 5 : Nat) : Int) := eix 5 (by omega)
      have take : sInc mode T ag r k = true → zG E mX0_setUp (d + 1) 76 [zR q, zI r, zI n, zI mode, zI inn, zI ch, zI ((sPts mode T ag lx ly r k).length : Int), zI k, zI ((s * 6 : Nat) : Int), zU, zU, zU] [] h1 (qV K) := by
        intro hi
        have ep : sPts mode T ag lx ly r (k + 1) = sPts mode T ag lx ly r k ++ [(sVx mode T.1 lx r k, sVx mode T.2.1 ly r k)] := by
          show sdL _ _ _ (k + 1) = sdL _ _ _ k ++ _
          rw [sdL, if_pos hi]
        have vx : sVx mode T.1 lx r k = T.1 s + (if 2 ≤ mode then lx s else 0) := by unfold sVx; rw [hsv]
        have vy : sVx mode T.2.1 ly r k = T.2.1 s + (if 2 ≤ mode then ly s else 0) := by unfold sVx; rw [hsv]
        have bx : ∀ z : Int, z = (if 2 ≤ mode then lx s else 0) → w32 (T.1 s + z) = sVx mode T.1 lx r k := by
          intro z ez
          rw [vx, ← ez]
          refine w32i ?_ ?_ <;> (rw [ez]; split <;> omega)
        have by_ : ∀ z : Int, z = (if 2 ≤ mode then ly s else 0) → w32 (T.2.1 s + z) = sVx mode T.2.1 ly r k := by
          intro z ez
          rw [vy, ← ez]
          refine w32i ?_ ?_ <;> (rw [ez]; split <;> omega)
        generalize sVx mode T.1 lx r k = X at ep bx
        generalize sVx mode T.2.1 ly r k = Y at ep by_
        generalize hL : sPts mode T ag lx ly r k = l at ep fr hp hc hlen
        have nx := ih (k + 1) (by omega)
        rw [ep] at nx
        have g176 : ∀ b : Int, (b = 0 ∨ b = 1) → (b = 0 → h (q + 3) (r * 10 + l.length) = X ∧ h (q + 4) (r * 10 + l.length) = Y) → zG E mX0_setUp (d + 1) 176 [zR q, zI r, zI n, zI mode, zI inn, zU, zI (l.length : Int), zI k, zU, zI X, zI Y, zI ((r * 10 + l.length : Nat) : Int)] [zI b, zI ch] h1 (qV K) := by
          intro b hb01 hb0
          have hz := zor_b hch hb01
          have b80 : (0 : Int) ≤ ((r * 10 + l.length : Nat) : Int) ∧ ((r * 10 + l.length : Nat) : Int) < 80 := nat_in (n := 80) (by omega)
          refine bX0_setUp_176 hE hq (fun x1 ex1 => ⟨b80, fun h2 eh2 => ⟨b80, fun h3 eh3 x4 ex4 x5 ex5 => ?_⟩⟩)
          rw [Int.toNat_natCast] at eh2 eh3
          rw [w_suc (by omega)] at ex4
          rw [nxt x5 ex5, ex4, ex1]
          have hlen2 : (l ++ [(X, Y)]).length = l.length + 1 := by simp
          have := nx h3 (zor ch b) hz.1 (fun c j hcj => ?_) (fun i hi2 => ?_) (fun hzz i hi2 => ?_)
          · rw [hlen2] at this
            exact this
          · rw [hlen2] at hcj
            rw [eh3, eh2, hset_ne (by omega), hset_ne (by omega)]
            exact fr c j (by omega)
          · rw [hlen2] at hi2
            rw [eh3, eh2]
            by_cases z : i = l.length
            · subst z
              have := lX_app l (X, Y)
              rw [hset_ne (by omega), hset_eq, hset_eq, this.1, this.2]
              exact ⟨rfl, rfl⟩
            · have := lX_app' l (X, Y) (show i < l.length by omega)
              rw [hset_ne (by omega), hset_ne (by omega), hset_ne (by omega), hset_ne (by omega), this.1, this.2]
              exact hp i (by omega)
          · rw [hlen2] at hi2
            have hzz' := hz.2 hzz
            by_cases z : i = l.length
            · subst z
              have := lX_app l (X, Y)
              rw [this.1, this.2]
              exact hb0 hzz'.2
            · have := lX_app' l (X, Y) (show i < l.length by omega)
              rw [this.1, this.2]
              exact hc hzz'.1 i (by omega)
        have g133 : ∀ s0 : Int, s0 = (if 2 ≤ mode then ly s else 0) → zG E mX0_setUp (d + 1) 133 [zR q, zI r, zI n, zI mode, zI inn, zI ch, zI (l.length : Int), zI k, zU, zI X, zU, zU] [zI s0, zI (T.2.1 s)] h1 (qV K) := by
          intro s0 es0
          refine bX0_setUp_133 hE hq (fun y1 ey1 x2 ex2 => ?_)
          rw [by_ s0 es0] at ey1
          rw [w_ix10 (by omega) (by omega)] at ex2
          rw [ex2, Int.toNat_natCast, ey1]
          have b80 : (0 : Int) ≤ ((r * 10 + l.length : Nat) : Int) ∧ ((r * 10 + l.length : Nat) : Int) < 80 := nat_in (n := 80) (by omega)
          have k3 : h1 (q + 3) (r * 10 + l.length) = h (q + 3) (r * 10 + l.length) := fr _ _ (by omega)
          have k4 : h1 (q + 4) (r * 10 + l.length) = h (q + 4) (r * 10 + l.length) := fr _ _ (by omega)
          rw [k3, k4]
          refine ⟨b80, fun c1 => g176 1 (Or.inr rfl) (fun z => absurd z (by decide)), fun c1 => ⟨b80, fun c2 => g176 0 (Or.inl rfl) (fun _ => ⟨Decidable.not_not.mp c1, c2⟩), fun c2 => g176 1 (Or.inr rfl) (fun z => absurd z (by decide))⟩⟩
        have g103 : ∀ s0 : Int, s0 = (if 2 ≤ mode then lx s else 0) → zG E mX0_setUp (d + 1) 103 [zR q, zI r, zI n, zI mode, zI inn, zI ch, zI (l.length : Int), zI k, zI ((s * 6 : Nat) : Int), zU, zU, zU] [zI s0, zI (T.1 s)] h1 (qV K) := by
          intro s0 es0
          refine bX0_setUp_103 hE hq (fun x1 ex1 => ?_)
          rw [bx s0 es0] at ex1
          rw [ex1, e1, e3, Int.toNat_natCast, Int.toNat_natCast, k1, k1, hTs.2.1, hFs.2.1]
          exact ⟨bix 1 (by omega), fun c => g133 0 (by rw [if_neg (hinn.mp c)]), fun c => ⟨bix 3 (by omega), g133 (ly s) (by rw [if_pos (Decidable.not_not.mp (fun z => c (hinn.mpr z)))])⟩⟩
        refine bX0_setUp_76 hE hq ?_
        rw [e0, e2, Int.toNat_natCast, Int.toNat_natCast, k1, k1, hFs.1, Nat.add_zero, hTs.1]
        exact ⟨bix 0 (by omega), fun c => g103 0 (by rw [if_neg (hinn.mp c)]), fun c => ⟨bix 2 (by omega), g103 (lx s) (by rw [if_pos (Decidable.not_not.mp (fun z => c (hinn.mpr z)))])⟩⟩
      refine bX0_setUp_22 hE hq ⟨fun c => absurd c (by omega), fun c => ⟨fun c2 => absurd c2 (by omega), fun c2 => X9_stoneAt hE (by omega) (by omega) (by omega) (by omega) ?_⟩⟩
      rw [w0, e5, e4, Int.toNat_natCast, Int.toNat_natCast, k1, k1, hTs.2.2, hFs.2.2, z1]
      refine ⟨bix 5 (by omega), fun c3 => skip (by rw [incs]; simp [c3]), fun c3 => ?_⟩
      have c3' : T.2.2 s = 0 := Decidable.not_not.mp c3
      refine ⟨fun c4 => take (by rw [incs]; simp [c3', c4]), fun c4 => ⟨bix 4 (by omega), fun c5 => take (by rw [incs]; simp [c3', c5]), fun c5 => skip ?_⟩⟩
      have c4' : mode % 2 = 1 := by omega
      rw [incs]; simp [c3', c4', c5]
  have st : ∀ inn : Int, (inn = 0 ↔ ¬ 2 ≤ mode) → zG E mX0_setUp (d + 1) 22 [zR q, zI r, zI n, zI mode, zI inn, zI 0, zI 0, zI 0, zU, zU, zU, zU] [] h (qV K) := by
    intro inn hinn
    have := loop inn hinn n 0 (by omega) h 0 (Or.inl rfl) (fun _ _ _ => rfl) (fun i hi => by simp [sPts, sdL] at hi) (fun _ i hi => by simp [sPts, sdL] at hi)
    simpa [sPts, sdL] using this
  refine eX0_setUp hE hq ?_
  rw [z2]
  refine ⟨fun c => st 0 ⟨fun _ z => by rw [if_pos z] at c; exact absurd c (by decide), fun _ => rfl⟩, fun c => st 1 ⟨fun z => absurd z (by decide), fun z => by rw [if_neg z] at c; exact absurd rfl c⟩⟩
end TSetUp
