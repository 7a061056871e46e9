/-! ===== topic: the class's reader of rules mirrors the machine ===== -/
section TYardC
variable {E : zE} {d : Nat} {h : zH} {K : Int → zH → Prop}
def oA : zO → Nat → Int × Int
  | [], _ => (0, 0)
  | x :: _, 0 => x
  | _ :: O, j + 1 => oA O j
theorem oA_lt {x : Int × Int} : ∀ (O : zO) (j : Nat), j < O.length → oA (O ++ [x]) j = oA O j
  | [], j, hj => absurd hj (Nat.not_lt_zero j)
  | _ :: _, 0, _ => rfl
  | _ :: O, j + 1, hj => oA_lt O j (Nat.lt_of_succ_lt_succ hj)
theorem oA_eq {x : Int × Int} : ∀ (O : zO), oA (O ++ [x]) O.length = x
  | [] => rfl
  | _ :: O => oA_eq O
def OuC (h : zH) (r2 : Nat) (O : zO) : Prop := ∀ j, j < O.length → h (r2 + 1) j = (oA O j).1 ∧ h (r2 + 2) j = (oA O j).2
def WtC (h : zH) : List Int → Prop
  | [] => True
  | k :: W => h 7 W.length = k ∧ WtC h W
theorem WtC.mv {h' : zH} : ∀ {W : List Int}, WtC h W → (∀ j, j < W.length → h' 7 j = h 7 j) → WtC h' W
  | [], _, _ => trivial
  | _ :: _, w, hh => ⟨by rw [hh _ (Nat.lt_succ_self _)]; exact w.1, WtC.mv w.2 (fun j hj => hh j (Nat.lt_succ_of_lt hj))⟩
def MxC (h : zH) (r2 : Nat) (w : Int) (W : List Int) (O : zO) (op kn : Nat) : Prop := (h 6 1 = (W.length : Int) ∧ h 6 2 = (op : Int) ∧ h 6 3 = (kn : Int) ∧ h 6 4 = w ∧ h 6 5 = 0 ∧ h r2 4 = (O.length : Int)) ∧ WtC h W ∧ OuC h r2 O
def frR (r2 : Nat) (h h' : zH) : Prop := ∀ c j, c ≠ 6 → c ≠ 7 → c ≠ r2 + 1 → c ≠ r2 + 2 → ¬ (c = r2 ∧ j = 4) → h' c j = h c j
theorem frR.rf (r2 : Nat) (h : zH) : frR r2 h h := fun _ _ _ _ _ _ _ => rfl
theorem frR.tr {r2 : Nat} {h h1 h2 : zH} (a : frR r2 h h1) (b : frR r2 h1 h2) : frR r2 h h2 := fun c j n1 n2 n3 n4 n5 => (b c j n1 n2 n3 n4 n5).trans (a c j n1 n2 n3 n4 n5)
theorem frR.s6 {r2 : Nat} {h h1 : zH} (a : frR r2 h h1) {j : Nat} {v : Int} : frR r2 h (hset h1 6 j v) := fun c j n1 n2 n3 n4 n5 => by rw [hset_ne (by omega)]; exact a c j n1 n2 n3 n4 n5
theorem frR.at' {r2 : Nat} {h h' : zH} (a : frR r2 h h') (hr : 7 < r2) {B : Nat → Int} {n q : Nat} (x : AtC h B n q) : AtC h' B n q := x.mv (fun c j hc => a c j (by omega) (by omega) (by omega) (by omega) (by omega))
theorem X6_rankOf (hE : isC E) {k : Int} (hK : K (rnk k) h) : zCI E mX6_rankOf d [zI k] h K := by
  unfold rnk at hK
  refine eX6_rankOf hE ⟨fun c => ?_, fun c => ?_, fun c => ?_, fun c => ?_, fun c => ?_, fun c => ?_, fun c => bX6_rankOf_141 hE ?_⟩
  · rwa [if_pos c] at hK
  · have n1 : ¬ (k = 7 ∨ k = 8) := by omega
    rwa [if_neg n1, if_pos c] at hK
  · have n1 : ¬ (k = 7 ∨ k = 8) := by omega
    have n2 : ¬ (k = 9 ∨ k = 10) := by omega
    have y : 11 ≤ k ∧ k ≤ 16 := by omega
    rwa [if_neg n1, if_neg n2, if_pos y] at hK
  · subst c; exact hK
  · subst c; exact hK
  · subst c; exact hK
  · have n1 : ¬ (k = 7 ∨ k = 8) := by omega
    have n2 : ¬ (k = 9 ∨ k = 10) := by omega
    have n3 : ¬ (11 ≤ k ∧ k ≤ 16) := by omega
    have n4 : ¬ k = 32 := by omega
    have n5 : ¬ k = 33 := by omega
    have n6 : ¬ k = 34 := by omega
    rwa [if_neg n1, if_neg n2, if_neg n3, if_neg n4, if_neg n5, if_neg n6] at hK
theorem X6_push (hE : isC E) {r2 : Nat} (hr : 7 < r2) {w : Int} {W : List Int} {O : zO} {op kn : Nat} (m : MxC h r2 w W O op kn) (hl : W.length < 72) {k : Int} {K : zH → Prop} (hK : ∀ h', frR r2 h h' → MxC h' r2 w (k :: W) O op kn → K h') : zCV E mX6_push d [zR 6, zI k] h K := by
  refine eX6_push hE ?_
  obtain ⟨⟨m1, m2, m3, m4, m5, m6⟩, mw, mo⟩ := m
  rw [m1]
  refine ⟨fun c => absurd c (by omega), fun _ => ⟨nat_in hl, fun h2 e2 h3 e3 => ?_⟩⟩
  rw [Int.toNat_natCast] at e2
  have q2 : h2 6 1 = (W.length : Int) := by rw [e2, hset_ne (by omega)]; exact m1
  rw [q2, w_suc (by omega)] at e3
  have fr : ∀ c j, ¬ (c = 7 ∧ j = W.length) → ¬ (c = 6 ∧ j = 1) → h3 c j = h c j := fun c j n1 n2 => by rw [e3, hset_ne n2, e2, hset_ne n1]
  refine hK h3 (fun c j n1 n2 n3 n4 n5 => fr c j (by omega) (by omega)) ⟨⟨by rw [e3, hset_eq]; rfl, by rw [fr _ _ (by omega) (by omega)]; exact m2, by rw [fr _ _ (by omega) (by omega)]; exact m3, by rw [fr _ _ (by omega) (by omega)]; exact m4, by rw [fr _ _ (by omega) (by omega)]; exact m5, by rw [fr _ _ (by omega) (by omega)]; exact m6⟩, ⟨by rw [e3, hset_ne (by omega), e2, hset_eq], mw.mv (fun j hj => fr _ _ (by omega) (by omega))⟩, fun j hj => ?_⟩
  rw [fr _ _ (by omega) (by omega), fr _ _ (by omega) (by omega)]
  exact mo j hj
theorem X5_putN (hE : isC E) {r2 : Nat} (hr2 : isRu E r2) (hr : 7 < r2) {w : Int} {W : List Int} {O : zO} {op kn : Nat} (m : MxC h r2 w W O op kn) (hl : O.length < 64) {k v : Int} {K : zH → Prop} (hK : ∀ h', frR r2 h h' → MxC h' r2 w W (O ++ [(k, v)]) op kn → K h') : zCV E mX5_put d [zR r2, zI k, zI v] h K := by
  refine eX5_put hE hr2 ?_
  obtain ⟨⟨m1, m2, m3, m4, m5, m6⟩, mw, mo⟩ := m
  rw [m6]
  refine ⟨fun c => absurd c (by omega), fun _ => ⟨nat_in hl, fun h2 e2 => ?_⟩⟩
  rw [Int.toNat_natCast] at e2
  have q2 : h2 r2 4 = (O.length : Int) := by rw [e2, hset_ne (by omega)]; exact m6
  rw [q2]
  refine ⟨nat_in hl, fun h3 e3 h4 e4 => ?_⟩
  rw [Int.toNat_natCast] at e3
  have q3 : h3 r2 4 = (O.length : Int) := by rw [e3, hset_ne (by omega)]; exact q2
  rw [q3, w_suc (by omega)] at e4
  have fr : ∀ c j, ¬ (c = r2 + 1 ∧ j = O.length) → ¬ (c = r2 + 2 ∧ j = O.length) → ¬ (c = r2 ∧ j = 4) → h4 c j = h c j := fun c j n1 n2 n3 => by rw [e4, hset_ne n3, e3, hset_ne n2, e2, hset_ne n1]
  refine hK h4 (fun c j n1 n2 n3 n4 n5 => fr c j (by omega) (by omega) (by omega)) ⟨⟨by rw [fr _ _ (by omega) (by omega) (by omega)]; exact m1, by rw [fr _ _ (by omega) (by omega) (by omega)]; exact m2, by rw [fr _ _ (by omega) (by omega) (by omega)]; exact m3, by rw [fr _ _ (by omega) (by omega) (by omega)]; exact m4, by rw [fr _ _ (by omega) (by omega) (by omega)]; exact m5, by rw [e4, hset_eq, List.length_append]; rfl⟩, mw.mv (fun j hj => fr _ _ (by omega) (by omega) (by omega)), fun j hj => ?_⟩
  rw [List.length_append] at hj
  change j < O.length + 1 at hj
  by_cases z : j = O.length
  · subst z
    rw [oA_eq]
    constructor
    · rw [e4, hset_ne (by omega), e3, hset_ne (by omega), e2, hset_eq]
    · rw [e4, hset_ne (by omega), e3, hset_eq]
  · rw [oA_lt O j (by omega), fr _ _ (by omega) (by omega) (by omega), fr _ _ (by omega) (by omega) (by omega)]
    exact mo j (by omega)
theorem X6_settleG (hE : isC E) {r2 : Nat} (hr2 : isRu E r2) (hr : 7 < r2) {w r : Int} {op kn : Nat} (h1r : 1 ≤ r) {K : zH → Prop} : ∀ (W : List Int) (O : zO) (h : zH), MxC h r2 w W O op kn → O.length + cS W ≤ 64 → W.length ≤ 72 → (∀ h', frR r2 h h' → MxC h' r2 w (sett r W O).1 (sett r W O).2 op kn → K h') → zG E mX6_settle (d + 1) 0 [zR 6, zI r, zR r2] [] h (qV K)
  | [], O, h, m, _, _, hK => bX6_settle_0 hE hr2 ⟨fun _ => hK h (frR.rf r2 h) m, fun c => absurd (by rw [m.1.1]; exact Int.le_refl 0) c⟩
  | k :: W, O, h, m, l1, l2, hK => by
    obtain ⟨⟨m1, m2, m3, m4, m5, m6⟩, mw, mo⟩ := m
    have e1 : h 6 1 = ((W.length + 1 : Nat) : Int) := m1
    rw [List.length_cons] at l2
    refine bX6_settle_0 hE hr2 ?_
    have ew : w32 (((W.length + 1 : Nat) : Int) - 1) = (W.length : Int) := by rw [w32i (by omega) (by omega)]; omega
    rw [e1, ew, Int.toNat_natCast, mw.1]
    refine ⟨fun c => absurd c (by omega), fun _ => ⟨nat_in (show W.length < 72 by omega), X6_rankOf hE ⟨fun c => ?_, fun c h4 e4 => ?_⟩⟩⟩
    · have e : sett r (k :: W) O = (k :: W, O) := by rw [sett, if_pos c]
      rw [e] at hK
      exact hK h (frR.rf r2 h) ⟨⟨m1, m2, m3, m4, m5, m6⟩, mw, mo⟩
    · have e : sett r (k :: W) O = sett r W (O ++ [(k, 0)]) := by rw [sett, if_neg c]
      rw [e] at hK
      have k5 : ¬ k = 5 := by
        intro z
        apply c
        rw [z]
        have : rnk 5 = 0 := by decide
        omega
      have cs : cS (k :: W) = cS W + 1 := by rw [cS, if_neg k5]
      rw [e1, ew] at e4
      have f4 : ∀ c j, ¬ (c = 6 ∧ j = 1) → h4 c j = h c j := fun c j n => by rw [e4, hset_ne n]
      have q4 : h4 6 1 = (W.length : Int) := by rw [e4, hset_eq]
      have q7 : h4 7 W.length = k := by rw [f4 _ _ (by omega)]; exact mw.1
      rw [q4, Int.toNat_natCast, q7]
      refine ⟨nat_in (show W.length < 72 by omega), X5_putN hE hr2 hr (w := w) (W := W) (O := O) (op := op) (kn := kn) ⟨⟨q4, by rw [f4 _ _ (by omega)]; exact m2, by rw [f4 _ _ (by omega)]; exact m3, by rw [f4 _ _ (by omega)]; exact m4, by rw [f4 _ _ (by omega)]; exact m5, by rw [f4 _ _ (by omega)]; exact m6⟩, mw.2.mv (fun j hj => f4 _ _ (by omega)), fun j hj => by rw [f4 _ _ (by omega), f4 _ _ (by omega)]; exact mo j hj⟩ (by omega) (fun h5 fr5 m5' => ?_)⟩
      refine X6_settleG hE hr2 hr h1r W (O ++ [(k, 0)]) h5 m5' ?_ (by omega) (fun h' fr' m' => hK h' (fun c j n1 n2 n3 n4 n5 => ?_) m')
      · rw [List.length_append]
        change O.length + 1 + cS W ≤ 64
        omega
      · rw [fr' c j n1 n2 n3 n4 n5, fr5 c j n1 n2 n3 n4 n5]
        exact f4 c j (by omega)
theorem X6_settle (hE : isC E) {r2 : Nat} (hr2 : isRu E r2) (hr : 7 < r2) {w r : Int} {W : List Int} {O : zO} {op kn : Nat} (h1r : 1 ≤ r) {K : zH → Prop} (m : MxC h r2 w W O op kn) (l1 : O.length + cS W ≤ 64) (l2 : W.length ≤ 72) (hK : ∀ h', frR r2 h h' → MxC h' r2 w (sett r W O).1 (sett r W O).2 op kn → K h') : zCV E mX6_settle (d + 1) [zR 6, zI r, zR r2] h K := eX6_settle hE hr2 (X6_settleG hE hr2 hr h1r W O h m l1 l2 hK)
/-- what holds of every state of the machine -/
def bn : List Int → Nat
  | [] => 0
  | k :: W => if k = 5 ∨ k = 34 then bn W else bn W + 1
/-- an output takes a depth to a depth -/
def dpR : zO → Nat → Nat → Prop
  | [], a, c => a = c
  | x :: O, a, c => if x.1 = 34 then 1 ≤ a ∧ dpR O a c else if isOp x.1 then (x.1 = 3 → 0 ≤ x.2 ∧ x.2 ≤ 9999) ∧ dpR O (a + 1) c else 1 ≤ rnk x.1 ∧ 2 ≤ a ∧ dpR O (a - 1) c
theorem dpR_app : ∀ (O : zO) (x : Int × Int) (a b c : Nat), dpR O a b → dpR [x] b c → dpR (O ++ [x]) a c
  | [], x, a, b, c, h1, h2 => by
    have e : a = b := h1
    rw [e]; exact h2
  | y :: O, x, a, b, c, h1, h2 => by
    have e : (y :: O) ++ [x] = y :: (O ++ [x]) := rfl
    rw [e]
    unfold dpR at h1
    rw [dpR]
    split at h1
    · rename_i z
      rw [if_pos z]
      exact ⟨h1.1, dpR_app O x _ _ _ h1.2 h2⟩
    · rename_i z
      rw [if_neg z]
      split at h1
      · rename_i z2
        rw [if_pos z2]
        exact ⟨h1.1, dpR_app O x _ _ _ h1.2 h2⟩
      · rename_i z2
        rw [if_neg z2]
        exact ⟨h1.1, h1.2.1, dpR_app O x _ _ _ h1.2.2 h2⟩
def yInv (s : yS) : Prop := s.2.2.2.2.1 = cP s.2.2.1 ∧ s.2.2.2.2.1 ≤ 8 ∧ s.2.2.2.2.2 = s.2.2.2.1.length + cS s.2.2.1 ∧ s.2.2.2.2.2 ≤ 64 ∧ (∀ k, k ∈ s.2.2.1 → k = 5 ∨ 1 ≤ rnk k) ∧ dpR s.2.2.2.1 0 ((if s.2.1 = true then 0 else 1) + bn s.2.2.1)
theorem rnk_op {k : Int} (hk : isOp k) : rnk k = 0 := by
  unfold isOp at hk
  unfold rnk
  repeat' split
  all_goals omega
theorem sett_d {r : Int} (hr : 1 ≤ r) : ∀ (W : List Int) (O : zO), (∀ k, k ∈ W → k = 5 ∨ 1 ≤ rnk k) → dpR O 0 (1 + bn W) → dpR (sett r W O).2 0 (1 + bn (sett r W O).1) ∧ (∀ k, k ∈ (sett r W O).1 → k = 5 ∨ 1 ≤ rnk k)
  | [], O, hw, hd => ⟨hd, hw⟩
  | k :: W, O, hw, hd => by
    unfold sett
    split
    · exact ⟨hd, hw⟩
    · rename_i c
      refine sett_d hr W _ (fun x hx => hw x (List.mem_cons_of_mem _ hx)) (dpR_app O (k, 0) 0 _ _ hd ?_)
      have k5 : ¬ k = 5 := by
        intro z
        apply c
        rw [z]
        have : rnk 5 = 0 := by decide
        omega
      have nop : ¬ isOp k := by
        intro z
        have := rnk_op z
        omega
      by_cases z : k = 34
      · have eb : bn (k :: W) = bn W := by rw [bn, if_pos (Or.inr z)]
        rw [eb]
        unfold dpR
        dsimp only
        rw [if_pos z]
        refine ⟨by omega, ?_⟩
        unfold dpR
        rfl
      · have eb : bn (k :: W) = bn W + 1 := by rw [bn, if_neg (fun y => y.elim k5 z)]
        rw [eb]
        unfold dpR
        dsimp only
        rw [if_neg z, if_neg nop]
        refine ⟨by omega, by omega, ?_⟩
        unfold dpR
        omega
theorem bn_sg {k : Int} {W : List Int} (h1 : 1 ≤ rnk k) (h2 : k ≠ 34) : bn (k :: W) = bn W + 1 := by
  have k5 : ¬ k = 5 := by
    intro z
    rw [z] at h1
    have : rnk 5 = 0 := by decide
    omega
  rw [bn, if_neg (fun y => y.elim k5 h2)]
theorem cS_sg {k : Int} {W : List Int} (h1 : 1 ≤ rnk k) : cS (k :: W) = cS W + 1 ∧ cP (k :: W) = cP W := by
  have k5 : ¬ k = 5 := by
    intro z
    rw [z] at h1
    have : rnk 5 = 0 := by decide
    omega
  exact ⟨by rw [cS, if_neg k5], by rw [cP, if_neg k5]⟩
theorem yInv_op {B : Nat → Int} {n q op kn : Nat} {W : List Int} {O : zO} (hB : ∀ j, j < n → 0 ≤ B j ∧ B j ≤ 255) (hq : q ≤ n) (i : yInv (q, true, W, O, op, kn)) {s' : yS} (e : yOp B n q W O op kn = .inr s') : yInv s' := by
  obtain ⟨i1, i2, i3, i4, i5, i6⟩ := i
  dsimp only at i1 i2 i3 i4 i5 i6
  rw [if_pos rfl] at i6
  unfold yOp at e
  split at e
  · split at e
    · cases e
    · cases e
      have e1 : cP (5 :: W) = cP W + 1 := by rw [cP, if_pos rfl]
      have e2 : cS (5 :: W) = cS W := by rw [cS, if_pos rfl]
      have e3 : bn (5 :: W) = bn W := by rw [bn, if_pos (Or.inl rfl)]
      refine ⟨?_, ?_, ?_, i4, fun k hk => ?_, ?_⟩
      · dsimp only; rw [e1]; omega
      · dsimp only; omega
      · dsimp only; rw [e2]; omega
      · dsimp only at hk
        rcases List.mem_cons.mp hk with z | z
        · exact Or.inl z
        · exact i5 k z
      · dsimp only; rw [if_pos rfl, e3]; exact i6
  · split at e
    · cases e
    · rename_i c2
      split at e
      · cases e
      · rename_i c3
        split at e
        · cases e
          have r34 : 1 ≤ rnk 34 := by decide
          have e1 := cS_sg (W := W) r34
          have e3 : bn (34 :: W) = bn W := by rw [bn, if_pos (Or.inr rfl)]
          refine ⟨?_, i2, ?_, ?_, fun k hk => ?_, ?_⟩
          · dsimp only; rw [e1.2]; exact i1
          · dsimp only; rw [e1.1]; omega
          · dsimp only; omega
          · dsimp only at hk
            rcases List.mem_cons.mp hk with z | z
            · rw [z]; exact Or.inr r34
            · exact i5 k z
          · dsimp only; rw [if_pos rfl, e3]; exact i6
        · rename_i c4
          cases e
          have isop : isOp (tkK B n q) := Decidable.not_not.mp (fun z => c2 ⟨fun y => c4 y.1, z⟩)
          refine ⟨i1, i2, ?_, ?_, i5, ?_⟩
          · dsimp only; rw [List.length_append]; change _ = O.length + 1 + _; omega
          · dsimp only; omega
          · dsimp only
            rw [if_neg (by decide)]
            refine dpR_app O _ 0 _ _ i6 ?_
            unfold dpR
            dsimp only
            rw [if_neg c4, if_pos isop]
            refine ⟨fun k3 => ⟨(tkV3_r hB hq k3).1, by omega⟩, ?_⟩
            unfold dpR
            omega
theorem yInv_sg {B : Nat → Int} {n q op kn : Nat} {W : List Int} {O : zO} (i : yInv (q, false, W, O, op, kn)) {s' : yS} (e : ySg B n q W O op kn = .inr s') : yInv s' := by
  obtain ⟨i1, i2, i3, i4, i5, i6⟩ := i
  dsimp only at i1 i2 i3 i4 i5 i6
  rw [if_neg (by decide)] at i6
  unfold ySg at e
  split at e
  · rename_i c
    cases e
    have sd := sett_d (r := 1) (by omega) W O i5 i6
    have sc := sett_c (r := 1) (by omega) W O
    have st := sett_r 1 W O
    generalize (sett 1 W O).1 = W1 at sd sc st ⊢
    generalize (sett 1 W O).2 = O1 at sd sc st ⊢
    cases W1 with
    | nil =>
      have : cP ([] : List Int) = 0 := rfl
      omega
    | cons k W2 =>
      have k5 : k = 5 := by
        rcases sd.2 k (List.mem_cons_self) with z | z
        · exact z
        · rcases st with y | y
          · cases y
          · change rnk k < 1 at y
            omega
      subst k5
      have e1 : cP (5 :: W2) = cP W2 + 1 := by rw [cP, if_pos rfl]
      have e2 : cS (5 :: W2) = cS W2 := by rw [cS, if_pos rfl]
      have e3 : bn (5 :: W2) = bn W2 := by rw [bn, if_pos (Or.inl rfl)]
      rw [e1, e2] at sc
      rw [e3] at sd
      refine ⟨?_, ?_, ?_, i4, fun x hx => sd.2 x (List.mem_cons_of_mem _ hx), ?_⟩
      · dsimp only [List.tail]; omega
      · dsimp only; omega
      · dsimp only [List.tail]; omega
      · dsimp only [List.tail]; rw [if_neg (by decide)]; exact sd.1
  · split at e
    · split at e
      · cases e
      · cases e
    · rename_i c2
      split at e
      · cases e
      · split at e
        · cases e
        · rename_i c4
          cases e
          have rr := rnk_r (tkK B n q)
          have r1 : 1 ≤ rnk (tkK B n q) := by omega
          have sd := sett_d r1 W O i5 i6
          have sc := sett_c r1 W O
          have e1 := cS_sg (W := (sett (rnk (tkK B n q)) W O).1) r1
          have e2 := bn_sg (W := (sett (rnk (tkK B n q)) W O).1) r1 (by omega)
          refine ⟨?_, i2, ?_, ?_, fun x hx => ?_, ?_⟩
          · dsimp only; rw [e1.2]; omega
          · dsimp only; rw [e1.1]; omega
          · dsimp only; omega
          · dsimp only at hx
            rcases List.mem_cons.mp hx with z | z
            · rw [z]; exact Or.inr r1
            · exact sd.2 x z
          · dsimp only; rw [if_pos rfl, e2]
            have := sd.1
            rw [Nat.zero_add]
            rwa [Nat.add_comm 1] at this
theorem yInv_end {B : Nat → Int} {n q op kn : Nat} {W : List Int} {O : zO} (i : yInv (q, false, W, O, op, kn)) {O' : zO} {q' : Nat} (e : ySg B n q W O op kn = .inl (.inr (O', q'))) : q' = q ∧ O' = (sett 1 W O).2 ∧ op = 0 ∧ O'.length ≤ 64 ∧ dpR O' 0 1 := by
  obtain ⟨i1, i2, i3, i4, i5, i6⟩ := i
  dsimp only at i1 i2 i3 i4 i5 i6
  rw [if_neg (by decide)] at i6
  unfold ySg at e
  split at e
  · cases e
  · split at e
    · split at e
      · rename_i c3
        cases e
        have sd := sett_d (r := 1) (by omega) W O i5 i6
        have sc := sett_c (r := 1) (by omega) W O
        have st := sett_r 1 W O
        refine ⟨rfl, rfl, c3, by omega, ?_⟩
        generalize (sett 1 W O).1 = W1 at sd sc st ⊢
        cases W1 with
        | nil => exact sd.1
        | cons k W2 =>
          exfalso
          have k5 : k = 5 := by
            rcases sd.2 k (List.mem_cons_self) with z | z
            · exact z
            · rcases st with y | y
              · cases y
              · change rnk k < 1 at y
                omega
          subst k5
          have e1 : cP (5 :: W2) = cP W2 + 1 := by rw [cP, if_pos rfl]
          omega
      · cases e
    · split at e
      · cases e
      · split at e
        · cases e
        · cases e
end TYardC
