/-! ===== topic: the rule of what counts; both sides ===== -/
section TRule
variable {E : zE} {d : Nat} {h : zH}
def uN (W : Nat → Int) (k : Nat) (v : Int) : Nat → Int := fun j => if j = k then v else W j
theorem uN_eq (W : Nat → Int) (k : Nat) (v : Int) : uN W k v k = v := if_pos rfl
theorem uN_ne {W : Nat → Int} {k : Nat} {v : Int} {j : Nat} (hj : j ≠ k) : uN W k v j = W j := if_neg hj
theorem hset_row (h : zH) (c k : Nat) (v : Int) : hset h c k v c = uN (h c) k v := by
  funext j
  unfold hset uN
  by_cases z : j = k
  · rw [if_pos ⟨rfl, z⟩, if_pos z]
  · rw [if_neg (fun q => z q.2), if_neg z]
theorem hset_rne {h : zH} {c k : Nat} {v : Int} {c' : Nat} (hc : c' ≠ c) : hset h c k v c' = h c' := by
  funext j
  exact hset_ne (fun z => hc z.1)
def vB (x : Int) : Prop := -1000000000000 ≤ x ∧ x ≤ 1000000000000
theorem zabsJ_b {x : Int} (h1 : -2000000000000 ≤ x) (h2 : x ≤ 2000000000000) : zabsJ x = sAbs x := by
  unfold zabsJ sAbs
  split
  · exact w64i (by omega) (by omega)
  · rfl
theorem bI_b {P : Prop} [Decidable P] : vB (bI P) := by
  unfold vB
  rcases bI_01 (P := P) with e | e <;> rw [e] <;> omega
def rEr (s x y : Int) : Bool :=
  if s = 42 then decide (x ≠ 0 ∧ 1000000000000 / sAbs x < sAbs y) else if s = 47 then decide (y = 0) else if s = 43 then decide (1000000000000 < sAbs (x + y)) else if s = 45 then decide (1000000000000 < sAbs (x - y)) else false
def rJn (s x y : Int) : Int :=
  if s = 42 then x * y else if s = 43 then x + y else if s = 45 then x - y else if s = 47 then x.tdiv y else if s = 60 then bI (x < y) else if s = 61 then bI (x = y) else if s = 62 then bI (y < x) else if s = 256 then bI (x ≤ y) else if s = 257 then bI (x ≠ y) else if s = 258 then bI (y ≤ x) else if s = 261 then bI (x ≠ 0 ∧ y ≠ 0) else bI (x ≠ 0 ∨ y ≠ 0)
def rB (s : Int) : Prop := s = 42 ∨ s = 43 ∨ s = 45 ∨ s = 47 ∨ s = 60 ∨ s = 61 ∨ s = 62 ∨ s = 256 ∨ s = 257 ∨ s = 258 ∨ s = 261 ∨ s = 262
theorem mul_b {x y : Int} (hx : x ≠ 0) (hq : sAbs y ≤ 1000000000000 / sAbs x) : vB (x * y) := by
  have ha : 0 < sAbs x := by unfold sAbs; split <;> omega
  have hb : 0 ≤ sAbs y := by unfold sAbs; split <;> omega
  have h1 : sAbs y * sAbs x ≤ 1000000000000 := (Int.le_ediv_iff_mul_le ha).mp hq
  have h0 : 0 ≤ sAbs y * sAbs x := Int.mul_nonneg hb (by omega)
  have e : x * y = sAbs y * sAbs x ∨ x * y = -(sAbs y * sAbs x) := by
    unfold sAbs
    rw [Int.mul_comm x y]
    split <;> split
    · left; rw [Int.neg_mul_neg]
    · right; rw [Int.neg_mul]; omega
    · right; rw [Int.mul_neg]; omega
    · left; rfl
  unfold vB
  rcases e with e | e <;> rw [e] <;> omega
theorem tdiv_b {x y : Int} (hx : vB x) : vB (x.tdiv y) := by
  have h1 : (x.tdiv y).natAbs ≤ x.natAbs := by rw [Int.natAbs_tdiv]; exact Nat.div_le_self _ _
  unfold vB at hx ⊢
  omega
theorem rJn_b {s x y : Int} (hx : vB x) (hy : vB y) (he : rEr s x y = false) : vB (rJn s x y) := by
  unfold rJn
  unfold rEr at he
  split
  · rename_i e
    rw [if_pos e] at he
    by_cases z : x = 0
    · rw [z, Int.zero_mul]; unfold vB; omega
    · refine mul_b z ?_
      have := of_decide_eq_false he
      omega
  · rename_i e0
    rw [if_neg e0] at he
    split
    · rename_i e
      rw [if_neg (by omega), if_pos e] at he
      have := of_decide_eq_false he
      unfold sAbs at this
      unfold vB
      split at this <;> omega
    · split
      · rename_i e
        rw [if_neg (by omega), if_neg (by omega), if_pos e] at he
        have := of_decide_eq_false he
        unfold sAbs at this
        unfold vB
        split at this <;> omega
      · split
        · exact tdiv_b hx
        · repeat' split
          all_goals exact bI_b
/-- the rule worked out: m knots from the i-th on, over a stack of n values -/
def rvR (nm ks kv : Nat → Int) : Nat → Nat → (Nat → Int) → Nat → Bool
  | 0, _, W, n => decide (n = 1 ∧ W 0 ≠ 0)
  | m + 1, i, W, n =>
    if ks i = 2 then
      (if kv i = 260 then rvR nm ks kv m (i + 1) (uN W (n - 1) (bI (W (n - 1) = 0))) n
      else if rEr (kv i) (W (n - 2)) (W (n - 1)) = true then false else rvR nm ks kv m (i + 1) (uN W (n - 2) (rJn (kv i) (W (n - 2)) (W (n - 1)))) (n - 1))
    else rvR nm ks kv m (i + 1) (uN W n (if ks i = 0 then kv i else nm (kv i).toNat)) (n + 1)
def rwR (ks kv : Nat → Int) : Nat → Nat → Nat → Prop
  | 0, _, n => n = 1
  | m + 1, i, n =>
    if ks i = 2 then (if kv i = 260 then 1 ≤ n ∧ rwR ks kv m (i + 1) n else rB (kv i) ∧ 2 ≤ n ∧ rwR ks kv m (i + 1) (n - 1))
    else ((ks i = 0 ∧ 0 ≤ kv i ∧ kv i ≤ 9999) ∨ (ks i = 1 ∧ 0 ≤ kv i ∧ kv i < 6)) ∧ n < 64 ∧ rwR ks kv m (i + 1) (n + 1)
theorem rvR_congr {nm ks kv : Nat → Int} : ∀ (m i n : Nat) (W W' : Nat → Int), rwR ks kv m i n → (∀ j, j < n → W j = W' j) → rvR nm ks kv m i W n = rvR nm ks kv m i W' n
  | 0, i, n, W, W', w, hh => by
    unfold rwR at w
    unfold rvR
    rw [hh 0 (by omega)]
  | m + 1, i, n, W, W', w, hh => by
    unfold rwR at w
    unfold rvR
    by_cases c : ks i = 2
    · rw [if_pos c] at w ⊢
      rw [if_pos c]
      by_cases c2 : kv i = 260
      · rw [if_pos c2] at w ⊢
        rw [if_pos c2, hh (n - 1) (by omega)]
        refine rvR_congr m (i + 1) n _ _ w.2 (fun j hj => ?_)
        unfold uN
        split
        · rfl
        · exact hh j hj
      · rw [if_neg c2] at w ⊢
        rw [if_neg c2, hh (n - 1) (by omega), hh (n - 2) (by omega)]
        rw [rvR_congr m (i + 1) (n - 1) (uN W (n - 2) (rJn (kv i) (W' (n - 2)) (W' (n - 1)))) (uN W' (n - 2) (rJn (kv i) (W' (n - 2)) (W' (n - 1)))) w.2.2 (fun j hj => ?_)]
        unfold uN
        split
        · rfl
        · exact hh j (by omega)
    · rw [if_neg c] at w ⊢
      rw [if_neg c]
      refine rvR_congr m (i + 1) (n + 1) _ _ w.2.2 (fun j hj => ?_)
      unfold uN
      split
      · rfl
      · exact hh j (by omega)
/-! the class -/
def kb (k b : Int) : Prop := (k = 7 ∧ b = 43) ∨ (k = 8 ∧ b = 45) ∨ (k = 9 ∧ b = 42) ∨ (k = 10 ∧ b = 47) ∨ (k = 11 ∧ b = 60) ∨ (k = 12 ∧ b = 256) ∨ (k = 13 ∧ b = 61) ∨ (k = 14 ∧ b = 257) ∨ (k = 15 ∧ b = 258) ∨ (k = 16 ∧ b = 62) ∨ (k = 32 ∧ b = 262) ∨ (k = 33 ∧ b = 261)
def knR (k v a b : Int) : Prop := (a = 0 ∧ k = 3 ∧ b = v ∧ 0 ≤ v ∧ v ≤ 9999) ∨ (a = 1 ∧ 35 ≤ k ∧ k ≤ 40 ∧ b = k - 35) ∨ (a = 2 ∧ k = 34 ∧ b = 260) ∨ (a = 2 ∧ kb k b)
theorem X5_isOperand (hE : isC E) {k : Int} {K : Int → zH → Prop} (hK : K (bI (k = 3 ∨ (35 ≤ k ∧ k ≤ 40))) h) : zCI E mX5_isOperand d [zI k] h K := by
  refine eX5_isOperand hE ⟨fun c => ?_, fun c => ⟨fun c2 => ?_, fun c2 => ⟨fun c3 => ?_, fun c3 => ?_⟩⟩⟩
  · rwa [bI_t (by omega)] at hK
  · rwa [bI_f (by omega)] at hK
  · rwa [bI_f (by omega)] at hK
  · rwa [bI_t (by omega)] at hK
theorem X5_isError (hE : isC E) {k b x y : Int} (hk : kb k b) (hx : vB x) (hy : vB y) {K : Int → zH → Prop} (hK : K (bI (rEr b x y = true)) h) : zCI E mX5_isError d [zI k, zJ x, zJ y] h K := by
  unfold kb at hk
  unfold vB at hx hy
  refine eX5_isError hE ⟨fun c => ?_, fun c => ?_, fun c => ?_, fun c => ?_, fun c => ?_⟩
  · have eb : b = 43 := by omega
    subst eb
    rw [w64i (by omega) (by omega), zabsJ_b (by omega) (by omega)]
    have e : rEr 43 x y = decide (1000000000000 < sAbs (x + y)) := rfl
    rw [e] at hK
    refine ⟨fun c2 => ?_, fun c2 => ?_⟩
    · rwa [bI_f (by rw [decide_eq_true_iff]; omega)] at hK
    · rwa [bI_t (by rw [decide_eq_true_iff]; omega)] at hK
  · have eb : b = 45 := by omega
    subst eb
    rw [w64i (by omega) (by omega), zabsJ_b (by omega) (by omega)]
    have e : rEr 45 x y = decide (1000000000000 < sAbs (x - y)) := rfl
    rw [e] at hK
    refine ⟨fun c2 => ?_, fun c2 => ?_⟩
    · rwa [bI_f (by rw [decide_eq_true_iff]; omega)] at hK
    · rwa [bI_t (by rw [decide_eq_true_iff]; omega)] at hK
  · have eb : b = 42 := by omega
    subst eb
    have e : rEr 42 x y = decide (x ≠ 0 ∧ 1000000000000 / sAbs x < sAbs y) := rfl
    rw [e] at hK
    rw [zabsJ_b (x := x) (by omega) (by omega), zabsJ_b (x := y) (by omega) (by omega)]
    refine ⟨fun c2 => ?_, fun c2 => ⟨?_, ?_⟩⟩
    · rwa [bI_f (by rw [decide_eq_true_iff]; omega)] at hK
    · unfold sAbs; split <;> omega
    · have ha : 0 < sAbs x := by unfold sAbs; split <;> omega
      have hd : 0 ≤ 1000000000000 / sAbs x := Int.ediv_nonneg (by omega) (by omega)
      have hd2 := Int.ediv_le_self (sAbs x) (show (0 : Int) ≤ 1000000000000 by omega)
      rw [Int.tdiv_eq_ediv_of_nonneg (by omega), w64i (by omega) (by omega)]
      refine ⟨fun c3 => ?_, fun c3 => ?_⟩
      · rwa [bI_f (by rw [decide_eq_true_iff]; omega)] at hK
      · rwa [bI_t (by rw [decide_eq_true_iff]; omega)] at hK
  · have eb : b = 47 := by omega
    subst eb
    have e : rEr 47 x y = decide (y = 0) := rfl
    rw [e] at hK
    refine ⟨fun c2 => ?_, fun c2 => ?_⟩
    · rwa [bI_f (by rw [decide_eq_true_iff]; omega)] at hK
    · rwa [bI_t (by rw [decide_eq_true_iff]; omega)] at hK
  · have e : rEr b x y = false := by
      unfold rEr
      rw [if_neg (by omega), if_neg (by omega), if_neg (by omega), if_neg (by omega)]
    rwa [e, bI_f (by decide)] at hK
theorem X5_join (hE : isC E) {k b x y : Int} (hk : kb k b) (hx : vB x) (hy : vB y) (he : rEr b x y = false) {K : Int → zH → Prop} (hK : K (rJn b x y) h) : zCJ E mX5_join d [zI k, zJ x, zJ y] h K := by
  have hj := rJn_b hx hy he
  unfold kb at hk
  unfold vB at hx hy hj
  refine eX5_join hE ⟨fun c => ?_, fun c => ?_, fun c => ?_, fun c => ?_, fun c => ?_, fun c => ?_, fun c => ?_, fun c => ?_, fun c => ?_, fun c => ?_, fun c => ?_, fun c => ?_, fun c => absurd hk (by omega)⟩
  · have eb : b = 43 := by omega
    subst eb
    rw [w64i (by omega) (by omega)]; exact hK
  · have eb : b = 45 := by omega
    subst eb
    rw [w64i (by omega) (by omega)]; exact hK
  · have eb : b = 42 := by omega
    subst eb
    have e : rJn 42 x y = x * y := rfl
    rw [e] at hK hj
    rw [w64i (by omega) (by omega)]; exact hK
  · have eb : b = 47 := by omega
    subst eb
    have e : rJn 47 x y = x.tdiv y := rfl
    rw [e] at hK hj
    have hy0 : ¬ y = 0 := of_decide_eq_false he
    rw [w64i (by omega) (by omega)]
    exact ⟨fun _ => ⟨hy0, hK⟩, fun c => absurd hy0 c⟩
  · have eb : b = 60 := by omega
    subst eb
    have e : rJn 60 x y = bI (x < y) := rfl
    rw [e] at hK
    exact ⟨fun c2 => by rwa [bI_f (by omega)] at hK, fun c2 => by rwa [bI_t (by omega)] at hK⟩
  · have eb : b = 256 := by omega
    subst eb
    have e : rJn 256 x y = bI (x ≤ y) := rfl
    rw [e] at hK
    exact ⟨fun c2 => by rwa [bI_f (by omega)] at hK, fun c2 => by rwa [bI_t (by omega)] at hK⟩
  · have eb : b = 61 := by omega
    subst eb
    have e : rJn 61 x y = bI (x = y) := rfl
    rw [e] at hK
    exact ⟨fun c2 => by rwa [bI_f (by omega)] at hK, fun c2 => by rwa [bI_t (by omega)] at hK⟩
  · have eb : b = 257 := by omega
    subst eb
    have e : rJn 257 x y = bI (x ≠ y) := rfl
    rw [e] at hK
    exact ⟨fun c2 => by rwa [bI_f (by omega)] at hK, fun c2 => by rwa [bI_t (by omega)] at hK⟩
  · have eb : b = 258 := by omega
    subst eb
    have e : rJn 258 x y = bI (y ≤ x) := rfl
    rw [e] at hK
    exact ⟨fun c2 => by rwa [bI_f (by omega)] at hK, fun c2 => by rwa [bI_t (by omega)] at hK⟩
  · have eb : b = 62 := by omega
    subst eb
    have e : rJn 62 x y = bI (y < x) := rfl
    rw [e] at hK
    exact ⟨fun c2 => by rwa [bI_f (by omega)] at hK, fun c2 => by rwa [bI_t (by omega)] at hK⟩
  · have eb : b = 262 := by omega
    subst eb
    have e : rJn 262 x y = bI (x ≠ 0 ∨ y ≠ 0) := rfl
    rw [e] at hK
    exact ⟨fun c2 => by rwa [bI_t (by omega)] at hK, fun c2 => ⟨fun c3 => by rwa [bI_f (by omega)] at hK, fun c3 => by rwa [bI_t (by omega)] at hK⟩⟩
  · have eb : b = 261 := by omega
    subst eb
    have e : rJn 261 x y = bI (x ≠ 0 ∧ y ≠ 0) := rfl
    rw [e] at hK
    exact ⟨fun c2 => by rwa [bI_f (by omega)] at hK, fun c2 => ⟨fun c3 => by rwa [bI_f (by omega)] at hK, fun c3 => by rwa [bI_t (by omega)] at hK⟩⟩
theorem w_p1 {n : Nat} (h1 : 1 ≤ n) (h2 : n ≤ 1000) : w32 ((n : Int) - 1) = ((n - 1 : Nat) : Int) := by rw [w32i (by omega) (by omega)]; omega
theorem w_p2 {n : Nat} (h1 : 2 ≤ n) (h2 : n ≤ 1000) : w32 ((n : Int) - 2) = ((n - 2 : Nat) : Int) := by rw [w32i (by omega) (by omega)]; omega
theorem w_m1 {n : Nat} (h1 : 1 ≤ n) (h2 : n ≤ 1000) : w32 ((n : Int) + (-1)) = ((n - 1 : Nat) : Int) := by rw [w32i (by omega) (by omega)]; omega
theorem X5_holds (hE : isC E) {q : Nat} (hq : isRu E q) {ks kv : Nat → Int} {m : Nat} (hm : h q 4 = m) (hm64 : m ≤ 64) (hk : ∀ i, i < m → knR (h (q + 1) i) (h (q + 2) i) (ks i) (kv i)) (hw : rwR ks kv m 0 0) {nm : Nat → Int} (hnm : ∀ j, vB (nm j)) {K : Int → zH → Prop}
    (hK : ∀ h', (∀ c j, c ≠ q + 3 → c ≠ q + 4 → h' c j = h c j) → K (bI (rvR nm ks kv m 0 (fun _ => 0) 0 = true)) h') : zCI E mX5_holds (d + 1) [zR q, zI (nm 0), zI (nm 1), zI (nm 2), zI (nm 3), zI (nm 4), zI (nm 5)] h K := by
  have hB0 := fun W => rvR_congr (nm := nm) m 0 0 (fun _ => 0) W hw (fun j hj => absurd hj (by omega))
  generalize rvR nm ks kv m 0 (fun _ => 0) 0 = B at hK hB0
  have loop : ∀ (m' i n : Nat) (h1 : zH), i + m' = m → rwR ks kv m' i n → n ≤ 64 → (∀ j, j < n → vB (h1 (q + 3) j)) → (∀ c j, c ≠ q + 3 → c ≠ q + 4 → h1 c j = h c j) → (∀ j, j < 6 → h1 (q + 4) j = nm j) → rvR nm ks kv m' i (h1 (q + 3)) n = B → zG E mX5_holds (d + 1) 57 [zR q, zU, zU, zU, zU, zU, zU, zI n, zI i, zU] [] h1 (qI K) := by
    intro m'
    induction m' with
    | zero =>
      intro i n h1 hi w hn hb fr f4 e
      have ei : i = m := by omega
      have e4 : h1 q 4 = m := by rw [fr _ _ (by omega) (by omega)]; exact hm
      have n1 : n = 1 := w
      subst n1
      unfold rvR at e
      have fin : zG E mX5_holds (d + 1) 260 [zR q, zU, zU, zU, zU, zU, zU, zI (1 : Nat), zU, zU] [] h1 (qI K) := by
        refine bX5_holds_260 hE hq ⟨fun c => absurd rfl c, fun _ => ⟨fun c => ?_, fun c => ?_⟩⟩
        · have := hK h1 fr
          rwa [← e, bI_f (by rw [decide_eq_true_iff]; exact fun z => z.2 c)] at this
        · have := hK h1 fr
          rwa [← e, bI_t (by rw [decide_eq_true_iff]; exact ⟨rfl, c⟩)] at this
      exact bX5_holds_57 hE hq ⟨fun _ => fin, fun c => absurd (by rw [e4]; omega) c⟩
    | succ m' ih =>
      intro i n h1 hi w hn hb fr f4 e
      have him : i < m := by omega
      have e4 : h1 q 4 = m := by rw [fr _ _ (by omega) (by omega)]; exact hm
      have e1 : h1 (q + 1) i = h (q + 1) i := fr _ _ (by omega) (by omega)
      have e2 : h1 (q + 2) i = h (q + 2) i := fr _ _ (by omega) (by omega)
      have hki := hk i him
      rw [← e1, ← e2] at hki
      unfold rwR at w
      unfold rvR at e
      refine bX5_holds_57 hE hq ⟨fun c => absurd c (by rw [e4]; omega), fun _ => ⟨fun c => absurd c (by omega), fun _ => ⟨nat_in (n := 64) (by omega), fun k ek => ?_⟩⟩⟩
      rw [Int.toNat_natCast] at ek ⊢
      rw [← ek] at hki
      refine X5_isOperand hE ?_
      have nxt : ∀ (n2 : Nat) (h2 : zH) (x7 x8 : Int) (v : Int) (k0 : Nat), h2 = hset h1 (q + 3) k0 v → x7 = (n2 : Nat) → x8 = w32 ((i : Int) + 1) → rwR ks kv m' (i + 1) n2 → n2 ≤ 64 → (∀ j, j < n2 → j = k0 ∨ j < n) → vB v → rvR nm ks kv m' (i + 1) (uN (h1 (q + 3)) k0 v) n2 = B → zG E mX5_holds (d + 1) 57 [zR q, zU, zU, zU, zU, zU, zU, zI x7, zI x8, zU] [] h2 (qI K) := by
        intro n2 h2 x7 x8 v k0 eh2 e7 e8 w2 hn2 hj2 hv he
        rw [w_suc (by omega)] at e8
        rw [e7, e8]
        refine ih (i + 1) n2 h2 (by omega) w2 hn2 (fun j hj => ?_) (fun c j n1 n2 => ?_) (fun j hj => ?_) ?_
        · rw [eh2, hset_row]
          by_cases z : j = k0
          · rw [z, uN_eq]; exact hv
          · rw [uN_ne z]; exact hb j ((hj2 j hj).resolve_left z)
        · rw [eh2, hset_ne (fun z => n1 z.1)]; exact fr c j n1 n2
        · rw [eh2, hset_ne (by omega)]; exact f4 j hj
        · rw [eh2, hset_row]; exact he
      rcases hki with ⟨a0, k3, bv, b0, b9⟩ | ⟨a1, k35, k40, bk⟩ | ⟨a2, k34, b260⟩ | ⟨a2, hkb⟩
      · rw [bI_t (Or.inl k3)]
        rw [if_neg (by omega)] at w e
        rw [if_pos a0] at e
        have hn64 := w.2.1
        refine ⟨fun c => absurd c (by decide), fun _ => ⟨fun _ => ⟨fun c => absurd k3 c, fun _ => ⟨nat_in (n := 64) (by omega), nat_in (n := 64) (by omega), fun h2 eh2 x7 e7 x8 e8 => ?_⟩⟩, fun c => absurd (by omega) c⟩⟩
        rw [Int.toNat_natCast] at eh2
        rw [w_suc (by omega)] at e7
        rw [← bv] at eh2
        exact nxt (n + 1) h2 x7 x8 _ n eh2 e7 e8 w.2.2 (by omega) (fun j hj => by omega) (by unfold vB; omega) e
      · rw [bI_t (Or.inr ⟨k35, k40⟩)]
        rw [if_neg (by omega)] at w e
        rw [if_neg (by omega)] at e
        have hn64 := w.2.1
        have ew : w32 (k - 35) = ((kv i).toNat : Int) := by rw [w32i (by omega) (by omega)]; omega
        refine ⟨fun c => absurd c (by decide), fun _ => ⟨fun _ => ⟨fun _ => ⟨by rw [ew]; omega, nat_in (n := 64) (by omega), fun h2 eh2 x7 e7 x8 e8 => ?_⟩, fun c => absurd (by omega) c⟩, fun c => absurd (by omega) c⟩⟩
        rw [ew, Int.toNat_natCast, f4 _ (by omega)] at eh2
        rw [w_suc (by omega)] at e7
        exact nxt (n + 1) h2 x7 x8 _ n eh2 e7 e8 w.2.2 (by omega) (fun j hj => by omega) (hnm _) e
      · rw [bI_f (by omega)]
        rw [if_pos a2, if_pos b260] at w e
        refine ⟨fun _ => ⟨fun c => absurd k34 c, fun _ => ⟨fun _ => ?_, fun c => absurd (by omega) c⟩⟩, fun c => absurd rfl c⟩
        rw [w_p1 w.1 (by omega), Int.toNat_natCast]
        refine ⟨nat_in (n := 64) (by omega), fun c => ⟨nat_in (n := 64) (by omega), fun h2 eh2 x8 e8 => ?_⟩, fun c => ⟨nat_in (n := 64) (by omega), fun h2 eh2 x8 e8 => ?_⟩⟩
        · rw [bI_f c] at e
          exact nxt n h2 n x8 _ (n - 1) eh2 rfl e8 w.2 hn (fun j hj => Or.inr hj) (by unfold vB; omega) e
        · rw [bI_t (Decidable.not_not.mp c)] at e
          exact nxt n h2 n x8 _ (n - 1) eh2 rfl e8 w.2 hn (fun j hj => Or.inr hj) (by unfold vB; omega) e
      · have hkb' := hkb
        unfold kb at hkb'
        rw [bI_f (by omega)]
        rw [if_pos a2, if_neg (by omega)] at w e
        refine ⟨fun _ => ⟨fun _ => ⟨fun c => absurd c (by omega), fun _ => ?_⟩, fun c => absurd (by omega) c⟩, fun c => absurd rfl c⟩
        rw [w_p1 (by omega) (by omega), w_p2 w.2.1 (by omega), Int.toNat_natCast, Int.toNat_natCast]
        have b1 := hb (n - 1) (by omega)
        have b2 := hb (n - 2) (by omega)
        refine ⟨nat_in (n := 64) (by omega), nat_in (n := 64) (by omega), X5_isError hE hkb b2 b1 ⟨fun c => ?_, fun c => ?_⟩⟩
        · rw [bI_0] at c
          have ce : rEr (kv i) (h1 (q + 3) (n - 2)) (h1 (q + 3) (n - 1)) = false := by simpa using c
          rw [if_neg c] at e
          refine ⟨nat_in (n := 64) (by omega), nat_in (n := 64) (by omega), X5_join hE hkb b2 b1 ce ⟨nat_in (n := 64) (by omega), fun h2 eh2 x7 e7 x8 e8 => ?_⟩⟩
          rw [w_m1 (by omega) (by omega)] at e7
          exact nxt (n - 1) h2 x7 x8 _ (n - 2) eh2 e7 e8 w.2.2 (by omega) (fun j hj => by omega) (rJn_b b2 b1 ce) e
        · have ce : rEr (kv i) (h1 (q + 3) (n - 2)) (h1 (q + 3) (n - 1)) = true := by
            by_cases z : rEr (kv i) (h1 (q + 3) (n - 2)) (h1 (q + 3) (n - 1)) = true
            · exact z
            · exact absurd (bI_0.mpr z) c
          rw [if_pos ce] at e
          have := hK h1 fr
          rwa [← e, bI_f (by decide)] at this
  refine eX5_holds hE hq (fun h1 e1 h2 e2 h3 e3 h4 e4 h5 e5 h6 e6 => ?_)
  have := loop m 0 0 h6 (by omega) hw (by omega) (fun j hj => absurd hj (by omega)) (fun c j n1 n2 => ?_) (fun j hj => ?_) (hB0 _).symm
  · exact this
  · rw [e6, e5, e4, e3, e2, e1, hset_ne (by omega), hset_ne (by omega), hset_ne (by omega), hset_ne (by omega), hset_ne (by omega), hset_ne (by omega)]
  · rw [e6, e5, e4, e3, e2, e1]
    unfold hset
    rcases (show j = 0 ∨ j = 1 ∨ j = 2 ∨ j = 3 ∨ j = 4 ∨ j = 5 by omega) with z | z | z | z | z | z <;> subst z <;> simp
end TRule
