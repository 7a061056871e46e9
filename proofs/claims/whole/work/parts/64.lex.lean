/-! ===== topic: tokens; the class's lexer ===== -/
section TLex
variable {E : zE} {d : Nat} {h : zH}
/-- the end of a run of bytes -/
def ruN (P : Int → Bool) (B : Nat → Int) (n : Nat) : Nat → Nat → Nat
  | 0, p => p
  | m + 1, p => if p < n ∧ P (B p) = true then ruN P B n m (p + 1) else p
def seB (P : Int → Bool) (B : Nat → Int) (n p : Nat) : Nat := ruN P B n (n - p) p
theorem ruN_r {P : Int → Bool} {B : Nat → Int} {n : Nat} : ∀ m p, p ≤ ruN P B n m p ∧ ruN P B n m p ≤ p + m
  | 0, p => by unfold ruN; omega
  | m + 1, p => by
    have := ruN_r (P := P) (B := B) (n := n) m (p + 1)
    unfold ruN
    split <;> omega
theorem seB_r {P : Int → Bool} {B : Nat → Int} {n p : Nat} (hp : p ≤ n) : p ≤ seB P B n p ∧ seB P B n p ≤ n := by
  have := ruN_r (P := P) (B := B) (n := n) (n - p) p
  unfold seB
  omega
theorem seB_go {P : Int → Bool} {B : Nat → Int} {n p : Nat} (hp : p < n) (hb : P (B p) = true) : seB P B n p = seB P B n (p + 1) := by
  unfold seB
  rw [show n - p = (n - (p + 1)) + 1 by omega, ruN, if_pos ⟨hp, hb⟩]
theorem seB_no {P : Int → Bool} {B : Nat → Int} {n p : Nat} (hb : ¬ (p < n ∧ P (B p) = true)) : seB P B n p = p := by
  unfold seB
  cases n - p with
  | zero => rfl
  | succ m => rw [ruN, if_neg hb]
def isBl (c : Int) : Bool := decide (c = 32 ∨ c = 10)
def isLe (c : Int) : Bool := decide (97 ≤ c ∧ c ≤ 122)
def isDg (c : Int) : Bool := decide (48 ≤ c ∧ c ≤ 57)
def lgN (B : Nat → Int) (p : Nat) : Nat → Nat
  | 0 => 0
  | k + 1 => 32 * lgN B p k + (B (p + k) - 96).toNat
def wVal (B : Nat → Int) (p len : Nat) : Nat := lgN B p (min len 6) * 32 ^ (6 - min len 6)
def nuV (B : Nat → Int) (p : Nat) : Nat → Int
  | 0 => 0
  | k + 1 => min 999999 (nuV B p k * 10 + (B (p + k) - 48))
def nxB (B : Nat → Int) (n p : Nat) : Int := if p < n then B p else 32
def sgK (c s0 : Int) : Int := if c = 40 then 5 else if c = 41 then 6 else if c = 42 then 9 else if c = 43 then 7 else if c = 45 then 8 else if c = 47 then 10 else if c = 59 then 4 else if c = 60 then (if s0 = 61 then 12 else if s0 = 62 then 14 else 11) else if c = 61 then 13 else if c = 62 then (if s0 = 61 then 15 else 16) else 1
def wdK (v : Int) (len : Nat) : Int := if 6 < len then 1 else if fnd wdL v 21 0 = -1 then 2 else 20 + fnd wdL v 21 0
def tkP (B : Nat → Int) (n q : Nat) : Nat := seB isBl B n q
def t4K (B : Nat → Int) (n p : Nat) : Int := if n ≤ p then 0 else if isLe (B p) = true then wdK (wVal B p (seB isLe B n p - p) : Int) (seB isLe B n p - p) else if isDg (B p) = true then 3 else sgK (B p) (nxB B n (p + 1))
def t4V (B : Nat → Int) (n p : Nat) : Int := if n ≤ p then 0 else if isLe (B p) = true then (wVal B p (seB isLe B n p - p) : Int) else if isDg (B p) = true then nuV B p (seB isDg B n p - p) else 0
def t4Q (B : Nat → Int) (n p : Nat) : Nat := if n ≤ p then p else if isLe (B p) = true then seB isLe B n p else if isDg (B p) = true then seB isDg B n p else if sgK (B p) (nxB B n (p + 1)) = 12 ∨ sgK (B p) (nxB B n (p + 1)) = 14 ∨ sgK (B p) (nxB B n (p + 1)) = 15 then p + 2 else p + 1
def tkK (B : Nat → Int) (n q : Nat) : Int := t4K B n (tkP B n q)
def tkV (B : Nat → Int) (n q : Nat) : Int := t4V B n (tkP B n q)
def tkQ (B : Nat → Int) (n q : Nat) : Nat := t4Q B n (tkP B n q)
theorem t4Q_r {B : Nat → Int} {n p : Nat} (hp : p ≤ n) : p ≤ t4Q B n p ∧ t4Q B n p ≤ n ∧ (p < n → p < t4Q B n p) := by
  unfold t4Q
  split
  · omega
  · rename_i c
    have hpn : p < n := by omega
    split
    · rename_i c2
      rw [seB_go hpn c2]
      have := seB_r (P := isLe) (B := B) (show p + 1 ≤ n by omega)
      omega
    · split
      · rename_i c2
        rw [seB_go hpn c2]
        have := seB_r (P := isDg) (B := B) (show p + 1 ≤ n by omega)
        omega
      · split
        · rename_i c4
          have : p + 1 < n := by
            by_cases z : p + 1 < n
            · exact z
            · exfalso
              have e : nxB B n (p + 1) = 32 := if_neg z
              rw [e] at c4
              unfold sgK at c4
              have e1 : ¬ (32 : Int) = 61 := by decide
              have e2 : ¬ (32 : Int) = 62 := by decide
              simp only [if_neg e1, if_neg e2] at c4
              revert c4
              repeat' split
              all_goals decide
          omega
        · omega
/-- the lexer between two advances -/
def LxC (h : zH) (B : Nat → Int) (n q : Nat) : Prop := h 3 3 = (tkQ B n q : Int) ∧ h 3 4 = tkK B n q ∧ h 3 5 = (tkP B n q : Int) ∧ h 3 6 = tkV B n q
/-- the text under it -/
def TxC (h : zH) (B : Nat → Int) (n : Nat) : Prop := h 3 1 = ((1 : Nat) : Int) ∧ h 3 2 = (n : Int) ∧ n ≤ 900 ∧ (∀ j, j < n → h 1 j = B j ∧ 0 ≤ B j ∧ B j ≤ 255) ∧ ∀ j, j < 21 → h 4 j = wdL j
def frX (h h' : zH) : Prop := ∀ c j, ¬ (c = 3 ∧ 3 ≤ j ∧ j ≤ 6) → h' c j = h c j
theorem frX.rf (h : zH) : frX h h := fun _ _ _ => rfl
theorem frX.tr {h h1 h2 : zH} (a : frX h h1) (b : frX h1 h2) : frX h h2 := fun c j n => (b c j n).trans (a c j n)
theorem frX.set {h h1 : zH} (a : frX h h1) {j : Nat} {v : Int} (hj : 3 ≤ j ∧ j ≤ 6) : frX h (hset h1 3 j v) := fun c j' n => by rw [hset_ne (by omega)]; exact a c j' n
theorem TxC.mv {h' : zH} {B : Nat → Int} {n : Nat} (t : TxC h B n) (fr : frX h h') : TxC h' B n := by
  refine ⟨by rw [fr _ _ (by omega)]; exact t.1, by rw [fr _ _ (by omega)]; exact t.2.1, t.2.2.1, fun j hj => by rw [fr _ _ (by omega)]; exact t.2.2.2.1 j hj, fun j hj => by rw [fr _ _ (by omega)]; exact t.2.2.2.2 j hj⟩
theorem zor_hi {A b s : Nat} (hb : b < 2 ^ s) (hlt : A * 2 ^ s + b < 2147483648) : zor ((A * 2 ^ s : Nat) : Int) (b : Int) = ((A * 2 ^ s + b : Nat) : Int) := by
  unfold zor
  have e2 : Int32.ofInt ((A * 2 ^ s : Nat) : Int) ||| Int32.ofInt (b : Int) = nI ((A * 2 ^ s) ||| b) := fa_or35 _ _
  have e3 : (A * 2 ^ s) ||| b = A * 2 ^ s + b := by
    have := Nat.two_pow_add_eq_or_of_lt hb A
    rw [Nat.mul_comm A, ← this]
  rw [e2, e3, nI_toInt (by omega)]
theorem zshl_n {l s : Nat} (hs : s < 32) (hl : l * 2 ^ s < 2147483648) : zshl (l : Int) (s : Int) = ((l * 2 ^ s : Nat) : Int) := by
  have e1 : Int32.ofInt (l : Int) <<< (Int32.ofInt (s : Int) &&& 31) = nI (l * 2 ^ s) := pk_shlN (n := l) (nI s &&& 31) s (s_l35 s hs) (by omega)
  unfold zshl
  rw [e1, nI_toInt (by omega)]
theorem lgN_b {B : Nat → Int} {p : Nat} : ∀ k, (∀ j, j < k → 97 ≤ B (p + j) ∧ B (p + j) ≤ 122) → lgN B p k < 32 ^ k
  | 0, _ => by unfold lgN; decide
  | k + 1, hh => by
    have ih := lgN_b k (fun j hj => hh j (by omega))
    have := hh k (by omega)
    unfold lgN
    rw [Nat.pow_succ]
    omega
theorem wVal_step {B : Nat → Int} {p m : Nat} (hm : m < 6) (hl : ∀ j, j ≤ m → 97 ≤ B (p + j) ∧ B (p + j) ≤ 122) : zor (wVal B p m : Int) (zshl (w32 (w32 (B (p + m) - 97) + 1)) (w32 (25 - w32 (5 * (m : Int))))) = (wVal B p (m + 1) : Int) := by
  have hlm := hl m (Nat.le_refl m)
  have hb := lgN_b (B := B) (p := p) m (fun j hj => hl j (by omega))
  obtain ⟨l, el⟩ : ∃ l : Nat, B (p + m) - 96 = l := ⟨(B (p + m) - 96).toNat, by omega⟩
  have el2 : (B (p + m) - 96).toNat = l := by omega
  have hl32 : l < 32 := by omega
  rw [w32i (x := B (p + m) - 97) (by omega) (by omega), w32i (x := B (p + m) - 97 + 1) (by omega) (by omega), show B (p + m) - 97 + 1 = (l : Int) by omega, w32i (x := 5 * (m : Int)) (by omega) (by omega), w32i (by omega) (by omega), show 25 - 5 * (m : Int) = ((25 - 5 * m : Nat) : Int) by omega]
  unfold wVal
  rw [show min m 6 = m by omega, show min (m + 1) 6 = m + 1 by omega]
  have e1 : lgN B p (m + 1) = 32 * lgN B p m + l := by rw [lgN, el2]
  rw [e1]
  generalize lgN B p m = A at hb ⊢
  have key : ∀ s : Nat, s + 5 * m = 25 → A * 2 ^ (s + 5) + l * 2 ^ s < 2147483648 → l * 2 ^ s < 2 ^ (s + 5) → zor ((A * 2 ^ (s + 5) : Nat) : Int) (zshl (l : Int) (s : Int)) = ((A * 2 ^ (s + 5) + l * 2 ^ s : Nat) : Int) := by
    intro s hs h1 h2
    rw [zshl_n (by omega) (by omega)]
    exact zor_hi h2 h1
  rcases (show m = 0 ∨ m = 1 ∨ m = 2 ∨ m = 3 ∨ m = 4 ∨ m = 5 by omega) with z | z | z | z | z | z
  · subst z
    have := key 25 (by omega) (by omega) (by omega)
    rw [show A * 32 ^ (6 - 0) = A * 2 ^ (25 + 5) by omega, show 25 - 5 * 0 = 25 by omega, show (32 * A + l) * 32 ^ (6 - (0 + 1)) = A * 2 ^ (25 + 5) + l * 2 ^ 25 by omega]
    exact this
  · subst z
    have := key 20 (by omega) (by omega) (by omega)
    rw [show A * 32 ^ (6 - 1) = A * 2 ^ (20 + 5) by omega, show 25 - 5 * 1 = 20 by omega, show (32 * A + l) * 32 ^ (6 - (1 + 1)) = A * 2 ^ (20 + 5) + l * 2 ^ 20 by omega]
    exact this
  · subst z
    have := key 15 (by omega) (by omega) (by omega)
    rw [show A * 32 ^ (6 - 2) = A * 2 ^ (15 + 5) by omega, show 25 - 5 * 2 = 15 by omega, show (32 * A + l) * 32 ^ (6 - (2 + 1)) = A * 2 ^ (15 + 5) + l * 2 ^ 15 by omega]
    exact this
  · subst z
    have := key 10 (by omega) (by omega) (by omega)
    rw [show A * 32 ^ (6 - 3) = A * 2 ^ (10 + 5) by omega, show 25 - 5 * 3 = 10 by omega, show (32 * A + l) * 32 ^ (6 - (3 + 1)) = A * 2 ^ (10 + 5) + l * 2 ^ 10 by omega]
    exact this
  · subst z
    have := key 5 (by omega) (by omega) (by omega)
    rw [show A * 32 ^ (6 - 4) = A * 2 ^ (5 + 5) by omega, show 25 - 5 * 4 = 5 by omega, show (32 * A + l) * 32 ^ (6 - (4 + 1)) = A * 2 ^ (5 + 5) + l * 2 ^ 5 by omega]
    exact this
  · subst z
    have := key 0 (by omega) (by omega) (by omega)
    rw [show A * 32 ^ (6 - 5) = A * 2 ^ (0 + 5) by omega, show 25 - 5 * 5 = 0 by omega, show (32 * A + l) * 32 ^ (6 - (5 + 1)) = A * 2 ^ (0 + 5) + l * 2 ^ 0 by omega]
    exact this
theorem X1_takeWord (hE : isC E) {B : Nat → Int} {n p : Nat} (t : TxC h B n) (hp : p < n) (e3 : h 3 3 = (p : Int)) {K : zH → Prop}
    (hK : ∀ h', frX h h' → h' 3 5 = h 3 5 → h' 3 3 = (seB isLe B n p : Int) → h' 3 4 = wdK (wVal B p (seB isLe B n p - p) : Int) (seB isLe B n p - p) → h' 3 6 = (wVal B p (seB isLe B n p - p) : Int) → K h') : zCV E mX1_takeWord d [zR 3] h K := by
  have h900 := t.2.2.1
  generalize he : seB isLe B n p = e at hK
  -- the search of the word
  have fin : ∀ h1 : zH, frX h h1 → h1 3 5 = h 3 5 → h1 3 3 = (e : Int) → zG E mX1_takeWord d 89 [zR 3, zI (wVal B p (e - p) : Int), zI ((e - p : Nat) : Int), zU] [] h1 (qV K) := by
    intro h1 fr1 e5 e33
    have loop : ∀ (m k : Nat), k + m = 21 → ∀ h3 : zH, frX h h3 → h3 3 5 = h 3 5 → h3 3 3 = (e : Int) → h3 3 6 = (wVal B p (e - p) : Int) → ((h3 3 4 = 2 ∧ wdK (wVal B p (e - p) : Int) (e - p) = if fnd wdL (wVal B p (e - p) : Int) m k = -1 then 2 else 20 + fnd wdL (wVal B p (e - p) : Int) m k) ∨ (h3 3 4 ≠ 2 ∧ h3 3 4 = wdK (wVal B p (e - p) : Int) (e - p))) → zG E mX1_takeWord d 111 [zR 3, zI (wVal B p (e - p) : Int), zU, zI k] [] h3 (qV K) := by
      intro m
      induction m with
      | zero =>
        intro k hk h3 fr3 g5 g3 g6 hh
        refine bX1_takeWord_111 hE ⟨fun _ => hK h3 fr3 g5 g3 ?_ g6, fun c => absurd (by omega) c⟩
        rcases hh with ⟨q1, q2⟩ | ⟨q1, q2⟩
        · unfold fnd at q2
          rw [if_pos rfl] at q2
          rw [q1, q2]
        · exact q2
      | succ m ih =>
        intro k hk h3 fr3 g5 g3 g6 hh
        refine bX1_takeWord_111 hE ⟨fun c => absurd c (by omega), fun _ => ⟨fun c => ?_, fun c => ?_⟩⟩
        · rcases hh with ⟨q1, q2⟩ | ⟨q1, q2⟩
          · exact absurd q1 c
          · exact hK h3 fr3 g5 g3 q2 g6
        · have c' : h3 3 4 = 2 := Decidable.not_not.mp c
          obtain ⟨q1, q2⟩ := hh.resolve_right (fun z => z.1 c')
          have e4 : h3 4 k = wdL k := by rw [fr3 _ _ (by omega)]; exact t.2.2.2.2 k (by omega)
          unfold fnd at q2
          rw [Int.toNat_natCast, e4]
          refine ⟨nat_in (n := 21) (by omega), fun c2 y ey => ?_, fun c2 h5 e5' y ey => ?_⟩
          · rw [w_suc (by omega)] at ey
            rw [ey]
            rw [if_neg c2] at q2
            exact ih (k + 1) (by omega) h3 fr3 g5 g3 g6 (Or.inl ⟨q1, q2⟩)
          · rw [w_suc (by omega)] at ey
            rw [ey]
            rw [if_pos (Decidable.not_not.mp c2), if_neg (by omega)] at q2
            rw [w32i (by omega) (by omega)] at e5'
            refine ih (k + 1) (by omega) h5 (by rw [e5']; exact fr3.set (by omega)) (by rw [e5', hset_ne (by omega)]; exact g5) (by rw [e5', hset_ne (by omega)]; exact g3) (by rw [e5', hset_ne (by omega)]; exact g6) (Or.inr ⟨?_, ?_⟩)
            · rw [e5', hset_eq]; omega
            · rw [e5', hset_eq, q2]
    refine bX1_takeWord_89 hE (fun h2 e2 => ⟨fun c h3 e3' => ?_, fun c h3 e3' => ?_⟩)
    · refine loop 21 0 rfl h3 (by rw [e3', e2]; exact (fr1.set (by omega)).set (by omega)) (by rw [e3', hset_ne (by omega), e2, hset_ne (by omega)]; exact e5) (by rw [e3', hset_ne (by omega), e2, hset_ne (by omega)]; exact e33) (by rw [e3', hset_ne (by omega), e2, hset_eq]) (Or.inl ⟨by rw [e3', hset_eq], ?_⟩)
      unfold wdK
      rw [if_neg (by omega)]
    · refine loop 21 0 rfl h3 (by rw [e3', e2]; exact (fr1.set (by omega)).set (by omega)) (by rw [e3', hset_ne (by omega), e2, hset_ne (by omega)]; exact e5) (by rw [e3', hset_ne (by omega), e2, hset_ne (by omega)]; exact e33) (by rw [e3', hset_ne (by omega), e2, hset_eq]) (Or.inr ⟨by rw [e3', hset_eq]; decide, ?_⟩)
      unfold wdK
      rw [if_pos (by omega), e3', hset_eq]
  -- the letters
  have loop : ∀ (m k : Nat), p + k + m = n → seB isLe B n (p + k) = e → (∀ j, j < k → 97 ≤ B (p + j) ∧ B (p + j) ≤ 122) → ∀ h1 : zH, frX h h1 → h1 3 5 = h 3 5 → h1 3 3 = ((p + k : Nat) : Int) → zG E mX1_takeWord d 4 [zR 3, zI (wVal B p k : Int), zI k, zU] [] h1 (qV K) := by
    intro m
    induction m with
    | zero =>
      intro k hk hs hl h1 fr1 e5 e33
      have t1 := t.mv fr1
      have e0 : e = p + k := by rw [← hs]; exact seB_no (by omega)
      refine bX1_takeWord_4 hE ⟨fun _ => ?_, fun c => absurd (by rw [t1.2.1, e33]; omega) c⟩
      have := fin h1 fr1 e5 (by rw [e0]; exact e33)
      rwa [show e - p = k by omega] at this
    | succ m ih =>
      intro k hk hs hl h1 fr1 e5 e33
      have t1 := t.mv fr1
      have hB := t1.2.2.2.1 (p + k) (by omega)
      refine bX1_takeWord_4 hE ⟨fun c => absurd c (by rw [t1.2.1, e33]; omega), fun _ => ?_⟩
      rw [e33, Int.toNat_natCast, hB.1]
      have stop : ¬ (97 ≤ B (p + k) ∧ B (p + k) ≤ 122) → zG E mX1_takeWord d 89 [zR 3, zI (wVal B p k : Int), zI k, zU] [] h1 (qV K) := by
        intro q
        have e0 : e = p + k := by
          rw [← hs]
          refine seB_no (fun z => q ?_)
          have := z.2
          unfold isLe at this
          exact of_decide_eq_true this
        have := fin h1 fr1 e5 (by rw [e0]; exact e33)
        rwa [show e - p = k by omega] at this
      have b9 : (0 : Int) ≤ ((p + k : Nat) : Int) ∧ ((p + k : Nat) : Int) < 900 := nat_in (n := 900) (by omega)
      refine ⟨t1.1, b9, fun c => stop (by omega), fun c => ⟨t1.1, b9, fun c2 => stop (by omega), fun c2 => ?_⟩⟩
      have hlk : 97 ≤ B (p + k) ∧ B (p + k) ≤ 122 := by omega
      have hs2 : seB isLe B n (p + (k + 1)) = e := by
        rw [← hs]
        exact (seB_go (p := p + k) (by omega) (by unfold isLe; exact decide_eq_true hlk)).symm
      have hl2 : ∀ j, j < k + 1 → 97 ≤ B (p + j) ∧ B (p + j) ≤ 122 := fun j hj => by
        by_cases z : j = k
        · subst z; exact hlk
        · exact hl j (by omega)
      have ew : w32 (((p + k : Nat) : Int) + 1) = ((p + (k + 1) : Nat) : Int) := w_suc (by omega)
      refine ⟨fun c3 y ey h6 e6 => ?_, fun c3 => ⟨t1.1, b9, fun y7 e7 y ey h9 e9 => ?_⟩⟩
      · rw [w_suc (by omega)] at ey
        rw [ew] at e6
        rw [ey]
        have ev : wVal B p k = wVal B p (k + 1) := by
          unfold wVal
          rw [show min k 6 = 6 by omega, show min (k + 1) 6 = 6 by omega]
        rw [ev]
        exact ih (k + 1) (by omega) hs2 hl2 h6 (by rw [e6]; exact fr1.set (by omega)) (by rw [e6, hset_ne (by omega)]; exact e5) (by rw [e6, hset_eq])
      · rw [w_suc (by omega)] at ey
        rw [ew] at e9
        rw [wVal_step (by omega) (fun j hj => hl2 j (by omega))] at e7
        rw [ey, e7]
        exact ih (k + 1) (by omega) hs2 hl2 h9 (by rw [e9]; exact fr1.set (by omega)) (by rw [e9, hset_ne (by omega)]; exact e5) (by rw [e9, hset_eq])
  refine eX1_takeWord hE ?_
  have := loop (n - p) 0 (by omega) he (fun j hj => absurd hj (by omega)) h (frX.rf h) rfl e3
  have e0 : wVal B p 0 = 0 := by
    unfold wVal
    rw [show min 0 6 = 0 by omega, lgN, Nat.zero_mul]
  rw [e0] at this
  exact this
end TLex
