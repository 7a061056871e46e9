/-! ===== topic: the reference's tokens ===== -/
section TTokr
variable {E : zE} {d : Nat} {h : zH}
def rIx (k : Int) : Int := ([0, 1, 7, 8, 9, 10, 2, 3, 4, 11, 5, 6, 12, 13, 14, 15, 16, 17, 18, 19, 20] : List Int).getD k.toNat 0
def rWd (v : Int) (len : Nat) : Int := if 6 < len then -1 else if fnd wdL v 21 0 = -1 then -1 else rIx (fnd wdL v 21 0)
def sgV (k : Int) : Int := if k = 4 then 59 else if k = 5 then 40 else if k = 6 then 41 else if k = 7 then 43 else if k = 8 then 45 else if k = 9 then 42 else if k = 10 then 47 else if k = 11 then 60 else if k = 12 then 256 else if k = 13 then 61 else if k = 14 then 257 else if k = 15 then 258 else 62
/-- the reference's sort and value of a token of the class -/
def skR (k v s w : Int) : Prop := (k = 0 ∧ s = 4) ∨ (k = 1 ∧ s = 5) ∨ (k = 2 ∧ s = 1 ∧ w = v) ∨ (k = 3 ∧ s = 2 ∧ (w = v ∨ (99999 < w ∧ 99999 < v)) ∧ 0 ≤ w ∧ w ≤ 999999 ∧ 0 ≤ v ∧ v ≤ 999999) ∨ (4 ≤ k ∧ k ≤ 16 ∧ s = 3 ∧ w = sgV k) ∨ (20 ≤ k ∧ k ≤ 40 ∧ s = 0 ∧ w = rIx (k - 20))
def TxR (h : zH) (B : Nat → Int) (n : Nat) : Prop := h 0 44 = (n : Int) ∧ n ≤ 900 ∧ ∀ j, j < n → h 1 j = B j ∧ 0 ≤ B j ∧ B j ≤ 255
def LxR (h : zH) (B : Nat → Int) (n q : Nat) : Prop := h 0 45 = (tkQ B n q : Int) ∧ h 0 46 = (tkP B n q : Int) ∧ skR (tkK B n q) (tkV B n q) (h 0 47) (h 0 48)
def frY (h h' : zH) : Prop := ∀ c j, ¬ (c = 0 ∧ 45 ≤ j ∧ j ≤ 48) → h' c j = h c j
theorem frY.rf (h : zH) : frY h h := fun _ _ _ => rfl
theorem frY.tr {h h1 h2 : zH} (a : frY h h1) (b : frY h1 h2) : frY h h2 := fun c j n => (b c j n).trans (a c j n)
theorem frY.set {h h1 : zH} (a : frY h h1) {j : Nat} {v : Int} (hj : 45 ≤ j ∧ j ≤ 48) : frY h (hset h1 0 j v) := fun c j' n => by rw [hset_ne (by omega)]; exact a c j' n
theorem TxR.mv {h' : zH} {B : Nat → Int} {n : Nat} (t : TxR h B n) (fr : frY h h') : TxR h' B n :=
  ⟨by rw [fr _ _ (by omega)]; exact t.1, t.2.1, fun j hj => by rw [fr _ _ (by omega)]; exact t.2.2 j hj⟩
def hrB (B : Nat → Int) (n p : Nat) : Int := if p < n then B p else -1
theorem X10_here (hE : isR E) {B : Nat → Int} {n p : Nat} (t : TxR h B n) (e : h 0 45 = (p : Int)) {K : Int → zH → Prop} (hK : K (hrB B n p) h) : zCI E mX10_here d [zR 0] h K := by
  have := t.2.1
  refine eX10_here hE ?_
  rw [t.1, e, Int.toNat_natCast]
  unfold hrB at hK
  refine ⟨fun c => ?_, fun c => ⟨nat_in (n := 900) (by omega), ?_⟩⟩
  · rwa [if_neg (by omega)] at hK
  · rw [(t.2.2 p (by omega)).1]
    rwa [if_pos (by omega)] at hK
theorem X10_isSmall (hE : isR E) {c : Int} {K : Int → zH → Prop} (hK : K (bI (97 ≤ c ∧ c ≤ 122)) h) : zCI E mX10_isSmall d [zI c] h K := by
  refine eX10_isSmall hE ⟨fun z => ?_, fun z => ⟨fun z2 => ?_, fun z2 => ?_⟩⟩
  · rwa [bI_f (by omega)] at hK
  · rwa [bI_f (by omega)] at hK
  · rwa [bI_t (by omega)] at hK
theorem X10_isDigit (hE : isR E) {c : Int} {K : Int → zH → Prop} (hK : K (bI (48 ≤ c ∧ c ≤ 57)) h) : zCI E mX10_isDigit d [zI c] h K := by
  refine eX10_isDigit hE ⟨fun z => ?_, fun z => ⟨fun z2 => ?_, fun z2 => ?_⟩⟩
  · rwa [bI_f (by omega)] at hK
  · rwa [bI_f (by omega)] at hK
  · rwa [bI_t (by omega)] at hK
/-! a name's letters -/
theorem X10_name (hE : isR E) {B : Nat → Int} {n p e : Nat} (t : TxR h B n) (hpe : p ≤ e) (hen : e ≤ n) (hl6 : e - p ≤ 6) (hl : ∀ j, j < e - p → 97 ≤ B (p + j) ∧ B (p + j) ≤ 122) (e46 : h 0 46 = (p : Int)) (e45 : h 0 45 = (e : Int)) {K : zH → Prop} (hK : ∀ h', (∀ c j, ¬ (c = 0 ∧ j = 48) → h' c j = h c j) → h' 0 48 = (wVal B p (e - p) : Int) → K h') : zCV E mX10_name d [zR 0] h K := by
  have h900 := t.2.1
  -- the value behind k letters
  have vb : ∀ k, k ≤ 6 → lgN B p (min k (e - p)) * 32 ^ (k - min k (e - p)) < 32 ^ k := by
    intro k hk
    have := lgN_b (B := B) (p := p) (min k (e - p)) (fun j hj => hl j (by omega))
    have e2 : 32 ^ k = 32 ^ (min k (e - p)) * 32 ^ (k - min k (e - p)) := by rw [← Nat.pow_add]; congr 1; omega
    rw [e2]
    exact Nat.mul_lt_mul_of_pos_right this (Nat.pow_pos (by omega))
  have loop : ∀ (m k : Nat), k + m = 6 → ∀ h1 : zH, (∀ c j, ¬ (c = 0 ∧ j = 48) → h1 c j = h c j) → h1 0 48 = ((lgN B p (min k (e - p)) * 32 ^ (k - min k (e - p)) : Nat) : Int) → zG E mX10_name d 7 [zR 0, zI k] [] h1 (qV K) := by
    intro m
    induction m with
    | zero =>
      intro k hk h1 fr g
      have ek : k = 6 := by omega
      subst ek
      refine bX10_name_7 hE ⟨fun _ => hK h1 fr ?_, fun c => absurd (by decide) c⟩
      rw [g]
      unfold wVal
      rw [show min 6 (e - p) = e - p by omega, show min (e - p) 6 = e - p by omega]
    | succ m ih =>
      intro k hk h1 fr g
      have bk := vb k (by omega)
      have p5 : 32 ^ k ≤ 32 ^ 5 := Nat.pow_le_pow_right (by omega) (by omega)
      have ew : w32 ((p : Int) + (k : Int)) = ((p + k : Nat) : Int) := by rw [w32i (by omega) (by omega)]; omega
      have sh : ∀ l : Nat, l < 32 → zor (zshl (h1 0 48) 5) (l : Int) = ((lgN B p (min k (e - p)) * 32 ^ (k - min k (e - p)) * 2 ^ 5 + l : Nat) : Int) := by
        intro l hl32
        rw [g]
        generalize lgN B p (min k (e - p)) * 32 ^ (k - min k (e - p)) = A at bk ⊢
        have := zshl_n (l := A) (s := 5) (by omega) (by omega)
        rw [show ((5 : Nat) : Int) = 5 from rfl] at this
        rw [this]
        exact zor_hi (by omega) (by omega)
      refine bX10_name_7 hE ⟨fun c => absurd c (by omega), fun _ => ?_⟩
      rw [fr 0 45 (by omega), fr 0 46 (by omega), e45, e46, ew, Int.toNat_natCast]
      refine ⟨fun c h3 e3 y ey => ?_, fun c => ⟨nat_in (n := 900) (by omega), fun h5 e5 y ey => ?_⟩⟩
      · rw [w_suc (by omega)] at ey
        rw [ey]
        have s0 := sh 0 (by omega)
        rw [show ((0 : Nat) : Int) = 0 from rfl] at s0
        rw [s0] at e3
        refine ih (k + 1) (by omega) h3 (fun c j n => by rw [e3, hset_ne n]; exact fr c j n) ?_
        rw [e3, hset_eq]
        congr 1
        rw [show min (k + 1) (e - p) = e - p by omega, show min k (e - p) = e - p by omega, show k + 1 - (e - p) = (k - (e - p)) + 1 by omega, show 32 ^ (k - (e - p) + 1) = 32 ^ (k - (e - p)) * 2 ^ 5 from Nat.pow_succ 32 _, Nat.add_zero, Nat.mul_assoc]
      · rw [w_suc (by omega)] at ey
        rw [ey]
        have hlk := hl k (by omega)
        have hB := t.2.2 (p + k) (by omega)
        rw [fr 1 _ (by omega), hB.1, w32i (x := B (p + k) - 97) (by omega) (by omega), w32i (x := B (p + k) - 97 + 1) (by omega) (by omega), show B (p + k) - 97 + 1 = (((B (p + k) - 96).toNat : Nat) : Int) by omega, sh _ (by omega)] at e5
        refine ih (k + 1) (by omega) h5 (fun c j n => by rw [e5, hset_ne n]; exact fr c j n) ?_
        rw [e5, hset_eq]
        congr 1
        rw [show min (k + 1) (e - p) = k + 1 by omega, show min k (e - p) = k by omega, Nat.sub_self, Nat.sub_self, lgN]
        omega
  refine eX10_name hE (fun h1 e1 => ?_)
  refine loop 6 0 rfl h1 (fun c j n => by rw [e1, hset_ne n]) ?_
  rw [e1, hset_eq]
  rw [show min 0 (e - p) = 0 by omega, lgN]
  rfl
end TTokr
