/-! ===== a pure layer over the worlds: whole numbers, one heap of whole numbers, cells by numbers ===== -/
section ZBase
/-- a value: 0 int, 1 long, 2 a cell's number, 4 a text constant's number, 9 nothing known -/
abbrev zV : Type := Nat × Int
abbrev zH : Type := Nat → Nat → Int
abbrev zE : Type := Launch × va_G × (Nat → Nat) × (Nat → ClassId) × (Nat → Nat × Nat) × Nat × (Nat → Nat) × (Nat → Nat)
abbrev zM : Type := MethodName × ByteArray × Nat × Option FieldType
abbrev zl (E : zE) : Launch := E.1
abbrev zD (E : zE) : va_G := E.2.1
abbrev zad (E : zE) : Nat → Nat := E.2.2.1
abbrev zcA (E : zE) : Nat → ClassId := E.2.2.2.1
abbrev zsh (E : zE) : Nat → Nat × Nat := E.2.2.2.2.1
abbrev zN (E : zE) : Nat := E.2.2.2.2.2.1
abbrev zTK (E : zE) : Nat → Nat := E.2.2.2.2.2.2.1
abbrev zTV (E : zE) : Nat → Nat := E.2.2.2.2.2.2.2
abbrev zI (x : Int) : zV := (0, x)
abbrev zJ (x : Int) : zV := (1, x)
abbrev zR (c : Nat) : zV := (2, Int.ofNat c)
abbrev zT (c : Nat) : zV := (4, Int.ofNat c)
abbrev zTB (c : Nat) : zV := (5, Int.ofNat c)
abbrev zFm : zV := (6, 0)
abbrev zU : zV := (9, 0)
def zrv (E : zE) (v : zV) : Value := match v.1 with
  | 0 => .int (Int32.ofInt v.2)
  | 1 => .long (Int64.ofInt v.2)
  | 2 => .ref (zad E v.2.toNat)
  | 5 => .ref (zTV E v.2.toNat)
  | 6 => if zTK E 9 = 0 then .null else .ref (zTV E 9)
  | _ => .ref (zTK E v.2.toNat)
def zfv (E : zE) (c : Nat) (fk : Nat × Nat) (x : Int) : Value := match fk.1 with
  | 1 => .ref (zad E (c + fk.2))
  | 2 => .ref (zad E x.toNat)
  | _ => .int (Int32.ofInt x)
def zfk (ci k : Nat) : Nat × Nat := (zfkL.getD ci []).getD k (0, 0)
def zre (E : zE) (c : Nat) (f : Nat → Int) : va_E :=
  if (zsh E c).1 = 23 then .inl (zcA E 3, (zsh E c).2, .inr (.inl (fun j => Int64.ofInt (f j))))
  else if 20 ≤ (zsh E c).1 then .inl (zcA E ((zsh E c).1 - 20), (zsh E c).2, .inl (fun j => Int32.ofInt (f j)))
  else .inr ((zsh E c).1, (List.range (zsh E c).2).map (fun j => zfv E c (zfk (zsh E c).1 j) (f j)))
def zw (E : zE) (h : zH) : va_W := (List.range (zN E)).map (fun c => (zad E c, zre E c (h c)))
def zA (E : zE) : Nat → Prop := fun q => ∃ c, c < zN E ∧ q = zad E c
def hset (h : zH) (c j : Nat) (x : Int) : zH := fun c' j' => if c' = c ∧ j' = j then x else h c' j'
/-! the wrap-arounds are chosen, not computed: nothing unfolds them by mistake -/
theorem w32_ex : ∃ f : Int → Int, ∀ x, f x = (x + 2147483648) % 4294967296 - 2147483648 := ⟨_, fun _ => rfl⟩
theorem w64_ex : ∃ f : Int → Int, ∀ x, f x = (x + 9223372036854775808) % 18446744073709551616 - 9223372036854775808 := ⟨_, fun _ => rfl⟩
noncomputable def w32 : Int → Int := Classical.choose w32_ex
noncomputable def w64 : Int → Int := Classical.choose w64_ex
theorem w32_def (x : Int) : w32 x = (x + 2147483648) % 4294967296 - 2147483648 := Classical.choose_spec w32_ex x
theorem w64_def (x : Int) : w64 x = (x + 9223372036854775808) % 18446744073709551616 - 9223372036854775808 := Classical.choose_spec w64_ex x
def r32 (x : Int) : Prop := -2147483648 ≤ x ∧ x < 2147483648
def r64 (x : Int) : Prop := -9223372036854775808 ≤ x ∧ x < 9223372036854775808
def zok (v : zV) : Prop := (v.1 = 0 → r32 v.2) ∧ (v.1 = 1 → r64 v.2)
def zokS (L : List zV) : Prop := ∀ v ∈ L, zok v
def zokH (E : zE) (h : zH) : Prop := ∀ c j, r64 (h c j) ∧ ((zsh E c).1 ≠ 23 → r32 (h c j))
def zand (a b : Int) : Int := (Int32.ofInt a &&& Int32.ofInt b).toInt
def zor (a b : Int) : Int := (Int32.ofInt a ||| Int32.ofInt b).toInt
def zandJ (a b : Int) : Int := (Int64.ofInt a &&& Int64.ofInt b).toInt
def zshl (a b : Int) : Int := (Int32.ofInt a <<< (Int32.ofInt b &&& 31)).toInt
def zshr (a b : Int) : Int := (Int32.ofInt a >>> (Int32.ofInt b &&& 31)).toInt
def zushr (a b : Int) : Int := ((Int32.ofInt a).toUInt32 >>> ((Int32.ofInt b).toUInt32 &&& Int32.toUInt32 31)).toInt32.toInt
def zcmp (a b : Int) : Int := if a > b then 1 else if a = b then 0 else -1
theorem w32_r (x : Int) : r32 (w32 x) := by unfold r32; rw [w32_def]; omega
theorem w64_r (x : Int) : r64 (w64 x) := by unfold r64; rw [w64_def]; omega
theorem w32_id {x : Int} (h : r32 x) : w32 x = x := by unfold r32 at h; rw [w32_def]; omega
theorem w64_id {x : Int} (h : r64 x) : w64 x = x := by unfold r64 at h; rw [w64_def]; omega
theorem r32_64 {x : Int} (h : r32 x) : r64 x := by unfold r32 at h; unfold r64; omega
theorem w32_bmod (x : Int) : x.bmod (2 ^ 32) = w32 x := by
  rw [w32_def, Int.bmod_def]; split <;> omega
theorem w64_bmod (x : Int) : x.bmod (2 ^ 64) = w64 x := by
  rw [w64_def, Int.bmod_def]; split <;> omega
theorem i32_to (x : Int) : (Int32.ofInt x).toInt = w32 x := by rw [Int32.toInt_ofInt]; exact w32_bmod x
theorem i64_to (x : Int) : (Int64.ofInt x).toInt = w64 x := by rw [Int64.toInt_ofInt]; exact w64_bmod x
theorem i32_w (x : Int) : Int32.ofInt (w32 x) = Int32.ofInt x := Int32.toInt_inj.mp (by rw [i32_to, i32_to]; exact w32_id (w32_r x))
theorem i64_w (x : Int) : Int64.ofInt (w64 x) = Int64.ofInt x := Int64.toInt_inj.mp (by rw [i64_to, i64_to]; exact w64_id (w64_r x))
theorem i32_self (x : Int32) : Int32.ofInt x.toInt = x := Int32.ofInt_toInt x
theorem i64_self (x : Int64) : Int64.ofInt x.toInt = x := Int64.ofInt_toInt x
theorem i32_r (x : Int32) : r32 x.toInt := ⟨by have := x.le_toInt; omega, by have := x.toInt_lt; omega⟩
theorem i64_r (x : Int64) : r64 x.toInt := ⟨by have := x.le_toInt; omega, by have := x.toInt_lt; omega⟩
theorem i32_lt {a b : Int} (ha : r32 a) (hb : r32 b) : Int32.ofInt a < Int32.ofInt b ↔ a < b := by
  rw [Int32.lt_iff_toInt_lt, i32_to, i32_to, w32_id ha, w32_id hb]
theorem i32_le {a b : Int} (ha : r32 a) (hb : r32 b) : Int32.ofInt a ≤ Int32.ofInt b ↔ a ≤ b := by
  rw [Int32.le_iff_toInt_le, i32_to, i32_to, w32_id ha, w32_id hb]
theorem i32_eq {a b : Int} (ha : r32 a) (hb : r32 b) : Int32.ofInt a = Int32.ofInt b ↔ a = b := by
  rw [← Int32.toInt_inj, i32_to, i32_to, w32_id ha, w32_id hb]
theorem i64_lt {a b : Int} (ha : r64 a) (hb : r64 b) : Int64.ofInt a < Int64.ofInt b ↔ a < b := by
  rw [Int64.lt_iff_toInt_lt, i64_to, i64_to, w64_id ha, w64_id hb]
theorem i64_eq {a b : Int} (ha : r64 a) (hb : r64 b) : Int64.ofInt a = Int64.ofInt b ↔ a = b := by
  rw [← Int64.toInt_inj, i64_to, i64_to, w64_id ha, w64_id hb]
theorem i32_add (a b : Int) : Int32.ofInt a + Int32.ofInt b = Int32.ofInt (w32 (a + b)) := by rw [i32_w, Int32.ofInt_add]
theorem i32_sub (a b : Int) : Int32.ofInt a - Int32.ofInt b = Int32.ofInt (w32 (a - b)) := by rw [i32_w, Int32.ofInt_sub]
theorem i32_mul (a b : Int) : Int32.ofInt a * Int32.ofInt b = Int32.ofInt (w32 (a * b)) := by rw [i32_w, Int32.ofInt_mul]
theorem i32_neg (a : Int) : - Int32.ofInt a = Int32.ofInt (w32 (-a)) := by rw [i32_w, Int32.ofInt_neg]
theorem i64_add (a b : Int) : Int64.ofInt a + Int64.ofInt b = Int64.ofInt (w64 (a + b)) := by rw [i64_w, Int64.ofInt_add]
theorem i64_sub (a b : Int) : Int64.ofInt a - Int64.ofInt b = Int64.ofInt (w64 (a - b)) := by rw [i64_w, Int64.ofInt_sub]
theorem i64_mul (a b : Int) : Int64.ofInt a * Int64.ofInt b = Int64.ofInt (w64 (a * b)) := by rw [i64_w, Int64.ofInt_mul]
theorem i64_neg (a : Int) : - Int64.ofInt a = Int64.ofInt (w64 (-a)) := by rw [i64_w, Int64.ofInt_neg]
theorem i32_div {a b : Int} (ha : r32 a) (hb : r32 b) : Int32.ofInt a / Int32.ofInt b = Int32.ofInt (w32 (a.tdiv b)) :=
  Int32.toInt_inj.mp (by rw [Int32.toInt_div, i32_to, i32_to, i32_to, w32_id ha, w32_id hb, w32_bmod, w32_id (w32_r _)])
theorem i64_div {a b : Int} (ha : r64 a) (hb : r64 b) : Int64.ofInt a / Int64.ofInt b = Int64.ofInt (w64 (a.tdiv b)) :=
  Int64.toInt_inj.mp (by rw [Int64.toInt_div, i64_to, i64_to, i64_to, w64_id ha, w64_id hb, w64_bmod, w64_id (w64_r _)])
theorem w32_mul_l (a b : Int) : w32 (w32 a * b) = w32 (a * b) := by
  have h : Int32.ofInt (w32 a * b) = Int32.ofInt (a * b) := by rw [Int32.ofInt_mul, i32_w, ← Int32.ofInt_mul]
  have := congrArg Int32.toInt h
  rwa [i32_to, i32_to] at this
theorem w64_mul_l (a b : Int) : w64 (w64 a * b) = w64 (a * b) := by
  have h : Int64.ofInt (w64 a * b) = Int64.ofInt (a * b) := by rw [Int64.ofInt_mul, i64_w, ← Int64.ofInt_mul]
  have := congrArg Int64.toInt h
  rwa [i64_to, i64_to] at this
theorem i32_rem {a b : Int} (ha : r32 a) (hb : r32 b) : Int32.ofInt a - Int32.ofInt a / Int32.ofInt b * Int32.ofInt b = Int32.ofInt (w32 (a.tmod b)) := by
  rw [i32_div ha hb, i32_w, i32_w, ← Int32.ofInt_mul, ← Int32.ofInt_sub, Int.tmod_def, Int.mul_comm]
theorem i64_rem {a b : Int} (ha : r64 a) (hb : r64 b) : Int64.ofInt a - Int64.ofInt a / Int64.ofInt b * Int64.ofInt b = Int64.ofInt (w64 (a.tmod b)) := by
  rw [i64_div ha hb, i64_w, i64_w, ← Int64.ofInt_mul, ← Int64.ofInt_sub, Int.tmod_def, Int.mul_comm]
theorem i32_clamp {a : Int} (h0 : 0 ≤ a) (ha : r32 a) : (Int32.ofInt a).toNatClampNeg = a.toNat := Int32.toNatClampNeg_ofInt_of_le (by have := ha.1; omega) (by have := ha.2; omega)
theorem i32_in {i : Int} {n : Nat} (h0 : 0 ≤ i) (h1 : i < n) (hr : r32 i) : vp_in (Int32.ofInt i) n := by
  refine vp_in_iff.mpr ?_
  rw [i32_to, w32_id hr]
  exact ⟨h0, h1⟩
theorem zokS_cons {v : zV} {L : List zV} : zokS (v :: L) ↔ zok v ∧ zokS L := List.forall_mem_cons
theorem zokS_nil : zokS [] := fun _ h => by cases h
theorem zok_i {x : Int} (h : r32 x) : zok (zI x) := ⟨fun _ => h, fun q => (by cases q)⟩
theorem zok_j {x : Int} (h : r64 x) : zok (zJ x) := ⟨fun q => (by cases q), fun _ => h⟩
theorem zok_r {x : Nat} : zok (zR x) := ⟨fun q => (by cases q), fun q => by cases q⟩
theorem zok_t {x : Nat} : zok (zT x) := ⟨fun q => (by cases q), fun q => by cases q⟩
theorem zok_tb {x : Nat} : zok (zTB x) := ⟨fun q => (by cases q), fun q => by cases q⟩
theorem zok_u : zok zU := ⟨fun q => (by cases q), fun q => by cases q⟩
theorem zw_at {E : zE} {h : zH} {c : Nat} (hc : c < zN E) : (zw E h)[c]? = some (zad E c, zre E c (h c)) := by
  simp [zw, hc]
theorem zw_set {E : zE} {h : zH} {c j : Nat} {x : Int} (hc : c < zN E) : (zw E h).set c (zad E c, zre E c (fun j' => if j' = j then x else h c j')) = zw E (hset h c j x) := by
  refine List.ext_getElem? fun i => ?_
  by_cases hi : i = c
  · subst hi
    rw [List.getElem?_set_self (by simp [zw, hc]), zw_at hc]
    congr 3
    funext j'
    simp [hset]
  · rw [List.getElem?_set_ne (Ne.symm hi)]
    by_cases hn : i < zN E
    · rw [zw_at hn, zw_at hn]
      congr 3
      funext j'
      simp [hset, hi]
    · simp [zw, hn]
theorem zokH_set {E : zE} {h : zH} {c j : Nat} {x : Int} (hh : zokH E h) (h1 : r64 x) (h2 : (zsh E c).1 ≠ 23 → r32 x) : zokH E (hset h c j x) := by
  intro c' j'
  unfold hset
  by_cases q : c' = c ∧ j' = j
  · rw [if_pos q]
    exact ⟨h1, fun z => h2 (q.1 ▸ z)⟩
  · rw [if_neg q]
    exact hh c' j'
theorem zV_cat_i (E : zE) (x : Int) : (zrv E (zI x)).category = 1 := rfl
/-- the locals' knowledge -/
def zlvF (E : zE) : Nat → List zV → List (Nat × Value)
  | _, [] => []
  | i, v :: L => if v.1 = 9 then zlvF E (i + 1) L else (i, zrv E v) :: zlvF E (i + 1) L
def zlv (E : zE) (L : List zV) : List (Nat × Value) := zlvF E 0 L
theorem zlvF_mem {E : zE} {q : Nat × Value} : ∀ (L : List zV) (i : Nat), q ∈ zlvF E i L ↔ ∃ (k : Nat) (v : zV), q.1 = i + k ∧ L[k]? = some v ∧ v.1 ≠ 9 ∧ q.2 = zrv E v
  | [], i => by simp [zlvF]
  | v :: L, i => by
    unfold zlvF
    have ih := zlvF_mem (E := E) (q := q) L (i + 1)
    constructor
    · intro hq
      by_cases h9 : v.1 = 9
      · rw [if_pos h9] at hq
        obtain ⟨k, w, a1, a2, a3⟩ := ih.mp hq
        exact ⟨k + 1, w, by omega, by simpa using a2, a3⟩
      · rw [if_neg h9] at hq
        rcases List.mem_cons.mp hq with rfl | hq
        · exact ⟨0, v, rfl, rfl, h9, rfl⟩
        · obtain ⟨k, w, a1, a2, a3⟩ := ih.mp hq
          exact ⟨k + 1, w, by omega, by simpa using a2, a3⟩
    · rintro ⟨k, w, a1, a2, a3, a4⟩
      cases k with
      | zero =>
        have : v = w := by simpa using a2
        subst this
        rw [if_neg a3]
        exact List.mem_cons.mpr (Or.inl (by cases q; simp_all))
      | succ k =>
        have h1 : q ∈ zlvF E (i + 1) L := ih.mpr ⟨k, w, by omega, by simpa using a2, a3, a4⟩
        by_cases h9 : v.1 = 9
        · rw [if_pos h9]; exact h1
        · rw [if_neg h9]; exact List.mem_cons_of_mem _ h1
theorem zlv_mem {E : zE} {L : List zV} {q : Nat × Value} : q ∈ zlv E L ↔ ∃ v : zV, L[q.1]? = some v ∧ v.1 ≠ 9 ∧ q.2 = zrv E v := by
  unfold zlv
  rw [zlvF_mem]
  constructor
  · rintro ⟨k, v, a1, a2⟩
    have : q.1 = k := by omega
    exact ⟨v, by rw [this]; exact a2.1, a2.2⟩
  · rintro ⟨v, a1, a2⟩
    exact ⟨q.1, v, by omega, a1, a2⟩
theorem zlv_at {E : zE} {ls : Array Slot} {nL : Nat} {L : List zV} (h : lv_has ls nL (zlv E L)) {i : Nat} {v : zV} (hv : L[i]? = some v) (h9 : v.1 ≠ 9) : ls[i]? = some (.val (zrv E v)) :=
  h.2.2 (i, zrv E v) (zlv_mem.mpr ⟨v, hv, h9, rfl⟩)
/-- a store of one slot: a long just before is gone -/
def zs1 : List zV → Nat → zV → List zV
  | [], _, _ => []
  | _ :: L, 0, v => v :: L
  | a :: L, i + 1, v => (if i = 0 ∧ a.1 = 1 then zU else a) :: zs1 L i v
/-- a store of two slots -/
def zs2 : List zV → Nat → zV → List zV
  | [], _, _ => []
  | [_], 0, v => [v]
  | _ :: _ :: L, 0, v => v :: zU :: L
  | a :: L, i + 1, v => (if i = 0 ∧ a.1 = 1 then zU else a) :: zs2 L i v
theorem zs1_at : ∀ (L : List zV) (i : Nat) (v : zV) (j : Nat) (w : zV), (zs1 L i v)[j]? = some w → w.1 ≠ 9 → (j = i ∧ w = v) ∨ (j ≠ i ∧ L[j]? = some w ∧ ¬ (j + 1 = i ∧ w.1 = 1))
  | [], i, v, j, w => by simp [zs1]
  | a :: L, 0, v, j, w => by
    intro h h9
    cases j with
    | zero => exact Or.inl ⟨rfl, by simpa [zs1] using h.symm⟩
    | succ j => exact Or.inr ⟨by omega, by simpa [zs1] using h, by omega⟩
  | a :: L, i + 1, v, j, w => by
    intro h h9
    cases j with
    | zero =>
      have h1 : (if i = 0 ∧ a.1 = 1 then zU else a) = w := by simpa [zs1] using h
      by_cases hc : i = 0 ∧ a.1 = 1
      · rw [if_pos hc] at h1
        subst h1
        exact absurd rfl h9
      · rw [if_neg hc] at h1
        subst h1
        exact Or.inr ⟨by omega, rfl, fun q => hc ⟨by omega, q.2⟩⟩
    | succ j =>
      rcases zs1_at L i v j w (by simpa [zs1] using h) h9 with ⟨a1, a2⟩ | ⟨a1, a2, a3⟩
      · exact Or.inl ⟨by omega, a2⟩
      · exact Or.inr ⟨by omega, by simpa using a2, fun q => a3 ⟨by omega, q.2⟩⟩
theorem zs2_at : ∀ (L : List zV) (i : Nat) (v : zV) (j : Nat) (w : zV), (zs2 L i v)[j]? = some w → w.1 ≠ 9 → (j = i ∧ w = v) ∨ (j ≠ i ∧ j ≠ i + 1 ∧ L[j]? = some w ∧ ¬ (j + 1 = i ∧ w.1 = 1))
  | [], i, v, j, w => by simp [zs2]
  | [a], 0, v, j, w => by
    intro h h9
    cases j with
    | zero => exact Or.inl ⟨rfl, by simpa [zs2] using h.symm⟩
    | succ j => simp [zs2] at h
  | a :: b :: L, 0, v, j, w => by
    intro h h9
    match j with
    | 0 => exact Or.inl ⟨rfl, by simpa [zs2] using h.symm⟩
    | 1 =>
      have : zU = w := by simpa [zs2] using h
      subst this
      exact absurd rfl h9
    | j + 2 => exact Or.inr ⟨by omega, by omega, by simpa [zs2] using h, by omega⟩
  | a :: L, i + 1, v, j, w => by
    intro h h9
    have hz : zs2 (a :: L) (i + 1) v = (if i = 0 ∧ a.1 = 1 then zU else a) :: zs2 L i v := by cases L <;> rfl
    rw [hz] at h
    cases j with
    | zero =>
      have h1 : (if i = 0 ∧ a.1 = 1 then zU else a) = w := by simpa using h
      by_cases hc : i = 0 ∧ a.1 = 1
      · rw [if_pos hc] at h1
        subst h1
        exact absurd rfl h9
      · rw [if_neg hc] at h1
        subst h1
        exact Or.inr ⟨by omega, by omega, rfl, fun q => hc ⟨by omega, q.2⟩⟩
    | succ j =>
      rcases zs2_at L i v j w (by simpa using h) h9 with ⟨a1, a2⟩ | ⟨a1, a2, a3, a4⟩
      · exact Or.inl ⟨by omega, a2⟩
      · exact Or.inr ⟨by omega, by omega, by simpa using a3, fun q => a4 ⟨by omega, q.2⟩⟩
theorem zrv_cat2 {E : zE} {v : zV} (h : (zrv E v).category = 2) : v.1 = 1 := by
  obtain ⟨t, x⟩ := v
  unfold zrv at h
  dsimp only at h
  split at h
  · cases h
  · rfl
  · cases h
  · cases h
  · split at h <;> cases h
  · cases h
theorem zlv_st1 {E : zE} {ls : Array Slot} {nL i : Nat} {L : List zV} {v : zV} (h : lv_has ls nL ((i, zrv E v) :: (zlv E L).filter (fun q => !(q.1 == i) && !(q.1 + 1 == i && q.2.category == 2)))) : lv_has ls nL (zlv E (zs1 L i v)) := by
  refine ⟨h.1, h.2.1, fun q hq => h.2.2 q ?_⟩
  obtain ⟨w, a1, a2, a3⟩ := zlv_mem.mp hq
  rcases zs1_at L i v q.1 w a1 a2 with ⟨b1, b2⟩ | ⟨b1, b2, b3⟩
  · subst b2
    exact List.mem_cons.mpr (Or.inl (by cases q; simp_all))
  · refine List.mem_cons_of_mem _ (List.mem_filter.mpr ⟨zlv_mem.mpr ⟨w, b2, a2, a3⟩, ?_⟩)
    have c1 : ¬ (q.1 + 1 = i ∧ q.2.category = 2) := fun z => b3 ⟨z.1, zrv_cat2 (by rw [← a3]; exact z.2)⟩
    simp [b1]
    omega
theorem zlv_st2 {E : zE} {ls : Array Slot} {nL i : Nat} {L : List zV} {v : zV} (h : lv_has ls nL ((i, zrv E v) :: (zlv E L).filter (fun q => !(q.1 == i) && (!(q.1 == i + 1) && !(q.1 + 1 == i && q.2.category == 2))))) : lv_has ls nL (zlv E (zs2 L i v)) := by
  refine ⟨h.1, h.2.1, fun q hq => h.2.2 q ?_⟩
  obtain ⟨w, a1, a2, a3⟩ := zlv_mem.mp hq
  rcases zs2_at L i v q.1 w a1 a2 with ⟨b1, b2⟩ | ⟨b1, b0, b2, b3⟩
  · subst b2
    exact List.mem_cons.mpr (Or.inl (by cases q; simp_all))
  · refine List.mem_cons_of_mem _ (List.mem_filter.mpr ⟨zlv_mem.mpr ⟨w, b2, a2, a3⟩, ?_⟩)
    have c1 : ¬ (q.1 + 1 = i ∧ q.2.category = 2) := fun z => b3 ⟨z.1, zrv_cat2 (by rw [← a3]; exact z.2)⟩
    simp [b1, b0]
    omega
theorem zokS_s1 : ∀ {L : List zV} {i : Nat} {v : zV}, zokS L → zok v → zokS (zs1 L i v)
  | [], _, _, _, _ => zokS_nil
  | _ :: _, 0, _, h, hv => zokS_cons.mpr ⟨hv, (zokS_cons.mp h).2⟩
  | a :: L, i + 1, v, h, hv => by
    refine zokS_cons.mpr ⟨?_, zokS_s1 (zokS_cons.mp h).2 hv⟩
    split
    · exact zok_u
    · exact (zokS_cons.mp h).1
theorem zokS_s2 : ∀ {L : List zV} {i : Nat} {v : zV}, zokS L → zok v → zokS (zs2 L i v)
  | [], _, _, _, _ => zokS_nil
  | [_], 0, _, _, hv => zokS_cons.mpr ⟨hv, zokS_nil⟩
  | _ :: _ :: _, 0, _, h, hv => zokS_cons.mpr ⟨hv, zokS_cons.mpr ⟨zok_u, (zokS_cons.mp (zokS_cons.mp h).2).2⟩⟩
  | a :: L, i + 1, v, h, hv => by
    have hz : zs2 (a :: L) (i + 1) v = (if i = 0 ∧ a.1 = 1 then zU else a) :: zs2 L i v := by cases L <;> rfl
    rw [hz]
    refine zokS_cons.mpr ⟨?_, zokS_s2 (zokS_cons.mp h).2 hv⟩
    split
    · exact zok_u
    · exact (zokS_cons.mp h).1
theorem zokS_at {L : List zV} {i : Nat} {v : zV} (h : zokS L) (hv : L[i]? = some v) : zok v := h v (List.mem_of_getElem? hv)
end ZBase
