/-! ===== topic: units, lumps, best unit; both sides ===== -/
section TUnits
variable {E : zE} {d : Nat} {h : zH} {K : Int → zH → Prop}
theorem w32i {x : Int} (h1 : -2147483648 ≤ x) (h2 : x < 2147483648) : w32 x = x := w32_id ⟨h1, h2⟩
theorem w64i {x : Int} (h1 : -9223372036854775808 ≤ x) (h2 : x < 9223372036854775808) : w64 x = x := w64_id ⟨h1, h2⟩
def bI (P : Prop) [Decidable P] : Int := if P then 1 else 0
theorem bI_t {P : Prop} [Decidable P] (hp : P) : bI P = 1 := if_pos hp
theorem bI_f {P : Prop} [Decidable P] (hp : ¬ P) : bI P = 0 := if_neg hp
theorem bI_0 {P : Prop} [Decidable P] : bI P = 0 ↔ ¬ P := by unfold bI; split <;> simp_all
theorem bI_1 {P : Prop} [Decidable P] : bI P = 1 ↔ P := by unfold bI; split <;> simp_all
theorem bI_01 {P : Prop} [Decidable P] : bI P = 0 ∨ bI P = 1 := by unfold bI; split <;> simp
theorem bI_c {P Q : Prop} [Decidable P] [Decidable Q] (hpq : P ↔ Q) : bI P = bI Q := by unfold bI; simp [hpq]
def sOff (s u : Int) : Int := if 2 * (s % u) > u then u - s % u else s % u
def sTimes (s u : Int) : Int := if 2 * (s % u) > u then s / u + 1 else s / u
def sPart (u hv : Int) : Int := if hv = 0 then u else u / 2
abbrev isU (u : Int) : Prop := 100 ≤ u ∧ u ≤ 9999
abbrev areU (a b c : Int) : Prop := isU a ∧ isU b ∧ a ≤ b ∧ 1 ≤ c ∧ c ≤ 9999
def sMany (a b c : Int) : Int := (b - a) / c + 1
theorem sOff_r (s : Int) {u : Int} (hu : 0 < u) : 0 ≤ sOff s u ∧ 2 * sOff s u ≤ u := by
  have r0 := Int.emod_nonneg s (show u ≠ 0 by omega)
  have r1 := Int.emod_lt_of_pos s hu
  unfold sOff
  split <;> omega
theorem sPart_r {u hv : Int} (hu : isU u) : 50 ≤ sPart u hv ∧ sPart u hv ≤ 9999 := by
  unfold sPart
  split <;> omega
theorem sMany_r {a b c : Int} (hu : areU a b c) : 1 ≤ sMany a b c ∧ sMany a b c ≤ 9900 ∧ (sMany a b c - 1) * c ≤ b - a ∧ b - a < sMany a b c * c := by
  unfold sMany
  have h1 : 0 ≤ (b - a) / c := Int.ediv_nonneg (by omega) (by omega)
  have h2 := Int.ediv_le_self c (show 0 ≤ b - a by omega)
  have h3 := Int.lt_ediv_add_one_mul_self (b - a) (show 0 < c by omega)
  have h4 : (b - a) / c * c ≤ b - a := Int.ediv_mul_le _ (by omega)
  refine ⟨by omega, by omega, ?_, h3⟩
  rw [show (b - a) / c + 1 - 1 = (b - a) / c by omega]
  exact h4
/-! the class -/
theorem X9_isBeyond (hE : isC E) {x lo hi : Int} (hK : K (bI (x < lo ∨ hi < x)) h) : zCI E mX9_isBeyond d [zI x, zI lo, zI hi] h K := by
  refine eX9_isBeyond hE ⟨fun c => ?_, fun c => ⟨fun c2 => ?_, fun c2 => ?_⟩⟩
  · rwa [bI_t (by omega)] at hK
  · rwa [bI_f (by omega)] at hK
  · rwa [bI_t (by omega)] at hK
theorem X9_isUnit (hE : isC E) {u : Int} (hK : K (bI (isU u)) h) : zCI E mX9_isUnit d [zI u] h K := by
  refine eX9_isUnit hE ⟨fun c => ?_, fun c => ⟨fun c2 => ?_, fun c2 => ?_⟩⟩
  · rwa [bI_f (by omega)] at hK
  · rwa [bI_f (by omega)] at hK
  · rwa [bI_t (by omega)] at hK
theorem X9_isShape (hE : isC E) {s : Int} (hK : K (bI (s = 0 ∨ (4 ≤ s ∧ s < 12))) h) : zCI E mX9_isShape d [zI s] h K := by
  refine eX9_isShape hE ⟨fun c => ?_, fun c => ⟨fun c2 => ?_, fun c2 => ⟨fun c3 => ?_, fun c3 => ?_⟩⟩⟩
  · rwa [bI_t (by omega)] at hK
  · rwa [bI_f (by omega)] at hK
  · rwa [bI_f (by omega)] at hK
  · rwa [bI_t (by omega)] at hK
theorem X9_placesOf (hE : isC E) {u hv : Int} (h0 : 0 ≤ u) (h1 : u < 2147483648) (hK : K (sPart u hv) h) : zCI E mX9_placesOf d [zI u, zI hv] h K := by
  unfold sPart at hK
  refine eX9_placesOf hE ⟨fun c => ?_, fun c => ?_⟩
  · rwa [if_pos c] at hK
  · rw [if_neg c] at hK
    rwa [Int.tdiv_eq_ediv_of_nonneg h0, w32i (by omega) (by omega)]
theorem X9_stoneAt (hE : isC E) {r s : Int} (h0 : 0 ≤ r) (h1 : r < 100) (h2 : 0 ≤ s) (h3 : s < 100) (hK : K ((r * 10 + s) * 6) h) : zCI E mX9_stoneAt d [zI r, zI s] h K := by
  refine eX9_stoneAt hE ?_
  rwa [w32i (x := r * 10) (by omega) (by omega), w32i (x := r * 10 + s) (by omega) (by omega), w32i (by omega) (by omega)]
theorem X9_offBy (hE : isC E) {s u : Int} (hs : 0 ≤ s) (hu : 0 < u) (hu2 : u ≤ 9999) (hK : K (sOff s u) h) : zCI E mX9_offBy d [zI s, zI u] h K := by
  refine eX9_offBy hE ⟨fun _ => ⟨by omega, fun x e => ?_⟩, fun c => absurd hu c⟩
  have r0 := Int.emod_nonneg s (show u ≠ 0 by omega)
  have r1 := Int.emod_lt_of_pos s hu
  rw [Int.tmod_eq_emod_of_nonneg hs, w32i (by omega) (by omega)] at e
  subst e
  rw [w32i (x := 2 * (s % u)) (by omega) (by omega), w32i (x := u - s % u) (by omega) (by omega)]
  unfold sOff at hK
  refine ⟨fun c => ?_, fun c => ?_⟩
  · rwa [if_neg (by omega)] at hK
  · rwa [if_pos (by omega)] at hK
theorem X9_timesBy (hE : isC E) {s u : Int} (hs : 0 ≤ s) (hs2 : s < 2147483647) (hu : 0 < u) (hu2 : u ≤ 9999) (hK : K (sTimes s u) h) : zCI E mX9_timesBy d [zI s, zI u] h K := by
  have r0 := Int.emod_nonneg s (show u ≠ 0 by omega)
  have r1 := Int.emod_lt_of_pos s hu
  have q0 := Int.ediv_nonneg hs (show 0 ≤ u by omega)
  have q1 := Int.ediv_le_self u hs
  refine eX9_timesBy hE ⟨fun _ => ⟨by omega, fun x e => ?_⟩, fun c => absurd hu c⟩
  rw [Int.tmod_eq_emod_of_nonneg hs, w32i (by omega) (by omega)] at e
  subst e
  rw [w32i (x := 2 * (s % u)) (by omega) (by omega), Int.tdiv_eq_ediv_of_nonneg hs, w32i (x := s / u) (by omega) (by omega), w32i (x := s / u + 1) (by omega) (by omega)]
  unfold sTimes at hK
  refine ⟨fun c => ⟨by omega, ?_⟩, fun c => ⟨by omega, ?_⟩⟩
  · rwa [if_neg (by omega)] at hK
  · rwa [if_pos (by omega)] at hK
theorem X9_unitsOf (hE : isC E) {a b c : Int} (hK : K (if areU a b c then sMany a b c else 0) h) : zCI E mX9_unitsOf (d + 1) [zI a, zI b, zI c] h K := by
  refine eX9_unitsOf hE (X9_isUnit hE ⟨fun e1 => ?_, fun e1 => X9_isUnit hE ⟨fun e2 => ?_, fun e2 => ⟨fun e3 => ?_, fun e3 => ⟨fun e4 => ?_, fun e4 => ⟨fun e5 => ?_, fun e5 => ?_⟩⟩⟩⟩⟩)
  · rw [bI_0] at e1; rwa [if_neg (by omega)] at hK
  · rw [bI_0] at e2; rwa [if_neg (by omega)] at hK
  · rwa [if_neg (by omega)] at hK
  · rwa [if_neg (by omega)] at hK
  · rw [bI_0] at e1 e2
    have hu : areU a b c := by omega
    have := sMany_r hu
    unfold sMany at this hK
    rw [if_pos hu] at hK
    refine ⟨by omega, ?_⟩
    rwa [w32i (x := b - a) (by omega) (by omega), Int.tdiv_eq_ediv_of_nonneg (by omega), w32i (x := (b - a) / c) (by omega) (by omega), w32i (by omega) (by omega)]
  · rwa [if_neg (by omega)] at hK
/-! the reference -/
theorem X10_isUnit (hE : isR E) {u : Int} (hK : K (bI (isU u)) h) : zCI E mX10_isUnit d [zI u] h K := by
  refine eX10_isUnit hE ⟨fun c => ?_, fun c => ⟨fun c2 => ?_, fun c2 => ?_⟩⟩
  · rwa [bI_f (by omega)] at hK
  · rwa [bI_f (by omega)] at hK
  · rwa [bI_t (by omega)] at hK
theorem X10_isPlace (hE : isR E) {u : Int} (hK : K (bI (-999 ≤ u ∧ u ≤ 999)) h) : zCI E mX10_isPlace d [zI u] h K := by
  refine eX10_isPlace hE ⟨fun c => ?_, fun c => ⟨fun c2 => ?_, fun c2 => ?_⟩⟩
  · rwa [bI_f (by omega)] at hK
  · rwa [bI_f (by omega)] at hK
  · rwa [bI_t (by omega)] at hK
theorem X10_part (hE : isR E) {u : Int} (h0 : 0 ≤ u) (h1 : u < 2147483648) (hK : K (sPart u (h 0 57)) h) : zCI E mX10_part d [zR 0, zI u] h K := by
  unfold sPart at hK
  refine eX10_part hE ⟨fun c => ?_, fun c => ?_⟩
  · rwa [if_pos c] at hK
  · rw [if_neg c] at hK
    rwa [Int.tdiv_eq_ediv_of_nonneg h0, w32i (by omega) (by omega)]
theorem X10_offBy (hE : isR E) {s u : Int} (hs : 0 ≤ s) (hu : 0 < u) (hu2 : u ≤ 9999) (hK : K (sOff s u) h) : zCI E mX10_offBy d [zI s, zI u] h K := by
  have r0 := Int.emod_nonneg s (show u ≠ 0 by omega)
  have r1 := Int.emod_lt_of_pos s hu
  refine eX10_offBy hE ⟨by omega, by omega, ?_⟩
  rw [Int.tmod_eq_emod_of_nonneg hs, w32i (x := s % u) (by omega) (by omega), w32i (by omega) (by omega)]
  unfold sOff at hK
  by_cases c : 2 * (s % u) > u
  · rw [if_pos c] at hK
    rwa [Int.min_eq_right (by omega)]
  · rw [if_neg c] at hK
    rwa [Int.min_eq_left (by omega)]
theorem X10_timesBy (hE : isR E) {s u : Int} (hs : 0 ≤ s) (hs2 : s < 2147483647) (hu : 0 < u) (hu2 : u ≤ 9999) (hK : K (sTimes s u) h) : zCI E mX10_timesBy d [zI s, zI u] h K := by
  have r0 := Int.emod_nonneg s (show u ≠ 0 by omega)
  have r1 := Int.emod_lt_of_pos s hu
  have q0 := Int.ediv_nonneg hs (show 0 ≤ u by omega)
  have q1 := Int.ediv_le_self u hs
  refine eX10_timesBy hE ⟨by omega, by omega, ?_⟩
  rw [Int.tmod_eq_emod_of_nonneg hs, w32i (x := s % u) (by omega) (by omega), w32i (x := 2 * (s % u)) (by omega) (by omega), Int.tdiv_eq_ediv_of_nonneg hs, w32i (x := s / u) (by omega) (by omega), w32i (x := s / u + 1) (by omega) (by omega), w32i (x := s / u + 0) (by omega) (by omega)]
  unfold sTimes at hK
  refine ⟨fun c => ?_, fun c => ?_⟩
  · rw [if_neg (by omega)] at hK; rwa [Int.add_zero]
  · rwa [if_pos (by omega)] at hK
theorem X10_areUnits (hE : isR E) {a b c m : Int} (hK : K (bI (areU a b c ∧ sMany a b c ≤ m)) h) : zCI E mX10_areUnits (d + 1) [zI a, zI b, zI c, zI m] h K := by
  refine eX10_areUnits hE (X10_isUnit hE ⟨fun e1 => ?_, fun e1 => X10_isUnit hE ⟨fun e2 => ?_, fun e2 => ⟨fun e3 => ?_, fun e3 => ⟨fun e4 => ?_, fun e4 => ⟨fun e5 => ?_, fun e5 => ?_⟩⟩⟩⟩⟩)
  · rw [bI_0] at e1; rwa [bI_f (by omega)] at hK
  · rw [bI_0] at e2; rwa [bI_f (by omega)] at hK
  · rwa [bI_f (by omega)] at hK
  · rwa [bI_f (by omega)] at hK
  · rwa [bI_f (by omega)] at hK
  · rw [bI_0] at e1 e2
    have hu : areU a b c := by omega
    have := sMany_r hu
    unfold sMany at this hK
    refine ⟨by omega, ?_⟩
    rw [w32i (x := b - a) (by omega) (by omega), Int.tdiv_eq_ediv_of_nonneg (by omega), w32i (x := (b - a) / c) (by omega) (by omega), w32i (x := (b - a) / c + 1) (by omega) (by omega)]
    refine ⟨fun c2 => ?_, fun c2 => ?_⟩
    · rwa [bI_f (by omega)] at hK
    · rwa [bI_t (by omega)] at hK
/-! lumps over a row of sizes, -1 where there is none -/
def sLump (s u : Int) : Int := 4000 * sOff s u / u
def lumpsR (f : Nat → Int) (u : Int) : Nat → Int
  | 0 => 0
  | n + 1 => if f n = -1 then lumpsR f u n else lumpsR f u n + sLump (f n) u
def cntR (f : Nat → Int) : Nat → Int
  | 0 => 0
  | n + 1 => if f n = -1 then cntR f n else cntR f n + 1
theorem sLump_r (s : Int) {u : Int} (hu : 0 < u) : 0 ≤ sLump s u ∧ sLump s u ≤ 2000 := by
  have ⟨h0, h1⟩ := sOff_r s hu
  unfold sLump
  refine ⟨Int.ediv_nonneg (by omega) (by omega), ?_⟩
  have : 4000 * sOff s u / u ≤ (2000 * u) / u := Int.ediv_le_ediv hu (by omega)
  rwa [Int.mul_ediv_cancel _ (by omega)] at this
theorem lumpsR_r (f : Nat → Int) {u : Int} (hu : 0 < u) : ∀ n : Nat, 0 ≤ lumpsR f u n ∧ lumpsR f u n ≤ 2000 * n
  | 0 => by simp [lumpsR]
  | n + 1 => by
    have ih := lumpsR_r f hu n
    have t := sLump_r (f n) hu
    unfold lumpsR
    split <;> omega
theorem cntR_r (f : Nat → Int) : ∀ n : Nat, 0 ≤ cntR f n ∧ cntR f n ≤ n
  | 0 => by simp [cntR]
  | n + 1 => by
    have ih := cntR_r f n
    unfold cntR
    split <;> omega
theorem lumpsR_congr {f g : Nat → Int} {u : Int} : ∀ {n : Nat}, (∀ r, r < n → f r = g r) → lumpsR f u n = lumpsR g u n
  | 0, _ => rfl
  | n + 1, hfg => by
    unfold lumpsR
    rw [hfg n (by omega), lumpsR_congr (fun r hr => hfg r (by omega))]
theorem cntR_congr {f g : Nat → Int} : ∀ {n : Nat}, (∀ r, r < n → f r = g r) → cntR f n = cntR g n
  | 0, _ => rfl
  | n + 1, hfg => by
    unfold cntR
    rw [hfg n (by omega), cntR_congr (fun r hr => hfg r (by omega))]
theorem lumpsR_ext {f : Nat → Int} {u : Int} {n : Nat} : ∀ {m : Nat}, n ≤ m → (∀ r, n ≤ r → r < m → f r = -1) → lumpsR f u m = lumpsR f u n
  | 0, h0, _ => by have : n = 0 := by omega
                   rw [this]
  | m + 1, h0, h1 => by
    by_cases q : n = m + 1
    · rw [q]
    · rw [show lumpsR f u (m + 1) = (if f m = -1 then lumpsR f u m else lumpsR f u m + sLump (f m) u) from rfl, if_pos (h1 m (by omega) (by omega))]
      exact lumpsR_ext (by omega) (fun r a b => h1 r a (by omega))
theorem cntR_ext {f : Nat → Int} {n : Nat} : ∀ {m : Nat}, n ≤ m → (∀ r, n ≤ r → r < m → f r = -1) → cntR f m = cntR f n
  | 0, h0, _ => by have : n = 0 := by omega
                   rw [this]
  | m + 1, h0, h1 => by
    by_cases q : n = m + 1
    · rw [q]
    · rw [show cntR f (m + 1) = (if f m = -1 then cntR f m else cntR f m + 1) from rfl, if_pos (h1 m (by omega) (by omega))]
      exact cntR_ext (by omega) (fun r a b => h1 r a (by omega))
def szOk (f : Nat → Int) : Prop := ∀ r, f r = -1 ∨ (0 ≤ f r ∧ f r < 1000000000)
/-- the reference's lumps -/
theorem X10_lumpsOf (hE : isR E) {u : Int} (hu : isU u) {n : Nat} (hn : h 0 24 = n) (hn8 : n ≤ 8) (hz : szOk (h 39)) (hK : K (lumpsR (h 39) (sPart u (h 0 57)) n) h) : zCI E mX10_lumpsOf (d + 1) [zR 0, zI u] h K := by
  refine eX10_lumpsOf hE (X10_part hE (by omega) (by omega) ?_)
  have hp := sPart_r (hv := h 0 57) hu
  generalize sPart u (h 0 57) = v at hp hK ⊢
  have loop : ∀ (k i : Nat), i + k = n → zG E mX10_lumpsOf (d + 1) 11 [zR 0, zU, zI v, zI (lumpsR (h 39) v i), zI i] [] h (qI K) := by
    intro k
    induction k with
    | zero =>
      intro i hi
      have : i = n := by omega
      subst this
      exact bX10_lumpsOf_11 hE ⟨fun _ => hK, fun c => absurd (by rw [hn]; omega) c⟩
    | succ k ih =>
      intro i hi
      have hr := lumpsR_r (h 39) (u := v) (by omega) i
      have ht : (i : Int).toNat = i := by simp
      refine bX10_lumpsOf_11 hE ⟨fun c => by rw [hn] at c; omega, fun c => ⟨by omega, ?_⟩⟩
      rw [ht]
      have nx := ih (i + 1) (by omega)
      unfold lumpsR at nx
      have ei : w32 ((i : Int) + 1) = ((i + 1 : Nat) : Int) := by rw [w32i (by omega) (by omega)]; omega
      refine ⟨fun c1 x e => ?_, fun c1 => ⟨by omega, ?_⟩⟩
      · rw [ei] at e; subst e
        rwa [if_pos c1] at nx
      · have hs := (hz i).resolve_left c1
        have hl := sLump_r (h 39 i) (u := v) (by omega)
        have ho := sOff_r (h 39 i) (u := v) (by omega)
        unfold sLump at hl
        refine X10_offBy hE hs.1 (by omega) (by omega) ⟨by omega, fun x e x2 e2 => ?_⟩
        rw [ei] at e2; subst e2
        rw [w32i (x := 4000 * _) (by omega) (by omega), Int.tdiv_eq_ediv_of_nonneg (by omega), w32i (x := _ / v) (by omega) (by omega), w32i (by omega) (by omega)] at e
        subst e
        rw [if_neg c1] at nx
        exact nx
  have := loop n 0 (by omega)
  simpa [lumpsR] using this
theorem X10_reckonedMany (hE : isR E) {n : Nat} (hn : h 0 24 = n) (hn8 : n ≤ 8) (hK : K (cntR (h 39) n) h) : zCI E mX10_reckonedMany d [zR 0] h K := by
  refine eX10_reckonedMany hE ?_
  have loop : ∀ (k i : Nat), i + k = n → zG E mX10_reckonedMany d 4 [zR 0, zI (cntR (h 39) i), zI i] [] h (qI K) := by
    intro k
    induction k with
    | zero =>
      intro i hi
      have : i = n := by omega
      subst this
      exact bX10_reckonedMany_4 hE ⟨fun _ => hK, fun c => absurd (by rw [hn]; omega) c⟩
    | succ k ih =>
      intro i hi
      have hr := cntR_r (h 39) i
      have ht : (i : Int).toNat = i := by simp
      have nx := ih (i + 1) (by omega)
      unfold cntR at nx
      have ei : w32 ((i : Int) + 1) = ((i + 1 : Nat) : Int) := by rw [w32i (by omega) (by omega)]; omega
      refine bX10_reckonedMany_4 hE ⟨fun c => by rw [hn] at c; omega, fun c => ⟨by omega, ?_⟩⟩
      rw [ht]
      refine ⟨fun c1 x e x2 e2 => ?_, fun c1 x e x2 e2 => ?_⟩
      · rw [ei] at e2; subst e2
        rw [w32i (by omega) (by omega), Int.add_zero] at e; subst e
        rwa [if_pos c1] at nx
      · rw [ei] at e2; subst e2
        rw [w32i (by omega) (by omega)] at e; subst e
        rwa [if_neg c1] at nx
  have := loop n 0 (by omega)
  simpa [cntR] using this
end TUnits
