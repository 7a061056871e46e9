/-! ===== topic: how far a stone is away; both sides ===== -/
section TAway
variable {E : zE} {d : Nat} {h : zH} {K : Int → zH → Prop}
def sStr (v its : Int) : Int := if its = 1 then (v * 4).tdiv 3 else (v * 3).tdiv 4
abbrev pA (a sort turn : Int) : Prop := 0 < sort ∧ ((turn = 0 ∧ 0 < a) ∨ (turn = 2 ∧ a < 0))
abbrev pB (b sort turn : Int) : Prop := 0 < sort ∧ ((turn = 1 ∧ 0 < b) ∨ (turn = 3 ∧ b < 0))
def sA (a sort turn : Int) : Int := if pA a sort turn then sStr a sort else a
def sB (b sort turn : Int) : Int := if pB b sort turn then sStr b sort else b
def sDist (a b : Int) : Int := sRt (10000 * (a * a + b * b))
def sAway (a b sort turn : Int) : Int := sDist (sA a sort turn) (sB b sort turn)
theorem tdiv_neg' {a b : Int} (ha : a < 0) : a.tdiv b = -((-a) / b) := by
  have h1 : a.tdiv b = -((-a).tdiv b) := by rw [Int.neg_tdiv]; omega
  rw [h1, Int.tdiv_eq_ediv_of_nonneg (by omega)]
theorem sStr_r {v its : Int} (h1 : -2500 ≤ v) (h2 : v ≤ 2500) : -3400 ≤ sStr v its ∧ sStr v its ≤ 3400 ∧ w32 (Int.tdiv (w32 (v * 4)) 3) = (v * 4).tdiv 3 ∧ w32 (Int.tdiv (w32 (v * 3)) 4) = (v * 3).tdiv 4 := by
  rw [w32i (x := v * 4) (by omega) (by omega), w32i (x := v * 3) (by omega) (by omega)]
  unfold sStr
  rcases Int.lt_or_le v 0 with q | q
  · rw [tdiv_neg' (a := v * 4) (by omega), tdiv_neg' (a := v * 3) (by omega), w32i (by omega) (by omega), w32i (by omega) (by omega)]
    split <;> omega
  · rw [Int.tdiv_eq_ediv_of_nonneg (a := v * 4) (by omega), Int.tdiv_eq_ediv_of_nonneg (a := v * 3) (by omega), w32i (by omega) (by omega), w32i (by omega) (by omega)]
    split <;> omega
theorem sq_r {x B : Int} (h1 : -B ≤ x) (h2 : x ≤ B) : 0 ≤ x * x ∧ x * x ≤ B * B := by
  rcases Int.lt_or_le x 0 with q | q
  · have e : x * x = (-x) * (-x) := by grind
    rw [e]
    exact ⟨Int.mul_nonneg (by omega) (by omega), sq_le (by omega) (by omega)⟩
  · exact ⟨Int.mul_nonneg q q, sq_le q h2⟩
theorem sA_r {a sort turn : Int} (h1 : -2500 ≤ a) (h2 : a ≤ 2500) : -3400 ≤ sA a sort turn ∧ sA a sort turn ≤ 3400 := by
  have := sStr_r (its := sort) h1 h2
  unfold sA
  split <;> omega
theorem sB_r {a sort turn : Int} (h1 : -2500 ≤ a) (h2 : a ≤ 2500) : -3400 ≤ sB a sort turn ∧ sB a sort turn ≤ 3400 := by
  have := sStr_r (its := sort) h1 h2
  unfold sB
  split <;> omega
theorem sDist_r {a b : Int} (h1 : -3400 ≤ a) (h2 : a ≤ 3400) (h3 : -3400 ≤ b) (h4 : b ≤ 3400) : 0 ≤ sDist a b ∧ sDist a b ≤ 500000 := by
  have q1 := sq_r h1 h2
  have q2 := sq_r h3 h4
  unfold sDist
  exact ⟨(sRt_spec (by omega)).1, sRt_le (by omega) (by omega) (by omega)⟩
theorem sAway_r {a b sort turn : Int} (h1 : -2500 ≤ a) (h2 : a ≤ 2500) (h3 : -2500 ≤ b) (h4 : b ≤ 2500) : 0 ≤ sAway a b sort turn ∧ sAway a b sort turn ≤ 500000 := by
  have q1 := sA_r (sort := sort) (turn := turn) h1 h2
  have q2 := sB_r (sort := sort) (turn := turn) h3 h4
  exact sDist_r q1.1 q1.2 q2.1 q2.2
theorem X10_stretched (hE : isR E) {v its : Int} (h1 : -2500 ≤ v) (h2 : v ≤ 2500) (hK : K (sStr v its) h) : zCI E mX10_stretched d [zI v, zI its] h K := by
  have r := sStr_r (its := its) h1 h2
  refine eX10_stretched hE ⟨fun c => ?_, fun c => ?_⟩
  · rw [r.2.2.2]
    unfold sStr at hK
    rwa [if_neg c] at hK
  · rw [r.2.2.1]
    unfold sStr at hK
    rwa [if_pos (by omega)] at hK
theorem X10_awayFrom (hE : isR E) {k : Nat} (hk : k < 10) {x y sort turn : Int} (hx1 : -2500 ≤ h 30 k - x) (hx2 : h 30 k - x ≤ 2500) (hy1 : -2500 ≤ h 31 k - y) (hy2 : h 31 k - y ≤ 2500) (hK : K (sAway (h 30 k - x) (h 31 k - y) sort turn) h) : zCI E mX10_awayFrom (d + 1) [zR 0, zI k, zI x, zI y, zI sort, zI turn] h K := by
  have ht : (k : Int).toNat = k := by simp
  refine eX10_awayFrom hE ⟨by omega, fun a ea => ⟨by omega, fun b eb => ?_⟩⟩
  rw [ht] at ea eb
  rw [w32i (by omega) (by omega)] at ea eb
  subst ea eb
  generalize h 30 k - x = a at hx1 hx2 hK ⊢
  generalize h 31 k - y = b at hy1 hy2 hK ⊢
  have g91 : ∀ a' b' : Int, -3400 ≤ a' → a' ≤ 3400 → -3400 ≤ b' → b' ≤ 3400 → sDist a' b' = sAway a b sort turn → zG E mX10_awayFrom (d + 1) 91 [zU, zU, zU, zU, zU, zU, zI a', zI b'] [] h (qI K) := by
    intro a' b' c1 c2 c3 c4 e
    have q1 := sq_r c1 c2
    have q2 := sq_r c3 c4
    refine bX10_awayFrom_91 hE ?_
    rw [w64i (x := a' * a') (by omega) (by omega), w64i (x := b' * b') (by omega) (by omega), w64i (x := a' * a' + b' * b') (by omega) (by omega), w64i (by omega) (by omega)]
    refine X10_root hE (by omega) (by omega) ?_
    unfold sDist at e
    rw [e]; exact hK
  have rb := sB_r (sort := sort) (turn := turn) hy1 hy2
  have g55 : ∀ a' : Int, -3400 ≤ a' → a' ≤ 3400 → a' = sA a sort turn → zG E mX10_awayFrom (d + 1) 55 [zU, zU, zU, zU, zI sort, zI turn, zI a', zI b] [] h (qI K) := by
    intro a' c1 c2 e
    have no : ¬ pB b sort turn → zG E mX10_awayFrom (d + 1) 91 [zU, zU, zU, zU, zU, zU, zI a', zI b] [] h (qI K) := fun z => g91 a' b c1 c2 (by omega) (by omega) (by unfold sAway sB; rw [if_neg z, e])
    have yes : pB b sort turn → zCI E mX10_stretched d [zI b, zI sort] h (fun r h' => zG E mX10_awayFrom (d + 1) 91 [zU, zU, zU, zU, zU, zU, zI a', zI r] [] h' (qI K)) := by
      intro z
      have sr := sStr_r (its := sort) hy1 hy2
      exact X10_stretched hE hy1 hy2 (g91 a' _ c1 c2 sr.1 sr.2.1 (by unfold sAway sB; rw [if_pos z, e]))
    exact bX10_awayFrom_55 hE ⟨fun c => no (by omega), fun c => ⟨fun c2 => ⟨fun c3 => no (by omega), fun c3 => ⟨fun c4 => no (by omega), fun c4 => yes (by omega)⟩⟩, fun c2 => ⟨fun c3 => yes (by omega), fun c3 => ⟨fun c4 => no (by omega), fun c4 => ⟨fun c5 => no (by omega), fun c5 => yes (by omega)⟩⟩⟩⟩⟩
  have no : ¬ pA a sort turn → zG E mX10_awayFrom (d + 1) 55 [zU, zU, zU, zU, zI sort, zI turn, zI a, zI b] [] h (qI K) := fun z => g55 a (by omega) (by omega) (by unfold sA; rw [if_neg z])
  have yes : pA a sort turn → zCI E mX10_stretched d [zI a, zI sort] h (fun r h' => zG E mX10_awayFrom (d + 1) 55 [zU, zU, zU, zU, zI sort, zI turn, zI r, zI b] [] h' (qI K)) := by
    intro z
    have sr := sStr_r (its := sort) hx1 hx2
    exact X10_stretched hE hx1 hx2 (g55 _ sr.1 sr.2.1 (by unfold sA; rw [if_pos z]))
  exact ⟨fun c => no (by omega), fun c => ⟨fun c2 => ⟨fun c3 => no (by omega), fun c3 => ⟨fun c4 => no (by omega), fun c4 => yes (by omega)⟩⟩, fun c2 => ⟨fun c3 => yes (by omega), fun c3 => ⟨fun c4 => no (by omega), fun c4 => ⟨fun c5 => no (by omega), fun c5 => yes (by omega)⟩⟩⟩⟩⟩
theorem X0_awayBy (hE : isC E) {q : Nat} (hq : isFi E q) {i : Nat} (hi : i < 10) {f a b : Int} (hf0 : 0 ≤ f) (hf : f < 12) (hv : f = 0 ∨ 4 ≤ f) (hx1 : -2500 ≤ a) (hx2 : a ≤ 2500) (hy1 : -2500 ≤ b) (hy2 : b ≤ 2500) (hg : ∀ j, h (q + 11) j < 1099511627776) (hr : f ≠ 0 → h (q + 11) i = sDist a b) (hK : K (sAway a b (f / 4) (f % 4)) h) : zCJ E mX0_awayBy (d + 1) [zR q, zI i, zI f, zI a, zI b] h K := by
  have ht : (i : Int).toNat = i := by simp
  have g126 : ∀ a' b' : Int, -3400 ≤ a' → a' ≤ 3400 → -3400 ≤ b' → b' ≤ 3400 → sDist a' b' = sAway a b (f / 4) (f % 4) → zG E mX0_awayBy (d + 1) 126 [zR q, zI i, zI f, zU, zU, zU, zU, zI a', zI b'] [] h (qJ K) := by
    intro a' b' c1 c2 c3 c4 e
    have q1 := sq_r c1 c2
    have q2 := sq_r c3 c4
    have ei : w32 (w32 (f * 10) + (i : Int)) = f * 10 + i := by rw [w32i (x := f * 10) (by omega) (by omega), w32i (by omega) (by omega)]
    refine bX0_awayBy_126 hE hq ⟨by rw [ei]; omega, ?_⟩
    rw [w32i (x := a' * a') (by omega) (by omega), w32i (x := b' * b') (by omega) (by omega), w32i (x := a' * a' + b' * b') (by omega) (by omega), w64i (x := 10000 * _) (by omega) (by omega)]
    refine X9_rootOf hE (by omega) (by omega) (hg _) ?_
    unfold sDist at e
    rw [e]; exact hK
  have sra := sStr_r (its := f / 4) hx1 hx2
  have srb := sStr_r (its := f / 4) hy1 hy2
  have g49 : ∀ fl : Int, (fl = 1 ∨ fl = 0) → (fl = 1 ↔ f / 4 = 1) → pA a (f / 4) (f % 4) → zG E mX0_awayBy (d + 1) 49 [zR q, zI i, zI f, zI a, zU, zI fl, zU, zU, zI b] [] h (qJ K) := by
    intro fl hfl hfi hp
    have eB : sB b (f / 4) (f % 4) = b := by unfold sB; rw [if_neg (by omega)]
    have eA : sA a (f / 4) (f % 4) = sStr a (f / 4) := by unfold sA; rw [if_pos hp]
    have fin := g126 (sStr a (f / 4)) b sra.1 sra.2.1 (by omega) (by omega) (by unfold sAway; rw [eA, eB])
    refine bX0_awayBy_49 hE hq ⟨fun c x e => ?_, fun c x e => ?_⟩
    · rw [sra.2.2.2] at e
      have : x = sStr a (f / 4) := by unfold sStr; rw [if_neg (by omega)]; exact e
      rw [this]; exact fin
    · rw [sra.2.2.1] at e
      have : x = sStr a (f / 4) := by unfold sStr; rw [if_pos (by omega)]; exact e
      rw [this]; exact fin
  have g94 : ∀ fl : Int, (fl = 1 ∨ fl = 0) → (fl = 1 ↔ f / 4 = 1) → pB b (f / 4) (f % 4) → zG E mX0_awayBy (d + 1) 94 [zR q, zI i, zI f, zU, zI b, zI fl, zU, zI a, zU] [] h (qJ K) := by
    intro fl hfl hfi hp
    have eA : sA a (f / 4) (f % 4) = a := by unfold sA; rw [if_neg (by omega)]
    have eB : sB b (f / 4) (f % 4) = sStr b (f / 4) := by unfold sB; rw [if_pos hp]
    have fin := g126 a (sStr b (f / 4)) (by omega) (by omega) srb.1 srb.2.1 (by unfold sAway; rw [eA, eB])
    refine bX0_awayBy_94 hE hq ⟨fun c x e => ?_, fun c x e => ?_⟩
    · rw [srb.2.2.2] at e
      have : x = sStr b (f / 4) := by unfold sStr; rw [if_neg (by omega)]; exact e
      rw [this]; exact fin
    · rw [srb.2.2.1] at e
      have : x = sStr b (f / 4) := by unfold sStr; rw [if_pos (by omega)]; exact e
      rw [this]; exact fin
  have same : f ≠ 0 → ¬ pA a (f / 4) (f % 4) → ¬ pB b (f / 4) (f % 4) → ((0 : Int) ≤ (i : Int) ∧ (i : Int) < 120) ∧ K (h (q + 11) (i : Int).toNat) h := by
    intro c0 c1 c2
    refine ⟨by omega, ?_⟩
    rw [ht, hr c0]
    have e : sAway a b (f / 4) (f % 4) = sDist a b := by unfold sAway sA sB; rw [if_neg c1, if_neg c2]
    rw [← e]; exact hK
  have g83 : ∀ fl : Int, (fl = 1 ∨ fl = 0) → (fl = 1 ↔ f / 4 = 1) → f ≠ 0 → 0 < f / 4 → ¬ pA a (f / 4) (f % 4) → ¬ (f % 4 = 1 ∧ 0 < b) → zG E mX0_awayBy (d + 1) 83 [zR q, zI i, zI f, zU, zI b, zI fl, zI (f % 4), zI a, zU] [] h (qJ K) := by
    intro fl hfl hfi c0 cs c1 c2
    exact bX0_awayBy_83 hE hq ⟨fun c => same c0 c1 (by omega), fun c => ⟨fun c3 => same c0 c1 (by omega), fun c3 => g94 fl hfl hfi (by omega)⟩⟩
  have g39 : ∀ fl : Int, (fl = 1 ∨ fl = 0) → (fl = 1 ↔ f / 4 = 1) → f ≠ 0 → 0 < f / 4 → ¬ (f % 4 = 0 ∧ 0 < a) → zG E mX0_awayBy (d + 1) 39 [zR q, zI i, zI f, zI a, zI b, zI fl, zI (f % 4), zI a, zI b] [] h (qJ K) := by
    intro fl hfl hfi c0 cs c1
    exact bX0_awayBy_39 hE hq ⟨fun c => ⟨fun c2 => g83 fl hfl hfi c0 cs (by omega) (by omega), fun c2 => ⟨fun c3 => g94 fl hfl hfi (by omega), fun c3 => g83 fl hfl hfi c0 cs (by omega) (by omega)⟩⟩, fun c => ⟨fun c2 => ⟨fun c3 => g83 fl hfl hfi c0 cs (by omega) (by omega), fun c3 => ⟨fun c4 => g94 fl hfl hfi (by omega), fun c4 => g83 fl hfl hfi c0 cs (by omega) (by omega)⟩⟩, fun c2 => g49 fl hfl hfi (by omega)⟩⟩
  have g12 : ∀ fl : Int, (fl = 1 ∨ fl = 0) → (fl = 1 ↔ f / 4 = 1) → zG E mX0_awayBy (d + 1) 12 [zR q, zI i, zI f, zI a, zI b, zU, zU, zU, zU] [zI fl] h (qJ K) := by
    intro fl hfl hfi
    refine bX0_awayBy_12 hE hq (fun t et => ?_)
    rw [Int.tmod_eq_emod_of_nonneg hf0, w32i (by omega) (by omega)] at et
    subst et
    refine ⟨fun c => ?_, fun c => ?_⟩
    · refine g126 a b (by omega) (by omega) (by omega) (by omega) ?_
      unfold sAway sA sB
      rw [if_neg (by omega), if_neg (by omega)]
    · by_cases cs : 0 < f / 4
      · exact ⟨fun c2 => g39 fl hfl hfi c cs (by omega), fun c2 => ⟨fun c3 => g49 fl hfl hfi (by omega), fun c3 => g39 fl hfl hfi c cs (by omega)⟩⟩
      · exact absurd hv (by omega)
  refine eX0_awayBy hE hq ?_
  rw [Int.tdiv_eq_ediv_of_nonneg hf0, w32i (by omega) (by omega)]
  exact ⟨fun c => g12 0 (Or.inr rfl) (by omega), fun c => g12 1 (Or.inl rfl) (by omega)⟩
end TAway
