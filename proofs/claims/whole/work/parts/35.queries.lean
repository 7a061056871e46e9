/-! ===== topic: what is asked of the fits ===== -/
section TQueries
variable {E : zE} {d : Nat} {h : zH}
theorem fa_or35 (a b : Nat) : nI a ||| nI b = nI (a ||| b) := by
  apply Int32.toBitVec_inj.mp
  apply BitVec.eq_of_toNat_eq
  simp [nI, Int32.toBitVec_or, Int32.toBitVec_ofNat', BitVec.toNat_or, BitVec.toNat_ofNat, Nat.or_mod_two_pow]
theorem s_l35 : ∀ n, n < 32 → ((nI n &&& 31).toBitVec.smod 32).toNat = n := by decide +kernel
/-- a set of shapes as a number -/
def wlB (P : Nat → Bool) : Nat → Nat
  | 0 => 0
  | n + 1 => if P n then wlB P n + 2 ^ n else wlB P n
theorem wlB_lt (P : Nat → Bool) : ∀ n, wlB P n < 2 ^ n
  | 0 => Nat.one_pos
  | n + 1 => by
    have := wlB_lt P n
    unfold wlB
    rw [Nat.pow_succ]
    split <;> omega
theorem wlB_bit (P : Nat → Bool) : ∀ (n f : Nat), f < n → wlB P n / 2 ^ f % 2 = if P f then 1 else 0
  | n + 1, f, hf => by
    have hl := wlB_lt P n
    unfold wlB
    by_cases e : f = n
    · subst e
      split
      · rw [Nat.add_div_right _ (Nat.two_pow_pos f), Nat.div_eq_of_lt hl]
      · rw [Nat.div_eq_of_lt hl]
    · have ih := wlB_bit P n f (by omega)
      split
      · have e2 : (2 : Nat) ^ n = 2 ^ f * (2 * 2 ^ (n - f - 1)) := by
          rw [← Nat.pow_succ', ← Nat.pow_add]; congr 1; omega
        rw [e2, Nat.add_mul_div_left _ _ (Nat.two_pow_pos f), Nat.add_mul_mod_self_left]
        exact ih
      · exact ih
theorem zor_wl {b n : Nat} (hn : n < 12) (hb : b < 2 ^ n) : zor (b : Int) (zshl 1 (n : Int)) = ((b + 2 ^ n : Nat) : Int) := by
  have hp : (2 : Nat) ^ n ≤ 2 ^ 11 := Nat.pow_le_pow_right (by omega) (by omega)
  have e1 : Int32.ofInt (1 : Int) <<< (Int32.ofInt (n : Int) &&& 31) = nI (2 ^ n) := by
    have := pk_shlN (n := 1) (nI n &&& 31) n (s_l35 n (by omega)) (by rw [Nat.one_mul]; omega)
    rw [Nat.one_mul] at this
    exact this
  unfold zor zshl
  rw [e1, nI_toInt (by omega)]
  have e2 : Int32.ofInt (b : Int) ||| Int32.ofInt ((2 ^ n : Nat) : Int) = nI (b ||| 2 ^ n) := fa_or35 b (2 ^ n)
  rw [e2]
  have e3 : b ||| 2 ^ n = b + 2 ^ n := by
    have := Nat.two_pow_add_eq_or_of_lt hb 1
    rw [Nat.mul_one] at this
    rw [Nat.or_comm, ← this, Nat.add_comm]
  rw [e3, nI_toInt (by omega)]
theorem zbit_wl {b f : Nat} (hb : b < 2 ^ 12) (hf : f < 12) : zand (zshr (b : Int) (f : Int)) 1 = ((b / 2 ^ f % 2 : Nat) : Int) := by
  have e1 : Int32.ofInt (b : Int) >>> (Int32.ofInt (f : Int) &&& 31) = nI (b / 2 ^ f) := pk_shrN (n := b) (by omega) (nI f &&& 31) f (s_l35 f (by omega))
  have hd : b / 2 ^ f ≤ b := Nat.div_le_self _ _
  unfold zand zshr
  rw [e1, nI_toInt (by omega)]
  have e2 : Int32.ofInt ((b / 2 ^ f : Nat) : Int) &&& Int32.ofInt 1 = nI (b / 2 ^ f % 2 ^ 1) := pk_andN (n := b / 2 ^ f) (by omega) 1 rfl
  rw [e2, nI_toInt (by omega)]
abbrev fitd (L : Nat → List (Int × Int)) (x : Int) : Prop := 0 ≤ x ∧ x < 8 ∧ 3 ≤ (L x.toNat).length
theorem X0_isFitted (hE : isC E) {q : Nat} (hq : isFi E q) {L : Nat → List (Int × Int)} {G H : Nat} (hF : FiInv h q L G H) {x : Int} {K : Int → zH → Prop} (hK : K (bI (fitd L x)) h) : zCI E mX0_isFitted d [zR q, zI x] h K := by
  refine eX0_isFitted hE hq ⟨fun c => ?_, fun c => ⟨fun c2 => ?_, fun c2 => ⟨by omega, ?_⟩⟩⟩
  · rwa [bI_f (fun z => absurd z.1 (by omega))] at hK
  · rwa [bI_f (fun z => absurd z.2.1 (by omega))] at hK
  · rw [(hF.2.2.2 x.toNat (by omega)).1]
    refine ⟨fun c3 => ?_, fun c3 => ?_⟩
    · rwa [bI_f (fun z => absurd z.2.2 (by omega))] at hK
    · rwa [bI_t ⟨by omega, by omega, by omega⟩] at hK
def ftN (L : Nat → List (Int × Int)) : Nat → Nat
  | 0 => 0
  | n + 1 => if 3 ≤ (L n).length then ftN L n + 1 else ftN L n
theorem ftN_le (L : Nat → List (Int × Int)) : ∀ n, ftN L n ≤ n
  | 0 => Nat.le_refl 0
  | n + 1 => by
    have := ftN_le L n
    unfold ftN
    split <;> omega
theorem X0_fittedRings (hE : isC E) {q : Nat} (hq : isFi E q) {L : Nat → List (Int × Int)} {G H : Nat} (hF : FiInv h q L G H) {K : Int → zH → Prop} (hK : K (ftN L 8 : Int) h) : zCI E mX0_fittedRings (d + 1) [zR q] h K := by
  have loop : ∀ (m r : Nat), r + m = 8 → zG E mX0_fittedRings (d + 1) 4 [zR q, zI (ftN L r : Int), zI r] [] h (qI K) := by
    intro m
    induction m with
    | zero =>
      intro r hr
      have e : r = 8 := by omega
      subst e
      exact bX0_fittedRings_4 hE hq ⟨fun _ => hK, fun c => absurd (by decide) c⟩
    | succ m ih =>
      intro r hr
      have hle := ftN_le L r
      refine bX0_fittedRings_4 hE hq ⟨fun c => absurd c (by omega), fun _ => X0_isFitted hE hq hF ⟨fun c x e => ?_, fun c x e y e' => ?_⟩⟩
      · rw [w_suc (by omega)] at e
        rw [e]
        have k := ih (r + 1) (by omega)
        rw [bI_0] at c
        unfold ftN at k
        rwa [if_neg (fun z => c ⟨by omega, by omega, by rwa [Int.toNat_natCast]⟩)] at k
      · rw [w_suc (by omega)] at e e'
        rw [e, e']
        have k := ih (r + 1) (by omega)
        unfold ftN at k
        rcases Nat.lt_or_ge (L r).length 3 with z | z
        · exact absurd (bI_0.mpr (fun z2 => by have := z2.2.2; rw [Int.toNat_natCast] at this; omega)) c
        · rwa [if_pos z] at k
  exact eX0_fittedRings hE hq (loop 8 0 rfl)
/-- the bounds under which a Fits object is asked -/
def FiW (h : zH) (q : Nat) (L : Nat → List (Int × Int)) (G H : Nat) : Prop := FiInv h q L G H ∧ (∀ r, r < 8 → ptL (L r)) ∧ G ≤ 9 ∧ H ≤ 20
theorem FiW.inv {q : Nat} {L : Nat → List (Int × Int)} {G H : Nat} (w : FiW h q L G H) : FiInv h q L G H := w.1
theorem FiW.pts {q : Nat} {L : Nat → List (Int × Int)} {G H : Nat} (w : FiW h q L G H) : ∀ r, r < 8 → ptL (L r) := w.2.1
theorem FiW.g9 {q : Nat} {L : Nat → List (Int × Int)} {G H : Nat} (w : FiW h q L G H) : G ≤ 9 := w.2.2.1
theorem FiW.h20 {q : Nat} {L : Nat → List (Int × Int)} {G H : Nat} (w : FiW h q L G H) : H ≤ 20 := w.2.2.2
theorem X0_fitAt (hE : isC E) {q : Nat} (hq : isFi E q) {L : Nat → List (Int × Int)} {G H : Nat} (hF : FiW h q L G H) {x s : Int} {K : Int → zH → Prop}
    (h1 : ¬ (fitd L x ∧ (s = 0 ∨ (4 ≤ s ∧ s < 12))) → K (-1) h) (h2 : ∀ r f : Nat, x = r → s = f → r < 8 → okF f → 3 ≤ (L r).length → ∀ h', frQ q h h' → FiW h' q L G H → caOk h' q (L r) G H r → K ((r * 12 + f : Nat) : Int) h') : zCI E mX0_fitAt (d + 4) [zR q, zI x, zI s] h K := by
  refine eX0_fitAt (d := d + 3) hE hq (X0_isFitted hE hq hF.inv ⟨fun c => h1 (fun z => bI_0.mp c z.1), fun c => X9_isShape hE ⟨fun c2 => ?_, fun c2 => h1 (fun z => c2 (by rw [bI_t z.2]; decide))⟩⟩)
  have hf : fitd L x := by
    by_cases z : fitd L x
    · exact z
    · exact absurd (bI_0.mpr z) c
  have hs : s = 0 ∨ (4 ≤ s ∧ s < 12) := by
    by_cases z : s = 0 ∨ (4 ≤ s ∧ s < 12)
    · exact z
    · exact absurd (bI_0.mpr z) c2
  obtain ⟨r, rfl⟩ : ∃ r : Nat, x = r := ⟨x.toNat, by omega⟩
  obtain ⟨f, rfl⟩ : ∃ f : Nat, s = f := ⟨s.toNat, by omega⟩
  have hr8 : r < 8 := by omega
  have h3 : 3 ≤ (L r).length := by have := hf.2.2; rwa [Int.toNat_natCast] at this
  refine X0_work hE hq hF.inv hF.g9 hF.h20 hr8 (hF.pts r hr8) h3 (fun h' fr hi ca => ?_)
  rw [w_ix12 (by omega) (by omega)]
  exact h2 r f rfl rfl hr8 (by unfold okF; omega) h3 h' fr ⟨hi, hF.pts, hF.g9, hF.h20⟩ ca
theorem X0_bestShape (hE : isC E) {q : Nat} (hq : isFi E q) {L : Nat → List (Int × Int)} {G H : Nat} (hF : FiW h q L G H) {x : Int} {K : Int → zH → Prop}
    (h1 : ¬ fitd L x → K (-1) h) (h2 : ∀ r : Nat, x = r → r < 8 → 3 ≤ (L r).length → ∀ h', frQ q h h' → FiW h' q L G H → caOk h' q (L r) G H r → K (bsL (L r) G H : Int) h') : zCI E mX0_bestShape (d + 4) [zR q, zI x] h K := by
  refine eX0_bestShape (d := d + 3) hE hq (X0_isFitted hE hq hF.inv ⟨fun c => ?_, fun c => h1 (fun z => c (by rw [bI_t z]; decide))⟩)
  have hf : fitd L x := by
    by_cases z : fitd L x
    · exact z
    · exact absurd (bI_0.mpr z) c
  obtain ⟨r, rfl⟩ : ∃ r : Nat, x = r := ⟨x.toNat, by omega⟩
  have hr8 : r < 8 := by omega
  have h3 : 3 ≤ (L r).length := by have := hf.2.2; rwa [Int.toNat_natCast] at this
  refine X0_work hE hq hF.inv hF.g9 hF.h20 hr8 (hF.pts r hr8) h3 (fun h' fr hi ca => ⟨nat_in (n := 8) hr8, ?_⟩)
  rw [Int.toNat_natCast, ca.2.2]
  exact h2 r rfl hr8 h3 h' fr ⟨hi, hF.pts, hF.g9, hF.h20⟩ ca
end TQueries
