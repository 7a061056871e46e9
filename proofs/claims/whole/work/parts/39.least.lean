/-! ===== topic: of the shapes that fit as well, the one least off (class) ===== -/
section TLeast
variable {E : zE} {d : Nat} {h : zH}
def loS (P : Nat → Bool) (g : Nat → Int) : Nat → Int
  | 0 => -1
  | n + 1 => if P n then (if loS P g n = -1 then (n : Int) else if g (loS P g n).toNat ≤ g n then loS P g n else (n : Int)) else loS P g n
theorem loS_in (P : Nat → Bool) (g : Nat → Int) : ∀ n, loS P g n = -1 ∨ ∃ k : Nat, loS P g n = k ∧ k < n ∧ P k = true
  | 0 => Or.inl rfl
  | n + 1 => by
    have i := loS_in P g n
    have up : (∃ k : Nat, loS P g n = k ∧ k < n ∧ P k = true) → ∃ k : Nat, loS P g n = k ∧ k < n + 1 ∧ P k = true := fun ⟨k, a, b, c⟩ => ⟨k, a, by omega, c⟩
    unfold loS
    by_cases p : P n = true
    · rw [if_pos p]
      by_cases q : loS P g n = -1
      · rw [if_pos q]; exact Or.inr ⟨n, rfl, by omega, p⟩
      · rw [if_neg q]
        split
        · exact i.imp id up
        · exact Or.inr ⟨n, rfl, by omega, p⟩
    · rw [if_neg p]; exact i.imp id up
theorem X0_shapeLeastOff (hE : isC E) {q : Nat} (hq : isFi E q) {L : Nat → List (Int × Int)} {G H : Nat} (hF : FiW h q L G H) {x t u : Int} (ht0 : 0 ≤ t) (ht : t ≤ 100000) (hu : 0 < u) (hu2 : u ≤ 9999) {r : Nat} (e : x = r) (hr8 : r < 8) (h3 : 3 ≤ (L r).length) {K : Int → zH → Prop}
    (h2 : ∀ h', frQ q h h' → FiW h' q L G H → caOk h' q (L r) G H r → K (loS (wlP (L r) G H t) (fun f => sOff (szF (L r) G H f) u) 12) h') : zCI E mX0_shapeLeastOff (d + 6) [zR q, zI x, zI t, zI u] h K := by
  subst e
  refine eX0_shapeLeastOff (d := d + 5) hE hq (X0_shapesAsWell hE hq hF ht0 ht (fun nf => absurd ⟨by omega, by omega, by rw [Int.toNat_natCast]; exact h3⟩ nf) (fun r' er _ _ h' fr hw ca => ?_))
  have e : r' = r := by omega
  subst e
  have hz : ∀ k, 0 ≤ szF (L r') G H k := fun k => (szF_r (hF.pts r' hr8) h3 hF.g9 hF.h20 k).1
  have hbl := wlB_lt (wlP (L r') G H t) 12
  generalize hg : (fun f => sOff (szF (L r') G H f) u) = g at h2
  have eg : ∀ f, sOff (szF (L r') G H f) u = g f := fun f => congrFun hg f
  have loop : ∀ (m f : Nat), f + m = 12 → ∀ y : Int, (loS (wlP (L r') G H t) g f ≠ -1 → y = g (loS (wlP (L r') G H t) g f).toNat) → zG E mX0_shapeLeastOff (d + 6) 17 [zR q, zI r', zU, zI u, zI (wlB (wlP (L r') G H t) 12 : Int), zI (loS (wlP (L r') G H t) g f), zI y, zI f, zU] [] h' (qI K) := by
    intro m
    induction m with
    | zero =>
      intro f hf y _
      have e : f = 12 := by omega
      subst e
      exact bX0_shapeLeastOff_17 (d := d + 5) hE hq ⟨fun _ => h2 h' fr hw ca, fun c => absurd (by decide) c⟩
    | succ m ih =>
      intro f hf y hy
      have k := ih (f + 1) (by omega)
      have hbit := wlB_bit (wlP (L r') G H t) 12 f (by omega)
      refine bX0_shapeLeastOff_17 (d := d + 5) hE hq ⟨fun c => absurd c (by omega), fun _ => ?_⟩
      rw [zbit_wl hbl (by omega), hbit]
      unfold loS at k
      by_cases p : wlP (L r') G H t f = true
      · rw [if_pos p] at k ⊢
        have hof : okF f := by
          unfold wlP at p
          rw [decide_eq_true_iff] at p
          exact p.1
        rw [w_ix12 (by omega) (by omega), Int.toNat_natCast, (ca.af hof).2, show 2 * (shF (L r') G H f).2.1 = szF (L r') G H f from rfl]
        refine ⟨fun _ => ⟨nat_in (n := 96) (by omega), ?_⟩, fun c => absurd (by decide) c⟩
        refine X9_offBy hE (hz f) hu hu2 ?_
        rw [eg f]
        generalize loS (wlP (L r') G H t) g f = p0 at k hy ⊢
        refine ⟨fun c v ev => ?_, fun c => ⟨fun c2 v ev => ?_, fun c2 v ev => ?_⟩⟩
        · rw [w_suc (by omega)] at ev
          rw [ev]
          rw [if_pos c] at k
          exact k (g f) (fun _ => by rw [Int.toNat_natCast])
        · rw [w_suc (by omega)] at ev
          rw [ev]
          have e2 := hy c
          rw [if_neg c, if_pos (by rw [← e2]; exact c2)] at k
          exact k y hy
        · rw [w_suc (by omega)] at ev
          rw [ev]
          have e2 := hy c
          rw [if_neg c, if_neg (by rw [← e2]; exact c2)] at k
          exact k (g f) (fun _ => by rw [Int.toNat_natCast])
      · rw [if_neg p] at k ⊢
        refine ⟨fun c => absurd rfl c, fun _ v ev => ?_⟩
        rw [w_suc (by omega)] at ev
        rw [ev]
        exact k y hy
  exact loop 12 0 rfl 0 (fun c => absurd rfl c)
end TLeast
