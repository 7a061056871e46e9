/-! ===== topic: sizes and spans of the fits ===== -/
section TSpan
variable {E : zE} {d : Nat} {h : zH}
theorem caOk.af {q : Nat} {l : List (Int × Int)} {G H r : Nat} (hc : caOk h q l G H r) {f : Nat} (hf : okF f) : h (q + 8) (r * 12 + f) = (shF l G H f).1 ∧ h (q + 7) (r * 12 + f) = 2 * (shF l G H f).2.1 := by
  have := hc.2.1 f hf
  unfold accC toC at this
  exact ⟨congrArg (fun a : zAcc => a.1) this, congrArg (fun a : zAcc => a.2.1) this⟩
theorem bsL_ok (l : List (Int × Int)) (G H : Nat) : okF (bsL l G H) := bsG_ok _ 8 (Nat.le_refl 8)
/-- the size of a shape, of the best shape -/
def szF (l : List (Int × Int)) (G H f : Nat) : Int := 2 * (shF l G H f).2.1
def szB (l : List (Int × Int)) (G H : Nat) : Int := szF l G H (bsL l G H)
theorem szF_r {l : List (Int × Int)} {G H : Nat} (hl : ptL l) (h3 : 3 ≤ l.length) (hG : G ≤ 9) (hH : H ≤ 20) (f : Nat) : 0 ≤ szF l G H f ∧ szF l G H f ≤ 1000000 := by
  have := shF_ok hl (by omega) hG hH f
  unfold szF
  unfold aOk at this
  omega
theorem X0_bestSize (hE : isC E) {q : Nat} (hq : isFi E q) {L : Nat → List (Int × Int)} {G H : Nat} (hF : FiW h q L G H) {x : Int} {K : Int → zH → Prop}
    (h1 : ¬ fitd L x → K (-1) h) (h2 : ∀ r : Nat, x = r → r < 8 → 3 ≤ (L r).length → ∀ h', frQ q h h' → FiW h' q L G H → K (szB (L r) G H) h') : zCI E mX0_bestSize (d + 4) [zR q, zI x] h K := by
  refine eX0_bestSize (d := d + 3) hE hq (X0_isFitted hE hq hF.inv ⟨fun c => ?_, fun c => h1 (fun z => c (by rw [bI_t z]; decide))⟩)
  have hf : fitd L x := by
    by_cases z : fitd L x
    · exact z
    · exact absurd (bI_0.mpr z) c
  obtain ⟨r, rfl⟩ : ∃ r : Nat, x = r := ⟨x.toNat, by omega⟩
  have hr8 : r < 8 := by omega
  have h3 : 3 ≤ (L r).length := by have := hf.2.2; rwa [Int.toNat_natCast] at this
  have ho := bsL_ok (L r) G H
  refine X0_work hE hq hF.inv hF.g9 hF.h20 hr8 (hF.pts r hr8) h3 (fun h' fr hi ca => ⟨nat_in (n := 8) hr8, ?_⟩)
  rw [Int.toNat_natCast, ca.2.2, w_ix12 (by omega) (by omega), Int.toNat_natCast, (ca.af ho).2]
  exact ⟨nat_in (n := 96) (by omega), h2 r rfl hr8 h3 h' fr ⟨hi, hF.pts, hF.g9, hF.h20⟩⟩
/-- the shapes that fit as well as the best, within a slack -/
def wlP (l : List (Int × Int)) (G H : Nat) (t : Int) (f : Nat) : Bool := decide (okF f ∧ (shF l G H f).1 ≤ (shF l G H (bsL l G H)).1 + t)
theorem X0_shapesAsWell (hE : isC E) {q : Nat} (hq : isFi E q) {L : Nat → List (Int × Int)} {G H : Nat} (hF : FiW h q L G H) {x t : Int} (ht0 : 0 ≤ t) (ht : t ≤ 100000) {K : Int → zH → Prop}
    (h1 : ¬ fitd L x → K 0 h) (h2 : ∀ r : Nat, x = r → r < 8 → 3 ≤ (L r).length → ∀ h', frQ q h h' → FiW h' q L G H → caOk h' q (L r) G H r → K (wlB (wlP (L r) G H t) 12 : Int) h') : zCI E mX0_shapesAsWell (d + 5) [zR q, zI x, zI t] h K := by
  refine eX0_shapesAsWell (d := d + 4) hE hq (X0_bestShape hE hq hF (fun nf => X0_fitAt hE hq hF (fun _ => ?_) (fun r f e _ h8 _ h3 => absurd ⟨by omega, by omega, by rw [e, Int.toNat_natCast]; exact h3⟩ nf)) (fun r e hr8 h3 h' fr hw ca => X0_fitAt hE hq hw (fun n => absurd ⟨⟨by omega, by omega, by rw [e, Int.toNat_natCast]; exact h3⟩, by have := bsL_ok (L r) G H; omega⟩ n) (fun r2 f2 e2 ef _ _ _ h'' fr2 hw2 ca2 => ?_)))
  · exact bX0_shapesAsWell_17 hE hq ⟨fun c => absurd c (by decide), fun _ => ⟨fun _ => h1 nf, fun c => absurd rfl c⟩⟩
  · have er : r2 = r := by omega
    have eb : f2 = bsL (L r) G H := by omega
    subst er
    have ho := bsL_ok (L r2) G H
    rw [← eb] at ho
    have fr' : frQ q h h'' := fr.tr fr2
    subst e
    have sh := fun f => shF_ok (hF.pts r2 hr8) (by omega) hF.g9 hF.h20 f
    have loop : ∀ (m f : Nat), f + m = 12 → zG E mX0_shapesAsWell (d + 5) 17 [zR q, zI r2, zI t, zI (wlB (wlP (L r2) G H t) f : Int), zI ((r2 * 12 + f2 : Nat) : Int), zI f] [] h'' (qI K) := by
      intro m
      induction m with
      | zero =>
        intro f hf
        have e : f = 12 := by omega
        subst e
        exact bX0_shapesAsWell_17 (d := d + 4) hE hq ⟨fun _ => h2 r2 rfl hr8 h3 h'' fr' hw2 ca2, fun c => absurd (by decide) c⟩
      | succ m ih =>
        intro f hf
        have k := ih (f + 1) (by omega)
        refine bX0_shapesAsWell_17 (d := d + 4) hE hq ⟨fun c => absurd c (by omega), fun _ => ⟨fun c => absurd c (by omega), fun _ => X9_isShape hE ⟨fun c x ex => ?_, fun c => ?_⟩⟩⟩
        · rw [w_suc (by omega)] at ex
          rw [ex]
          rw [bI_0] at c
          unfold wlB at k
          rwa [if_neg (by unfold wlP; rw [decide_eq_true_iff]; intro z; exact c (by omega))] at k
        · have hof : okF f := by
            by_cases z : okF f
            · exact z
            · exact absurd (bI_0.mpr (fun z2 => z (by omega))) c
          have a1 := sh f
          have a2 := sh f2
          unfold aOk at a1 a2
          rw [w_ix12 (by omega) (by omega), Int.toNat_natCast, Int.toNat_natCast, (ca2.af hof).1, (ca2.af ho).1, w32i (x := (shF (L r2) G H f2).1 + t) (by omega) (by omega)]
          refine ⟨nat_in (n := 96) (by omega), nat_in (n := 96) (by omega), fun c1 x ex => ?_, fun c1 x ex y ey => ?_⟩
          · rw [w_suc (by omega)] at ex
            rw [ex]
            unfold wlB at k
            rwa [if_neg (by unfold wlP; rw [decide_eq_true_iff, ← eb]; intro z; omega)] at k
          · rw [w_suc (by omega)] at ey
            rw [zor_wl (by omega) (wlB_lt _ f)] at ex
            rw [ex, ey]
            unfold wlB at k
            rwa [if_pos (by unfold wlP; rw [decide_eq_true_iff, ← eb]; exact ⟨hof, by omega⟩)] at k
    exact loop 12 0 rfl
end TSpan
