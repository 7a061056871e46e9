/-! ===== topic: spans, class and reference ===== -/
section TSpans
variable {E : zE} {d : Nat} {h : zH}
theorem X0_edgeOfSpan (hE : isC E) {q : Nat} (hq : isFi E q) {L : Nat → List (Int × Int)} {G H : Nat} (hF : FiW h q L G H) {x t w : Int} (ht0 : 0 ≤ t) (ht : t ≤ 100000) {K : Int → zH → Prop}
    (h1 : ¬ fitd L x → K (-1) h) (h2 : ∀ r : Nat, x = r → r < 8 → 3 ≤ (L r).length → ∀ h', frQ q h h' → FiW h' q L G H → K (spS (wlP (L r) G H t) (szF (L r) G H) w 12) h') : zCI E mX0_edgeOfSpan (d + 6) [zR q, zI x, zI t, zI w] h K := by
  refine eX0_edgeOfSpan (d := d + 5) hE hq (X0_shapesAsWell hE hq hF ht0 ht (fun nf => ?_) (fun r e hr8 h3 h' fr hw ca => ?_))
  · have loop : ∀ (m f : Nat), f + m = 12 → zG E mX0_edgeOfSpan (d + 6) 14 [zR q, zI x, zU, zI w, zI 0, zI (-1), zI f, zU] [] h (qI K) := by
      intro m
      induction m with
      | zero =>
        intro f hf
        exact bX0_edgeOfSpan_14 (d := d + 5) hE hq ⟨fun _ => h1 nf, fun c => absurd (by omega) c⟩
      | succ m ih =>
        intro f hf
        have eb : zand (zshr 0 (f : Int)) 1 = 0 := by
          have := zbit_wl (b := 0) (f := f) (by omega) (by omega)
          rw [Nat.zero_div] at this
          exact this
        refine bX0_edgeOfSpan_14 (d := d + 5) hE hq ⟨fun c => absurd c (by omega), fun _ => ⟨fun c => absurd eb c, fun _ y ey => ?_⟩⟩
        rw [w_suc (by omega)] at ey
        rw [ey]
        exact ih (f + 1) (by omega)
    exact loop 12 0 rfl
  · subst e
    have hz : ∀ k, 0 ≤ szF (L r) G H k := fun k => (szF_r (hF.pts r hr8) h3 hF.g9 hF.h20 k).1
    have hbl := wlB_lt (wlP (L r) G H t) 12
    have loop : ∀ (m f : Nat), f + m = 12 → zG E mX0_edgeOfSpan (d + 6) 14 [zR q, zI r, zU, zI w, zI (wlB (wlP (L r) G H t) 12 : Int), zI (spS (wlP (L r) G H t) (szF (L r) G H) w f), zI f, zU] [] h' (qI K) := by
      intro m
      induction m with
      | zero =>
        intro f hf
        have e : f = 12 := by omega
        subst e
        exact bX0_edgeOfSpan_14 (d := d + 5) hE hq ⟨fun _ => h2 r rfl hr8 h3 h' fr hw, fun c => absurd (by decide) c⟩
      | succ m ih =>
        intro f hf
        have k := ih (f + 1) (by omega)
        have hbit := wlB_bit (wlP (L r) G H t) 12 f (by omega)
        refine bX0_edgeOfSpan_14 (d := d + 5) hE hq ⟨fun c => absurd c (by omega), fun _ => ?_⟩
        rw [zbit_wl hbl (by omega), hbit]
        unfold spS at k
        by_cases p : wlP (L r) G H t f = true
        · rw [if_pos p] at k ⊢
          have hof : okF f := by
            unfold wlP at p
            rw [decide_eq_true_iff] at p
            exact p.1
          rw [w_ix12 (by omega) (by omega), Int.toNat_natCast, (ca.af hof).2]
          refine ⟨fun _ => ⟨nat_in (n := 96) (by omega), fun s es => ?_⟩, fun c => absurd (by decide) c⟩
          change s = szF (L r) G H f at es
          subst es
          generalize spS (wlP (L r) G H t) (szF (L r) G H) w f = p0 at k ⊢
          unfold mnx at k
          refine ⟨fun c y ey => ?_, fun c => ⟨fun cw => ⟨fun c2 y ey => ?_, fun c2 y ey => ?_⟩, fun cw => ⟨fun c2 y ey => ?_, fun c2 y ey => ?_⟩⟩⟩
          · rw [w_suc (by omega)] at ey
            rw [ey]
            rwa [if_pos c] at k
          · rw [w_suc (by omega)] at ey
            rw [ey]
            rwa [if_neg c, if_pos cw, Int.min_eq_left c2] at k
          · rw [w_suc (by omega)] at ey
            rw [ey]
            rwa [if_neg c, if_pos cw, Int.min_eq_right (by omega)] at k
          · rw [w_suc (by omega)] at ey
            rw [ey]
            rwa [if_neg c, if_neg cw, Int.max_eq_left c2] at k
          · rw [w_suc (by omega)] at ey
            rw [ey]
            rwa [if_neg c, if_neg cw, Int.max_eq_right (by omega)] at k
        · rw [if_neg p] at k ⊢
          refine ⟨fun c => absurd rfl c, fun _ y ey => ?_⟩
          rw [w_suc (by omega)] at ey
          rw [ey]
          exact k
    exact loop 12 0 rfl
theorem X10_hasFit (hE : isR E) {L : Nat → List (Int × Int)} {G H r : Nat} (hr : r < 8) (hS : ShR h L G H r) {K : Int → zH → Prop} (hK : K (bI (3 ≤ (L r).length)) h) : zCI E mX10_hasFit d [zR 0, zI r] h K := by
  refine eX10_hasFit hE ⟨nat_in (n := 8) hr, ?_⟩
  rw [Int.toNat_natCast, hS.2.1]
  refine ⟨fun c => ?_, fun c => ?_⟩
  · by_cases z : 3 ≤ (L r).length
    · rw [if_pos z] at c; omega
    · rwa [bI_f z] at hK
  · by_cases z : 3 ≤ (L r).length
    · rwa [bI_t z] at hK
    · rw [if_neg z] at c; exact absurd rfl c
theorem w_xi12 {a i : Nat} (ha : a < 100) (hi : i < 100) : w32 (w32 (12 * (a : Int)) + (i : Int)) = ((12 * a + i : Nat) : Int) := by
  rw [w32i (x := 12 * (a : Int)) (by omega) (by omega), w32i (by omega) (by omega)]; omega
theorem X10_sizeOf (hE : isR E) {L : Nat → List (Int × Int)} {G H r : Nat} (hr : r < 8) (hS : ShR h L G H r) (h3 : 3 ≤ (L r).length) {K : Int → zH → Prop} (hK : K (szB (L r) G H) h) : zCI E mX10_sizeOf d [zR 0, zI r] h K := by
  have ho := bsL_ok (L r) G H
  refine eX10_sizeOf hE ⟨nat_in (n := 8) hr, ?_⟩
  rw [Int.toNat_natCast, hS.2.1, if_pos h3, w_xi12 (by omega) (by omega), Int.toNat_natCast, (hS.2.2 h3 _ ho).1]
  exact ⟨nat_in (n := 96) (by omega), hK⟩
theorem X10_isWell (hE : isR E) {L : Nat → List (Int × Int)} {G H r : Nat} (hr : r < 8) (hS : ShR h L G H r) (h3 : 3 ≤ (L r).length) (hl : ptL (L r)) (hG : G ≤ 9) (hH : H ≤ 20) {t : Int} (e31 : h 0 31 = t) (ht0 : 0 ≤ t) (ht : t ≤ 100000) {f : Nat} (hf : f < 12) {K : Int → zH → Prop} (hK : K (bI (wlP (L r) G H t f = true)) h) : zCI E mX10_isWell d [zR 0, zI r, zI f] h K := by
  have ho := bsL_ok (L r) G H
  have go : okF f → zG E mX10_isWell d 9 [zR 0, zI r, zI f] [] h (qI K) := by
    intro hof
    have a1 := shF_ok hl (by omega) hG hH f
    have a2 := shF_ok hl (by omega) hG hH (bsL (L r) G H)
    unfold aOk at a1 a2
    refine bX10_isWell_9 hE ?_
    rw [Int.toNat_natCast, hS.2.1, if_pos h3, w_xi12 (by omega) (by omega), w_xi12 (by omega) (by omega), Int.toNat_natCast, Int.toNat_natCast, (hS.2.2 h3 _ ho).2, (hS.2.2 h3 _ hof).2, e31, w32i (x := (shF (L r) G H (bsL (L r) G H)).1 + t) (by omega) (by omega)]
    refine ⟨nat_in (n := 96) (by omega), nat_in (n := 8) hr, nat_in (n := 96) (by omega), fun c => ?_, fun c => ?_⟩
    · rwa [bI_f (by unfold wlP; rw [decide_eq_true_iff]; intro z; omega)] at hK
    · rwa [bI_t (by unfold wlP; rw [decide_eq_true_iff]; exact ⟨hof, by omega⟩)] at hK
  refine eX10_isWell hE ⟨fun c => go (by omega), fun c => ⟨fun c2 => ?_, fun c2 => go (by omega)⟩⟩
  rwa [bI_f (by unfold wlP; rw [decide_eq_true_iff]; intro z; omega)] at hK
theorem wlP_best (l : List (Int × Int)) (G H : Nat) {t : Int} (ht : 0 ≤ t) : wlP l G H t (bsL l G H) = true := by
  unfold wlP
  rw [decide_eq_true_iff]
  exact ⟨bsL_ok l G H, by omega⟩
theorem X10_spanOf (hE : isR E) {L : Nat → List (Int × Int)} {G H r : Nat} (hr : r < 8) (hS : ShR h L G H r) (h3 : 3 ≤ (L r).length) (hl : ptL (L r)) (hG : G ≤ 9) (hH : H ≤ 20) {t w : Int} (e31 : h 0 31 = t) (ht0 : 0 ≤ t) (ht : t ≤ 100000) {K : Int → zH → Prop} (hK : K (spS (wlP (L r) G H t) (szF (L r) G H) w 12) h) : zCI E mX10_spanOf (d + 1) [zR 0, zI r, zI w] h K := by
  have ho := bsL_ok (L r) G H
  have hz : ∀ k, 0 ≤ szF (L r) G H k := fun k => (szF_r hl h3 hG hH k).1
  have hf12 : bsL (L r) G H < 12 := by omega
  rw [← spM_eq hz w (wlP_best (L r) G H ht0) hf12] at hK
  change K (spM (wlP (L r) G H t) (szF (L r) G H) w (szB (L r) G H) 12) h at hK
  have loop : ∀ (m f : Nat), f + m = 12 → zG E mX10_spanOf (d + 1) 9 [zR 0, zI r, zI w, zI (spM (wlP (L r) G H t) (szF (L r) G H) w (szB (L r) G H) f), zI f] [] h (qI K) := by
    intro m
    induction m with
    | zero =>
      intro f hf
      have e : f = 12 := by omega
      subst e
      exact bX10_spanOf_9 hE ⟨fun _ => hK, fun c => absurd (by decide) c⟩
    | succ m ih =>
      intro f hf
      have k := ih (f + 1) (by omega)
      unfold spM at k
      refine bX10_spanOf_9 hE ⟨fun c => absurd c (by omega), fun _ => X10_isWell hE hr hS h3 hl hG hH e31 ht0 ht (by omega) ⟨fun c y ey => ?_, fun c => ?_⟩⟩
      · rw [w_suc (by omega)] at ey
        rw [ey]
        rw [bI_0] at c
        rwa [if_neg c] at k
      · have p : wlP (L r) G H t f = true := by
          by_cases z : wlP (L r) G H t f = true
          · exact z
          · exact absurd (bI_0.mpr z) c
        have hof : okF f := by
          unfold wlP at p
          rw [decide_eq_true_iff] at p
          exact p.1
        rw [if_pos p] at k
        rw [w_xi12 (by omega) (by omega), Int.toNat_natCast, (hS.2.2 h3 _ hof).1]
        unfold mnx at k
        refine ⟨fun cw => ⟨nat_in (n := 96) (by omega), fun s es y ey => ?_⟩, fun cw => ⟨nat_in (n := 96) (by omega), fun s es y ey => ?_⟩⟩
        · rw [w_suc (by omega)] at ey
          rw [es, ey]
          rwa [if_pos cw] at k
        · rw [w_suc (by omega)] at ey
          rw [es, ey]
          rwa [if_neg cw] at k
  exact eX10_spanOf hE (X10_sizeOf hE hr hS h3 (loop 12 0 rfl))
end TSpans
