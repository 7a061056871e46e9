/-! ===== topic: the sizes that count: gather (class), reckon (reference) ===== -/
section TGather
variable {E : zE} {d : Nat} {h : zH}
/-- the size of a ring by its best shape, -1 where it has none or is left out by its land or sort -/
def rkF (L : Nat → List (Int × Int)) (G H : Nat) (ld : Nat → Int) (a b : Int) (r : Nat) : Int :=
  if 3 ≤ (L r).length ∧ (a = -1 ∨ ld r = a) ∧ (b = -1 ∨ ((bsL (L r) G H / 4 : Nat) : Int) = b) then szB (L r) G H else -1
theorem X7_put (hE : isC E) {q : Nat} (hq : isSi E q) {l : List Int} (hS : SizesAt h q l) (hl : l.length < 8) {x : Int} {K : zH → Prop} (hK : ∀ h', (∀ c j, ¬ ((c = q ∧ j = 1) ∨ c = q + 1) → h' c j = h c j) → SizesAt h' q (l ++ [x]) → K h') : zCV E mX7_put d [zR q, zI x] h K := by
  obtain ⟨s1, s2, s3⟩ := hS
  refine eX7_put hE hq ?_
  rw [s1]
  refine ⟨fun c => absurd c (by omega), fun _ => ⟨nat_in (n := 8) hl, fun h2 e2 h3 e3 => ?_⟩⟩
  rw [Int.toNat_natCast] at e2
  have e1 : h2 q 1 = (l.length : Int) := by rw [e2, hset_ne (by omega)]; exact s1
  rw [e1, w_suc (by omega)] at e3
  refine hK h3 (fun c j n => by rw [e3, e2, hset_ne (by omega), hset_ne (by omega)]) ⟨?_, ?_, fun i y hi => ?_⟩
  · rw [e3, hset_eq, List.length_append]; rfl
  · rw [List.length_append]; exact hl
  · rw [e3, hset_ne (by omega), e2]
    by_cases z : i = l.length
    · subst z
      rw [hset_eq]
      rw [List.getElem?_append_right (Nat.le_refl _), Nat.sub_self] at hi
      exact Option.some.inj hi
    · have hlt : i < l.length := by
        have := (List.getElem?_eq_some_iff.mp hi).1
        rw [List.length_append] at this
        change i < l.length + 1 at this
        omega
      rw [hset_ne (by omega)]
      rw [List.getElem?_append_left hlt] at hi
      exact s3 i y hi
theorem FiInv.sm {h' : zH} {q : Nat} {L : Nat → List (Int × Int)} {G H : Nat} (hF : FiInv h q L G H) (fr : ∀ c j, q ≤ c → c ≤ q + 11 → h' c j = h c j) : FiInv h' q L G H := by
  refine ⟨by rw [fr _ _ (by omega) (by omega)]; exact hF.1, by rw [fr _ _ (by omega) (by omega)]; exact hF.2.1, fun j => by rw [fr _ _ (by omega) (by omega)]; exact hF.2.2.1 j, fun r hr => ?_⟩
  have o := hF.2.2.2 r hr
  refine ⟨by rw [fr _ _ (by omega) (by omega)]; exact o.1, fun i hi => by rw [fr _ _ (by omega) (by omega), fr _ _ (by omega) (by omega)]; exact o.2.1 i hi, fun hd => ?_⟩
  rw [fr _ _ (by omega) (by omega)] at hd
  exact (o.2.2 hd).mv (fr _ _ (by omega) (by omega)) (fun c j hc _ _ => fr c j (by omega) (by omega))
theorem FiW.sm {h' : zH} {q : Nat} {L : Nat → List (Int × Int)} {G H : Nat} (hF : FiW h q L G H) (fr : ∀ c j, q ≤ c → c ≤ q + 11 → h' c j = h c j) : FiW h' q L G H := ⟨hF.1.sm fr, hF.2⟩
/-- what gather may change -/
def frG (h h' : zH) : Prop := ∀ c j, ¬ (57 ≤ c ∧ c ≤ 63) → ¬ (c = 76 ∧ j = 1) → c ≠ 77 → h' c j = h c j
theorem cmpL_ln (f : Nat → Int) : ∀ n, (cmpL f n).length ≤ n
  | 0 => Nat.le_refl 0
  | n + 1 => by
    have := cmpL_ln f n
    unfold cmpL
    split
    · omega
    · rw [List.length_append]; change _ + 1 ≤ _; omega
theorem X9_gather (hE : isC E) {bt : Nat} (hbt : isSu E bt) (hbv : bt = 8 ∨ bt = 27) (hq : isFi E 52) (hs : isSi E 76) {L : Nat → List (Int × Int)} {G H : Nat} (hF : FiW h 52 L G H) (e3 : h 0 3 = (bt : Nat)) {a b : Int} {K : zH → Prop}
    (hK : ∀ h', frG h h' → FiW h' 52 L G H → SizesAt h' 76 (cmpL (rkF L G H (h (bt + 9)) a b) 8) → K h') : zCV E mX9_gather (d + 5) [zR 0, zI a, zI b] h K := by
  generalize hf : rkF L G H (h (bt + 9)) a b = f at hK
  have ef : ∀ r, rkF L G H (h (bt + 9)) a b r = f r := fun r => congrFun hf r
  have loop : ∀ (m r : Nat), r + m = 8 → ∀ h1 : zH, frG h h1 → FiW h1 52 L G H → SizesAt h1 76 (cmpL f r) → zG E mX9_gather (d + 5) 10 [zR 0, zI a, zI b, zI r, zU] [] h1 (qV K) := by
    intro m
    induction m with
    | zero =>
      intro r hr h1 fr hw hS
      have e : r = 8 := by omega
      subst e
      exact bX9_gather_10 (d := d + 4) hE hbt ⟨fun _ => hK h1 fr hw hS, fun c => absurd (by decide) c⟩
    | succ m ih =>
      intro r hr h1 fr hw hS
      have hr8 : r < 8 := by omega
      have efr := ef r
      unfold rkF at efr
      have skip : f r = -1 → ∀ h2 : zH, frG h h2 → FiW h2 52 L G H → SizesAt h2 76 (cmpL f r) → ∀ x : Int, x = w32 ((r : Int) + 1) → zG E mX9_gather (d + 5) 10 [zR 0, zI a, zI b, zI x, zU] [] h2 (qV K) := by
        intro e h2 fr2 hw2 hS2 x ex
        rw [w_suc (by omega)] at ex
        rw [ex]
        refine ih (r + 1) (by omega) h2 fr2 hw2 ?_
        unfold cmpL
        rw [if_pos e]; exact hS2
      have mvS : ∀ h2 : zH, frQ 52 h1 h2 → SizesAt h2 76 (cmpL f r) := fun h2 f2 => ⟨by rw [f2 _ _ (by omega)]; exact hS.1, hS.2.1, fun i x hi => by rw [f2 _ _ (by omega)]; exact hS.2.2 i x hi⟩
      have mvG : ∀ h2 : zH, frQ 52 h1 h2 → frG h h2 := fun h2 f2 c j n1 n2 n3 => (f2 c j (by omega)).trans (fr c j n1 n2 n3)
      refine bX9_gather_10 (d := d + 4) hE hbt ⟨fun c => absurd c (by omega), fun _ => X0_bestShape hE hq hw (fun nf => ?_) (fun r' er _ h3 h2 fr2 hw2 ca2 => ?_)⟩
      · refine ⟨fun _ => skip ?_ h1 fr hw hS, fun c => absurd rfl c⟩
        rw [← efr, if_neg (fun z => nf ⟨by omega, by omega, by rw [Int.toNat_natCast]; exact z.1⟩)]
      · have e : r' = r := by omega
        subst e
        have take : szB (L r') G H = f r' → ∀ h3 : zH, frQ 52 h1 h3 → FiW h3 52 L G H → zCI E mX0_bestSize (d + 4) [zR 52, zI r'] h3 (fun r_2 h_2 => zCV E mX7_put (d + 4) [zR 76, zI r_2] h_2 (fun h_3 => ∀ x_4 : Int, x_4 = w32 ((r' : Int) + 1) → zG E mX9_gather (d + 5) 10 [zR 0, zI a, zI b, zI x_4, zU] [] h_3 (qV K))) := by
          intro e h4 fr4 hw4
          refine X0_bestSize hE hq hw4 (fun nf => absurd ⟨by omega, by omega, by rw [Int.toNat_natCast]; exact h3⟩ nf) (fun r2 e2 _ _ h5 fr5 hw5 => ?_)
          have er2 : r2 = r' := by omega
          subst er2
          have hl := cmpL_ln f r2
          have fr15 := fr4.tr fr5
          refine X7_put hE hs (mvS h5 fr15) (by omega) (fun h6 fr6 hS6 x ex => ?_)
          rw [w_suc (by omega)] at ex
          rw [ex]
          have z0 := (szF_r (hF.pts r2 hr8) h3 hF.g9 hF.h20 (bsL (L r2) G H)).1
          change 0 ≤ szB (L r2) G H at z0
          refine ih (r2 + 1) (by omega) h6 (fun c j n1 n2 n3 => (fr6 c j (by omega)).trans (mvG h5 fr15 c j n1 n2 n3)) (hw5.sm (fun c j _ _ => fr6 c j (by omega))) ?_
          unfold cmpL
          rw [if_neg (by omega), ← e]
          exact hS6
        have hb : okF (bsL (L r') G H) := bsL_ok (L r') G H
        have t4 : w32 (Int.tdiv (bsL (L r') G H : Int) 4) = ((bsL (L r') G H / 4 : Nat) : Int) := by
          rw [Int.tdiv_eq_ediv_of_nonneg (by omega), w32i (by omega) (by omega)]; omega
        have g50 : (a = -1 ∨ h (bt + 9) r' = a) → zG E mX9_gather (d + 5) 50 [zR 0, zI a, zI b, zI r', zI (bsL (L r') G H : Int)] [] h2 (qV K) := by
          intro ha
          refine bX9_gather_50 (d := d + 4) hE hbt ⟨fun c => take ?_ h2 fr2 hw2, fun c => ?_⟩
          · rw [← efr, if_pos ⟨h3, ha, Or.inl c⟩]
          · rw [t4]
            refine ⟨fun c2 => take ?_ h2 fr2 hw2, fun c2 => skip ?_ h2 (mvG h2 fr2) hw2 (mvS h2 fr2)⟩
            · rw [← efr, if_pos ⟨h3, ha, Or.inr c2⟩]
            · rw [← efr, if_neg (fun z => z.2.2.elim c c2)]
        refine ⟨fun c => absurd c (by omega), fun _ => ⟨fun c => g50 (Or.inl c), fun c => ?_⟩⟩
        have e03 : h2 0 3 = (bt : Nat) := by rw [mvG h2 fr2 _ _ (by omega) (by omega) (by omega)]; exact e3
        have e09 : h2 (bt + 9) r' = h (bt + 9) r' := mvG h2 fr2 _ _ (by omega) (by omega) (by omega)
        refine ⟨e03, nat_in (n := 8) hr8, ?_⟩
        rw [Int.toNat_natCast, e09]
        refine ⟨fun c2 => skip ?_ h2 (mvG h2 fr2) hw2 (mvS h2 fr2), fun c2 => g50 (Or.inr (by omega))⟩
        rw [← efr, if_neg (fun z => z.2.1.elim c c2)]
  refine eX9_gather (d := d + 4) hE hbt (fun h1 e1 => loop 8 0 rfl h1 (fun c j n1 n2 n3 => by rw [e1, hset_ne (by omega)]) (hF.sm (fun c j a1 a2 => by rw [e1, hset_ne (by omega)])) ⟨?_, Nat.zero_le 8, fun i x hi => absurd hi (by intro z; cases z)⟩)
  rw [e1, hset_eq]; rfl
end TGather
