/-! ===== topic: is a ring near; both sides ===== -/
section TNear
variable {E : zE} {d : Nat} {h : zH}
theorem nmF_b {hv unit size st so : Int} (hu : isU unit) (h0 : 0 ≤ size) (h1 : size ≤ 1000000000) (hst : vB st) (hso : vB so) (j : Nat) : vB (nmF hv unit size st so j) := by
  have hp := sPart_r (hv := hv) hu
  have ho := sOff_r size (u := sPart unit hv) (by omega)
  have ht := sTimes_r (u := sPart unit hv) h0 h1 (by omega)
  unfold nmF
  unfold vB at hst hso ⊢
  repeat' split
  all_goals omega
theorem X10_isNear (hE : isR E) (hrl : rlOk h) {r : Nat} (hr : r < 8) {st so : Int} (h36 : h 36 r = st) (h35 : w32 (Int.tdiv (h 35 r) 4) = so) (hst : vB st) (hso : vB so) {size unit : Int} (h0 : 0 ≤ size) (h1 : size ≤ 1000000000) (hu : isU unit) {K : Int → zH → Prop}
    (hK : ∀ h', frN h h' → K (bI (sNear h (h 0 57) unit size st so = true)) h') : zCI E mX10_isNear (d + 2) [zR 0, zI r, zI size, zI unit] h K := by
  have hp := sPart_r (hv := h 0 57) hu
  have ho := sOff_r size (u := sPart unit (h 0 57)) (by omega)
  refine eX10_isNear (d := d + 1) hE (X10_part hE (by omega) (by omega) (X10_offBy hE h0 (by omega) (by omega) ⟨fun c => ?_, fun c => ?_⟩))
  · have nb := nmF_b (hv := h 0 57) (so := so) hu h0 h1 hst hso
    intro h4 e4 h5 e5 h6 e6
    have k6 : ∀ c j, c ≠ 38 → h6 c j = h c j := fun c j n => by rw [e6, e5, e4, hset_ne (by omega), hset_ne (by omega), hset_ne (by omega)]
    have k57 : h6 0 57 = h 0 57 := k6 _ _ (by omega)
    refine X10_part hE (by omega) (by omega) ?_
    rw [k57]
    refine X10_timesBy hE h0 (by omega) (by omega) (by omega) (fun h9 e9 => ⟨nat_in (n := 8) hr, ?_⟩)
    rw [Int.toNat_natCast]
    intro h10 e10
    refine ⟨nat_in (n := 8) hr, fun h11 e11 h12 e12 => ?_⟩
    have k9 : ∀ c j, c ≠ 38 → h9 c j = h c j := fun c j n => by rw [e9, hset_ne (by omega)]; exact k6 c j n
    have k10 : ∀ c j, c ≠ 38 → h10 c j = h c j := fun c j n => by rw [e10, hset_ne (by omega)]; exact k9 c j n
    rw [k9 _ _ (by omega), h36] at e10
    rw [k10 _ _ (by omega), h35] at e11
    have fr12 : frN h h12 := fun c j n1 n2 n3 => by rw [e12, hset_ne n3, e11, hset_ne (by omega)]; exact k10 c j n2
    have nm12 : ∀ j, j < 6 → h12 38 j = nmF (h 0 57) unit size st so j := fun j hj => by
      rw [e12, e11, e10, e9, e6, e5, e4]
      unfold hset nmF
      rcases (show j = 0 ∨ j = 1 ∨ j = 2 ∨ j = 3 ∨ j = 4 ∨ j = 5 by omega) with z | z | z | z | z | z <;> subst z <;> simp
    have s12 : h12 0 81 = ((0 : Nat) : Int) := by rw [e12, hset_eq]; rfl
    have hw := hrl.2.2 c
    have hm0 := hrl.1
    have hm64 := hrl.2.1
    unfold sNear at hK
    rw [if_neg c] at hK
    generalize nmF (h 0 57) unit size st so = nm at hK nb nm12
    generalize hm : (h 0 28).toNat = m at hw hK
    have hmm : h 0 28 = m := by omega
    have hB0 := fun W => rvR_congr (nm := nm) m 0 0 (fun _ => 0) W hw (fun j hj => absurd hj (by omega))
    generalize hB : rvR nm (h 20) (h 21) m 0 (fun _ => 0) 0 = B at hK hB0
    have loop : ∀ (m' i n : Nat) (h1 : zH), i + m' = m → rwR (h 20) (h 21) m' i n → n ≤ 64 → (∀ j, j < n → vB (h1 37 j)) → frN h h1 → (∀ j, j < 6 → h1 38 j = nm j) → h1 0 81 = (n : Nat) → rvR nm (h 20) (h 21) m' i (h1 37) n = B → zG E mX10_isNear (d + 2) 110 [zR 0, zU, zU, zU, zU, zI i] [] h1 (qI K) := by
      intro m'
      induction m' with
      | zero =>
        intro i n h1 hi w hn hb fr f38 e81 e
        have ei : i = m := by omega
        have e28 : h1 0 28 = m := by rw [fr _ _ (by omega) (by omega) (by omega)]; exact hmm
        have n1 : n = 1 := w
        subst n1
        unfold rvR at e
        refine bX10_isNear_110 (d := d + 1) hE ⟨fun _ => ⟨fun c => ?_, fun c => ?_⟩, fun c => absurd (by rw [e28]; omega) c⟩
        · have := hK h1 fr
          rwa [← e, bI_f (by rw [decide_eq_true_iff]; exact fun z => z.2 c)] at this
        · have := hK h1 fr
          rwa [← e, bI_t (by rw [decide_eq_true_iff]; exact ⟨rfl, c⟩)] at this
      | succ m' ih =>
        intro i n h1 hi w hn hb fr f38 e81 e
        have e28 : h1 0 28 = m := by rw [fr _ _ (by omega) (by omega) (by omega)]; exact hmm
        have e20 : h1 20 i = h 20 i := fr _ _ (by omega) (by omega) (by omega)
        have e21 : h1 21 i = h 21 i := fr _ _ (by omega) (by omega) (by omega)
        have b128 : (0 : Int) ≤ (i : Int) ∧ (i : Int) < 128 := nat_in (n := 128) (by omega)
        unfold rwR at w
        unfold rvR at e
        refine bX10_isNear_110 (d := d + 1) hE ⟨fun c => absurd c (by rw [e28]; omega), fun _ => ⟨b128, ?_⟩⟩
        rw [Int.toNat_natCast, e20, e21, e81, Int.toNat_natCast]
        have nxt : ∀ (v : Int) (h5 h6 : zH) (x : Int), h5 = hset h1 37 n v → h6 = hset h5 0 81 (w32 ((h5 0 81) + 1)) → x = w32 ((i : Int) + 1) → vB v → n < 64 → rwR (h 20) (h 21) m' (i + 1) (n + 1) → rvR nm (h 20) (h 21) m' (i + 1) (uN (h1 37) n v) (n + 1) = B → zG E mX10_isNear (d + 2) 110 [zR 0, zU, zU, zU, zU, zI x] [] h6 (qI K) := by
          intro v h5 h6 x e5 e6 ex hv hn2 hw2 he
          have e581 : h5 0 81 = (n : Nat) := by rw [e5, hset_ne (by omega)]; exact e81
          rw [e581, w_suc (by omega)] at e6
          rw [w_suc (by omega)] at ex
          rw [ex]
          have r6 : h6 37 = uN (h1 37) n v := by rw [e6, hset_rne (by omega), e5, hset_row]
          refine ih (i + 1) (n + 1) h6 (by omega) hw2 (by omega) (fun j hj => ?_) (fun c j n1 n2 n3 => ?_) (fun j hj => ?_) ?_ ?_
          · rw [r6]
            by_cases z : j = n
            · rw [z, uN_eq]; exact hv
            · rw [uN_ne z]; exact hb j (by omega)
          · rw [e6, hset_ne n3, e5, hset_ne (fun z => n1 z.1)]; exact fr c j n1 n2 n3
          · rw [e6, hset_ne (by omega), e5, hset_ne (by omega)]; exact f38 j hj
          · rw [e6, hset_eq]
          · rw [r6]; exact he
        refine ⟨fun c1 => ⟨b128, ?_⟩, fun c1 => ⟨b128, ?_⟩⟩
        · rw [if_neg c1] at w e
          refine ⟨fun c2 => ?_, fun c2 => ?_⟩
          · have hk := w.1.resolve_left (fun z => c2 z.1)
            rw [if_neg c2] at e
            refine ⟨b128, ⟨hk.2.1, hk.2.2⟩, nat_in (n := 64) w.2.1, fun h5 e5 h6 e6 x ex => ?_⟩
            rw [f38 _ (by omega)] at e5
            exact nxt _ h5 h6 x e5 e6 ex (nb _) w.2.1 w.2.2 e
          · have c2' : h 20 i = 0 := Decidable.not_not.mp c2
            have hk := w.1.resolve_right (fun z => by omega)
            rw [if_pos c2'] at e
            refine ⟨b128, nat_in (n := 64) w.2.1, fun h5 e5 h6 e6 x ex => ?_⟩
            exact nxt _ h5 h6 x e5 e6 ex (by unfold vB; omega) w.2.1 w.2.2 e
        · have c1' : h 20 i = 2 := Decidable.not_not.mp c1
          rw [if_pos c1'] at w e
          have ei : w32 ((i : Int) + 1) = ((i + 1 : Nat) : Int) := w_suc (by omega)
          by_cases c2 : h 21 i = 260
          · rw [if_pos c2] at w e
            rw [c2]
            refine X10_worksN hE e81 hn w.1 ⟨fun _ x ex => ?_, fun c => absurd (by decide) c⟩
            rw [ex, ei]
            refine ih (i + 1) n _ (by omega) w.2 hn (fun j hj => ?_) (fun c j n1 n2 n3 => ?_) (fun j hj => ?_) ?_ ?_
            · rw [hset_row]
              by_cases z : j = n - 1
              · rw [z, uN_eq]; exact bI_b
              · rw [uN_ne z]; exact hb j hj
            · rw [hset_ne (fun z => n1 z.1)]; exact fr c j n1 n2 n3
            · rw [hset_ne (by omega)]; exact f38 j hj
            · rw [hset_ne (by omega)]; exact e81
            · rw [hset_row]; exact e
          · rw [if_neg c2] at w e
            have b1 := hb (n - 1) (by omega)
            have b2 := hb (n - 2) (by omega)
            refine X10_works hE e81 hn w.1 w.2.1 b2 b1 (fun er h5 fr5 => ⟨fun c => absurd rfl c, fun _ => ?_⟩) (fun er h5 fr5 s5 r5 => ⟨fun _ x ex => ?_, fun c => absurd (by decide) c⟩)
            · rw [if_pos er] at e
              have := hK h5 (fun c j n1 n2 n3 => (fr5 c j n1 n3).trans (fr c j n1 n2 n3))
              rwa [← e, bI_f (by decide)] at this
            · rw [if_neg (by rw [er]; decide)] at e
              rw [ex, ei]
              refine ih (i + 1) (n - 1) h5 (by omega) w.2.2 (by omega) (fun j hj => ?_) (fun c j n1 n2 n3 => (fr5 c j n1 n3).trans (fr c j n1 n2 n3)) (fun j hj => ?_) s5 ?_
              · rw [r5]
                by_cases z : j = n - 2
                · rw [z, uN_eq]; exact rJn_b b2 b1 er
                · rw [uN_ne z]; exact hb j (by omega)
              · rw [fr5 _ _ (by omega) (by omega)]; exact f38 j hj
              · rw [r5]; exact e
    exact loop m 0 0 h12 (by omega) hw (by omega) (fun j hj => absurd hj (by omega)) fr12 nm12 s12 (hB0 _).symm
  · have c' : h 0 28 = 0 := Decidable.not_not.mp c
    have := hK h (fun _ _ _ _ _ => rfl)
    unfold sNear at this
    rw [if_pos c'] at this
    rw [w32i (x := 8 * _) (by omega) (by omega)]
    refine ⟨fun c2 => ?_, fun c2 => ?_⟩
    · rwa [bI_f (by rw [decide_eq_true_iff]; omega)] at this
    · rwa [bI_t (by rw [decide_eq_true_iff]; omega)] at this
/-- the rule of a survey of the class -/
def RuC (S h : zH) (b : Nat) : Prop := h (b + 14) 4 = S 0 28 ∧ (h b 11 = 0 ↔ S 0 28 = 0) ∧ ∀ i : Nat, (i : Int) < S 0 28 → knR (h (b + 15) i) (h (b + 16) i) (S 20 i) (S 21 i)
theorem X9_isNearAs (hE : isC E) {bt : Nat} (hbt : isSu E bt) (e03 : h 0 3 = (bt : Nat)) {S : zH} (hrl : rlOk S) (hru : RuC S h bt) {st so : Int} (hst : vB st) (hso : vB so) {size unit : Int} (h0 : 0 ≤ size) (h1 : size ≤ 1000000000) (hu : isU unit) {K : Int → zH → Prop}
    (hK : ∀ h', (∀ c j, c ≠ bt + 17 → c ≠ bt + 18 → h' c j = h c j) → K (bI (sNear S (h 0 8) unit size st so = true)) h') : zCI E mX9_isNearAs (d + 2) [zR 0, zI size, zI unit, zI st, zI so] h K := by
  have hp := sPart_r (hv := h 0 8) hu
  have ho := sOff_r size (u := sPart unit (h 0 8)) (by omega)
  refine eX9_isNearAs (d := d + 1) hE hbt (X9_placesOf hE (by omega) (by omega) (X9_offBy hE h0 (by omega) (by omega) ⟨e03, fun c => ⟨e03, ?_⟩, fun c => ?_⟩))
  · refine X9_timesBy hE h0 (by omega) (by omega) (by omega) ?_
    have c' : S 0 28 ≠ 0 := fun z => c (hru.2.1.mpr z)
    have hm0 := hrl.1
    have hm64 := hrl.2.1
    have isr : isRu E (bt + 14) := hbt.2.2.2.2.2.2.2.2.2.2.2
    unfold sNear at hK
    rw [if_neg c'] at hK
    have := X5_holds (d := d) (h := h) hE isr (ks := S 20) (kv := S 21) (m := (S 0 28).toNat) (by rw [hru.1]; omega) (by omega) (fun i hi => hru.2.2 i (by omega)) (hrl.2.2 c') (nm := nmF (h 0 8) unit size st so) (nmF_b hu h0 h1 hst hso) (K := fun r_5 h_5 => (r_5 = 0 ∨ r_5 = 1) ∧ K r_5 h_5) (fun h' fr => ⟨bI_01, hK h' fr⟩)
    exact this
  · have c' : S 0 28 = 0 := hru.2.1.mp (Decidable.not_not.mp c)
    have := hK h (fun _ _ _ _ => rfl)
    unfold sNear at this
    rw [if_pos c'] at this
    rw [w32i (x := 8 * _) (by omega) (by omega)]
    refine ⟨fun c2 => ?_, fun c2 => ?_⟩
    · rwa [bI_f (by rw [decide_eq_true_iff]; omega)] at this
    · rwa [bI_t (by rw [decide_eq_true_iff]; omega)] at this
end TNear
