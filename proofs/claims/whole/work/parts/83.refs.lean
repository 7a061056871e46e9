/-! ===== topic: the reference's lines: what was said ===== -/
section TRefs
variable {E : zE} {d : Nat} {h : zH} {T : zH} {B : Nat → Int} {n : Nat}
theorem rIx_j : ∀ j : Nat, j < 21 → ∀ i : Nat, i < 21 → (([0, 1, 7, 8, 9, 10, 2, 3, 4, 11, 5, 6, 12, 13, 14, 15, 16, 17, 18, 19, 20] : List Int).getD j 0 = ([0, 1, 7, 8, 9, 10, 2, 3, 4, 11, 5, 6, 12, 13, 14, 15, 16, 17, 18, 19, 20] : List Int).getD i 0 ↔ j = i) := by decide
theorem rIx_e {k kk : Int} (h1 : 20 ≤ k) (h2 : k ≤ 40) (h3 : 20 ≤ kk) (h4 : kk ≤ 40) : rIx (k - 20) = rIx (kk - 20) ↔ k = kk := by
  obtain ⟨j, hj⟩ : ∃ j : Nat, k - 20 = (j : Int) := ⟨(k - 20).toNat, by omega⟩
  obtain ⟨i, hi⟩ : ∃ i : Nat, kk - 20 = (i : Int) := ⟨(kk - 20).toNat, by omega⟩
  unfold rIx
  rw [hj, hi, Int.toNat_natCast, Int.toNat_natCast, rIx_j j (by omega) i (by omega)]
  omega
theorem R_wordk (hE : isR E) {q : Nat} (a : AtR h B n q) {x kk : Int} (hx : rIx (kk - 20) = x) (h20 : 20 ≤ kk) (h40 : kk ≤ 40) {K : Int → zH → Prop} (hK : K (bI (tkK B n q = kk)) h) : zCI E mX10_isWord d [zR 0, zI x] h K := by
  have sk := a.sk
  unfold skR at sk
  refine eX10_isWord hE ⟨fun c => absurd a.2.2.2.1 c, fun _ => ⟨fun c => ?_, fun c => ⟨fun c2 => ?_, fun c2 => ?_⟩⟩⟩
  · rwa [bI_f (by omega)] at hK
  · rwa [bI_f (fun z => ?_)] at hK
    have s1 : 20 ≤ tkK B n q ∧ tkK B n q ≤ 40 ∧ h 0 48 = rIx (tkK B n q - 20) := by omega
    apply c2
    rw [s1.2.2, z]
    exact hx
  · rwa [bI_t ?_] at hK
    have s1 : 20 ≤ tkK B n q ∧ tkK B n q ≤ 40 ∧ h 0 48 = rIx (tkK B n q - 20) := by omega
    refine (rIx_e s1.1 s1.2.1 h20 h40).mp ?_
    rw [hx, ← s1.2.2]
    exact Decidable.not_not.mp c2
def saidT (E : zE) (d : Nat) (x1 : Int) (K : zH → Prop) (h6 : zH) : Prop := zCI E mX10_isWord d [zR 0, zI 11] h6 (fun r_7 h_7 => ((0 : Int) ≤ x1 ∧ x1 < (40 : Int)) ∧ (r_7 = 0 ∨ r_7 = 1) ∧ ∀ h_8 : zH, h_8 = hset h_7 19 (x1.toNat) r_7 → ((0 : Int) ≤ x1 ∧ x1 < (40 : Int)) ∧ (((h_8 19 x1.toNat) = 0 → ∀ h_10 : zH, h_10 = hset h_8 0 35 (w32 ((h_8 0 35) + 1)) → K h_10) ∧ (¬ ((h_8 19 x1.toNat) = 0) → zCV E mX10_token d [zR 0] h_8 (fun h_11 => ∀ h_12 : zH, h_12 = hset h_11 0 35 (w32 ((h_11 0 35) + 1)) → K h_12))))
theorem saidT_f (hE : isR E) {y : Nat} (hy : y < 20) {K : zH → Prop} {f : pF} {h6 : zH} (hf : ∀ h', frE h h' → BdR h' → FlR h' f → K h') (fr : frE h h6) (b : BdR h6) (fl : FlR h6 f) : saidT E d ((20 + y : Nat) : Int) K h6 := by
  refine R_word_f hE fl.ne ?_
  rw [Int.toNat_natCast]
  refine ⟨nat_in (n := 40) (by omega), Or.inl rfl, fun h8 e8 => ⟨nat_in (n := 40) (by omega), fun _ h10 e10 => hf h10 ?_ ?_ ?_, fun z => absurd (by rw [e8, hset_eq]) z⟩⟩
  · rw [e10, e8]; exact (fr.st (by omega) (by omega) (show 20 ≤ _ by omega)).s0 (by omega)
  · rw [e10, e8]; exact (b.s19 (Or.inl rfl)).so (by omega)
  · rw [e10, e8]; exact (fl.st (by omega)).st (by omega)
theorem saidT_s (hE : isR E) {y : Nat} (hy : y < 20) {K : zH → Prop} {h6 : zH} {Tc : zH} {q : Nat} (fr : frE h h6) (b : BdR h6) (i : HfR Tc h6) (ty : Tc 0 26 = (y : Int)) (a : AtR h6 B n q) (hk : ∀ h', frE h h' → BdR h' → HfR (hset (hset Tc 19 y (bI (tkK B n q = 29))) 0 26 (Tc 0 26 + 1)) h' → AtR h' B n (if tkK B n q = 29 then tkQ B n q else q) → K h') : saidT E (d + 2) ((20 + y : Nat) : Int) K h6 := by
  refine R_wordk hE a (kk := 29) (by decide) (by decide) (by decide) ?_
  rw [Int.toNat_natCast]
  refine ⟨nat_in (n := 40) (by omega), bI_01, fun h8 e8 => ?_⟩
  have f8 : frE h h8 := by rw [e8]; exact fr.st (by omega) (by omega) (show 20 ≤ _ by omega)
  have b8 : BdR h8 := by rw [e8]; exact b.s19 bI_01
  have i8 : HfR (hset Tc 19 y (bI (tkK B n q = 29))) h8 := by rw [e8]; exact i.st (by omega) (by omega) rfl
  have a8 : AtR h8 B n q := by rw [e8]; exact a.st (by omega)
  have e9 : h8 19 (20 + y) = bI (tkK B n q = 29) := by rw [e8, hset_eq]
  rw [e9]
  have fin : ∀ (h9 h10 : zH) (q' : Nat), frWr h8 h9 → AtR h9 B n q' → q' = (if tkK B n q = 29 then tkQ B n q else q) → h10 = hset h9 0 35 (w32 ((h9 0 35) + 1)) → K h10 := by
    intro h9 h10 q' fr9 a9 eq e10
    have e35 : h9 0 35 = (y : Int) := by
      rw [fr9 _ _ (by omega), i8.1 26 (by omega) (by omega), hset_ne (by omega)]; exact ty
    rw [e35, w_suc (by omega)] at e10
    refine hk h10 ?_ ?_ ?_ ?_
    · rw [e10]; exact (f8.tr (frE.w fr9)).s0 (by omega)
    · rw [e10]; exact (b8.w fr9).so (by omega)
    · rw [e10]; exact (i8.w fr9).s0 (by omega) (by omega) rfl (by omega)
    · rw [e10, ← eq]; exact a9.st (by omega)
  refine ⟨nat_in (n := 40) (by omega), fun c h10 e10 => fin h8 h10 q (frWr.rf h8) a8 (by rw [if_neg (bI_ne c)]) e10, fun c => R_tok hE a8 (fun h9 fr9 a9 h12 e12 => fin h9 h12 _ (frWr.y fr9) a9 (by rw [if_pos (bI_e c)]) e12)⟩
theorem R_said (hE : isR E) {q : Nat} (a : AtR h B n (tkQ B n q)) (i : HfR T h) (bd : BdR h) (h24 : 0 ≤ T 0 24 ∧ T 0 24 ≤ 8) (h26 : 0 ≤ T 0 26 ∧ T 0 26 < 20) (h27 : 0 ≤ T 0 27 ∧ T 0 27 ≤ 6) {x1 : Int} (ex1 : x1 = 20 + T 0 26) {K : zH → Prop}
    (h0 : ∀ f, pSaid B n T q = .inl f → ∀ h', frE h h' → BdR h' → FlR h' f → K h')
    (h1 : ∀ r, pSaid B n T q = .inr r → ∀ h', frE h h' → BdR h' → HfR r.1 h' → AtR h' B n r.2 → K h') : zCV E mX10_saidLine (d + 4) [zR 0, zI x1] h K := by
  have h15 : zsh E 15 = (20, 12) ∧ 15 < zN E ∧ 12 < 2147483648 := ⟨sR_15 hE, cR_15 hE, by decide⟩
  have h3' : zsh E 3 = (20, 16) ∧ 3 < zN E ∧ 16 < 2147483648 := ⟨sR_3 hE, cR_3 hE, by decide⟩
  obtain ⟨y, hy⟩ : ∃ y : Nat, T 0 26 = (y : Int) := ⟨(T 0 26).toNat, by omega⟩
  obtain ⟨mm, hmm⟩ : ∃ mm : Nat, T 0 27 = (mm : Int) := ⟨(T 0 27).toNat, by omega⟩
  obtain ⟨g, hg⟩ : ∃ g : Nat, T 0 24 = (g : Int) := ⟨(T 0 24).toNat, by omega⟩
  have hyn : (T 0 26).toNat = y := by omega
  have hmn : (T 0 27).toNat = mm := by omega
  have hgn : (T 0 24).toNat = g := by omega
  have ex : x1 = ((20 + y : Nat) : Int) := by omega
  subst ex
  have e36 : h 0 36 = (mm : Int) := by rw [i.1 27 (by omega) (by omega)]; exact hmm
  have sk := a.sk
  unfold skR at sk
  unfold pSaid at h0 h1
  have nf : ¬ T 0 26 = 20 := by omega
  rw [if_neg nf, hgn] at h0 h1
  have flt : ∀ (f : pF) (x2 : Int), (∀ h', frE h h' → BdR h' → FlR h' f → K h') → ∀ h' : zH, frWr h h' → FlR h' f → zG E mX10_saidLine (d + 4) 61 [zR 0, zI ((20 + y : Nat) : Int), zI x2] [] h' (qV K) := fun f x2 hf h' fr fl => bX10_saidLine_61 (d := d + 3) hE ⟨fun z => absurd z fl.ne, fun _ => hf h' (frE.w fr) (bd.w fr) fl⟩
  have t102 : ∀ (who : Int) (Tc : zH) (h' : zH), AtR h' B n (tkQ B n q) → frE h h' → BdR h' → HfR Tc h' → Tc 0 26 = (y : Int) → Tc 0 24 = (g : Int) → Tc 3 = T 3 → pMeas B n T (tkQ B n q) = .inr (who, Tc, tkQ B n (tkQ B n q)) → zG E mX10_saidLine (d + 4) 102 [zR 0, zI ((20 + y : Nat) : Int), zI who] [] h' (qV K) := by
    intro who Tc h' a' fr b i' t26 t24 t3 em
    rw [xB_r em] at h0 h1
    dsimp only at h0 h1
    refine bX10_saidLine_102 (d := d + 3) hE (R_tok hE a' (fun h2 fr2 a2 => ?_))
    rw [Int.toNat_natCast]
    refine ⟨nat_in (n := 40) (by omega), fun h3 e3 => ?_⟩
    have f3 : frE h h3 := by rw [e3]; exact (fr.tr (frE.w (frWr.y fr2))).st (by omega) (by omega) (show 20 ≤ _ by omega)
    have b3 : BdR h3 := by rw [e3]; exact (b.w (frWr.y fr2)).so (by omega)
    have i3 : HfR (hset Tc 16 y who) h3 := by rw [e3]; exact (i'.w (frWr.y fr2)).st (by omega) (by omega) rfl
    have a3 : AtR h3 B n (tkQ B n (tkQ B n q)) := by rw [e3]; exact a2.st (by omega)
    have e33 : h3 0 33 = (g : Int) := by rw [i3.1 24 (by omega) (by omega), hset_ne (by omega)]; exact t24
    have r3 : (hset Tc 16 y who) 3 = T 3 := by rw [hset_rne (by omega)]; exact t3
    refine R_told hE a3 i3 h3' (by omega) (by omega) (k := 8) rfl (m := g) (by omega) (by omega) e33 (fun f ef h4 fr4 fl => ⟨nat_in (n := 40) (by omega), fun h5 e5 => R_num_f hE (by rw [e5]; exact (fl.st (by omega)).ne) ⟨nat_in (n := 40) (by omega), fun h6 e6 => ?_⟩⟩) (fun r er h4 fr4 a4 => ⟨nat_in (n := 40) (by omega), fun h5 e5 => ?_⟩)
    · rw [r3] at ef
      refine saidT_f hE (by omega) (fun h' => h0 f (xB_l ef) h') ?_ ?_ ?_
      · rw [e6, e5]; exact ((f3.tr (frE.w fr4)).st (by omega) (by omega) (show 20 ≤ _ by omega)).st (by omega) (by omega) (show 20 ≤ _ by omega)
      · rw [e6, e5]; exact ((b3.w fr4).so (by omega)).so (by omega)
      · rw [e6, e5]; exact (fl.st (by omega)).st (by omega)
    · rw [r3] at er
      rw [xB_r er] at h0 h1
      have f5 : frE h h5 := by rw [e5]; exact (f3.tr (frE.w fr4)).st (by omega) (by omega) (show 20 ≤ _ by omega)
      have b5 : BdR h5 := by rw [e5]; exact (b3.w fr4).so (by omega)
      have i5 : HfR (hset (hset Tc 16 y who) 17 y r.1) h5 := by rw [e5]; exact (i3.w fr4).st (by omega) (by omega) rfl
      have a5 : AtR h5 B n r.2 := by rw [e5]; exact a4.st (by omega)
      refine R_num hE a5 (by decide) (fun f ef h6 fr6 fl => ⟨nat_in (n := 40) (by omega), fun h7 e7 => ?_⟩) (fun z ez h6 fr6 a6 => ⟨nat_in (n := 40) (by omega), fun h7 e7 => ?_⟩)
      · refine saidT_f hE (by omega) (fun h' => h0 f (xB_l ef) h') ?_ ?_ ?_
        · rw [e7]; exact (f5.tr (frE.w fr6)).st (by omega) (by omega) (show 20 ≤ _ by omega)
        · rw [e7]; exact (b5.w fr6).so (by omega)
        · rw [e7]; exact fl.st (by omega)
      · rw [xB_r ez] at h1
        refine saidT_s (B := B) (n := n) (q := z.2) (Tc := hset (hset (hset Tc 16 y who) 17 y r.1) 18 y z.1) hE (by omega) ?_ ?_ ?_ ?_ ?_ (fun h' fr' b' i' a' => h1 _ rfl h' fr' b' ?_ a')
        · rw [e7]; exact (f5.tr (frE.w fr6)).st (by omega) (by omega) (show 20 ≤ _ by omega)
        · rw [e7]; exact (b5.w fr6).so (by omega)
        · rw [e7]; exact (i5.w fr6).st (by omega) (by omega) rfl
        · rw [hset_ne (by omega), hset_ne (by omega), hset_ne (by omega)]; exact t26
        · rw [e7]; exact a6.st (by omega)
        · have tt : (Tc 0 26).toNat = y := by omega
          have e26 : (hset (hset (hset Tc 16 y who) 17 y r.1) 18 y z.1) 0 26 = Tc 0 26 := by rw [hset_ne (by omega), hset_ne (by omega), hset_ne (by omega)]
          unfold stY
          dsimp only
          rw [tt]
          rw [e26] at i'
          exact i'
  refine eX10_saidLine (d := d + 3) hE ⟨fun c => ?_, fun c => ?_⟩
  · have k2 : tkK B n (tkQ B n q) = 2 ∧ h 0 48 = tkV B n (tkQ B n q) := by omega
    refine bX10_saidLine_13 (d := d + 3) hE ⟨fun _ => ?_, fun z => absurd a.2.2.2.1 z⟩
    rw [e36]
    refine X10_found (o := 6) hE h15 (by omega) (by omega) ?_
    rw [i.fnd (by omega) (by omega) (k := 6) rfl (by omega), k2.2]
    have em : pMeas B n T (tkQ B n q) = if fnd (T 15) (tkV B n (tkQ B n q)) mm 0 = -1 then (if T 0 27 = 6 then .inl (2, tkP B n (tkQ B n q)) else .inr (T 0 27, hset (hset T 15 mm (tkV B n (tkQ B n q))) 0 27 (T 0 27 + 1), tkQ B n (tkQ B n q))) else .inr (fnd (T 15) (tkV B n (tkQ B n q)) mm 0, T, tkQ B n (tkQ B n q)) := by
      unfold pMeas
      rw [if_pos k2.1, hmn]
    generalize hv : fnd (T 15) (tkV B n (tkQ B n q)) mm 0 = v at em
    refine bX10_saidLine_41 (d := d + 3) hE ⟨fun c1 => ?_, fun c1 => ?_⟩
    · rw [if_neg c1] at em
      exact bX10_saidLine_61 (d := d + 3) hE ⟨fun _ => ⟨fun _ => t102 v T h a (frE.rf h) bd i hy hg rfl em, fun z => absurd c1 z⟩, fun z => absurd a.2.2.2.1 z⟩
    · have c1' := Decidable.not_not.mp c1
      rw [if_pos c1'] at em
      rw [e36]
      refine ⟨fun c6 => ?_, fun c6 => R_wrong hE a (by decide) (fun h2 fr2 f2 => ?_)⟩
      · have n6 : ¬ T 0 27 = 6 := by omega
        rw [if_neg n6] at em
        refine bX10_saidLine_61 (d := d + 3) hE ⟨fun _ => ⟨fun z => absurd c1' z, fun _ x ex => ?_⟩, fun z => absurd a.2.2.2.1 z⟩
        rw [e36] at ex
        subst ex
        have ew : w32 (6 + (mm : Int)) = ((6 + mm : Nat) : Int) := by rw [w32i (by omega) (by omega)]; omega
        rw [ew, Int.toNat_natCast, k2.2]
        refine ⟨nat_in (n := 12) (by omega), fun h2 e2 h3 e3 => ?_⟩
        have e36' : h2 0 36 = (mm : Int) := by rw [e2, hset_ne (by omega)]; exact e36
        rw [e36', w_suc (by omega)] at e3
        rw [hmm] at em
        refine t102 (mm : Int) _ h3 ?_ ?_ ?_ ?_ ?_ ?_ ?_ em
        · rw [e3, e2]; exact (a.st (by omega)).st (by omega)
        · rw [e3, e2]; exact ((frE.rf h).st (by omega) (by omega) (show 6 ≤ _ by omega)).s0 (by omega)
        · rw [e3, e2]; exact (bd.so (by omega)).so (by omega)
        · rw [e3, e2]; exact (i.st (by omega) (by omega) rfl).s0 (by omega) (by omega) rfl (by omega)
        · rw [hset_ne (by omega), hset_ne (by omega)]; exact hy
        · rw [hset_ne (by omega), hset_ne (by omega)]; exact hg
        · rw [hset_rne (by omega), hset_rne (by omega)]
      · have y6 : T 0 27 = 6 := by omega
        rw [if_pos y6] at em
        exact flt _ _ (fun h' => h0 _ (xB_l em) h') h2 fr2 f2
  · have k2 : ¬ tkK B n (tkQ B n q) = 2 := by omega
    have em : pMeas B n T (tkQ B n q) = .inl (1, tkP B n (tkQ B n q)) := by
      unfold pMeas
      rw [if_neg k2]
    exact R_wrong hE a (by decide) (fun h2 fr2 f2 => bX10_saidLine_13 (d := d + 3) hE ⟨fun z => absurd z f2.ne, fun _ => bX10_saidLine_41 (d := d + 3) hE ⟨fun _ => flt _ _ (fun h' => h0 _ (xB_l em) h') h2 fr2 f2, fun z => absurd (by decide) z⟩⟩)
end TRefs
