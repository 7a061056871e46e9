/-! ===== topic: the reference's lines: rings ===== -/
section TRefg
variable {E : zE} {d : Nat} {h : zH} {T : zH} {B : Nat → Int} {n : Nat}
/-- the second halves show T but for the number of rings -/
def HfG (T h : zH) : Prop := (∀ j, 23 ≤ j → j ≤ 31 → j ≠ 24 → h 0 (j + 9) = T 0 j) ∧ (∀ c j, 2 ≤ c → c ≤ 19 → j < hO c → h c (hO c + j) = T c j) ∧ HfQ T h
theorem HfR.g (i : HfR T h) : HfG T h := ⟨fun j a b _ => i.1 j a b, i.2⟩
theorem HfG.w {h' : zH} (i : HfG T h) (fr : frWr h h') : HfG T h' := ⟨fun j a b c => by rw [fr _ _ (by omega)]; exact i.1 j a b c, fun c j a b e => by rw [fr _ _ (by omega)]; exact i.2.1 c j a b e, i.2.2.mv rfl (fun _ _ _ => rfl) (fun c j a b => fr c j (by omega))⟩
theorem HfG.st (i : HfG T h) {c j j' : Nat} {v : Int} (h2 : 2 ≤ c) (h21 : c ≤ 19) (e : j' = hO c + j) : HfG (hset T c j v) (hset h c j' v) := by
  subst e
  refine ⟨fun k a b c => by rw [hset_ne (by omega), hset_ne (by omega)]; exact i.1 k a b c, fun c' k a b hk => ?_, i.2.2.mv (hset_ne (by omega)) (fun c' j' hc => hset_ne (by omega)) (fun c' j' hc _ => hset_ne (by omega))⟩
  by_cases z : c' = c
  · subst z
    by_cases y : k = j
    · subst y
      rw [hset_eq, hset_eq]
    · rw [hset_ne (by omega), hset_ne (by omega)]; exact i.2.1 c' k a b hk
  · rw [hset_ne (by omega), hset_ne (by omega)]; exact i.2.1 c' k a b hk
theorem HfG.t24 (i : HfG T h) {v : Int} : HfG (hset T 0 24 v) h := ⟨fun j a b c => by rw [hset_ne (by omega)]; exact i.1 j a b c, fun c j a b e => by rw [hset_ne (by omega)]; exact i.2.1 c j a b e, i.2.2.mv (hset_ne (by omega)) (fun c' j' hc => hset_ne (by omega)) (fun _ _ _ _ => rfl)⟩
theorem HfG.r {h' : zH} (i : HfG T h) (e : h' = hset h 0 33 (T 0 24)) : HfR T h' := by
  refine ⟨fun j a b => ?_, fun c j a b hj => by rw [e, hset_ne (by omega)]; exact i.2.1 c j a b hj, i.2.2.mv rfl (fun _ _ _ => rfl) (fun c' j' hc _ => by rw [e, hset_ne (by omega)])⟩
  by_cases z : j = 24
  · subst z
    rw [e, hset_eq]
  · rw [e, hset_ne (by omega)]; exact i.1 j a b z
theorem bv0 {c : Nat} : bvR c 0 := by
  unfold bvR
  split
  · omega
  · split <;> omega
section
variable {R : Nat} {K : zH → Prop} {f : pF}
theorem fa46 (hE : isR E) (hf : ∀ h', frE h h' → BdR h' → FlR h' f → K h') {h' : zH} (fr : frE h h') (b : BdR h') (fl : FlR h' f) {x1 : Int} : zG E mX10_ringLine (d + 1) 46 [zR 0, zI x1, zU, zU] [] h' (qV K) :=
  bX10_ringLine_46 hE (R_word_f hE fl.ne ⟨fun _ h3 e3 => hf h3 (by rw [e3]; exact fr.s0 (by omega)) (by rw [e3]; exact b.so (by omega)) (by rw [e3]; exact fl.st (by omega)), fun z => absurd rfl z⟩)
theorem fa198 (hE : isR E) (hf : ∀ h', frE h h' → BdR h' → FlR h' f → K h') (hR : R < 8) {s : Nat} (hs : s < 80) {h' : zH} (fr : frE h h') (b : BdR h') (fl : FlR h' f) : zG E mX10_ringLine (d + 1) 198 [zR 0, zI ((8 + R : Nat) : Int), zI ((80 + s : Nat) : Int), zU] [] h' (qV K) := by
  refine bX10_ringLine_198 hE (R_word_f hE fl.ne ?_)
  rw [Int.toNat_natCast, Int.toNat_natCast]
  refine ⟨nat_in (n := 160) (by omega), Or.inl rfl, fun h2 e2 => ⟨nat_in (n := 160) (by omega), fun _ => ⟨nat_in (n := 16) (by omega), nat_in (n := 16) (by omega), fun h4 e4 => ?_⟩, fun z => absurd (by rw [e2, hset_eq]) z⟩⟩
  refine fa46 hE hf ?_ ?_ ?_
  · rw [e4, e2]; exact (fr.st (by omega) (by omega) (show 80 ≤ _ by omega)).st (by omega) (by omega) (show 8 ≤ _ by omega)
  · rw [e4, e2]; exact (b.st (by omega) (by omega) bv0).so (by omega)
  · rw [e4, e2]; exact (fl.st (by omega)).st (by omega)
theorem fa172 (hE : isR E) (hf : ∀ h', frE h h' → BdR h' → FlR h' f → K h') (hR : R < 8) {s : Nat} (hs : s < 80) {h' : zH} (fr : frE h h') (b : BdR h') (fl : FlR h' f) : zG E mX10_ringLine (d + 1) 172 [zR 0, zI ((8 + R : Nat) : Int), zI ((80 + s : Nat) : Int), zU] [zI 0, zI ((80 + s : Nat) : Int), zR 9] h' (qV K) := by
  refine bX10_ringLine_172 hE ⟨nat_in (n := 160) (by omega), fun h2 e2 => ?_⟩
  rw [Int.toNat_natCast] at e2 ⊢
  refine R_word_f hE (by rw [e2]; exact (fl.st (by omega)).ne) ⟨nat_in (n := 160) (by omega), Or.inl rfl, fun h3 e3 => ⟨nat_in (n := 160) (by omega), fun _ => fa198 hE hf hR hs ?_ ?_ ?_, fun z => absurd (by rw [e3, hset_eq]) z⟩⟩
  · rw [e3, e2]; exact (fr.st (by omega) (by omega) (show 80 ≤ _ by omega)).st (by omega) (by omega) (show 80 ≤ _ by omega)
  · rw [e3, e2]; exact (b.st (by omega) (by omega) bv0).st (by omega) (by omega) bv0
  · rw [e3, e2]; exact (fl.st (by omega)).st (by omega)
theorem fa152 (hE : isR E) (hf : ∀ h', frE h h' → BdR h' → FlR h' f → K h') (hR : R < 8) {s : Nat} (hs : s < 80) {h' : zH} (fr : frE h h') (b : BdR h') (fl : FlR h' f) {x3 : Int} : zG E mX10_ringLine (d + 3) 152 [zR 0, zI ((8 + R : Nat) : Int), zI ((80 + s : Nat) : Int), zI x3] [zI 0, zI ((80 + s : Nat) : Int), zR 8] h' (qV K) := by
  refine bX10_ringLine_152 (d := d + 2) hE ⟨nat_in (n := 160) (by omega), fun h2 e2 => ?_⟩
  rw [Int.toNat_natCast] at e2
  have f2 : frE h h2 := by rw [e2]; exact fr.st (by omega) (by omega) (show 80 ≤ _ by omega)
  have b2 : BdR h2 := by rw [e2]; exact b.st (by omega) (by omega) bv0
  have l2 : FlR h2 f := by rw [e2]; exact fl.st (by omega)
  exact ⟨fun _ => fa172 hE hf hR hs f2 b2 l2, fun _ => R_sig_f hE l2.ne (fa172 hE hf hR hs f2 b2 l2)⟩
theorem fa71 (hE : isR E) (hf : ∀ h', frE h h' → BdR h' → FlR h' f → K h') (hR : R < 8) {h' : zH} (h5 : 0 ≤ h' 5 (8 + R) ∧ h' 5 (8 + R) ≤ 10) (fr : frE h h') (b : BdR h') (fl : FlR h' f) : zG E mX10_ringLine (d + 3) 71 [zR 0, zI ((8 + R : Nat) : Int), zU, zU] [] h' (qV K) := by
  refine bX10_ringLine_71 (d := d + 2) hE (R_goOn_f hE fl.ne ⟨nat_in (n := 16) (by omega), fun x2 ex2 => ?_⟩)
  rw [Int.toNat_natCast] at ex2
  obtain ⟨s, hs, es⟩ : ∃ s : Nat, s < 80 ∧ x2 = ((80 + s : Nat) : Int) := by
    have m9 : 0 ≤ min 9 (h' 5 (8 + R)) ∧ min 9 (h' 5 (8 + R)) ≤ 9 := by omega
    refine ⟨10 * R + (min 9 (h' 5 (8 + R))).toNat, by omega, ?_⟩
    rw [ex2, w32i (x := 10 * ((8 + R : Nat) : Int)) (by omega) (by omega), w32i (by omega) (by omega)]
    omega
  subst es
  rw [Int.toNat_natCast]
  refine R_sig_f hE fl.ne ⟨nat_in (n := 160) (by omega), fun h2 e2 => R_sig_f hE (by rw [e2]; exact (fl.st (by omega)).ne) ⟨nat_in (n := 160) (by omega), fun h3 e3 => ?_⟩⟩
  have l3 : FlR h3 f := by rw [e3, e2]; exact (fl.st (by omega)).st (by omega)
  refine R_word_f hE l3.ne ⟨fun _ => ⟨fun _ => fa152 (x3 := 0) hE hf hR hs ?_ ?_ l3, fun z => absurd rfl z⟩, fun z => absurd rfl z⟩
  · rw [e3, e2]; exact (fr.st (by omega) (by omega) (show 80 ≤ _ by omega)).st (by omega) (by omega) (show 80 ≤ _ by omega)
  · rw [e3, e2]; exact (b.st (by omega) (by omega) bv0).st (by omega) (by omega) bv0
end
theorem R_ring (hE : isR E) {q : Nat} (a : AtR h B n (tkQ B n q)) (i : HfR T h) (bd : BdR h) (h23 : 0 ≤ T 0 23 ∧ T 0 23 ≤ 4) (h24 : 0 ≤ T 0 24 ∧ T 0 24 < 8) {x1 : Int} (ex1 : x1 = 8 + T 0 24) {K : zH → Prop}
    (h0 : ∀ f, pRing B n T q = .inl f → ∀ h', frE h h' → BdR h' → FlR h' f → K h')
    (h1 : ∀ r, pRing B n T q = .inr r → ∀ h', frE h h' → BdR h' → HfR r.1 h' → AtR h' B n r.2 → K h') : zCV E mX10_ringLine (d + 5) [zR 0, zI x1] h K := by
  have h3' : zsh E 3 = (20, 16) ∧ 3 < zN E ∧ 16 < 2147483648 := ⟨sR_3 hE, cR_3 hE, by decide⟩
  have h2' : zsh E 2 = (20, 8) ∧ 2 < zN E ∧ 8 < 2147483648 := ⟨sR_2 hE, cR_2 hE, by decide⟩
  obtain ⟨R, hR⟩ : ∃ R : Nat, T 0 24 = (R : Int) := ⟨(T 0 24).toNat, by omega⟩
  obtain ⟨l0, hl0⟩ : ∃ l0 : Nat, T 0 23 = (l0 : Int) := ⟨(T 0 23).toNat, by omega⟩
  have hRn : (T 0 24).toNat = R := by omega
  have hln : (T 0 23).toNat = l0 := by omega
  have ex : x1 = ((8 + R : Nat) : Int) := by omega
  subst ex
  have R8 : R < 8 := by omega
  have e33 : h 0 33 = (R : Int) := by rw [i.1 24 (by omega) (by omega)]; exact hR
  unfold pRing pHead at h0 h1
  have nf : ¬ T 0 24 = 8 := by omega
  rw [if_neg nf, hRn, hln] at h0 h1
  have loop : ∀ (m k : Nat), k + m = 11 → k ≤ 10 → ∀ (q' : Nat) (Tc : zH) (h' : zH), AtR h' B n q' → frE h h' → BdR h' → HfG Tc h' → h' 0 33 = (R : Int) → Tc 0 24 = ((R + 1 : Nat) : Int) → Tc 5 R = (k : Int) →
      (∀ f, pStones B n R m k Tc q' = .inl f → ∀ h', frE h h' → BdR h' → FlR h' f → K h') → (∀ r, pStones B n R m k Tc q' = .inr r → ∀ h', frE h h' → BdR h' → HfR r.1 h' → AtR h' B n r.2 → K h') →
      zG E mX10_ringLine (d + 5) 46 [zR 0, zI ((8 + R : Nat) : Int), zU, zU] [] h' (qV K) := by
    intro m
    induction m with
    | zero => intro k hk hk10; exact absurd hk (by omega)
    | succ m ih =>
      intro k hk hk10 q' Tc h' a' fr b g e33' t24 t5 k0 k1
      unfold pStones at k0 k1
      have e5 : h' 5 (8 + R) = (k : Int) := (g.2.1 5 R (by omega) (by omega) (show R < 8 by omega)).trans t5
      refine bX10_ringLine_46 (d := d + 4) hE (R_wordk hE a' (kk := 22) (by decide) (by decide) (by decide) ⟨fun c h3 e3 => ?_, fun c => ?_⟩)
      · rw [if_neg (bI_ne c)] at k1
        rw [e33', w_suc (by omega), ← t24] at e3
        exact k1 _ rfl h3 (by rw [e3]; exact fr.s0 (by omega)) (by rw [e3]; exact b.so (by omega)) (g.r e3) (by rw [e3]; exact a'.st (by omega))
      · rw [if_pos (bI_e c)] at k0 k1
        rw [Int.toNat_natCast, e5]
        refine ⟨nat_in (n := 16) (by omega), fun c10 => ?_, fun c10 => R_wrong hE a' (by decide) (fun h2 fr2 f2 => ?_)⟩
        · have nk : ¬ k = 10 := by omega
          rw [if_neg nk] at k0 k1
          have s80 : 10 * R + k < 80 := by omega
          generalize hs : 10 * R + k = s at k0 k1 s80
          have flt : ∀ f, pSt6 B n (tkQ B n q') = .inl f → ∀ h', frE h h' → BdR h' → FlR h' f → K h' := fun f ef => k0 f (xB_l ef)
          -- the words behind
          have g198 : ∀ (T5 : zH) (q2 : Nat) (h2 : zH), AtR h2 B n q2 → frE h h2 → BdR h2 → HfG T5 h2 → h2 0 33 = (R : Int) → T5 5 R = (k : Int) → (∀ h3, AtR h3 B n (nxK B n 25 q2) → frE h h3 → BdR h3 → HfG (hset (hset T5 11 s (bI (tkK B n q2 = 25))) 5 R ((k + 1 : Nat) : Int)) h3 → h3 0 33 = (R : Int) → zG E mX10_ringLine (d + 5) 46 [zR 0, zI ((8 + R : Nat) : Int), zU, zU] [] h3 (qV K)) → zG E mX10_ringLine (d + 5) 198 [zR 0, zI ((8 + R : Nat) : Int), zI ((80 + s : Nat) : Int), zU] [] h2 (qV K) := by
            intro T5 q2 h2 a2 fr2 b2 g2 e2 t5' C
            refine bX10_ringLine_198 (d := d + 4) hE (R_wordk hE a2 (kk := 25) (by decide) (by decide) (by decide) ?_)
            rw [Int.toNat_natCast, Int.toNat_natCast]
            refine ⟨nat_in (n := 160) (by omega), bI_01, fun h3 e3 => ?_⟩
            have q11 : h3 11 (80 + s) = bI (tkK B n q2 = 25) := by rw [e3, hset_eq]
            have a3 : AtR h3 B n q2 := by rw [e3]; exact a2.st (by omega)
            have f3 : frE h h3 := by rw [e3]; exact fr2.st (by omega) (by omega) (show 80 ≤ _ by omega)
            have b3 : BdR h3 := by rw [e3]; exact b2.st (by omega) (by omega) (show _ ∨ _ from bI_01)
            have g3 : HfG (hset T5 11 s (bI (tkK B n q2 = 25))) h3 := by rw [e3]; exact g2.st (by omega) (by omega) rfl
            have e33'' : h3 0 33 = (R : Int) := by rw [e3, hset_ne (by omega)]; exact e2
            rw [q11]
            have fin : ∀ h4 h5 : zH, frWr h3 h4 → AtR h4 B n (nxK B n 25 q2) → h5 = hset h4 5 (8 + R) (w32 (h4 5 (8 + R) + 1)) → zG E mX10_ringLine (d + 5) 46 [zR 0, zI ((8 + R : Nat) : Int), zU, zU] [] h5 (qV K) := by
              intro h4 h5 fr4 a4 e5'
              have q5 : h4 5 (8 + R) = (k : Int) := by
                rw [fr4 _ _ (by omega)]
                refine (g3.2.1 5 R (by omega) (by omega) (show R < 8 by omega)).trans ?_
                rw [hset_ne (by omega)]; exact t5'
              rw [q5, w_suc (by omega)] at e5'
              refine C h5 ?_ ?_ ?_ ?_ ?_
              · rw [e5']; exact a4.st (by omega)
              · rw [e5']; exact (f3.tr (frE.w fr4)).st (by omega) (by omega) (show 8 ≤ _ by omega)
              · rw [e5']; exact (b3.w fr4).so (by omega)
              · rw [e5']; exact (g3.w fr4).st (by omega) (by omega) rfl
              · rw [e5', hset_ne (by omega), fr4 _ _ (by omega)]; exact e33''
            refine ⟨nat_in (n := 160) (by omega), fun c25 => ⟨nat_in (n := 16) (by omega), nat_in (n := 16) (by omega), fun h5 e5' => fin h3 h5 (frWr.rf h3) ?_ e5'⟩, fun c25 => R_tok (d := d + 2) hE a3 (fun h4 fr4 a4 => ⟨nat_in (n := 16) (by omega), nat_in (n := 16) (by omega), fun h5 e5' => fin h4 h5 (frWr.y fr4) ?_ e5'⟩)⟩
            · unfold nxK
              rw [if_neg (bI_ne c25)]; exact a3
            · unfold nxK
              rw [if_pos (bI_e c25)]; exact a4
          have g172 : ∀ (v9 : Int) (T4 : zH) (q2 : Nat) (h2 : zH), -99 ≤ v9 ∧ v9 ≤ 99 → AtR h2 B n q2 → frE h h2 → BdR h2 → HfG T4 h2 → h2 0 33 = (R : Int) → T4 5 R = (k : Int) → (∀ h3, AtR h3 B n (nxK B n 25 (nxK B n 24 q2)) → frE h h3 → BdR h3 → HfG (hset (hset (hset (hset T4 9 s v9) 10 s (bI (tkK B n q2 = 24))) 11 s (bI (tkK B n (nxK B n 24 q2) = 25))) 5 R ((k + 1 : Nat) : Int)) h3 → h3 0 33 = (R : Int) → zG E mX10_ringLine (d + 5) 46 [zR 0, zI ((8 + R : Nat) : Int), zU, zU] [] h3 (qV K)) → zG E mX10_ringLine (d + 5) 172 [zR 0, zI ((8 + R : Nat) : Int), zI ((80 + s : Nat) : Int), zU] [zI v9, zI ((80 + s : Nat) : Int), zR 9] h2 (qV K) := by
            intro v9 T4 q2 h2 hv a2 fr2 b2 g2 e2 t5' C
            refine bX10_ringLine_172 (d := d + 4) hE ⟨nat_in (n := 160) (by omega), fun h3 e3 => ?_⟩
            rw [Int.toNat_natCast] at e3 ⊢
            have a3 : AtR h3 B n q2 := by rw [e3]; exact a2.st (by omega)
            have f3 : frE h h3 := by rw [e3]; exact fr2.st (by omega) (by omega) (show 80 ≤ _ by omega)
            have b3 : BdR h3 := by rw [e3]; exact b2.st (by omega) (by omega) (show _ ∧ _ from hv)
            have g3 : HfG (hset T4 9 s v9) h3 := by rw [e3]; exact g2.st (by omega) (by omega) rfl
            have e33'' : h3 0 33 = (R : Int) := by rw [e3, hset_ne (by omega)]; exact e2
            refine R_wordk hE a3 (kk := 24) (by decide) (by decide) (by decide) ⟨nat_in (n := 160) (by omega), bI_01, fun h4 e4 => ?_⟩
            have q10 : h4 10 (80 + s) = bI (tkK B n q2 = 24) := by rw [e4, hset_eq]
            have a4 : AtR h4 B n q2 := by rw [e4]; exact a3.st (by omega)
            have f4 : frE h h4 := by rw [e4]; exact f3.st (by omega) (by omega) (show 80 ≤ _ by omega)
            have b4 : BdR h4 := by rw [e4]; exact b3.st (by omega) (by omega) (show _ ∨ _ from bI_01)
            have g4 : HfG (hset (hset T4 9 s v9) 10 s (bI (tkK B n q2 = 24))) h4 := by rw [e4]; exact g3.st (by omega) (by omega) rfl
            have e33a : h4 0 33 = (R : Int) := by rw [e4, hset_ne (by omega)]; exact e33''
            rw [q10]
            have t5a : (hset (hset T4 9 s v9) 10 s (bI (tkK B n q2 = 24))) 5 R = (k : Int) := by rw [hset_ne (by omega), hset_ne (by omega)]; exact t5'
            have eN : nxK B n 24 q2 = if tkK B n q2 = 24 then tkQ B n q2 else q2 := rfl
            refine ⟨nat_in (n := 160) (by omega), fun c24 => ?_, fun c24 => R_tok (d := d + 2) hE a4 (fun h5 fr5 a5 => ?_)⟩
            · rw [if_neg (bI_ne c24)] at eN
              rw [eN] at C
              exact g198 _ q2 h4 a4 f4 b4 g4 e33a t5a C
            · rw [if_pos (bI_e c24)] at eN
              rw [eN] at C
              exact g198 _ _ h5 a5 (f4.tr (frE.w (frWr.y fr5))) (b4.w (frWr.y fr5)) (g4.w (frWr.y fr5)) (by rw [fr5 _ _ (by omega)]; exact e33a) t5a C
          -- all six
          have six : ∀ (v : z6) (q2 : Nat) (T4 : zH) (h2 : zH), pSt6 B n (tkQ B n q') = .inr (v, nxK B n 25 (nxK B n 24 q2)) → v.2.2.2.2.1 = bI (tkK B n q2 = 24) → v.2.2.2.2.2 = bI (tkK B n (nxK B n 24 q2) = 25) → -99 ≤ v.2.2.2.1 ∧ v.2.2.2.1 ≤ 99 → T4 = hset (hset (hset Tc 6 s v.1) 7 s v.2.1) 8 s v.2.2.1 → AtR h2 B n q2 → frE h h2 → BdR h2 → HfG T4 h2 → h2 0 33 = (R : Int) → zG E mX10_ringLine (d + 5) 172 [zR 0, zI ((8 + R : Nat) : Int), zI ((80 + s : Nat) : Int), zU] [zI v.2.2.2.1, zI ((80 + s : Nat) : Int), zR 9] h2 (qV K) := by
            intro v q2 T4 h2 ep e4 e5' hv eT a2 fr2 b2 g2 e2
            rw [xB_r ep] at k0 k1
            refine g172 v.2.2.2.1 T4 q2 h2 hv a2 fr2 b2 g2 e2 (by rw [eT, hset_ne (by omega), hset_ne (by omega), hset_ne (by omega)]; exact t5) (fun h3 a3 fr3 b3 g3 e3 => ?_)
            refine ih (k + 1) (by omega) (by omega) _ _ h3 a3 fr3 b3 ?_ e3 ?_ (by rw [hset_eq]) k0 k1
            · unfold st6
              dsimp only
              rw [e4, e5', ← eT]
              exact g3
            · rw [hset_ne (by omega), st6_o (by omega)]; exact t24
          refine bX10_ringLine_71 (d := d + 4) hE (R_goOn (d := d + 1) hE a' (fun h2 fr2 a2 => ⟨nat_in (n := 16) (by omega), fun x2 ex2 => ?_⟩))
          have q5 : h2 5 (8 + R) = (k : Int) := by rw [fr2 _ _ (by omega)]; exact e5
          have m9 : min 9 (k : Int) = (k : Int) := by omega
          rw [Int.toNat_natCast, q5, m9, w32i (x := 10 * ((8 + R : Nat) : Int)) (by omega) (by omega), w32i (by omega) (by omega), show 10 * ((8 + R : Nat) : Int) + (k : Int) = ((80 + s : Nat) : Int) by omega] at ex2
          subst ex2
          rw [Int.toNat_natCast]
          unfold pSt6 at flt six
          have fr2' := frWr.y fr2
          refine R_sig (d := d) hE a2 (by decide) (fun f ef h3 fr3 fl => ⟨nat_in (n := 160) (by omega), fun h4 e4 => R_sig_f (d := d + 2) hE (by rw [e4]; exact (fl.st (by omega)).ne) ⟨nat_in (n := 160) (by omega), fun h5 e5' => ?_⟩⟩) (fun vx ex3 h3 fr3 a3 => ⟨nat_in (n := 160) (by omega), fun h4 e4 => ?_⟩)
          · have l5 : FlR h5 f := by rw [e5', e4]; exact (fl.st (by omega)).st (by omega)
            refine R_word_f hE l5.ne ⟨fun _ => ⟨fun _ => fa152 (d := d + 2) (x3 := 0) hE (flt f (xB_l ef)) R8 s80 ?_ ?_ l5, fun z => absurd rfl z⟩, fun z => absurd rfl z⟩
            · rw [e5', e4]; exact ((fr.tr (frE.w (fr2'.tr fr3))).st (by omega) (by omega) (show 80 ≤ _ by omega)).st (by omega) (by omega) (show 80 ≤ _ by omega)
            · rw [e5', e4]; exact ((b.w (fr2'.tr fr3)).st (by omega) (by omega) bv0).st (by omega) (by omega) bv0
          · rw [xB_r ex3] at flt six
            have rx := pSig_q a2.2.2.1 ex3
            have a4 : AtR h4 B n vx.2 := by rw [e4]; exact a3.st (by omega)
            have f4 : frE h h4 := by rw [e4]; exact (fr.tr (frE.w (fr2'.tr fr3))).st (by omega) (by omega) (show 80 ≤ _ by omega)
            have b4 : BdR h4 := by rw [e4]; exact (b.w (fr2'.tr fr3)).st (by omega) (by omega) (show _ ∧ _ by omega)
            have g4 : HfG (hset Tc 6 s vx.1) h4 := by rw [e4]; exact (g.w (fr2'.tr fr3)).st (by omega) (by omega) rfl
            have e33a : h4 0 33 = (R : Int) := by rw [e4, hset_ne (by omega), fr3 _ _ (by omega), fr2 _ _ (by omega)]; exact e33'
            refine R_sig (d := d) hE a4 (by decide) (fun f ef h5 fr5 fl => ⟨nat_in (n := 160) (by omega), fun h6 e6 => ?_⟩) (fun vy ey h5 fr5 a5 => ⟨nat_in (n := 160) (by omega), fun h6 e6 => ?_⟩)
            · have l6 : FlR h6 f := by rw [e6]; exact fl.st (by omega)
              refine R_word_f hE l6.ne ⟨fun _ => ⟨fun _ => fa152 (d := d + 2) (x3 := 0) hE (flt f (xB_l ef)) R8 s80 ?_ ?_ l6, fun z => absurd rfl z⟩, fun z => absurd rfl z⟩
              · rw [e6]; exact (f4.tr (frE.w fr5)).st (by omega) (by omega) (show 80 ≤ _ by omega)
              · rw [e6]; exact (b4.w fr5).st (by omega) (by omega) bv0
            · rw [xB_r ey] at flt six
              have ry := pSig_q a4.2.2.1 ey
              have a6 : AtR h6 B n vy.2 := by rw [e6]; exact a5.st (by omega)
              have f6 : frE h h6 := by rw [e6]; exact (f4.tr (frE.w fr5)).st (by omega) (by omega) (show 80 ≤ _ by omega)
              have b6 : BdR h6 := by rw [e6]; exact (b4.w fr5).st (by omega) (by omega) (show _ ∧ _ by omega)
              have g6 : HfG (hset (hset Tc 6 s vx.1) 7 s vy.1) h6 := by rw [e6]; exact (g4.w fr5).st (by omega) (by omega) rfl
              have e33b : h6 0 33 = (R : Int) := by rw [e6, hset_ne (by omega), fr5 _ _ (by omega)]; exact e33a
              unfold pLn at flt six
              refine R_wordk hE a6 (kk := 23) (by decide) (by decide) (by decide) ⟨fun c23 => ⟨fun _ => ?_, fun z => absurd c23 z⟩, fun c23 => R_tok (d := d + 2) hE a6 (fun h7 fr7 a7 => ⟨fun z => absurd z c23, fun _ => ?_⟩)⟩
              · rw [if_neg (bI_ne c23)] at flt six
                refine bX10_ringLine_152 (d := d + 4) hE ⟨nat_in (n := 160) (by omega), fun h8 e8 => ⟨fun _ => ?_, fun z => absurd c23 z⟩⟩
                rw [Int.toNat_natCast] at e8
                refine six (vx.1, vy.1, 0, 0, bI (tkK B n vy.2 = 24), bI (tkK B n (nxK B n 24 vy.2) = 25)) vy.2 _ h8 rfl rfl rfl (by dsimp only; omega) rfl ?_ ?_ ?_ ?_ ?_
                · rw [e8]; exact a6.st (by omega)
                · rw [e8]; exact f6.st (by omega) (by omega) (show 80 ≤ _ by omega)
                · rw [e8]; exact b6.st (by omega) (by omega) bv0
                · rw [e8]; exact g6.st (by omega) (by omega) rfl
                · rw [e8, hset_ne (by omega)]; exact e33b
              · rw [if_pos (bI_e c23)] at flt six
                have fr7' := frWr.y fr7
                refine R_sig (d := d) hE a7 (by decide) (fun f ef h8 fr8 fl => fa152 (d := d + 2) hE (flt f (xB_l (xB_l ef))) R8 s80 (f6.tr (frE.w (fr7'.tr fr8))) (b6.w (fr7'.tr fr8)) fl) (fun vu eu h8 fr8 a8 => ?_)
                rw [xB_r eu] at flt six
                have ru := pSig_q a7.2.2.1 eu
                refine bX10_ringLine_152 (d := d + 4) hE ⟨nat_in (n := 160) (by omega), fun h9 e9 => ⟨fun z => absurd z c23, fun _ => ?_⟩⟩
                rw [Int.toNat_natCast] at e9
                have a9 : AtR h9 B n vu.2 := by rw [e9]; exact a8.st (by omega)
                have f9 : frE h h9 := by rw [e9]; exact (f6.tr (frE.w (fr7'.tr fr8))).st (by omega) (by omega) (show 80 ≤ _ by omega)
                have b9 : BdR h9 := by rw [e9]; exact (b6.w (fr7'.tr fr8)).st (by omega) (by omega) (show _ ∧ _ by omega)
                have g9 : HfG (hset (hset (hset Tc 6 s vx.1) 7 s vy.1) 8 s vu.1) h9 := by rw [e9]; exact (g6.w (fr7'.tr fr8)).st (by omega) (by omega) rfl
                have e33c : h9 0 33 = (R : Int) := by rw [e9, hset_ne (by omega), fr8 _ _ (by omega), fr7 _ _ (by omega)]; exact e33b
                refine R_sig (d := d) hE a9 (by decide) (fun f ef h10 fr10 fl => fa172 (d := d + 4) hE (flt f (xB_l (xB_l ef))) R8 s80 (f9.tr (frE.w fr10)) (b9.w fr10) fl) (fun vv evv h10 fr10 a10 => ?_)
                rw [xB_r evv] at six
                have rv := pSig_q a9.2.2.1 evv
                exact six (vx.1, vy.1, vu.1, vv.1, bI (tkK B n vv.2 = 24), bI (tkK B n (nxK B n 24 vv.2) = 25)) vv.2 _ h10 rfl rfl rfl (by dsimp only; omega) rfl a10 (f9.tr (frE.w fr10)) (b9.w fr10) (g9.w fr10) (by rw [fr10 _ _ (by omega)]; exact e33c)
        · have yk : k = 10 := by omega
          rw [if_pos yk] at k0
          exact fa71 (d := d + 2) hE (k0 _ rfl) R8 (by rw [fr2 _ _ (by omega), e5]; omega) (fr.tr (frE.w fr2)) (b.w fr2) f2
  refine eX10_ringLine (d := d + 4) hE (R_fresh (d := d + 1) hE a i h3' (by omega) (by omega) (k := 8) rfl (m := R) (by omega) (by omega) e33 (fun f ef h2 fr2 fl => ?_) (fun v ev h2 fr2 a2 => ?_))
  · rw [Int.toNat_natCast]
    refine ⟨nat_in (n := 16) (by omega), fun h3 e3 => R_told_f (d := d + 3) hE (by rw [e3]; exact (fl.st (by omega)).ne) h2' ⟨nat_in (n := 16) (by omega), fun h4 e4 => ⟨nat_in (n := 16) (by omega), fun h5 e5 => fa46 (d := d + 4) hE (h0 f (xB_l ef)) ?_ ?_ ?_⟩⟩⟩
    · rw [e5, e4, e3]; exact (((frE.w fr2).st (by omega) (by omega) (show 8 ≤ _ by omega)).st (by omega) (by omega) (show 8 ≤ _ by omega)).st (by omega) (by omega) (show 8 ≤ _ by omega)
    · rw [e5, e4, e3]; exact (((bd.w fr2).so (by omega)).so (by omega)).so (by omega)
    · rw [e5, e4, e3]; exact ((fl.st (by omega)).st (by omega)).st (by omega)
  · rw [Int.toNat_natCast]
    rw [xB_r ev] at h0 h1
    refine ⟨nat_in (n := 16) (by omega), fun h3 e3 => ?_⟩
    have a3 : AtR h3 B n v.2 := by rw [e3]; exact a2.st (by omega)
    have f3 : frE h h3 := by rw [e3]; exact (frE.w fr2).st (by omega) (by omega) (show 8 ≤ _ by omega)
    have b3 : BdR h3 := by rw [e3]; exact (bd.w fr2).so (by omega)
    have i3 : HfR (hset T 3 R v.1) h3 := by rw [e3]; exact (i.w fr2).st (by omega) (by omega) rfl
    have e32 : h3 0 32 = (l0 : Int) := by rw [i3.1 23 (by omega) (by omega), hset_ne (by omega)]; exact hl0
    have r2 : (hset T 3 R v.1) 2 = T 2 := hset_rne (by omega)
    refine R_told (d := d + 1) hE a3 i3 h2' (by omega) (by omega) (k := 4) rfl (m := l0) (by omega) (by omega) e32 (fun f ef h4 fr4 fl => ⟨nat_in (n := 16) (by omega), fun h5 e5 => ⟨nat_in (n := 16) (by omega), fun h6 e6 => fa46 (d := d + 4) hE (h0 f (xB_l (by rw [r2] at ef; exact ef))) ?_ ?_ ?_⟩⟩) (fun l el h4 fr4 a4 => ⟨nat_in (n := 16) (by omega), fun h5 e5 => ⟨nat_in (n := 16) (by omega), fun h6 e6 => ?_⟩⟩)
    · rw [e6, e5]; exact ((f3.tr (frE.w fr4)).st (by omega) (by omega) (show 8 ≤ _ by omega)).st (by omega) (by omega) (show 8 ≤ _ by omega)
    · rw [e6, e5]; exact ((b3.w fr4).so (by omega)).so (by omega)
    · rw [e6, e5]; exact (fl.st (by omega)).st (by omega)
    · rw [r2] at el
      rw [xB_r el] at h0 h1
      refine loop 11 0 rfl (by omega) l.2 _ h6 ?_ ?_ ?_ ?_ ?_ ?_ ?_ h0 h1
      · rw [e6, e5]; exact (a4.st (by omega)).st (by omega)
      · rw [e6, e5]; exact ((f3.tr (frE.w fr4)).st (by omega) (by omega) (show 8 ≤ _ by omega)).st (by omega) (by omega) (show 8 ≤ _ by omega)
      · rw [e6, e5]; exact ((b3.w fr4).so (by omega)).so (by omega)
      · rw [e6, e5]; exact ((((i3.w fr4).g).st (by omega) (by omega) rfl).st (by omega) (by omega) rfl).t24
      · rw [e6, hset_ne (by omega), e5, hset_ne (by omega), fr4 _ _ (by omega), e3, hset_ne (by omega), fr2 _ _ (by omega)]; exact e33
      · rw [hset_eq]; omega
      · rw [hset_ne (by omega), hset_eq]; rfl
end TRefg
