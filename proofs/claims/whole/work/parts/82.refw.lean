/-! ===== topic: the reference's lines: ways ===== -/
section TRefw
variable {E : zE} {d : Nat} {h : zH} {T : zH} {B : Nat → Int} {n : Nat}
theorem AtR.st {q : Nat} (a : AtR h B n q) {c j : Nat} {v : Int} (hc : c ≠ 1 ∧ ¬ (c = 0 ∧ 44 ≤ j ∧ j ≤ 50)) : AtR (hset h c j v) B n q := a.mv (fun c' j' hc' => hset_ne (by omega))
theorem R_way (hE : isR E) {q : Nat} (a : AtR h B n (tkQ B n q)) (i : HfR T h) (bd : BdR h) (h25 : 0 ≤ T 0 25 ∧ T 0 25 < 5) {x1 : Int} (ex1 : x1 = 5 + T 0 25) {K : zH → Prop}
    (h0 : ∀ f, pWay B n T q = .inl f → ∀ h', frE h h' → BdR h' → FlR h' f → K h')
    (h1 : ∀ r, pWay B n T q = .inr r → ∀ h', frE h h' → BdR h' → HfR r.1 h' → AtR h' B n r.2 → K h') : zCV E mX10_wayLine (d + 4) [zR 0, zI x1] h K := by
  have ha : zsh E 12 = (20, 10) ∧ 12 < zN E ∧ 10 < 2147483648 := ⟨sR_12 hE, cR_12 hE, by decide⟩
  obtain ⟨w, hw⟩ : ∃ w : Nat, T 0 25 = (w : Int) := ⟨(T 0 25).toNat, by omega⟩
  have hwn : (T 0 25).toNat = w := by omega
  have ex : x1 = ((5 + w : Nat) : Int) := by omega
  subst ex
  have e34 : h 0 34 = (w : Int) := by rw [i.1 25 (by omega) (by omega)]; exact hw
  unfold pWay pHead at h0 h1
  have nf : ¬ T 0 25 = 5 := by omega
  rw [if_neg nf, hwn] at h0 h1
  have e6 : ∀ k : Nat, k < 6 → w32 ((w32 (6 * ((5 + w : Nat) : Int))) + (k : Int)) = ((30 + (6 * w + k) : Nat) : Int) := fun k hk => by rw [w32i (x := 6 * ((5 + w : Nat) : Int)) (by omega) (by omega), w32i (by omega) (by omega)]; omega
  -- behind a fault
  have flt : ∀ (f : pF), (∀ h', frE h h' → BdR h' → FlR h' f → K h') → ∀ (m k : Nat), k + m = 6 → ∀ h' : zH, frE h h' → BdR h' → FlR h' f → zG E mX10_wayLine (d + 4) 34 [zR 0, zI ((5 + w : Nat) : Int), zI (k : Int)] [] h' (qV K) := by
    intro f hf m
    induction m with
    | zero =>
      intro k hk h' fr b fl
      exact bX10_wayLine_34 (d := d + 3) hE ⟨fun _ h2 e2 => hf h2 (by rw [e2]; exact fr.s0 (by omega)) (by rw [e2]; exact b.so (by omega)) (by rw [e2]; exact fl.st (by omega)), fun z => absurd (by omega) z⟩
    | succ m ih =>
      intro k hk h' fr b fl
      refine bX10_wayLine_34 (d := d + 3) hE ⟨fun z => absurd z (by omega), fun _ => R_num_f hE fl.ne ?_⟩
      rw [e6 k (by omega), Int.toNat_natCast]
      refine ⟨nat_in (n := 60) (by omega), fun h2 e2 y ey => ?_⟩
      rw [w_suc (by omega)] at ey
      rw [ey]
      exact ih (k + 1) (by omega) h2 (by rw [e2]; exact fr.st (by omega) (by omega) (show 30 ≤ _ by omega)) (by rw [e2]; exact b.so (by omega)) (by rw [e2]; exact fl.st (by omega))
  have loop : ∀ (m k : Nat), k + m = 6 → ∀ (q' : Nat) (Tc : zH) (h' : zH), AtR h' B n q' → frE h h' → BdR h' → HfR Tc h' → Tc 0 25 = (w : Int) →
      (∀ f, pBins B n w m k Tc q' = .inl f → ∀ h', frE h h' → BdR h' → FlR h' f → K h') → (∀ r, pBins B n w m k Tc q' = .inr r → ∀ h', frE h h' → BdR h' → HfR (hset r.1 0 25 (T 0 25 + 1)) h' → AtR h' B n r.2 → K h') →
      zG E mX10_wayLine (d + 4) 34 [zR 0, zI ((5 + w : Nat) : Int), zI (k : Int)] [] h' (qV K) := by
    intro m
    induction m with
    | zero =>
      intro k hk q' Tc h' a' fr b i' t25 k0 k1
      have e34' : h' 0 34 = (w : Int) := by rw [i'.1 25 (by omega) (by omega)]; exact t25
      refine bX10_wayLine_34 (d := d + 3) hE ⟨fun _ h2 e2 => ?_, fun z => absurd (by omega) z⟩
      rw [e34', w_suc (by omega)] at e2
      exact k1 _ rfl h2 (by rw [e2]; exact fr.s0 (by omega)) (by rw [e2]; exact b.so (by omega)) (by rw [e2]; exact i'.s0 (by omega) (by omega) rfl (by omega)) (by rw [e2]; exact a'.st (by omega))
    | succ m ih =>
      intro k hk q' Tc h' a' fr b i' t25 k0 k1
      unfold pBins at k0 k1
      refine bX10_wayLine_34 (d := d + 3) hE ⟨fun z => absurd z (by omega), fun _ => ?_⟩
      rw [e6 k (by omega), Int.toNat_natCast]
      refine R_num hE a' (by decide) (fun f ef h2 fr2 fl => ⟨nat_in (n := 60) (by omega), fun h3 e3 y ey => ?_⟩) (fun r er h2 fr2 a2 => ⟨nat_in (n := 60) (by omega), fun h3 e3 y ey => ?_⟩)
      · rw [w_suc (by omega)] at ey
        rw [ey]
        exact flt f (fun h' => k0 f (xB_l ef) h') m (k + 1) (by omega) h3 (by rw [e3]; exact (fr.tr (frE.w fr2)).st (by omega) (by omega) (show 30 ≤ _ by omega)) (by rw [e3]; exact (b.w fr2).so (by omega)) (by rw [e3]; exact fl.st (by omega))
      · rw [w_suc (by omega)] at ey
        rw [ey]
        rw [xB_r er] at k0 k1
        exact ih (k + 1) (by omega) r.2 _ h3 (by rw [e3]; exact a2.st (by omega)) (by rw [e3]; exact (fr.tr (frE.w fr2)).st (by omega) (by omega) (show 30 ≤ _ by omega)) (by rw [e3]; exact (b.w fr2).so (by omega)) (by rw [e3]; exact (i'.w fr2).st (by omega) (by omega) rfl) (by rw [hset_ne (by omega)]; exact t25) k0 k1
  refine eX10_wayLine (d := d + 3) hE (R_fresh hE a i ha (by omega) (by omega) (k := 5) rfl (m := w) (by omega) (by omega) e34 (fun f ef h2 fr2 fl => ?_) (fun v ev h2 fr2 a2 => ?_))
  · rw [Int.toNat_natCast]
    refine ⟨nat_in (n := 10) (by omega), fun h3 e3 => R_num_f hE (by rw [e3]; exact (fl.st (by omega)).ne) ⟨nat_in (n := 10) (by omega), fun h4 e4 => ?_⟩⟩
    refine flt f (fun h' => h0 f (xB_l ef) h') 6 0 rfl h4 ?_ ?_ ?_
    · rw [e4, e3]; exact ((frE.w fr2).st (by omega) (by omega) (show 5 ≤ _ by omega)).st (by omega) (by omega) (show 5 ≤ _ by omega)
    · rw [e4, e3]; exact ((bd.w fr2).so (by omega)).so (by omega)
    · rw [e4, e3]; exact (fl.st (by omega)).st (by omega)
  · rw [Int.toNat_natCast]
    rw [xB_r ev] at h0 h1
    refine ⟨nat_in (n := 10) (by omega), fun h3 e3 => ?_⟩
    have a3 : AtR h3 B n v.2 := by rw [e3]; exact a2.st (by omega)
    have fr3 : frE h h3 := by rw [e3]; exact (frE.w fr2).st (by omega) (by omega) (show 5 ≤ _ by omega)
    have b3 : BdR h3 := by rw [e3]; exact (bd.w fr2).so (by omega)
    have i3 : HfR (hset T 12 w v.1) h3 := by rw [e3]; exact (i.w fr2).st (by omega) (by omega) rfl
    refine R_num hE a3 (by decide) (fun f ef h4 fr4 fl => ⟨nat_in (n := 10) (by omega), fun h5 e5 => ?_⟩) (fun r er h4 fr4 a4 => ⟨nat_in (n := 10) (by omega), fun h5 e5 => ?_⟩)
    · refine flt f (fun h' => h0 f (xB_l ef) h') 6 0 rfl h5 ?_ ?_ ?_
      · rw [e5]; exact (fr3.tr (frE.w fr4)).st (by omega) (by omega) (show 5 ≤ _ by omega)
      · rw [e5]; exact (b3.w fr4).so (by omega)
      · rw [e5]; exact fl.st (by omega)
    · rw [xB_r er] at h0 h1
      refine loop 6 0 rfl r.2 _ h5 (by rw [e5]; exact a4.st (by omega)) (by rw [e5]; exact (fr3.tr (frE.w fr4)).st (by omega) (by omega) (show 5 ≤ _ by omega)) (by rw [e5]; exact (b3.w fr4).so (by omega)) (by rw [e5]; exact (i3.w fr4).st (by omega) (by omega) rfl) (by rw [hset_ne (by omega), hset_ne (by omega)]; exact hw) (fun f ef => h0 f (xB_l ef)) (fun r2 er2 => h1 _ (xB_r er2))
end TRefw
