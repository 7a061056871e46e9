/-! ===== topic: the reference's line, whole ===== -/
section TRefq
variable {E : zE} {d : Nat} {h : zH} {T : zH} {B : Nat → Int} {n : Nat}
theorem BdR.g {h' : zH} (b : BdR h) (fr : frGr h h') : BdR h' := b.mv (fun c j hc => fr c j (by omega) (by omega))
theorem TdR.or {h' : zH} {T' : zH} (td : TdR T h) {x : Nat} (hx : x < 7) (e : h' 0 42 = zor (h 0 42) (zshl 1 (x : Int))) (t28 : bI (T' 0 28 ≠ 0) = if x = 3 then 1 else bI (T 0 28 ≠ 0)) (t32 : T' 0 32 = if x = 5 then 1 else T 0 32) (t33 : T' 0 33 = if x = 6 then 1 else T 0 33) (tz : T' 0 28 = 0 → h' 0 41 = 0 ∧ h' 0 53 = 0) : TdR T' h' := by
  obtain ⟨a, ha⟩ : ∃ a : Nat, h 0 42 = (a : Int) := ⟨(h 0 42).toNat, by have := td.1; omega⟩
  have td1 := td.1
  have td2 := td.2.1
  rw [ha] at e td1 td2
  have b := bt_or a (by omega) x hx
  rw [← e] at b
  rw [td2.1, td2.2.1, td2.2.2] at b
  exact ⟨b.1, ⟨by rw [b.2.1, t28], by rw [b.2.2.1, t32], by rw [b.2.2.2, t33]⟩, tz⟩
theorem R_line (hE : isR E) {q : Nat} (a : AtR h B n q) (i : HfR T h) (bd : BdR h) (w : WfP T) (td : TdR T h) {l : Nat} (hl : l ≤ 900) (e43 : h 0 43 = (l : Int)) {K : zH → Prop}
    (h0 : ∀ f, pLs B n T q = .inl f → ∀ h', frT h h' → BdR h' → FlR h' f → K h')
    (h1 : ∀ r, pLs B n T q = .inr r → ∀ h', frT h h' → BdR h' → HfR r.1 h' → TdR r.1 h' → AtR h' B n r.2 → h' 0 43 = ((l + 1 : Nat) : Int) → K h') : zCV E mX10_line (d + 131) [zR 0] h K := by
  have hq := a.2.2.1
  have wn := w.1
  have hB : ∀ j, j < n → 0 ≤ B j ∧ B j ≤ 255 := fun j hj => (a.1.2.2 j hj).2
  have h2' : zsh E 2 = (20, 8) ∧ 2 < zN E ∧ 8 < 2147483648 := ⟨sR_2 hE, cR_2 hE, by decide⟩
  have flt : ∀ (f : pF) (h' : zH), pLine B n T q = .inl f → frT h h' → BdR h' → FlR h' f → K h' := fun f h' ef fr b fl => h0 f (xB_l ef) h' fr b fl
  have fin : ∀ (T' : zH) (q4 : Nat) (h4 : zH), pLine B n T q = .inr (T', q4) → frT h h4 → BdR h4 → HfR T' h4 → TdR T' h4 → AtR h4 B n q4 → h4 0 43 = (l : Int) → zG E mX10_line (d + 131) 254 [zR 0, zU] [] h4 (qV K) := by
    intro T' q4 h4 ep fr b i4 t4 a4 e4
    refine R_l254 (d := d + 128) hE a4 fr b hl e4 (fun c h5 fr5 b5 f5 => h0 _ ?_ h5 fr5 b5 f5) (fun c h5 fr5 b5 f5 a5 e5 => h1 (T', tkQ B n q4) ?_ h5 fr5 b5 ?_ ?_ a5 e5)
    · unfold pLs
      rw [xB_r ep, if_neg c]
    · unfold pLs
      rw [xB_r ep, if_pos c]
    · exact ⟨fun j x y => by rw [f5 _ _ (by omega)]; exact i4.1 j x y, fun c j x y z => by rw [f5 _ _ (by omega)]; exact i4.2.1 c j x y z, i4.2.2.mv rfl (fun _ _ _ => rfl) (fun c j x y => f5 c j (by omega))⟩
    · obtain ⟨x1, x2, x3⟩ := t4
      dsimp only
      refine ⟨by rw [f5 _ _ (by omega)]; exact x1, by rw [f5 _ 42 (by omega)]; exact x2, fun z => ?_⟩
      rw [f5 _ 41 (by omega), f5 _ 53 (by omega)]
      exact x3 z
  -- a line's word is behind us
  have go : ∀ x : Nat, x < 7 → (pLine B n T q = (if x = 0 then pLand B n T q else if x = 1 then pRing B n T q else if x = 2 then pWay B n T q else if x = 3 then pNear B n T q else if x = 4 then pSaid B n T q else if x = 5 then pGrid B n T q else pSlack B n T q)) → tkK B n q ≠ 0 → ¬ (x = 0 ∧ T 0 23 = 4) → ¬ (x = 1 ∧ T 0 24 = 8) → ¬ (x = 2 ∧ T 0 25 = 5) → ¬ (x = 4 ∧ T 0 26 = 20) → (x = 3 → T 0 28 = 0) → (x = 5 → T 0 32 = 0) → (x = 6 → T 0 33 = 0) → zG E mX10_line (d + 131) 70 [zR 0, zI (x : Int)] [] h (qV K) := by
    intro x hx ep k0 n0 n1 n2 n4 n3 n5 n6
    refine bX10_line_70 (d := d + 130) hE ⟨fun _ h2 e2 => ?_, fun z => absurd a.2.2.2.1 z⟩
    have a2 : AtR h2 B n q := by rw [e2]; exact a.st (by omega)
    refine R_tok (d := d + 128) hE a2 (fun h3 fr3 a3 => ?_)
    have f23 : ∀ c j, ¬ (c = 0 ∧ (j = 42 ∨ (45 ≤ j ∧ j ≤ 48))) → h3 c j = h c j := fun c j z => by rw [fr3 c j (by omega), e2, hset_ne (by omega)]
    have fr : frT h h3 := fun c j m1 m2 m3 m4 => f23 c j (by omega)
    have b3 : BdR h3 := bd.mv (fun c j hc => f23 c j (by omega))
    have i3 : HfR T h3 := by
      refine HfR.w (h := h2) ?_ (frWr.y fr3)
      rw [e2]; exact i.h0 (by omega)
    have z3 : h3 0 42 = zor (h 0 42) (zshl 1 (x : Int)) := by rw [fr3 _ _ (by omega), e2, hset_eq]
    have e433 : h3 0 43 = (l : Int) := by rw [f23 _ _ (by omega)]; exact e43
    have e41 : h3 0 41 = h 0 41 := f23 _ _ (by omega)
    have e53 : h3 0 53 = h 0 53 := f23 _ _ (by omega)
    -- ends of plain lines
    have pl : ∀ (T' : zH) (q4 : Nat) (h4 : zH), pLine B n T q = .inr (T', q4) → x ≠ 3 → T' 0 28 = T 0 28 → (T' 0 32 = if x = 5 then 1 else T 0 32) → (T' 0 33 = if x = 6 then 1 else T 0 33) → frE h3 h4 → BdR h4 → HfR T' h4 → AtR h4 B n q4 → zG E mX10_line (d + 131) 254 [zR 0, zU] [] h4 (qV K) := by
      intro T' q4 h4 ep4 x3 t28 t32 t33 fr4 b4 i4 a4
      refine fin T' q4 h4 ep4 (fr.tr (frT.e fr4)) b4 i4 (td.or hx (by rw [fr4 _ _ (by omega) (by omega) (by omega)]; exact z3) (by rw [if_neg x3, t28]) t32 t33 (fun z => ?_)) a4 (by rw [fr4 _ _ (by omega) (by omega) (by omega)]; exact e433)
      rw [fr4 0 41 (by omega) (by omega) (by omega), fr4 0 53 (by omega) (by omega) (by omega), e41, e53]
      exact td.2.2 (by rw [← t28]; exact z)
    have bad : ∀ (f : pF) (h4 : zH), pLine B n T q = .inl f → frT h3 h4 → BdR h4 → FlR h4 f → zG E mX10_line (d + 131) 254 [zR 0, zU] [] h4 (qV K) := fun f h4 ef fr4 b4 fl => R_l254f hE fl.ne (flt f h4 ef (fr.tr fr4) b4 fl)
    refine ⟨fun c => ?_, fun c => ?_, fun c => ?_, fun c => ?_, fun c => ?_, fun c => ?_, fun c => ?_⟩
    · have x0 : x = 0 := by omega
      rw [if_pos x0] at ep
      obtain ⟨k, hk⟩ : ∃ k : Nat, T 0 23 = (k : Int) := ⟨(T 0 23).toNat, by omega⟩
      have hkn : (T 0 23).toNat = k := by omega
      have e32 : h3 0 32 = (k : Int) := by rw [i3.1 23 (by omega) (by omega)]; exact hk
      have ew : w32 (4 + (k : Int)) = ((4 + k : Nat) : Int) := by rw [w32i (by omega) (by omega)]; omega
      have epl : pLand B n T q = xB (pFresh B n (T 2) k (tkQ B n q)) (fun a => .inr (hset (hset T 2 k a.1) 0 23 (T 0 23 + 1), a.2)) := by
        unfold pLand pHead
        have n4' : ¬ T 0 23 = 4 := fun z => n0 ⟨x0, z⟩
        rw [if_neg n4', hkn]
      rw [e32, ew, Int.toNat_natCast]
      refine R_fresh (d := d + 127) hE a3 i3 h2' (by omega) (by omega) (k := 4) rfl (m := k) (by omega) (by omega) rfl (fun f ef h4 fr4 fl => ⟨nat_in (n := 8) (by omega), fun h5 e5 h6 e6 => ?_⟩) (fun v ev h4 fr4 a4 => ⟨nat_in (n := 8) (by omega), fun h5 e5 h6 e6 => ?_⟩)
      · refine bad f h6 (by rw [ep, epl]; exact xB_l ef) ?_ ?_ ?_
        · rw [e6, e5]; exact frT.e (((frE.w fr4).st (by omega) (by omega) (show 4 ≤ _ by omega)).s0 (by omega))
        · rw [e6, e5]; exact ((b3.w fr4).so (by omega)).so (by omega)
        · rw [e6, e5]; exact (fl.st (by omega)).st (by omega)
      · have e32' : h5 0 32 = (k : Int) := by rw [e5, hset_ne (by omega), fr4 _ _ (by omega)]; exact e32
        rw [e32', w_suc (by omega)] at e6
        refine pl (hset (hset T 2 k v.1) 0 23 (T 0 23 + 1)) v.2 h6 (by rw [ep, epl]; exact xB_r ev) (by omega) (by rw [hset_ne (by omega), hset_ne (by omega)]) (by rw [if_neg (by omega), hset_ne (by omega), hset_ne (by omega)]) (by rw [if_neg (by omega), hset_ne (by omega), hset_ne (by omega)]) ?_ ?_ ?_ ?_
        · rw [e6, e5]; exact ((frE.w fr4).st (by omega) (by omega) (show 4 ≤ _ by omega)).s0 (by omega)
        · rw [e6, e5]; exact ((b3.w fr4).so (by omega)).so (by omega)
        · rw [e6, e5]; exact ((i3.w fr4).st (by omega) (by omega) rfl).s0 (by omega) (by omega) rfl (by omega)
        · rw [e6, e5]; exact (a4.st (by omega)).st (by omega)
    · have x1 : x = 1 := by omega
      have m0 : ¬ x = 0 := by omega
      rw [if_neg m0, if_pos x1] at ep
      have e33 : h3 0 33 = T 0 24 := i3.1 24 (by omega) (by omega)
      have l8 : T 0 24 ≠ 8 := fun z => n1 ⟨x1, z⟩
      rw [e33, w32i (by omega) (by omega)]
      refine R_ring (d := d + 125) hE a3 i3 b3 (by omega) (by omega) rfl (fun f ef h4 fr4 b4 fl => bad f h4 (by rw [ep]; exact ef) (frT.e fr4) b4 fl) (fun r er h4 fr4 b4 i4 a4 => ?_)
      have pw := pRing_w w hq er
      exact pl r.1 r.2 h4 (by rw [ep]; exact er) (by omega) pw.2.1.1 (by rw [if_neg (by omega)]; exact pw.2.1.2.1) (by rw [if_neg (by omega)]; exact pw.2.1.2.2) fr4 b4 i4 a4
    · have x1 : x = 2 := by omega
      have m0 : ¬ x = 0 := by omega
      have m1 : ¬ x = 1 := by omega
      rw [if_neg m0, if_neg m1, if_pos x1] at ep
      have e33 : h3 0 34 = T 0 25 := i3.1 25 (by omega) (by omega)
      have l8 : T 0 25 ≠ 5 := fun z => n2 ⟨x1, z⟩
      rw [e33, w32i (by omega) (by omega)]
      refine R_way (d := d + 126) hE a3 i3 b3 (by omega) rfl (fun f ef h4 fr4 b4 fl => bad f h4 (by rw [ep]; exact ef) (frT.e fr4) b4 fl) (fun r er h4 fr4 b4 i4 a4 => ?_)
      have pw := pWay_w w hq er
      exact pl r.1 r.2 h4 (by rw [ep]; exact er) (by omega) pw.2.1.1 (by rw [if_neg (by omega)]; exact pw.2.1.2.1) (by rw [if_neg (by omega)]; exact pw.2.1.2.2) fr4 b4 i4 a4
    · have x1 : x = 3 := by omega
      have m0 : ¬ x = 0 := by omega
      have m1 : ¬ x = 1 := by omega
      have m2 : ¬ x = 2 := by omega
      rw [if_neg m0, if_neg m1, if_neg m2, if_pos x1] at ep
      have t0 := n3 x1
      have tz := td.2.2 t0
      have epn : pNear B n T q = xB (yRes B n (tkQ B n q, true, [], [], 0, 0)) (fun r => .inr (setO T r.1, r.2)) := by
        unfold pNear
        rw [if_pos t0]
      have e37 : h3 0 37 = T 0 28 := i3.1 28 (by omega) (by omega)
      have st3 : RtR h3 B n (tkQ B n q) [] 0 0 := ⟨a3, by rw [e41]; exact tz.1, by rw [e53]; exact tz.2, by rw [e37, t0]; rfl, fun j hj => absurd hj (Nat.not_lt_zero j)⟩
      refine (lvAll (B := B) (n := n) hE (n + 1)).2 (tkQ B n q) [] [] 0 0 h3 _ (d + 130) (by omega) (by omega) st3 (yInv_0 _) ⟨Or.inl (by decide), fun z => absurd z (by decide)⟩ ⟨fun f h4 ef fr4 fl => bad f h4 (by rw [ep, epn]; exact xB_l ef) (frT.g fr4) (b3.g fr4) fl, fun q' P O1 kn' h4 er hq' hkn fr4 st4 hP ps iv4 => ?_⟩
      have a4 := st4.1
      have e434 : h4 0 43 = (l : Int) := by rw [fr4 _ _ (by omega) (by omega)]; exact e433
      by_cases y : tkK B n q' = 34 ∨ rnk (tkK B n q') = 0
      · have sb : ySg B n q' (P ++ []) O1 0 kn' = .inl (.inr (O1 ++ pO P, q')) := by
          unfold ySg
          have y1 : ¬ (tkK B n q' = 6 ∧ 0 < 0) := by omega
          rw [if_neg y1, if_pos y, if_pos rfl, sett_P P [] O1 hP]
          rfl
        have yr := yRes_l (yStep_f.trans sb)
        have ef : pLine B n T q = .inr (setO T (O1 ++ pO P), q') := by
          rw [ep, epn, xB_r (er.trans yr)]
        have pw := pNear_w hB w hq k0 (r := (setO T (O1 ++ pO P), q')) (by rw [← ep]; exact ef)
        dsimp only at pw
        refine fin _ q' h4 ef (fr.tr (frT.g fr4)) (b3.g fr4) ⟨fun j x1 x2 => ?_, fun c j x1 x2 x3 => ?_, fun j hj => ?_⟩ (td.or hx (by rw [fr4 _ _ (by omega) (by omega)]; exact z3) (by rw [if_pos x1, bI_t pw.2.1.2.1]) (by rw [if_neg (by omega)]; exact pw.2.1.2.2.1) (by rw [if_neg (by omega)]; exact pw.2.1.2.2.2) (fun z => absurd z pw.2.1.2.1)) a4 e434
        · by_cases z : j = 28
          · subst z
            rw [setO_n]
            exact st4.2.2.2.1
          · rw [setO_o (by omega) (by omega) (by omega), fr4 _ _ (by omega) (by omega)]
            exact i3.1 j x1 x2
        · rw [setO_o (by omega) (by omega) (by omega), fr4 _ _ (by omega) (by omega)]
          exact i3.2.1 c j x1 x2 x3
        · rw [setO_n] at hj
          have sk := setO_k (T := T) (O := O1 ++ pO P) (j := j) (by omega)
          rw [sk.1, sk.2]
          exact st4.2.2.2.2 j (by omega)
      · have p1 := ps.1 (by decide)
        have p2 := ps.2.1 (by decide)
        have p3 := ps.2.2.1 (by decide)
        have p4 := ps.2.2.2.1 (by decide)
        have p5 := ps.2.2.2.2 (by decide)
        have rr := rnk_r (tkK B n q')
        have kr := rnk_k (k := tkK B n q') (by omega)
        have r4 : rnk (tkK B n q') = 4 := rnk_4.mpr (by omega)
        have sb : ySg B n q' (P ++ []) O1 0 kn' = .inl (.inl (1, tkP B n q')) := by
          unfold ySg
          have y1 : ¬ (tkK B n q' = 6 ∧ 0 < 0) := by omega
          rw [if_neg y1, if_neg y, if_pos ⟨r4, p3 r4⟩]
        have yr := yRes_l (yStep_f.trans sb)
        have ef : pLine B n T q = .inl (1, tkP B n q') := by
          rw [ep, epn]
          exact xB_l (er.trans yr)
        refine R_l254 (d := d + 128) hE a4 (fr.tr (frT.g fr4)) (b3.g fr4) hl e434 (fun c h5 fr5 b5 f5 => flt _ h5 ef fr5 b5 f5) (fun c => absurd c (by omega))
    · have x1 : x = 4 := by omega
      have m0 : ¬ x = 0 := by omega
      have m1 : ¬ x = 1 := by omega
      have m2 : ¬ x = 2 := by omega
      have m3 : ¬ x = 3 := by omega
      rw [if_neg m0, if_neg m1, if_neg m2, if_neg m3, if_pos x1] at ep
      have e33 : h3 0 35 = T 0 26 := i3.1 26 (by omega) (by omega)
      have l8 : T 0 26 ≠ 20 := fun z => n4 ⟨x1, z⟩
      rw [e33, w32i (by omega) (by omega)]
      refine R_said (d := d + 126) hE a3 i3 b3 (by omega) (by omega) (by omega) rfl (fun f ef h4 fr4 b4 fl => bad f h4 (by rw [ep]; exact ef) (frT.e fr4) b4 fl) (fun r er h4 fr4 b4 i4 a4 => ?_)
      have pw := pSaid_w w hq er
      exact pl r.1 r.2 h4 (by rw [ep]; exact er) (by omega) pw.2.1.1 (by rw [if_neg (by omega)]; exact pw.2.1.2.1) (by rw [if_neg (by omega)]; exact pw.2.1.2.2) fr4 b4 i4 a4
    · have x1 : x = 5 := by omega
      have m0 : ¬ x = 0 := by omega
      have m1 : ¬ x = 1 := by omega
      have m2 : ¬ x = 2 := by omega
      have m3 : ¬ x = 3 := by omega
      have m4 : ¬ x = 4 := by omega
      rw [if_neg m0, if_neg m1, if_neg m2, if_neg m3, if_neg m4, if_pos x1] at ep
      have epl : pGrid B n T q = xB (pNum B n 0 9 (tkQ B n q)) (fun a => xB (pNum B n 1 20 a.2) (fun c => .inr (hset (hset (hset T 0 29 a.1) 0 30 c.1) 0 32 1, c.2))) := by
        unfold pGrid
        rw [if_pos (n5 x1)]
      refine R_num (d := d + 127) hE a3 (by decide) (fun f ef h4 fr4 fl h5 e5 => R_num_f (d := d + 129) hE (by rw [e5]; exact (fl.st (by omega)).ne) (fun h6 e6 => ?_)) (fun v ev h4 fr4 a4 h5 e5 => ?_)
      · refine bad f h6 (by rw [ep, epl]; exact xB_l ef) ?_ ?_ ?_
        · rw [e6, e5]; exact frT.e (((frE.w fr4).s0 (by omega)).s0 (by omega))
        · rw [e6, e5]; exact ((b3.w fr4).so (by omega)).so (by omega)
        · rw [e6, e5]; exact (fl.st (by omega)).st (by omega)
      · have a5 : AtR h5 B n v.2 := by rw [e5]; exact a4.st (by omega)
        have f5 : frE h3 h5 := by rw [e5]; exact (frE.w fr4).s0 (by omega)
        have b5 : BdR h5 := by rw [e5]; exact (b3.w fr4).so (by omega)
        have i5 : HfR (hset T 0 29 v.1) h5 := by rw [e5]; exact (i3.w fr4).s0 (by omega) (by omega) rfl rfl
        refine R_num (d := d + 127) hE a5 (by decide) (fun f ef h6 fr6 fl h7 e7 => ?_) (fun u eu h6 fr6 a6 h7 e7 => ?_)
        · refine bad f h7 (by rw [ep, epl, xB_r ev]; exact xB_l ef) ?_ ?_ ?_
          · rw [e7]; exact frT.e ((f5.tr (frE.w fr6)).s0 (by omega))
          · rw [e7]; exact (b5.w fr6).so (by omega)
          · rw [e7]; exact fl.st (by omega)
        · refine pl (hset (hset (hset T 0 29 v.1) 0 30 u.1) 0 32 1) u.2 h7 (by rw [ep, epl, xB_r ev, xB_r eu]) (by omega) (by rw [hset_ne (by omega), hset_ne (by omega), hset_ne (by omega)]) (by rw [if_pos x1, hset_eq]) (by rw [if_neg (by omega), hset_ne (by omega), hset_ne (by omega), hset_ne (by omega)]) ?_ ?_ ?_ ?_
          · rw [e7]; exact (f5.tr (frE.w fr6)).s0 (by omega)
          · rw [e7]; exact (b5.w fr6).so (by omega)
          · rw [e7]; exact ((i5.w fr6).s0 (by omega) (by omega) rfl rfl).t0 (by omega)
          · rw [e7]; exact a6.st (by omega)
    · have x1 : x = 6 := by omega
      have m0 : ¬ x = 0 := by omega
      have m1 : ¬ x = 1 := by omega
      have m2 : ¬ x = 2 := by omega
      have m3 : ¬ x = 3 := by omega
      have m4 : ¬ x = 4 := by omega
      have m5 : ¬ x = 5 := by omega
      rw [if_neg m0, if_neg m1, if_neg m2, if_neg m3, if_neg m4, if_neg m5] at ep
      have epl : pSlack B n T q = xB (pNum B n 0 9999 (tkQ B n q)) (fun a => .inr (hset (hset T 0 31 a.1) 0 33 1, a.2)) := by
        unfold pSlack
        rw [if_pos (n6 x1)]
      refine R_num (d := d + 127) hE a3 (by decide) (fun f ef h4 fr4 fl h5 e5 => ?_) (fun v ev h4 fr4 a4 h5 e5 => ?_)
      · refine bad f h5 (by rw [ep, epl]; exact xB_l ef) ?_ ?_ ?_
        · rw [e5]; exact frT.e ((frE.w fr4).s0 (by omega))
        · rw [e5]; exact (b3.w fr4).so (by omega)
        · rw [e5]; exact fl.st (by omega)
      · refine pl (hset (hset T 0 31 v.1) 0 33 1) v.2 h5 (by rw [ep, epl, xB_r ev]) (by omega) (by rw [hset_ne (by omega), hset_ne (by omega)]) (by rw [if_neg (by omega), hset_ne (by omega), hset_ne (by omega)]) (by rw [if_pos x1, hset_eq]) ?_ ?_ ?_ ?_
        · rw [e5]; exact (frE.w fr4).s0 (by omega)
        · rw [e5]; exact (b3.w fr4).so (by omega)
        · rw [e5]; exact ((i3.w fr4).s0 (by omega) (by omega) rfl rfl).t0 (by omega)
        · rw [e5]; exact a4.st (by omega)
  have b70f : ∀ (x : Int) (f : pF) (h4 : zH), pLine B n T q = .inl f → frWr h h4 → FlR h4 f → zG E mX10_line (d + 131) 70 [zR 0, zI x] [] h4 (qV K) := fun x f h4 ef fr4 fl => bX10_line_70 (d := d + 130) hE ⟨fun z => absurd z fl.ne, fun _ => flt f h4 ef (frT.w fr4) (bd.w fr4) fl⟩
  have lw := a.lw
  have other : ¬ (h 0 47 = 0 ∧ h 0 48 ≤ 6) → zCV E mX10_wrong (d + 130) [zR 0, zI 1] h K := by
    intro z
    rw [lw] at z
    refine R_wrong hE a (by decide) (fun h4 fr4 fl => flt _ h4 ?_ (frT.w fr4) (bd.w fr4) fl)
    unfold pLine
    rw [if_neg (fun y => z (by omega)), if_neg (fun y => z (by omega)), if_neg (fun y => z (by omega)), if_neg (fun y => z (by omega)), if_neg (fun y => z (by omega)), if_neg (fun y => z (by omega)), if_neg (fun y => z (by omega))]
  refine eX10_line (d := d + 130) hE ⟨fun c => other (fun z => c z.1), fun c => ⟨fun c6 x4 ex4 => ?_, fun c6 => other (fun z => c6 z.2)⟩⟩
  have c47 := Decidable.not_not.mp c
  have kc := lw.mp ⟨c47, c6⟩
  obtain ⟨x, hx, exx, epx, k0⟩ : ∃ x : Nat, x < 7 ∧ h 0 48 = (x : Int) ∧ (pLine B n T q = (if x = 0 then pLand B n T q else if x = 1 then pRing B n T q else if x = 2 then pWay B n T q else if x = 3 then pNear B n T q else if x = 4 then pSaid B n T q else if x = 5 then pGrid B n T q else pSlack B n T q)) ∧ tkK B n q ≠ 0 := by
    unfold pLine
    rcases kc with k | k | k | k | k | k | k
    · exact ⟨0, by decide, a.w48 k (by decide) (by decide) (by decide), by rw [k]; rfl, by omega⟩
    · exact ⟨1, by decide, a.w48 k (by decide) (by decide) (by decide), by rw [k]; rfl, by omega⟩
    · exact ⟨2, by decide, a.w48 k (by decide) (by decide) (by decide), by rw [k]; rfl, by omega⟩
    · exact ⟨3, by decide, a.w48 k (by decide) (by decide) (by decide), by rw [k]; rfl, by omega⟩
    · exact ⟨4, by decide, a.w48 k (by decide) (by decide) (by decide), by rw [k]; rfl, by omega⟩
    · exact ⟨5, by decide, a.w48 k (by decide) (by decide) (by decide), by rw [k]; rfl, by omega⟩
    · exact ⟨6, by decide, a.w48 k (by decide) (by decide) (by decide), by rw [k]; rfl, by omega⟩
  rw [exx] at ex4
  subst ex4
  refine R_isFull hE i ⟨fun cf => ?_, fun cf => ?_⟩
  · have nf := bI_ne cf
    have b53 : (x = 3 ∨ 5 ≤ x) → zG E mX10_line (d + 131) 53 [zR 0, zI (x : Int)] [] h (qV K) := by
      intro hx3
      have tb := td.2.1
      refine bX10_line_53 (d := d + 130) hE ⟨fun z => go x hx epx k0 (by omega) (by omega) (by omega) (by omega) (fun y => ?_) (fun y => ?_) (fun y => ?_), fun z => R_wrong hE a (by decide) (fun h4 fr4 fl => b70f _ _ h4 ?_ fr4 fl)⟩
      · subst y
        have t1 := tb.1
        unfold btk at t1
        refine Decidable.not_not.mp (fun y2 => z ?_)
        rw [bI_t y2] at t1
        exact t1
      · subst y
        have t1 := tb.2.1
        unfold btk at t1
        have z' : T 0 32 ≠ 1 := by rw [← t1]; exact z
        omega
      · subst y
        have t1 := tb.2.2
        unfold btk at t1
        have z' : T 0 33 ≠ 1 := by rw [← t1]; exact z
        omega
      · have z1 := Decidable.not_not.mp z
        rw [epx]
        have cs : x = 3 ∨ x = 5 ∨ x = 6 := by omega
        rcases cs with y | y | y <;> subst y
        · have t1 := tb.1
          unfold btk at t1
          have y2 : T 0 28 ≠ 0 := bI_e (by rw [← t1]; change ¬ (zand (zshr (h 0 42) 3) 1 = 0); change zand (zshr (h 0 42) 3) 1 = 1 at z1; omega)
          change pNear B n T q = _
          unfold pNear
          rw [if_neg y2]
        · have t1 := tb.2.1
          unfold btk at t1
          have y2 : ¬ T 0 32 = 0 := by rw [← t1]; change ¬ (zand (zshr (h 0 42) 5) 1 = 0); change zand (zshr (h 0 42) 5) 1 = 1 at z1; omega
          change pGrid B n T q = _
          unfold pGrid
          rw [if_neg y2]
        · have t1 := tb.2.2
          unfold btk at t1
          have y2 : ¬ T 0 33 = 0 := by rw [← t1]; change ¬ (zand (zshr (h 0 42) 6) 1 = 0); change zand (zshr (h 0 42) 6) 1 = 1 at z1; omega
          change pSlack B n T q = _
          unfold pSlack
          rw [if_neg y2]
    exact ⟨fun z => b53 (by omega), fun z => ⟨fun z5 => go x hx epx k0 (by omega) (by omega) (by omega) (by omega) (by omega) (by omega) (by omega), fun z5 => b53 (by omega)⟩⟩
  · have yf := bI_e cf
    refine R_wrong hE a (by decide) (fun h4 fr4 fl => b70f _ _ h4 ?_ fr4 fl)
    rw [epx]
    rcases yf with y | y | y | y
    · have x0 : x = 0 := by omega
      rw [if_pos x0]
      unfold pLand pHead
      rw [if_pos y.2]
      rfl
    · have x0 : x = 1 := by omega
      subst x0
      change pRing B n T q = _
      unfold pRing pHead
      rw [if_pos y.2]
      rfl
    · have x0 : x = 2 := by omega
      subst x0
      change pWay B n T q = _
      unfold pWay pHead
      rw [if_pos y.2]
      rfl
    · have x0 : x = 4 := by omega
      subst x0
      change pSaid B n T q = _
      unfold pSaid
      rw [if_pos y.2]
end TRefq
