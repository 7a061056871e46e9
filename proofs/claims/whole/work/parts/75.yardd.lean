/-! ===== topic: the class's reader of rules, its run ===== -/
section TYardD
variable {E : zE} {d : Nat} {h : zH} {K : Int → zH → Prop}
theorem MxC.s2 {r2 : Nat} (hr : 7 < r2) {w : Int} {W : List Int} {O : zO} {op kn : Nat} (m : MxC h r2 w W O op kn) {v : Int} {x : Nat} (e : v = (x : Int)) : MxC (hset h 6 2 v) r2 w W O x kn := by
  obtain ⟨⟨m1, m2, m3, m4, m5, m6⟩, mw, mo⟩ := m
  have fr : ∀ c j, ¬ (c = 6 ∧ j = 2) → hset h 6 2 v c j = h c j := fun c j n => hset_ne n
  exact ⟨⟨by rw [fr _ _ (by omega)]; exact m1, by rw [hset_eq]; exact e, by rw [fr _ _ (by omega)]; exact m3, by rw [fr _ _ (by omega)]; exact m4, by rw [fr _ _ (by omega)]; exact m5, by rw [fr _ _ (by omega)]; exact m6⟩, mw.mv (fun j hj => fr _ _ (by omega)), fun j hj => by rw [fr _ _ (by omega), fr _ _ (by omega)]; exact mo j hj⟩
theorem MxC.s3 {r2 : Nat} (hr : 7 < r2) {w : Int} {W : List Int} {O : zO} {op kn : Nat} (m : MxC h r2 w W O op kn) {v : Int} {x : Nat} (e : v = (x : Int)) : MxC (hset h 6 3 v) r2 w W O op x := by
  obtain ⟨⟨m1, m2, m3, m4, m5, m6⟩, mw, mo⟩ := m
  have fr : ∀ c j, ¬ (c = 6 ∧ j = 3) → hset h 6 3 v c j = h c j := fun c j n => hset_ne n
  exact ⟨⟨by rw [fr _ _ (by omega)]; exact m1, by rw [fr _ _ (by omega)]; exact m2, by rw [hset_eq]; exact e, by rw [fr _ _ (by omega)]; exact m4, by rw [fr _ _ (by omega)]; exact m5, by rw [fr _ _ (by omega)]; exact m6⟩, mw.mv (fun j hj => fr _ _ (by omega)), fun j hj => by rw [fr _ _ (by omega), fr _ _ (by omega)]; exact mo j hj⟩
theorem MxC.s4 {r2 : Nat} (hr : 7 < r2) {w : Int} {W : List Int} {O : zO} {op kn : Nat} (m : MxC h r2 w W O op kn) {v : Int} : MxC (hset h 6 4 v) r2 v W O op kn := by
  obtain ⟨⟨m1, m2, m3, m4, m5, m6⟩, mw, mo⟩ := m
  have fr : ∀ c j, ¬ (c = 6 ∧ j = 4) → hset h 6 4 v c j = h c j := fun c j n => hset_ne n
  exact ⟨⟨by rw [fr _ _ (by omega)]; exact m1, by rw [fr _ _ (by omega)]; exact m2, by rw [fr _ _ (by omega)]; exact m3, by rw [hset_eq], by rw [fr _ _ (by omega)]; exact m5, by rw [fr _ _ (by omega)]; exact m6⟩, mw.mv (fun j hj => fr _ _ (by omega)), fun j hj => by rw [fr _ _ (by omega), fr _ _ (by omega)]; exact mo j hj⟩
theorem MxC.s1 {r2 : Nat} (hr : 7 < r2) {w k : Int} {W : List Int} {O : zO} {op kn : Nat} (m : MxC h r2 w (k :: W) O op kn) {v : Int} (e : v = (W.length : Int)) : MxC (hset h 6 1 v) r2 w W O op kn := by
  obtain ⟨⟨m1, m2, m3, m4, m5, m6⟩, mw, mo⟩ := m
  have fr : ∀ c j, ¬ (c = 6 ∧ j = 1) → hset h 6 1 v c j = h c j := fun c j n => hset_ne n
  exact ⟨⟨by rw [hset_eq]; exact e, by rw [fr _ _ (by omega)]; exact m2, by rw [fr _ _ (by omega)]; exact m3, by rw [fr _ _ (by omega)]; exact m4, by rw [fr _ _ (by omega)]; exact m5, by rw [fr _ _ (by omega)]; exact m6⟩, mw.2.mv (fun j hj => fr _ _ (by omega)), fun j hj => by rw [fr _ _ (by omega), fr _ _ (by omega)]; exact mo j hj⟩
theorem yInv.ln {q op kn : Nat} {w : Bool} {W : List Int} {O : zO} (i : yInv (q, w, W, O, op, kn)) : W.length + O.length ≤ 72 ∧ O.length + cS W ≤ 64 ∧ W.length ≤ op + kn ∧ O.length + cS W = kn ∧ op ≤ 8 := by
  obtain ⟨i1, i2, i3, i4, i5, i6⟩ := i
  dsimp only at i1 i2 i3 i4
  have := cS_cP W
  omega
theorem X6_takeOp (hE : isC E) {r2 : Nat} (hr2 : isRu E r2) (hr : 7 < r2) {B : Nat → Int} {n q : Nat} (a : AtC h B n q) {W : List Int} {O : zO} {op kn : Nat} (m : MxC h r2 1 W O op kn) (i : yInv (q, true, W, O, op, kn))
    (h0 : ∀ f, yOp B n q W O op kn = .inl (.inl f) → f.2 = tkP B n q → f.1 ≠ 0 → K f.1 h)
    (h1 : ∀ s' : yS, yOp B n q W O op kn = .inr s' → ∀ h', frR r2 h h' → MxC h' r2 (bI (s'.2.1 = true)) s'.2.2.1 s'.2.2.2.1 s'.2.2.2.2.1 s'.2.2.2.2.2 → K 0 h') : zCI E mX6_takeOperand (d + 1) [zR 6, zR 3, zR r2] h K := by
  have il := i.ln
  refine eX6_takeOperand hE hr2 (fun x ex => ?_)
  rw [a.k] at ex
  rw [ex]
  unfold yOp at h0 h1
  have tail : ∀ x4 : Int, tkK B n q ≠ 5 → (x4 = 0 ∧ isOp (tkK B n q) ∧ tkK B n q ≠ 34) ∨ (x4 = 1 ∧ tkK B n q = 34 ∧ tpR W ≤ 3) → zG E mX6_takeOperand (d + 1) 90 [zR 6, zR 3, zR r2, zI (tkK B n q), zI x4] [] h (qI K) := by
    intro x4 c5 hx
    have c2 : ¬ (¬ (tkK B n q = 34 ∧ tpR W ≤ 3) ∧ ¬ isOp (tkK B n q)) := by
      intro z
      rcases hx with y | y
      · exact z.2 y.2.1
      · exact z.1 y.2
    rw [if_neg c5, if_neg c2] at h0 h1
    have go : ¬ (64 ≤ kn ∨ (tkK B n q = 3 ∧ 9999 < tkV B n q)) → zG E mX6_takeOperand (d + 1) 116 [zR 6, zR 3, zR r2, zI (tkK B n q), zI x4] [] h (qI K) := by
      intro c3
      rw [if_neg c3] at h1
      refine bX6_takeOperand_116 hE hr2 (fun h2 e2 => ?_)
      rw [m.1.2.2.1] at e2
      have m2 : MxC h2 r2 1 W O op (kn + 1) := by rw [e2]; exact m.s3 hr (w_suc (by omega))
      have f2 : frR r2 h h2 := by rw [e2]; exact (frR.rf r2 h).s6
      have v2 : h2 3 6 = tkV B n q := by rw [e2, hset_ne (by omega)]; exact a.v
      rw [v2]
      refine ⟨fun z => X5_putN hE hr2 hr m2 (by omega) (fun h3 f3 m3 h4 e4 => ?_), fun z => X6_push hE hr m2 (by omega) (fun h3 f3 m3 => ?_)⟩
      · rcases hx with y | y
        · rw [if_neg y.2.2] at h1
          refine h1 _ rfl h4 (by rw [e4]; exact (f2.tr f3).s6) ?_
          rw [e4]
          have e0 : bI (false = true) = 0 := by decide
          dsimp only
          rw [e0]
          exact m3.s4 hr
        · omega
      · rcases hx with y | y
        · omega
        · rw [if_pos y.2.1] at h1
          refine h1 _ rfl h3 (f2.tr f3) ?_
          have e0 : bI (true = true) = 1 := by decide
          dsimp only
          rw [e0]
          rw [y.2.1] at m3
          exact m3
    refine bX6_takeOperand_90 hE hr2 ?_
    rw [m.1.2.2.1, a.v]
    refine ⟨fun c => ?_, fun c => ⟨fun c3 => go (by omega), fun c3 => ⟨fun c9 => go (by omega), fun c9 => ?_⟩⟩⟩
    · have y : 64 ≤ kn ∨ (tkK B n q = 3 ∧ 9999 < tkV B n q) := by omega
      rw [if_pos y] at h0
      exact h0 _ rfl rfl (by dsimp only; decide)
    · have y : 64 ≤ kn ∨ (tkK B n q = 3 ∧ 9999 < tkV B n q) := by omega
      rw [if_pos y] at h0
      exact h0 _ rfl rfl (by dsimp only; decide)
  have bad : tkK B n q ≠ 5 → ¬ (tkK B n q = 34 ∧ tpR W ≤ 3) → ¬ isOp (tkK B n q) → K 1 h := by
    intro c5 c6 c7
    rw [if_neg c5, if_pos ⟨c6, c7⟩] at h0
    exact h0 _ rfl rfl (by dsimp only; decide)
  refine ⟨fun c5 => ⟨fun c34 => X5_isOperand hE ⟨fun z => tail 0 c5 (Or.inl ⟨rfl, by rwa [ne_eq, bI_n] at z, c34⟩), fun z => ?_⟩, fun c34 => ?_⟩, fun c5 => ?_⟩
  · have z' : ¬ isOp (tkK B n q) := by
      intro y
      apply z
      rw [ne_eq, bI_n]
      exact y
    exact bad c5 (fun y => c34 y.1) z'
  · have k34 := Decidable.not_not.mp c34
    have nop : ¬ isOp (tkK B n q) := by
      rw [k34]
      unfold isOp
      omega
    cases W with
    | nil => exact ⟨fun _ => tail 1 c5 (Or.inr ⟨rfl, k34, by decide⟩), fun z => absurd m.1.1 z⟩
    | cons k W =>
      have e1 : h 6 1 = ((W.length + 1 : Nat) : Int) := m.1.1
      have ew : w32 (((W.length + 1 : Nat) : Int) - 1) = (W.length : Int) := by rw [w32i (by omega) (by rw [List.length_cons] at il; omega)]; omega
      rw [e1, ew, Int.toNat_natCast, m.2.1.1]
      refine ⟨fun z => absurd z (by omega), fun _ => ⟨nat_in (show W.length < 72 by rw [List.length_cons] at il; omega), X6_rankOf hE ⟨fun z => X5_isOperand hE ⟨fun y => absurd (by rwa [ne_eq, bI_n] at y) nop, fun y => bad c5 (fun x => ?_) nop⟩, fun z => tail 1 c5 (Or.inr ⟨rfl, k34, ?_⟩)⟩⟩⟩
      · have := x.2
        change rnk k ≤ 3 at this
        omega
      · change rnk k ≤ 3
        omega
  · have k5 := Decidable.not_not.mp c5
    rw [m.1.2.1]
    rw [if_pos k5] at h0 h1
    refine ⟨fun c8 h2 e2 => ?_, fun c8 => ?_⟩
    · have nc : ¬ 8 ≤ op := by omega
      rw [if_neg nc] at h1
      have m2 : MxC h2 r2 1 W O (op + 1) kn := by rw [e2]; exact m.s2 hr (w_suc (by omega))
      refine X6_push hE hr m2 (by omega) (fun h3 f3 m3 => h1 _ rfl h3 ((by rw [e2]; exact (frR.rf r2 h).s6 : frR r2 h h2).tr f3) ?_)
      have e0 : bI (true = true) = 1 := by decide
      dsimp only
      rw [e0]
      rw [k5] at m3
      exact m3
    · have nc : 8 ≤ op := by omega
      rw [if_pos nc] at h0
      exact h0 _ rfl rfl (by dsimp only; decide)
theorem X6_takeSg (hE : isC E) {r2 : Nat} (hr2 : isRu E r2) (hr : 7 < r2) {B : Nat → Int} {n q : Nat} (a : AtC h B n q) {W : List Int} {O : zO} {op kn : Nat} (m : MxC h r2 0 W O op kn) (i : yInv (q, false, W, O, op, kn))
    (h0 : ∀ f, ySg B n q W O op kn = .inl (.inl f) → f.2 = tkP B n q → f.1 ≠ 0 → ∀ h', frR r2 h h' → K f.1 h')
    (h1 : ∀ s' : yS, ySg B n q W O op kn = .inr s' → ∀ h', frR r2 h h' → MxC h' r2 (bI (s'.2.1 = true)) s'.2.2.1 s'.2.2.2.1 s'.2.2.2.2.1 s'.2.2.2.2.2 → K 0 h')
    (h2 : ∀ O' q', ySg B n q W O op kn = .inl (.inr (O', q')) → ∀ h', frR r2 h h' → h' 6 5 = 1 → h' r2 4 = (O'.length : Int) → OuC h' r2 O' → K 0 h') : zCI E mX6_takeSign (d + 2) [zR 6, zI (tkK B n q), zR r2] h K := by
  have il := i.ln
  have rr := rnk_r (tkK B n q)
  unfold ySg at h0 h1 h2
  have t137 : ∀ (W' : List Int) (O' : zO) (h3 : zH), ¬ (tkK B n q = 6 ∧ 0 < op) → ¬ (tkK B n q = 34 ∨ rnk (tkK B n q) = 0) → ¬ (rnk (tkK B n q) = 4 ∧ tpR (sett 5 W O).1 = 4) → frR r2 h h3 → MxC h3 r2 0 W' O' op kn → sett (rnk (tkK B n q)) W' O' = sett (rnk (tkK B n q)) W O → O'.length + cS W' ≤ 64 → W'.length ≤ 72 → zG E mX6_takeSign (d + 2) 137 [zR 6, zI (tkK B n q), zR r2, zI (rnk (tkK B n q))] [] h3 (qI K) := by
    intro W' O' h3 n1 n2 n3 f3 m3 es l1 l2
    rw [if_neg n1, if_neg n2, if_neg n3] at h0 h1
    refine bX6_takeSign_137 (d := d + 1) hE hr2 ?_
    rw [m3.1.2.2.1]
    refine ⟨fun c h4 e4 => ?_, fun c => ?_⟩
    · have nc : ¬ 64 ≤ kn := by omega
      rw [if_neg nc] at h1
      have m4 : MxC h4 r2 0 W' O' op (kn + 1) := by rw [e4]; exact m3.s3 hr (w_suc (by omega))
      refine X6_settle hE hr2 hr (by omega) m4 l1 l2 (fun h5 f5 m5 => ?_)
      rw [es] at m5
      have sc := sett_c (r := rnk (tkK B n q)) (by omega) W O
      have cc := cS_cP (sett (rnk (tkK B n q)) W O).1
      have i1 := i.1
      dsimp only at i1
      refine X6_push hE hr m5 (by omega) (fun h6 f6 m6 h7 e7 => h1 _ rfl h7 ?_ ?_)
      · rw [e7]
        refine frR.s6 (f3.tr (frR.tr ?_ (f5.tr f6)))
        rw [e4]; exact (frR.rf r2 h3).s6
      · have e0 : bI (true = true) = 1 := by decide
        dsimp only
        rw [e0, e7]
        exact m6.s4 hr
    · have nc : 64 ≤ kn := by omega
      rw [if_pos nc] at h0
      exact h0 _ rfl rfl (by dsimp only; decide) h3 f3
  have t59 : ∀ s0 : Int, ¬ (tkK B n q = 6 ∧ 0 < op) → (s0 = if tkK B n q = 34 then 0 else rnk (tkK B n q)) → zG E mX6_takeSign (d + 2) 59 [zR 6, zI (tkK B n q), zR r2, zU] [zI s0] h (qI K) := by
    intro s0 n1 es
    refine bX6_takeSign_59 (d := d + 1) hE hr2 ⟨fun c => ?_, fun c => ?_⟩
    · have n34 : ¬ tkK B n q = 34 := by
        intro z
        rw [if_pos z] at es
        exact c es
      rw [if_neg n34] at es
      subst es
      have n2 : ¬ (tkK B n q = 34 ∨ rnk (tkK B n q) = 0) := by omega
      refine ⟨fun c4 => t137 W O h n1 n2 (fun z => c4 z.1) (frR.rf r2 h) m rfl il.2.1 (by omega), fun c4 => ?_⟩
      have k4 := Decidable.not_not.mp c4
      refine X6_settle hE hr2 hr (by omega) m il.2.1 (by omega) (fun h3 f3 m3 => ?_)
      have sc := sett_c (r := 5) (by omega) W O
      have cc := cS_cP (sett 5 W O).1
      have i1 := i.1
      dsimp only at i1
      have ess : sett (rnk (tkK B n q)) (sett 5 W O).1 (sett 5 W O).2 = sett (rnk (tkK B n q)) W O := sett_sett (by omega) W O
      have go : ¬ tpR (sett 5 W O).1 = 4 → zG E mX6_takeSign (d + 2) 137 [zR 6, zI (tkK B n q), zR r2, zI (rnk (tkK B n q))] [] h3 (qI K) := fun z => t137 _ _ h3 n1 n2 (fun y => z y.2) f3 m3 ess (by omega) (by omega)
      have bad : tpR (sett 5 W O).1 = 4 → K 1 h3 := by
        intro z
        rw [if_neg n1, if_neg n2, if_pos ⟨k4, z⟩] at h0
        exact h0 _ rfl rfl (by dsimp only; decide) h3 f3
      generalize (sett 5 W O).1 = W5 at m3 sc cc ess go bad
      generalize (sett 5 W O).2 = O5 at m3 sc cc ess
      cases W5 with
      | nil => exact ⟨fun _ => go (by decide), fun z => absurd (by rw [m3.1.1]; exact Int.le_refl 0) z⟩
      | cons k W5 =>
        rw [List.length_cons] at cc
        have e1 : h3 6 1 = ((W5.length + 1 : Nat) : Int) := m3.1.1
        have ew : w32 (((W5.length + 1 : Nat) : Int) - 1) = (W5.length : Int) := by rw [w32i (by omega) (by omega)]; omega
        rw [e1, ew, Int.toNat_natCast, m3.2.1.1]
        exact ⟨fun z => absurd z (by omega), fun _ => ⟨nat_in (show W5.length < 72 by omega), X6_rankOf hE ⟨fun z => go z, fun z => bad (Decidable.not_not.mp z)⟩⟩⟩
    · have s00 := Decidable.not_not.mp c
      have y2 : tkK B n q = 34 ∨ rnk (tkK B n q) = 0 := by
        by_cases z : tkK B n q = 34
        · exact Or.inl z
        · rw [if_neg z] at es
          exact Or.inr (by rw [← es]; exact s00)
      rw [if_neg n1, if_pos y2] at h0 h2
      refine X6_settle hE hr2 hr (by omega) m il.2.1 (by omega) (fun h3 f3 m3 => ?_)
      rw [m3.1.2.1]
      refine ⟨fun c5 h4 e4 => ?_, fun c5 h4 e4 => ?_⟩
      · have z : ¬ op = 0 := by omega
        rw [if_neg z] at h0
        exact ⟨fun _ => h0 _ rfl rfl (by dsimp only; decide) h4 (by rw [e4]; exact f3.s6), fun y => absurd (by rw [e4, hset_eq]) y⟩
      · have z : op = 0 := by omega
        rw [if_pos z] at h2
        refine ⟨fun y => absurd (by rw [e4, hset_eq] at y; exact y) (by decide), fun _ => h2 _ _ rfl h4 (by rw [e4]; exact f3.s6) (by rw [e4, hset_eq]) (by rw [e4, hset_ne (by omega)]; exact m3.1.2.2.2.2.2) (fun j hj => ?_)⟩
        rw [e4, hset_ne (by omega), hset_ne (by omega)]
        exact m3.2.2 j hj
  refine eX6_takeSign (d := d + 1) hE hr2 ⟨fun c => ⟨fun c34 => X6_rankOf hE (t59 _ (fun z => c z.1) (by rw [if_neg c34])), fun c34 => t59 _ (fun z => c z.1) (by rw [if_pos (Decidable.not_not.mp c34)])⟩, fun c => ?_⟩
  have k6 := Decidable.not_not.mp c
  rw [m.1.2.1]
  refine ⟨fun c2 => ⟨fun c34 => X6_rankOf hE (t59 _ (fun z => by omega) (by rw [if_neg c34])), fun c34 => absurd (Decidable.not_not.mp c34) (by omega)⟩, fun c2 => ?_⟩
  have y : tkK B n q = 6 ∧ 0 < op := ⟨k6, by omega⟩
  rw [if_pos y] at h1
  refine X6_settle hE hr2 hr (by omega) m il.2.1 (by omega) (fun h3 f3 m3 h4 e4 h5 e5 => ?_)
  have sd := i.2.2.2.2
  dsimp only at sd
  rw [if_neg (by decide)] at sd
  have sd' := sett_d (r := 1) (by omega) W O sd.1 sd.2
  have sc := sett_c (r := 1) (by omega) W O
  have cc := cS_cP (sett 1 W O).1
  have i1 := i.1
  dsimp only at i1
  have fin : ∀ W1 : List Int, (sett 1 W O).1 = W1 → cP W1 = op → W1.length ≤ 72 → K 0 h5 := by
    intro W1 eW hc hl
    rw [eW] at m3 h1
    cases W1 with
    | nil =>
      have : cP ([] : List Int) = 0 := rfl
      omega
    | cons k W1 =>
      rw [List.length_cons] at hl
      have e1 : h3 6 1 = ((W1.length + 1 : Nat) : Int) := m3.1.1
      have ew : w32 (((W1.length + 1 : Nat) : Int) - 1) = (W1.length : Int) := by rw [w32i (by omega) (by omega)]; omega
      rw [e1, ew] at e4
      have m4 : MxC h4 r2 0 W1 (sett 1 W O).2 op kn := by rw [e4]; exact m3.s1 hr (by omega)
      rw [m4.1.2.1] at e5
      have e6 : w32 ((op : Int) - 1) = ((op - 1 : Nat) : Int) := by rw [w32i (by omega) (by omega)]; omega
      rw [e6] at e5
      have m5 : MxC h5 r2 0 W1 (sett 1 W O).2 (op - 1) kn := by rw [e5]; exact m4.s2 hr rfl
      refine h1 _ rfl h5 (by rw [e5, e4]; exact f3.s6.s6) ?_
      have e0 : bI (false = true) = 0 := by decide
      dsimp only [List.tail]
      rw [e0]
      exact m5
  exact fin _ rfl (by omega) (by omega)
end TYardD
