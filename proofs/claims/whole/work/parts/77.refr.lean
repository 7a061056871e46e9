/-! ===== topic: the reference's small readers ===== -/
section TRefr
variable {E : zE} {d : Nat} {h : zH} {T : zH}
def AtR (h : zH) (B : Nat → Int) (n q : Nat) : Prop := TxR h B n ∧ LxR h B n q ∧ q ≤ n ∧ h 0 49 = 0 ∧ h 0 50 = -1
def FlR (h' : zH) (f : pF) : Prop := h' 0 49 = f.1 ∧ h' 0 50 = (f.2 : Int) ∧ f.1 ≠ 0
def frWr (h h' : zH) : Prop := ∀ c j, ¬ (c = 0 ∧ 45 ≤ j ∧ j ≤ 50) → h' c j = h c j
theorem frWr.rf (h : zH) : frWr h h := fun _ _ _ => rfl
theorem frWr.tr {h h1 h2 : zH} (a : frWr h h1) (b : frWr h1 h2) : frWr h h2 := fun c j n => (b c j n).trans (a c j n)
theorem frWr.y {h h' : zH} (a : frY h h') : frWr h h' := fun c j n => a c j (by omega)
theorem AtR.mv {h' : zH} {B : Nat → Int} {n q : Nat} (a : AtR h B n q) (fr : ∀ c j, (c = 1 ∨ (c = 0 ∧ 44 ≤ j ∧ j ≤ 50)) → h' c j = h c j) : AtR h' B n q := by
  obtain ⟨t, l, hq, e⟩ := a
  refine ⟨⟨by rw [fr _ _ (by omega)]; exact t.1, t.2.1, fun j hj => by rw [fr _ _ (by omega)]; exact t.2.2 j hj⟩, ⟨by rw [fr _ _ (by omega)]; exact l.1, by rw [fr _ _ (by omega)]; exact l.2.1, by rw [fr _ 47 (by omega), fr _ 48 (by omega)]; exact l.2.2⟩, hq, by rw [fr _ _ (by omega)]; exact e.1, by rw [fr _ _ (by omega)]; exact e.2⟩
theorem R_tok (hE : isR E) {B : Nat → Int} {n q : Nat} (a : AtR h B n q) {K : zH → Prop} (hK : ∀ h', frY h h' → AtR h' B n (tkQ B n q) → K h') : zCV E mX10_token (d + 2) [zR 0] h K := by
  have r := tkQ_r (B := B) a.2.2.1
  exact X10_token hE a.1 r.2.1 a.2.1.1 (fun h' fr l => hK h' fr ⟨a.1.mv fr, l, r.2.1, by rw [fr _ _ (by omega)]; exact a.2.2.2.1, by rw [fr _ _ (by omega)]; exact a.2.2.2.2⟩)
theorem R_goOn (hE : isR E) {B : Nat → Int} {n q : Nat} (a : AtR h B n q) {K : zH → Prop} (hK : ∀ h', frY h h' → AtR h' B n (tkQ B n q) → K h') : zCV E mX10_goOn (d + 3) [zR 0] h K :=
  eX10_goOn (d := d + 2) hE ⟨fun c => absurd a.2.2.2.1 c, fun _ => R_tok hE a hK⟩
theorem R_goOn_f (hE : isR E) (e : h 0 49 ≠ 0) {K : zH → Prop} (hK : K h) : zCV E mX10_goOn (d + 1) [zR 0] h K := eX10_goOn hE ⟨fun _ => hK, fun c => absurd e c⟩
theorem R_wrong (hE : isR E) {B : Nat → Int} {n q : Nat} (a : AtR h B n q) {w : Int} (hw : w ≠ 0) {K : zH → Prop} (hK : ∀ h', frWr h h' → FlR h' (w, tkP B n q) → K h') : zCV E mX10_wrong d [zR 0, zI w] h K := by
  refine eX10_wrong hE ⟨fun _ h2 e2 h3 e3 => hK h3 (fun c j n => ?_) ⟨?_, ?_, hw⟩, fun c => absurd a.2.2.2.1 c⟩
  · rw [e3, hset_ne (by omega), e2, hset_ne (by omega)]
  · rw [e3, hset_ne (by omega), e2, hset_eq]
  · rw [e3, hset_eq, e2, hset_ne (by omega)]; exact a.2.1.2.1
theorem R_wrong_f (hE : isR E) (e : h 0 49 ≠ 0) {w : Int} {K : zH → Prop} (hK : K h) : zCV E mX10_wrong d [zR 0, zI w] h K := eX10_wrong hE ⟨fun c => absurd c e, fun _ => hK⟩
theorem AtR.sk {B : Nat → Int} {n q : Nat} (a : AtR h B n q) : skR (tkK B n q) (tkV B n q) (h 0 47) (h 0 48) := a.2.1.2.2
def sgI (s : Int) : Int := if s = 59 then 4 else if s = 40 then 5 else if s = 41 then 6 else if s = 43 then 7 else if s = 45 then 8 else if s = 42 then 9 else if s = 47 then 10 else if s = 60 then 11 else if s = 256 then 12 else if s = 61 then 13 else if s = 257 then 14 else if s = 258 then 15 else 16
theorem sgI_V {k : Int} (h1 : 4 ≤ k) (h2 : k ≤ 16) : sgI (sgV k) = k := by
  have cs : k = 4 ∨ k = 5 ∨ k = 6 ∨ k = 7 ∨ k = 8 ∨ k = 9 ∨ k = 10 ∨ k = 11 ∨ k = 12 ∨ k = 13 ∨ k = 14 ∨ k = 15 ∨ k = 16 := by omega
  rcases cs with c | c | c | c | c | c | c | c | c | c | c | c | c <;> subst c <;> decide
theorem R_sign (hE : isR E) {B : Nat → Int} {n q : Nat} (a : AtR h B n q) {x kk : Int} (hx : sgV kk = x) (h4 : 4 ≤ kk) (h16 : kk ≤ 16) {K : Int → zH → Prop} (hK : K (bI (tkK B n q = kk)) h) : zCI E mX10_isSign d [zR 0, zI x] h K := by
  have sk := a.sk
  unfold skR at sk
  refine eX10_isSign hE ⟨fun c => absurd a.2.2.2.1 c, fun _ => ⟨fun c => ?_, fun c => ⟨fun c2 => ?_, fun c2 => ?_⟩⟩⟩
  · rwa [bI_f (by omega)] at hK
  · rwa [bI_f (fun z => ?_)] at hK
    rw [z] at sk
    apply c2
    rw [← hx]
    omega
  · rwa [bI_t ?_] at hK
    have s1 : 4 ≤ tkK B n q ∧ tkK B n q ≤ 16 ∧ h 0 48 = sgV (tkK B n q) := by omega
    have e : sgV (tkK B n q) = sgV kk := by rw [hx, ← s1.2.2]; exact Decidable.not_not.mp c2
    have := congrArg sgI e
    rwa [sgI_V s1.1 s1.2.1, sgI_V h4 h16] at this
theorem R_sign_f (hE : isR E) (e : h 0 49 ≠ 0) {x : Int} {K : Int → zH → Prop} (hK : K 0 h) : zCI E mX10_isSign d [zR 0, zI x] h K := eX10_isSign hE ⟨fun _ => hK, fun c => absurd e c⟩
theorem rIx_i : ∀ j : Nat, j < 21 → ∀ i : Nat, i < 21 → 12 ≤ i → (([0, 1, 7, 8, 9, 10, 2, 3, 4, 11, 5, 6, 12, 13, 14, 15, 16, 17, 18, 19, 20] : List Int).getD j 0 = (i : Int) ↔ j = i) := by decide
theorem rIx_w {k : Int} (h1 : 20 ≤ k) (h2 : k ≤ 40) {i : Nat} (hi : i < 21) (h12 : 12 ≤ i) : rIx (k - 20) = (i : Int) ↔ k = (i : Int) + 20 := by
  obtain ⟨j, hj⟩ : ∃ j : Nat, k - 20 = (j : Int) := ⟨(k - 20).toNat, by omega⟩
  unfold rIx
  rw [hj, Int.toNat_natCast, rIx_i j (by omega) i hi h12]
  omega
theorem R_word (hE : isR E) {B : Nat → Int} {n q : Nat} (a : AtR h B n q) {i : Nat} (hi : i < 21) (h12 : 12 ≤ i) {x : Int} (hx : x = (i : Int)) {K : Int → zH → Prop} (hK : K (bI (tkK B n q = x + 20)) h) : zCI E mX10_isWord d [zR 0, zI x] h K := by
  have sk := a.sk
  unfold skR at sk
  subst hx
  refine eX10_isWord hE ⟨fun c => absurd a.2.2.2.1 c, fun _ => ⟨fun c => ?_, fun c => ⟨fun c2 => ?_, fun c2 => ?_⟩⟩⟩
  · rwa [bI_f (by omega)] at hK
  · rwa [bI_f (fun z => ?_)] at hK
    have s1 : 20 ≤ tkK B n q ∧ tkK B n q ≤ 40 ∧ h 0 48 = rIx (tkK B n q - 20) := by omega
    apply c2
    rw [s1.2.2]
    exact (rIx_w s1.1 s1.2.1 hi h12).mpr z
  · rwa [bI_t ?_] at hK
    have s1 : 20 ≤ tkK B n q ∧ tkK B n q ≤ 40 ∧ h 0 48 = rIx (tkK B n q - 20) := by omega
    refine (rIx_w s1.1 s1.2.1 hi h12).mp ?_
    rw [← s1.2.2]
    exact Decidable.not_not.mp c2
theorem R_word_f (hE : isR E) (e : h 0 49 ≠ 0) {x : Int} {K : Int → zH → Prop} (hK : K 0 h) : zCI E mX10_isWord d [zR 0, zI x] h K := eX10_isWord hE ⟨fun _ => hK, fun c => absurd e c⟩
theorem R_puts_f (hE : isR E) (e : h 0 49 ≠ 0) {x y : Int} {K : zH → Prop} (hK : K h) : zCV E mX10_puts d [zR 0, zI x, zI y] h K := eX10_puts hE ⟨fun c => absurd c e, fun _ => hK⟩
theorem R_knot_f (hE : isR E) (e : h 0 49 ≠ 0) {K : zH → Prop} (hK : K h) : zCV E mX10_knot (d + 1) [zR 0] h K := eX10_knot hE ⟨fun c => absurd c e, fun _ => hK⟩
/-! after a fault nothing more is read -/
theorem nop7 (hE : isR E) (e : h 0 49 ≠ 0) {K : zH → Prop} (hK : K h) : zCV E mX10_primary (d + 1) [zR 0] h K := eX10_primary hE ⟨fun c => absurd c e, fun _ => hK⟩
theorem nop6l (hE : isR E) (e : h 0 49 ≠ 0) {K : zH → Prop} (hK : K h) : zG E mX10_product (d + 1) 4 [zR 0, zU] [] h (qV K) := bX10_product_4 hE (R_sign_f hE e ⟨fun c => absurd rfl c, fun _ => R_sign_f hE e ⟨fun _ => hK, fun c => absurd rfl c⟩⟩)
theorem nop6 (hE : isR E) (e : h 0 49 ≠ 0) {K : zH → Prop} (hK : K h) : zCV E mX10_product (d + 2) [zR 0] h K := eX10_product hE (nop7 hE e (nop6l hE e hK))
theorem nop5l (hE : isR E) (e : h 0 49 ≠ 0) {K : zH → Prop} (hK : K h) : zG E mX10_sum (d + 1) 4 [zR 0, zU] [] h (qV K) := bX10_sum_4 hE (R_sign_f hE e ⟨fun c => absurd rfl c, fun _ => R_sign_f hE e ⟨fun _ => hK, fun c => absurd rfl c⟩⟩)
theorem nop5 (hE : isR E) (e : h 0 49 ≠ 0) {K : zH → Prop} (hK : K h) : zCV E mX10_sum (d + 3) [zR 0] h K := eX10_sum hE (nop6 hE e (nop5l hE e hK))
theorem nop3 (hE : isR E) (e : h 0 49 ≠ 0) {K : zH → Prop} (hK : K h) : zCV E mX10_negation (d + 4) [zR 0] h K := eX10_negation hE (R_word_f hE e ⟨fun _ => nop5 hE e ⟨fun _ => hK, fun c => absurd e c⟩, fun c => absurd rfl c⟩)
theorem nop2l (hE : isR E) (e : h 0 49 ≠ 0) {K : zH → Prop} (hK : K h) : zG E mX10_conjunction (d + 1) 4 [zR 0] [] h (qV K) := bX10_conjunction_4 hE (R_word_f hE e ⟨fun _ => hK, fun c => absurd rfl c⟩)
theorem nop2 (hE : isR E) (e : h 0 49 ≠ 0) {K : zH → Prop} (hK : K h) : zCV E mX10_conjunction (d + 5) [zR 0] h K := eX10_conjunction hE (nop3 hE e (nop2l hE e hK))
theorem nop1l (hE : isR E) (e : h 0 49 ≠ 0) {K : zH → Prop} (hK : K h) : zG E mX10_expression (d + 1) 4 [zR 0] [] h (qV K) := bX10_expression_4 hE (R_word_f hE e ⟨fun _ => hK, fun c => absurd rfl c⟩)
theorem nop1 (hE : isR E) (e : h 0 49 ≠ 0) {K : zH → Prop} (hK : K h) : zCV E mX10_expression (d + 6) [zR 0] h K := eX10_expression hE (nop2 hE e (nop1l hE e hK))
end TRefr
