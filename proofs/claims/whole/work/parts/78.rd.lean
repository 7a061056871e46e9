/-! ===== topic: the reference's rule against the machine ===== -/
section TRd
variable {E : zE} {d : Nat} {h : zH} {B : Nat → Int} {n : Nat}
def OuR (h : zH) (O : zO) : Prop := h 0 37 = (O.length : Int) ∧ ∀ j, j < O.length → h 20 (64 + j) = (enc (oA O j)).1 ∧ h 21 (64 + j) = (enc (oA O j)).2
def RtR (h : zH) (B : Nat → Int) (n q : Nat) (O : zO) (op kn : Nat) : Prop := AtR h B n q ∧ h 0 41 = (kn : Int) ∧ h 0 53 = (op : Int) ∧ OuR h O
def frGr (h h' : zH) : Prop := ∀ c j, ¬ (c = 0 ∧ (j = 37 ∨ j = 41 ∨ (45 ≤ j ∧ j ≤ 50) ∨ j = 53)) → ¬ ((c = 20 ∨ c = 21) ∧ 64 ≤ j) → h' c j = h c j
theorem frGr.rf (h : zH) : frGr h h := fun _ _ _ _ => rfl
theorem frGr.tr {h h1 h2 : zH} (a : frGr h h1) (b : frGr h1 h2) : frGr h h2 := fun c j n m => (b c j n m).trans (a c j n m)
theorem frGr.w {h h' : zH} (a : frWr h h') : frGr h h' := fun c j n _ => a c j (by omega)
theorem frGr.y {h h' : zH} (a : frY h h') : frGr h h' := fun c j n _ => a c j (by omega)
theorem OuR.mv {h' : zH} {O : zO} (o : OuR h O) (fr : frWr h h') : OuR h' O := ⟨by rw [fr _ _ (by omega)]; exact o.1, fun j hj => by rw [fr _ _ (by omega), fr _ _ (by omega)]; exact o.2 j hj⟩
theorem RtR.tok {h' : zH} {q q' : Nat} {O : zO} {op kn : Nat} (st : RtR h B n q O op kn) (fr : frY h h') (a : AtR h' B n q') : RtR h' B n q' O op kn := ⟨a, by rw [fr _ _ (by omega)]; exact st.2.1, by rw [fr _ _ (by omega)]; exact st.2.2.1, st.2.2.2.mv (frWr.y fr)⟩
theorem R_knot (hE : isR E) {q : Nat} {O : zO} {op kn : Nat} (st : RtR h B n q O op kn) (hk : kn ≤ 64) {K : zH → Prop} (h0 : 64 ≤ kn → ∀ h', frGr h h' → FlR h' (2, tkP B n q) → K h') (h1 : ¬ 64 ≤ kn → ∀ h', frGr h h' → RtR h' B n q O op (kn + 1) → K h') : zCV E mX10_knot (d + 1) [zR 0] h K := by
  refine eX10_knot hE ⟨fun _ => ?_, fun c => absurd st.1.2.2.2.1 c⟩
  rw [st.2.1]
  refine ⟨fun c h2 e2 => h1 (by omega) h2 (fun c j n1 n2 => by rw [e2, hset_ne (by omega)]) ⟨st.1.mv (fun c j hc => by rw [e2, hset_ne (by omega)]), by rw [e2, hset_eq, w_suc (by omega)], by rw [e2, hset_ne (by omega)]; exact st.2.2.1, by rw [e2, hset_ne (by omega)]; exact st.2.2.2.1, fun j hj => by rw [e2, hset_ne (by omega), hset_ne (by omega)]; exact st.2.2.2.2 j hj⟩, fun c => R_wrong hE st.1 (by decide) (fun h2 fr2 f2 => h0 (by omega) h2 (frGr.w fr2) f2)⟩
theorem R_puts (hE : isR E) {q : Nat} {O : zO} {op kn : Nat} (st : RtR h B n q O op kn) (hl : O.length < 64) {x y k v : Int} (ex : (enc (k, v)).1 = x) (ey : (enc (k, v)).2 = y) {K : zH → Prop} (h1 : ∀ h', frGr h h' → RtR h' B n q (O ++ [(k, v)]) op kn → K h') : zCV E mX10_puts d [zR 0, zI x, zI y] h K := by
  refine eX10_puts hE ⟨fun _ => ?_, fun c => absurd st.1.2.2.2.1 c⟩
  obtain ⟨a, s1, s2, s3, s4⟩ := st
  have ew : w32 (64 + (O.length : Int)) = ((64 + O.length : Nat) : Int) := by rw [w32i (by omega) (by omega)]; omega
  rw [s3, ew, Int.toNat_natCast]
  refine ⟨nat_in (show 64 + O.length < 128 by omega), fun h2 e2 => ?_⟩
  have q2 : h2 0 37 = (O.length : Int) := by rw [e2, hset_ne (by omega)]; exact s3
  rw [q2, ew, Int.toNat_natCast]
  refine ⟨nat_in (show 64 + O.length < 128 by omega), fun h3 e3 h4 e4 => ?_⟩
  have q3 : h3 0 37 = (O.length : Int) := by rw [e3, hset_ne (by omega)]; exact q2
  rw [q3, w_suc (by omega)] at e4
  have fr : ∀ c j, ¬ (c = 20 ∧ j = 64 + O.length) → ¬ (c = 21 ∧ j = 64 + O.length) → ¬ (c = 0 ∧ j = 37) → h4 c j = h c j := fun c j n1 n2 n3 => by rw [e4, hset_ne n3, e3, hset_ne n2, e2, hset_ne n1]
  refine h1 h4 (fun c j n1 n2 => fr c j (by omega) (by omega) (by omega)) ⟨a.mv (fun c j hc => fr c j (by omega) (by omega) (by omega)), by rw [fr _ _ (by omega) (by omega) (by omega)]; exact s1, by rw [fr _ _ (by omega) (by omega) (by omega)]; exact s2, by rw [e4, hset_eq, List.length_append]; rfl, fun j hj => ?_⟩
  rw [List.length_append] at hj
  change j < O.length + 1 at hj
  by_cases z : j = O.length
  · subst z
    rw [oA_eq, ex, ey]
    constructor
    · rw [e4, hset_ne (by omega), e3, hset_ne (by omega), e2, hset_eq]
    · rw [e4, hset_ne (by omega), e3, hset_eq]
  · rw [oA_lt O j (by omega), fr _ _ (by omega) (by omega) (by omega), fr _ _ (by omega) (by omega) (by omega)]
    exact s4 j (by omega)
def pO (P : List Int) : zO := P.map (fun k => (k, (0 : Int)))
theorem pO_a (P : List Int) (k : Int) : pO (P ++ [k]) = pO P ++ [(k, 0)] := by unfold pO; rw [List.map_append]; rfl
theorem pO_l (P : List Int) : (pO P).length = P.length := List.length_map _
theorem sett_P {r : Int} : ∀ (P W : List Int) (O : zO), (∀ k, k ∈ P → r ≤ rnk k) → sett r (P ++ W) O = sett r W (O ++ pO P)
  | [], W, O, _ => by
    change sett r W O = sett r W (O ++ [])
    rw [List.append_nil]
  | k :: P, W, O, hP => by
    have h1 := hP k List.mem_cons_self
    have nl : ¬ rnk k < r := by omega
    change sett r (k :: (P ++ W)) O = sett r W (O ++ ((k, 0) :: pO P))
    rw [sett, if_neg nl, sett_P P W _ (fun x hx => hP x (List.mem_cons_of_mem _ hx)), List.append_assoc]
    rfl
theorem sett_0 {r : Int} {W : List Int} {O : zO} (hW : tpR W < r) : sett r W O = (W, O) := by
  cases W with
  | nil => rfl
  | cons k W =>
    have hW' : rnk k < r := hW
    rw [sett, if_pos hW']
theorem cS_P {W : List Int} : ∀ (P : List Int), (∀ k, k ∈ P → 1 ≤ rnk k) → cS (P ++ W) = P.length + cS W
  | [], _ => by
    change cS W = 0 + cS W
    omega
  | k :: P, hP => by
    change cS (k :: (P ++ W)) = P.length + 1 + cS W
    rw [(cS_sg (hP k List.mem_cons_self)).1, cS_P P (fun x hx => hP x (List.mem_cons_of_mem _ hx))]
    omega
theorem ySg_b {q : Nat} {P W : List Int} {O : zO} {op kn : Nat} {k : Int} (hk : tkK B n q = k) (hr : 1 ≤ rnk k) (n34 : k ≠ 34) (hP : ∀ x, x ∈ P → rnk k ≤ rnk x) (hP4 : rnk k = 4 → ∀ x, x ∈ P → 5 ≤ rnk x) (hW : tpR W < rnk k) : ySg B n q (P ++ W) O op kn = if 64 ≤ kn then .inl (.inl (2, tkP B n q)) else .inr (tkQ B n q, true, k :: W, O ++ pO P, op, kn + 1) := by
  have kr := rnk_k hr
  unfold ySg
  rw [hk]
  have n1 : ¬ (k = 6 ∧ 0 < op) := by omega
  have n2 : ¬ (k = 34 ∨ rnk k = 0) := by omega
  have n3 : ¬ (rnk k = 4 ∧ tpR (sett 5 (P ++ W) O).1 = 4) := by
    intro z
    rw [sett_P P W O (hP4 z.1), sett_0 (by omega)] at z
    have := z.2
    dsimp only at this
    omega
  rw [if_neg n1, if_neg n2, if_neg n3, sett_P P W O hP, sett_0 hW]
def pst (B : Nat → Int) (n : Nat) (L : Int) (q : Nat) (W : List Int) (O : zO) : Prop := (L ≤ 6 → tkK B n q ≠ 9 ∧ tkK B n q ≠ 10) ∧ (L ≤ 5 → tkK B n q ≠ 7 ∧ tkK B n q ≠ 8) ∧ (L ≤ 3 → rnk (tkK B n q) = 4 → tpR (sett 5 W O).1 = 4) ∧ (L ≤ 2 → tkK B n q ≠ 33) ∧ (L ≤ 1 → tkK B n q ≠ 32)
def preL (B : Nat → Int) (n : Nat) (L : Int) (q : Nat) (W : List Int) : Prop := (tpR W < L ∨ (L = 3 ∧ tpR W ≤ 3)) ∧ (5 ≤ L → tkK B n q ≠ 34 ∨ 3 < tpR W)
def rdK (B : Nat → Int) (n : Nat) (L : Int) (R : Sum pF (zO × Nat)) (q : Nat) (W : List Int) (op kn : Nat) (h : zH) (K : zH → Prop) : Prop :=
  (∀ f h', R = .inl f → frGr h h' → FlR h' f → K h') ∧
  (∀ q' P O1 kn' h', R = yRes B n (q', false, P ++ W, O1, op, kn') → q < q' → kn ≤ kn' → frGr h h' → RtR h' B n q' (O1 ++ pO P) op kn' → (∀ k, k ∈ P → L ≤ rnk k) → pst B n L q' (P ++ W) O1 → yInv (q', false, P ++ W, O1, op, kn') → K h')
def LvP (E : zE) (B : Nat → Int) (n : Nat) (mth : zM) (L : Int) (c m : Nat) : Prop := ∀ (q : Nat) (W : List Int) (O : zO) (op kn : Nat) (h : zH) (K : zH → Prop) (d : Nat), n - q < m → 7 * (8 - op) + (64 - kn) + c ≤ d → RtR h B n q O op kn → yInv (q, true, W, O, op, kn) → preL B n L q W → rdK B n L (yRes B n (q, true, W, O, op, kn)) q W op kn h K → zCV E mth d [zR 0] h K
def NpP (E : zE) (mth : zM) (c : Nat) : Prop := ∀ (h : zH) (d : Nat) (K : zH → Prop), c ≤ d → h 0 49 ≠ 0 → K h → zCV E mth d [zR 0] h K
theorem FlR.ne {f : pF} (x : FlR h f) : h 0 49 ≠ 0 := by rw [x.1]; exact x.2.2
/-- a sign between two, of a level of its own -/
theorem rd_bin (hE : isR E) {mth : zM} {L2 : Int} {c m : Nat} (hc : 3 ≤ c) (sub : LvP E B n mth L2 c m) (nop : NpP E mth c) {q : Nat} {P W : List Int} {O : zO} {op kn : Nat} {k x : Int} (hk : tkK B n q = k) (hr : 1 ≤ rnk k) (n34 : k ≠ 34) (hP : ∀ x, x ∈ P → rnk k ≤ rnk x) (hP4 : rnk k = 4 → ∀ x, x ∈ P → 5 ≤ rnk x) (hW : tpR W < rnk k) (hL : rnk k < L2) (hL1 : 1 ≤ L2) (hL5 : 5 ≤ L2 → 3 < rnk k) (hx : sgE k = x) (st : RtR h B n q (O ++ pO P) op kn) (iv : yInv (q, false, P ++ W, O, op, kn)) (hm : n - q < m) (hd : 7 * (8 - op) + (64 - kn) + c ≤ d) {J : zH → Prop}
    (K0 : ∀ f h', yRes B n (q, false, P ++ W, O, op, kn) = .inl f → frGr h h' → FlR h' f → J h')
    (K1 : ∀ q2 P2 O2 kn2 h', yRes B n (q, false, P ++ W, O, op, kn) = yRes B n (q2, false, P2 ++ k :: W, O2, op, kn2) → q < q2 → kn ≤ kn2 → frGr h h' → RtR h' B n q2 (O2 ++ pO (P2 ++ [k])) op kn2 → (∀ x, x ∈ P2 → L2 ≤ rnk x) → pst B n L2 q2 (P2 ++ k :: W) O2 → yInv (q2, false, P2 ++ k :: W, O2, op, kn2) → J h') :
    zCV E mX10_knot d [zR 0] h (fun h2 => zCV E mX10_goOn d [zR 0] h2 (fun h3 => zCV E mth d [zR 0] h3 (fun h4 => zCV E mX10_puts d [zR 0, zI 2, zI x] h4 J))) := by
  obtain ⟨d', rfl⟩ : ∃ d', d = d' + 3 := ⟨d - 3, by omega⟩
  have hq := st.1.2.2.1
  have kr := rnk_k hr
  have il := iv.ln
  have i4 := iv.2.2.2.1
  dsimp only at i4
  have sb := ySg_b (op := op) (kn := kn) (O := O) hk hr n34 hP hP4 hW
  refine R_knot (d := d' + 2) hE st i4 (fun c64 h2 fr2 f2 => ?_) (fun c64 h2 fr2 st2 => ?_)
  · rw [if_pos c64] at sb
    have e2 := f2.ne
    exact R_goOn_f (d := d' + 2) hE e2 (nop h2 _ _ (by omega) e2 (R_puts_f hE e2 (K0 _ h2 (yRes_l (yStep_f.trans sb)) fr2 f2)))
  · rw [if_neg c64] at sb
    have yr := yRes_r (s := (q, false, P ++ W, O, op, kn)) hq (yStep_f.trans sb)
    dsimp only at yr
    rw [yr.1] at K0 K1
    have iv2 := yInv_sg iv sb
    refine R_goOn (d := d') hE st2.1 (fun h3 fr3 a3 => ?_)
    have st3 := st2.tok fr3 a3
    have fr23 := fr2.tr (frGr.y fr3)
    refine sub (tkQ B n q) (k :: W) (O ++ pO P) op (kn + 1) h3 _ (d' + 3) (by omega) (by omega) st3 iv2 ⟨Or.inl hL, fun z => Or.inr (hL5 z)⟩ ⟨fun f h4 ef fr4 f4 => R_puts_f hE f4.ne (K0 f h4 ef (fr23.tr fr4) f4), fun q2 P2 O2 kn2 h4 er hq2 hkn fr4 st4 hP2 ps iv4 => ?_⟩
    have il4 := iv4.ln
    have cs := cS_P (W := k :: W) P2 (fun x hx => by have := hP2 x hx; omega)
    have cs1 := (cS_sg (W := W) hr).1
    refine R_puts hE st4 (by rw [List.length_append, pO_l]; omega) (k := k) (v := 0) ?_ ?_ (fun h5 fr5 st5 => K1 q2 P2 O2 kn2 h5 er (by omega) (by omega) (fr23.tr (fr4.tr fr5)) (by rw [pO_a, ← List.append_assoc]; exact st5) hP2 ps iv4)
    · unfold enc
      have n3 : ¬ k = 3 := by omega
      have n5 : ¬ (35 ≤ k ∧ k ≤ 40) := by omega
      rw [if_neg n3, if_neg n5]
    · unfold enc
      have n3 : ¬ k = 3 := by omega
      have n5 : ¬ (35 ≤ k ∧ k ≤ 40) := by omega
      rw [if_neg n3, if_neg n5]
      exact hx
end TRd
