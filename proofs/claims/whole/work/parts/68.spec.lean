/-! ===== topic: what a text says (spec); the class's small readers ===== -/
section TSpec
variable {E : zE} {d : Nat} {h : zH} {K : Int → zH → Prop}
abbrev pF : Type := Int × Nat
def xB {α β : Type} (x : Sum pF α) (f : α → Sum pF β) : Sum pF β := match x with
  | .inl e => .inl e
  | .inr a => f a
theorem xB_l {α β : Type} {x : Sum pF α} {e : pF} {f : α → Sum pF β} (hx : x = .inl e) : xB x f = .inl e := by rw [hx]; rfl
theorem xB_r {α β : Type} {x : Sum pF α} {a : α} {f : α → Sum pF β} (hx : x = .inr a) : xB x f = f a := by rw [hx]; rfl
def pNum (B : Nat → Int) (n : Nat) (lo hi : Int) (q : Nat) : Sum pF (Int × Nat) := if tkK B n q = 3 then (if tkV B n q < lo ∨ hi < tkV B n q then .inl (2, tkP B n q) else .inr (tkV B n q, tkQ B n q)) else .inl (1, tkP B n q)
def pSig (B : Nat → Int) (n : Nat) (hi : Int) (q : Nat) : Sum pF (Int × Nat) := if tkK B n q = 8 then xB (pNum B n 0 hi (tkQ B n q)) (fun a => .inr (-a.1, a.2)) else pNum B n 0 hi q
def pTold (B : Nat → Int) (n : Nat) (f : Nat → Int) (m q : Nat) : Sum pF (Int × Nat) := if tkK B n q = 2 then (if fnd f (tkV B n q) m 0 = -1 then .inl (4, tkP B n q) else .inr (fnd f (tkV B n q) m 0, tkQ B n q)) else .inl (1, tkP B n q)
def pFresh (B : Nat → Int) (n : Nat) (f : Nat → Int) (m q : Nat) : Sum pF (Int × Nat) := if tkK B n q = 2 then (if fnd f (tkV B n q) m 0 = -1 then .inr (tkV B n q, tkQ B n q) else .inl (3, tkP B n q)) else .inl (1, tkP B n q)
theorem tkP_r {B : Nat → Int} {n q : Nat} (hq : q ≤ n) : q ≤ tkP B n q ∧ tkP B n q ≤ n := seB_r hq
theorem tkQ_r {B : Nat → Int} {n q : Nat} (hq : q ≤ n) : q ≤ tkQ B n q ∧ tkQ B n q ≤ n ∧ (tkK B n q ≠ 0 → q < tkQ B n q) := by
  have h1 := tkP_r (B := B) hq
  have h2 := t4Q_r (B := B) h1.2
  unfold tkQ tkK
  refine ⟨by omega, by omega, fun z => ?_⟩
  have : ¬ n ≤ tkP B n q := by
    intro y
    apply z
    unfold t4K
    rw [if_pos y]
  have := h2.2.2 (by omega)
  omega
theorem pNum_q {B : Nat → Int} {n q : Nat} {lo hi : Int} {a : Int × Nat} (hq : q ≤ n) (e : pNum B n lo hi q = .inr a) : a.2 ≤ n ∧ q < a.2 ∧ lo ≤ a.1 ∧ a.1 ≤ hi := by
  have r := tkQ_r (B := B) hq
  unfold pNum at e
  split at e
  · rename_i c
    split at e
    · cases e
    · cases e
      have := r.2.2 (by omega)
      dsimp only
      omega
  · cases e
theorem pSig_q {B : Nat → Int} {n q : Nat} {hi : Int} {a : Int × Nat} (hq : q ≤ n) (e : pSig B n hi q = .inr a) : a.2 ≤ n ∧ q < a.2 ∧ -hi ≤ a.1 ∧ a.1 ≤ hi := by
  have r := tkQ_r (B := B) hq
  unfold pSig at e
  split at e
  · rename_i c
    cases h2 : pNum B n 0 hi (tkQ B n q) with
    | inl f => rw [xB_l h2] at e; cases e
    | inr b =>
      rw [xB_r h2] at e
      cases e
      have := pNum_q (by omega) h2
      dsimp only
      omega
  · have := pNum_q hq e
    omega
/-! the class's reader: what it may change, what it holds -/
def frM (h h' : zH) : Prop := ∀ c j, ¬ (c = 3 ∧ 3 ≤ j ∧ j ≤ 6) → ¬ (c = 2 ∧ (j = 2 ∨ j = 3 ∨ j = 5)) → h' c j = h c j
theorem frM.rf (h : zH) : frM h h := fun _ _ _ _ => rfl
theorem frM.tr {h h1 h2 : zH} (a : frM h h1) (b : frM h1 h2) : frM h h2 := fun c j n m => (b c j n m).trans (a c j n m)
theorem frM.x {h h' : zH} (a : frX h h') : frM h h' := fun c j n _ => a c j n
theorem frM.s5 {h h1 : zH} {v : Int} (a : frM h h1) : frM h (hset h1 2 5 v) := fun c j n m => by rw [hset_ne (by omega)]; exact a c j n m
theorem TxC.mvM {h' : zH} {B : Nat → Int} {n : Nat} (t : TxC h B n) (fr : frM h h') : TxC h' B n := by
  refine ⟨by rw [fr _ _ (by omega) (by omega)]; exact t.1, by rw [fr _ _ (by omega) (by omega)]; exact t.2.1, t.2.2.1, fun j hj => by rw [fr _ _ (by omega) (by omega)]; exact t.2.2.2.1 j hj, fun j hj => by rw [fr _ _ (by omega) (by omega)]; exact t.2.2.2.2 j hj⟩
/-- at a token -/
def AtC (h : zH) (B : Nat → Int) (n q : Nat) : Prop := TxC h B n ∧ LxC h B n q ∧ q ≤ n ∧ h 2 2 = 0 ∧ h 2 3 = -1
theorem AtC.k {B : Nat → Int} {n q : Nat} (a : AtC h B n q) : h 3 4 = tkK B n q := a.2.1.2.1
theorem AtC.v {B : Nat → Int} {n q : Nat} (a : AtC h B n q) : h 3 6 = tkV B n q := a.2.1.2.2.2
theorem AtC.pl {B : Nat → Int} {n q : Nat} (a : AtC h B n q) : h 3 5 = (tkP B n q : Int) := a.2.1.2.2.1
theorem AtC.set {B : Nat → Int} {n q : Nat} (a : AtC h B n q) {c j : Nat} {v : Int} (hc : c ≠ 1 ∧ c ≠ 3 ∧ c ≠ 4 ∧ ¬ (c = 2 ∧ (j = 2 ∨ j = 3))) : AtC (hset h c j v) B n q := by
  obtain ⟨t, l, hq⟩ := a
  refine ⟨⟨by rw [hset_ne (by omega)]; exact t.1, by rw [hset_ne (by omega)]; exact t.2.1, t.2.2.1, fun j hj => by rw [hset_ne (by omega)]; exact t.2.2.2.1 j hj, fun j hj => by rw [hset_ne (by omega)]; exact t.2.2.2.2 j hj⟩, ⟨by rw [hset_ne (by omega)]; exact l.1, by rw [hset_ne (by omega)]; exact l.2.1, by rw [hset_ne (by omega)]; exact l.2.2.1, by rw [hset_ne (by omega)]; exact l.2.2.2⟩, hq.1, by rw [hset_ne (by omega)]; exact hq.2.1, by rw [hset_ne (by omega)]; exact hq.2.2⟩
theorem AtC.mv {h' : zH} {B : Nat → Int} {n q : Nat} (a : AtC h B n q) (fr : ∀ c j, (c = 1 ∨ c = 3 ∨ c = 4 ∨ (c = 2 ∧ (j = 2 ∨ j = 3))) → h' c j = h c j) : AtC h' B n q := by
  obtain ⟨t, l, hq⟩ := a
  refine ⟨⟨by rw [fr _ _ (by omega)]; exact t.1, by rw [fr _ _ (by omega)]; exact t.2.1, t.2.2.1, fun j hj => by rw [fr _ _ (by omega)]; exact t.2.2.2.1 j hj, fun j hj => by rw [fr _ _ (by omega)]; exact t.2.2.2.2 j hj⟩, ⟨by rw [fr _ _ (by omega)]; exact l.1, by rw [fr _ _ (by omega)]; exact l.2.1, by rw [fr _ _ (by omega)]; exact l.2.2.1, by rw [fr _ _ (by omega)]; exact l.2.2.2⟩, hq.1, by rw [fr _ _ (by omega)]; exact hq.2.1, by rw [fr _ _ (by omega)]; exact hq.2.2⟩
/-- a fault told -/
def FlC (h' : zH) (f : pF) : Prop := h' 2 2 = f.1 ∧ h' 2 3 = (f.2 : Int) ∧ f.1 ≠ 0
theorem C_adv (hE : isC E) {B : Nat → Int} {n q : Nat} (a : AtC h B n q) {K : zH → Prop} (hK : ∀ h', frX h h' → AtC h' B n (tkQ B n q) → K h') : zCV E mX1_advance (d + 1) [zR 3] h K := by
  have r := tkQ_r (B := B) a.2.2.1
  exact X1_advance hE a.1 r.2.1 a.2.1.1 (fun h' fr l => hK h' fr ⟨a.1.mv fr, l, r.2.1, by rw [fr _ _ (by omega)]; exact a.2.2.2.1, by rw [fr _ _ (by omega)]; exact a.2.2.2.2⟩)
theorem C_refuse (hE : isC E) {B : Nat → Int} {n q : Nat} (a : AtC h B n q) {w : Int} (hw : w ≠ 0) (hK : ∀ h', frM h h' → FlC h' (w, tkP B n q) → K 0 h') : zCI E mX4_refuse d [zR 2, zI w] h (fun r_1 h_1 => (r_1 = 0 ∨ r_1 = 1) ∧ K r_1 h_1) := by
  refine eX4_refuse hE (fun h1 e1 h2 e2 => ⟨Or.inl rfl, hK h2 (fun c j n m => by rw [e2, hset_ne (by omega), e1, hset_ne (by omega)]) ⟨?_, ?_, hw⟩⟩)
  · rw [e2, hset_ne (by omega), e1, hset_eq]
  · rw [e2, hset_eq, e1, hset_ne (by omega)]; exact a.pl
theorem C_num (hE : isC E) {B : Nat → Int} {n q : Nat} (a : AtC h B n q) {lo hi : Int} (hlo : 0 ≤ lo) (hhi : hi ≤ 99999) (h0 : ∀ f, pNum B n lo hi q = .inl f → ∀ h', frM h h' → FlC h' f → K 0 h') (h1 : ∀ r, pNum B n lo hi q = .inr r → ∀ h', frM h h' → AtC h' B n r.2 → h' 2 5 = r.1 → K 1 h') : zCI E mX4_readNumber (d + 2) [zR 2, zI lo, zI hi] h K := by
  refine eX4_readNumber (d := d + 1) hE ⟨fun _ => bX4_readNumber_33 (d := d + 1) hE ?_, fun c => absurd hlo c⟩
  rw [a.k, a.v]
  unfold pNum at h0 h1
  refine ⟨fun c => ⟨fun _ => ?_, fun c2 => absurd rfl c2⟩, fun c => ?_⟩
  · rw [if_pos c] at h0 h1
    refine bX4_readNumber_73 (d := d + 1) hE (fun h2 e2 => ?_)
    have e5 : h2 2 5 = tkV B n q := by rw [e2, hset_eq]
    have a2 : AtC h2 B n q := by rw [e2]; exact a.set (by omega)
    rw [e5]
    refine X9_isBeyond hE ⟨fun c3 => C_adv hE a2 (fun h3 fr3 a3 => ?_), fun c3 => C_refuse hE a2 (by decide) (fun h3 fr3 f3 => ?_)⟩
    · rw [bI_0] at c3
      rw [if_neg c3] at h1
      exact h1 _ rfl h3 (fun c j n m => by rw [fr3 c j n, e2, hset_ne (by omega)]) a3 (by rw [fr3 _ _ (by omega)]; exact e5)
    · rw [bI_n] at c3
      rw [if_pos c3] at h0
      exact h0 _ rfl h3 (fun c j n m => by rw [fr3 c j n m, e2, hset_ne (by omega)]) f3
  · rw [if_neg c] at h0
    exact C_refuse hE a (by decide) (fun h3 fr3 f3 => h0 _ rfl h3 fr3 f3)
theorem tkV3_r {B : Nat → Int} {n q : Nat} (hB : ∀ j, j < n → 0 ≤ B j ∧ B j ≤ 255) (hq : q ≤ n) (hk : tkK B n q = 3) : 0 ≤ tkV B n q ∧ tkV B n q ≤ 999999 := by
  have pr := tkP_r (B := B) hq
  unfold tkK t4K at hk
  unfold tkV t4V
  generalize tkP B n q = p at hk pr ⊢
  by_cases c : n ≤ p
  · rw [if_pos c] at hk; exact absurd hk (by decide)
  · rw [if_neg c] at hk ⊢
    by_cases c2 : isLe (B p) = true
    · rw [if_pos c2] at hk
      rcases wdK_sk (v := (wVal B p (seB isLe B n p - p) : Int)) (len := seB isLe B n p - p) with z | z | z <;> omega
    · rw [if_neg c2] at hk ⊢
      by_cases c3 : isDg (B p) = true
      · rw [if_pos c3]
        refine nuV_r _ (fun j hj => ?_)
        have aux : ∀ (m k : Nat), k + m = n → ∀ i, k ≤ i → i < seB isDg B n k → 48 ≤ B i := by
          intro m
          induction m with
          | zero =>
            intro k hk2 i hi1 hi2
            rw [seB_no (by omega)] at hi2
            omega
          | succ m ih =>
            intro k hk2 i hi1 hi2
            by_cases z : isDg (B k) = true
            · by_cases y : i = k
              · subst y
                unfold isDg at z
                exact (of_decide_eq_true z).1
              · rw [seB_go (by omega) z] at hi2
                exact ih (k + 1) (by omega) i (by omega) hi2
            · rw [seB_no (fun y => z y.2)] at hi2
              omega
        exact aux (n - p) p (by omega) (p + j) (by omega) (by omega)
      · rw [if_neg c3]; omega
theorem TxC.by {B : Nat → Int} {n : Nat} (t : TxC h B n) : ∀ j, j < n → 0 ≤ B j ∧ B j ≤ 255 := fun j hj => (t.2.2.2.1 j hj).2
theorem C_sig (hE : isC E) {B : Nat → Int} {n q : Nat} (a : AtC h B n q) {hi : Int} (hh0 : 0 < hi) (hhi : hi ≤ 99999) (h0 : ∀ f, pSig B n hi q = .inl f → ∀ h', frM h h' → FlC h' f → K 0 h') (h1 : ∀ r, pSig B n hi q = .inr r → ∀ h', frM h h' → AtC h' B n r.2 → h' 2 5 = r.1 → K 1 h') : zCI E mX4_readNumber (d + 2) [zR 2, zI (-hi), zI hi] h K := by
  have core : ∀ (x3 : Int) (q' : Nat) (h1' : zH), AtC h1' B n q' → frM h h1' → (∀ f, pNum B n 0 hi q' = .inl f → ∀ h', frM h h' → FlC h' f → K 0 h') → (∀ r, pNum B n 0 hi q' = .inr r → ∀ h', frM h h' → AtC h' B n r.2 → h' 2 5 = (if x3 = 0 then r.1 else -r.1) → K 1 h') → zG E mX4_readNumber (d + 2) 33 [zR 2, zI (-hi), zI hi, zI x3] [] h1' (qI K) := by
    intro x3 q' h1' a1 fr1 k0 k1
    refine bX4_readNumber_33 (d := d + 1) hE ?_
    rw [a1.k, a1.v]
    unfold pNum at k0 k1
    have go : tkK B n q' = 3 → ∀ s0 : Int, (s0 = if x3 = 0 then tkV B n q' else -(tkV B n q')) → zG E mX4_readNumber (d + 2) 73 [zR 2, zI (-hi), zI hi, zU] [zI s0, zR 2] h1' (qI K) := by
      intro c s0 es
      have vr := tkV3_r a1.1.by a1.2.2.1 c
      rw [if_pos c] at k0 k1
      refine bX4_readNumber_73 (d := d + 1) hE (fun h2 e2 => ?_)
      have e5 : h2 2 5 = s0 := by rw [e2, hset_eq]
      have a2 : AtC h2 B n q' := by rw [e2]; exact a1.set (by omega)
      have fr2 : frM h h2 := by rw [e2]; exact fr1.s5
      rw [e5]
      have iff : (s0 < -hi ∨ hi < s0) ↔ (tkV B n q' < 0 ∨ hi < tkV B n q') := by
        rw [es]
        split <;> constructor <;> intro z <;> omega
      refine X9_isBeyond hE ⟨fun c3 => C_adv hE a2 (fun h3 fr3 a3 => ?_), fun c3 => C_refuse hE a2 (by decide) (fun h3 fr3 f3 => ?_)⟩
      · rw [bI_0] at c3
        rw [if_neg (fun z => c3 (iff.mpr z))] at k1
        exact k1 _ rfl h3 (fr2.tr (frM.x fr3)) a3 (by rw [fr3 _ _ (by omega), e5]; exact es)
      · rw [bI_n] at c3
        rw [if_pos (iff.mp c3)] at k0
        exact k0 _ rfl h3 (fr2.tr fr3) f3
    refine ⟨fun c => ⟨fun z => go c _ (by rw [if_pos z]), fun z => go c _ ?_⟩, fun c => ?_⟩
    · have vr := tkV3_r a1.1.by a1.2.2.1 c
      rw [if_neg z, w32i (by omega) (by omega)]
    · rw [if_neg c] at k0
      exact C_refuse hE a1 (by decide) (fun h3 fr3 f3 => k0 _ rfl h3 (fr1.tr fr3) f3)
  unfold pSig at h0 h1
  refine eX4_readNumber (d := d + 1) hE ⟨fun c => absurd c (by omega), fun _ => ?_⟩
  rw [a.k]
  refine ⟨fun c => ?_, fun c => C_adv hE a (fun h2 fr2 a2 => ?_)⟩
  · rw [if_neg c] at h0 h1
    exact core 0 q h a (frM.rf h) h0 (fun r er h' fr' a' e' => h1 r er h' fr' a' (by rw [e', if_pos rfl]))
  · have c' := Decidable.not_not.mp c
    rw [if_pos c'] at h0 h1
    refine core 1 (tkQ B n q) h2 a2 (frM.x fr2) (fun f ef h' fr' f' => h0 f (xB_l ef) h' fr' f') (fun r er h' fr' a' e' => ?_)
    rw [if_neg (by decide)] at e'
    exact h1 (-r.1, r.2) (xB_r er) h' fr' a' e'
end TSpec
