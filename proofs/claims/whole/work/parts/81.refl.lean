/-! ===== topic: the reference's readers of a line ===== -/
section TRefl
variable {E : zE} {d : Nat} {h : zH} {T : zH} {B : Nat → Int} {n : Nat}
def hO (c : Nat) : Nat := if c = 2 then 4 else if c ≤ 5 then 8 else if c ≤ 11 then 80 else if c ≤ 13 then 5 else if c = 14 then 30 else if c = 15 then 6 else if c ≤ 19 then 20 else 64
def frE (h h' : zH) : Prop := ∀ c j, ¬ (c = 0 ∧ 32 ≤ j ∧ j ≤ 40) → ¬ (c = 0 ∧ 45 ≤ j ∧ j ≤ 50) → ¬ (2 ≤ c ∧ c ≤ 21 ∧ hO c ≤ j) → h' c j = h c j
theorem frE.rf (h : zH) : frE h h := fun _ _ _ _ _ => rfl
theorem frE.tr {h h1 h2 : zH} (a : frE h h1) (b : frE h1 h2) : frE h h2 := fun c j n m k => (b c j n m k).trans (a c j n m k)
theorem frE.w {h h' : zH} (a : frWr h h') : frE h h' := fun c j _ m _ => a c j m
theorem frE.st {h h1 : zH} (a : frE h h1) {c j : Nat} {v : Int} (h2 : 2 ≤ c) (h21 : c ≤ 21) (hj : hO c ≤ j) : frE h (hset h1 c j v) := fun c' j' n m k => by
  rw [hset_ne (fun z => k (by rw [z.1, z.2]; exact ⟨h2, h21, hj⟩))]
  exact a c' j' n m k
theorem frE.s0 {h h1 : zH} (a : frE h h1) {j : Nat} {v : Int} (hj : 32 ≤ j ∧ j ≤ 40) : frE h (hset h1 0 j v) := fun c' j' n m k => by
  rw [hset_ne (fun z => n (by rw [z.1, z.2]; exact ⟨rfl, hj⟩))]
  exact a c' j' n m k
/-- bounds of the second halves -/
def BdR (h : zH) : Prop := (∀ s, s < 80 → (-999 ≤ h 6 (80 + s) ∧ h 6 (80 + s) ≤ 999 ∧ -999 ≤ h 7 (80 + s) ∧ h 7 (80 + s) ≤ 999) ∧ (-99 ≤ h 8 (80 + s) ∧ h 8 (80 + s) ≤ 99 ∧ -99 ≤ h 9 (80 + s) ∧ h 9 (80 + s) ≤ 99) ∧ (h 10 (80 + s) = 0 ∨ h 10 (80 + s) = 1) ∧ (h 11 (80 + s) = 0 ∨ h 11 (80 + s) = 1)) ∧ ∀ s, s < 20 → h 19 (20 + s) = 0 ∨ h 19 (20 + s) = 1
theorem BdR.mv {h' : zH} (b : BdR h) (fr : ∀ c j, (6 ≤ c ∧ c ≤ 11) ∨ c = 19 → h' c j = h c j) : BdR h' := by
  refine ⟨fun s hs => ?_, fun s hs => ?_⟩
  · rw [fr 6 _ (by omega), fr 7 _ (by omega), fr 8 _ (by omega), fr 9 _ (by omega), fr 10 _ (by omega), fr 11 _ (by omega)]; exact b.1 s hs
  · rw [fr 19 _ (by omega)]; exact b.2 s hs
theorem BdR.w {h' : zH} (b : BdR h) (fr : frWr h h') : BdR h' := b.mv (fun c j hc => fr c j (by omega))
theorem BdR.so {c j : Nat} {v : Int} (b : BdR h) (hc : ¬ (6 ≤ c ∧ c ≤ 11) ∧ c ≠ 19) : BdR (hset h c j v) := b.mv (fun c' j' hc' => hset_ne (by omega))
def bvR (c : Nat) (v : Int) : Prop := if c ≤ 7 then -999 ≤ v ∧ v ≤ 999 else if c ≤ 9 then -99 ≤ v ∧ v ≤ 99 else v = 0 ∨ v = 1
theorem BdR_iff : BdR h ↔ (∀ c s, 6 ≤ c → c ≤ 11 → s < 80 → bvR c (h c (80 + s))) ∧ ∀ s, s < 20 → h 19 (20 + s) = 0 ∨ h 19 (20 + s) = 1 := by
  constructor
  · intro b
    refine ⟨fun c s h6 h11 hs => ?_, b.2⟩
    have bs := b.1 s hs
    have cs : c = 6 ∨ c = 7 ∨ c = 8 ∨ c = 9 ∨ c = 10 ∨ c = 11 := by omega
    rcases cs with z | z | z | z | z | z <;> subst z
    · exact ⟨bs.1.1, bs.1.2.1⟩
    · exact ⟨bs.1.2.2.1, bs.1.2.2.2⟩
    · exact ⟨bs.2.1.1, bs.2.1.2.1⟩
    · exact ⟨bs.2.1.2.2.1, bs.2.1.2.2.2⟩
    · exact bs.2.2.1
    · exact bs.2.2.2
  · intro b
    refine ⟨fun s hs => ?_, b.2⟩
    have b6 : -999 ≤ h 6 (80 + s) ∧ h 6 (80 + s) ≤ 999 := b.1 6 s (by omega) (by omega) hs
    have b7 : -999 ≤ h 7 (80 + s) ∧ h 7 (80 + s) ≤ 999 := b.1 7 s (by omega) (by omega) hs
    have b8 : -99 ≤ h 8 (80 + s) ∧ h 8 (80 + s) ≤ 99 := b.1 8 s (by omega) (by omega) hs
    have b9 : -99 ≤ h 9 (80 + s) ∧ h 9 (80 + s) ≤ 99 := b.1 9 s (by omega) (by omega) hs
    exact ⟨⟨b6.1, b6.2, b7.1, b7.2⟩, ⟨b8.1, b8.2, b9.1, b9.2⟩, b.1 10 s (by omega) (by omega) hs, b.1 11 s (by omega) (by omega) hs⟩
theorem BdR.st {c j : Nat} {v : Int} (b : BdR h) (h6 : 6 ≤ c) (h11 : c ≤ 11) (hv : bvR c v) : BdR (hset h c j v) := by
  rw [BdR_iff] at b ⊢
  refine ⟨fun c' s a1 a2 a3 => ?_, fun s hs => by rw [hset_ne (by omega)]; exact b.2 s hs⟩
  by_cases z : c' = c ∧ 80 + s = j
  · rw [z.1, z.2, hset_eq]; exact hv
  · rw [hset_ne z]; exact b.1 c' s a1 a2 a3
theorem BdR.s19 {j : Nat} {v : Int} (b : BdR h) (hv : v = 0 ∨ v = 1) : BdR (hset h 19 j v) := by
  refine ⟨fun s hs => ?_, fun s hs => ?_⟩
  · rw [hset_ne (by omega), hset_ne (by omega), hset_ne (by omega), hset_ne (by omega), hset_ne (by omega), hset_ne (by omega)]; exact b.1 s hs
  · by_cases z : 20 + s = j
    · rw [z, hset_eq]; exact hv
    · rw [hset_ne (by omega)]; exact b.2 s hs
/-- the second halves show T -/
def HfQ (T h : zH) : Prop := ∀ j : Nat, (j : Int) < T 0 28 → h 20 (64 + j) = T 20 j ∧ h 21 (64 + j) = T 21 j
def HfR (T h : zH) : Prop := (∀ j, 23 ≤ j → j ≤ 31 → h 0 (j + 9) = T 0 j) ∧ (∀ c j, 2 ≤ c → c ≤ 19 → j < hO c → h c (hO c + j) = T c j) ∧ HfQ T h
theorem HfQ.mv {T' h' : zH} (i : HfQ T h) (e : T' 0 28 = T 0 28) (et : ∀ c j, 20 ≤ c → T' c j = T c j) (eh : ∀ c j, 20 ≤ c → c ≤ 21 → h' c j = h c j) : HfQ T' h' := fun j hj => by
  rw [e] at hj
  rw [et 20 _ (by omega), et 21 _ (by omega), eh 20 _ (by omega) (by omega), eh 21 _ (by omega) (by omega)]
  exact i j hj
theorem HfR.w {h' : zH} (i : HfR T h) (fr : frWr h h') : HfR T h' := ⟨fun j a b => by rw [fr _ _ (by omega)]; exact i.1 j a b, fun c j a b e => by rw [fr _ _ (by omega)]; exact i.2.1 c j a b e, i.2.2.mv rfl (fun _ _ _ => rfl) (fun c j a b => fr c j (by omega))⟩
theorem HfR.st (i : HfR T h) {c j j' : Nat} {v : Int} (h2 : 2 ≤ c) (h21 : c ≤ 19) (e : j' = hO c + j) : HfR (hset T c j v) (hset h c j' v) := by
  subst e
  refine ⟨fun k a b => by rw [hset_ne (by omega), hset_ne (by omega)]; exact i.1 k a b, fun c' k a b hk => ?_, i.2.2.mv (hset_ne (by omega)) (fun c' j' hc => hset_ne (by omega)) (fun c' j' hc _ => hset_ne (by omega))⟩
  by_cases z : c' = c
  · subst z
    by_cases y : k = j
    · subst y
      rw [hset_eq, hset_eq]
    · rw [hset_ne (by omega), hset_ne (by omega)]; exact i.2.1 c' k a b hk
  · rw [hset_ne (by omega), hset_ne (by omega)]; exact i.2.1 c' k a b hk
theorem HfR.s0 (i : HfR T h) {j j' : Nat} {v w : Int} (h1 : 23 ≤ j) (h2 : j ≤ 31 ∧ j ≠ 28) (e : j' = j + 9) (ev : v = w) : HfR (hset T 0 j v) (hset h 0 j' w) := by
  subst e
  subst ev
  refine ⟨fun k a b => ?_, fun c' k a b hk => by rw [hset_ne (by omega), hset_ne (by omega)]; exact i.2.1 c' k a b hk, i.2.2.mv (hset_ne (by omega)) (fun c' j' hc => hset_ne (by omega)) (fun c' j' hc _ => hset_ne (by omega))⟩
  by_cases y : k = j
  · subst y
    rw [hset_eq, hset_eq]
  · rw [hset_ne (by omega), hset_ne (by omega)]; exact i.1 k a b
theorem HfR.t0 (i : HfR T h) {j : Nat} {v : Int} (hj : j < 23 ∨ 31 < j) : HfR (hset T 0 j v) h := ⟨fun k a b => by rw [hset_ne (by omega)]; exact i.1 k a b, fun c' k a b hk => by rw [hset_ne (by omega)]; exact i.2.1 c' k a b hk, i.2.2.mv (hset_ne (by omega)) (fun c' j' hc => hset_ne (by omega)) (fun _ _ _ _ => rfl)⟩
theorem HfR.h0 (i : HfR T h) {j : Nat} {v : Int} (hj : 41 ≤ j) : HfR T (hset h 0 j v) := ⟨fun k a b => by rw [hset_ne (by omega)]; exact i.1 k a b, fun c' k a b hk => by rw [hset_ne (by omega)]; exact i.2.1 c' k a b hk, i.2.2.mv rfl (fun _ _ _ => rfl) (fun c' j' hc _ => hset_ne (by omega))⟩
theorem FlR.mv {h' : zH} {f : pF} (x : FlR h f) (e1 : h' 0 49 = h 0 49) (e2 : h' 0 50 = h 0 50) : FlR h' f := ⟨e1.trans x.1, e2.trans x.2.1, x.2.2⟩
theorem FlR.st {f : pF} {c j : Nat} {v : Int} (x : FlR h f) (hc : c ≠ 0 ∨ (j ≠ 49 ∧ j ≠ 50)) : FlR (hset h c j v) f := x.mv (hset_ne (by omega)) (hset_ne (by omega))
/-! a number -/
theorem R_num (hE : isR E) {q : Nat} (a : AtR h B n q) {lo hi : Int} (hhi : hi ≤ 99999) {K : Int → zH → Prop} (h0 : ∀ f, pNum B n lo hi q = .inl f → ∀ h', frWr h h' → FlR h' f → K lo h') (h1 : ∀ r, pNum B n lo hi q = .inr r → ∀ h', frWr h h' → AtR h' B n r.2 → K r.1 h') : zCI E mX10_numeral (d + 3) [zR 0, zI lo, zI hi] h K := by
  have sk := a.sk
  unfold skR at sk
  unfold pNum at h0 h1
  have bad : ∀ (w : Int) (h' : zH), FlR h' (w, tkP B n q) → K lo h' → zG E mX10_numeral (d + 3) 46 [zR 0, zI lo, zU, zU] [] h' (qI K) := fun w h' fl k => bX10_numeral_46 (d := d + 2) hE ⟨fun z => absurd z fl.ne, fun _ => k⟩
  refine eX10_numeral (d := d + 2) hE ⟨fun _ => ⟨fun c2 => ?_, fun c2 => ?_⟩, fun c => absurd a.2.2.2.1 c⟩
  · have k3 : tkK B n q = 3 := by omega
    rw [if_pos k3] at h0 h1
    refine ⟨fun c => R_wrong hE a (by decide) (fun h2 fr2 f2 => bad _ h2 f2 ?_), fun c => ⟨fun c3 => ?_, fun c3 => R_wrong hE a (by decide) (fun h2 fr2 f2 => bad _ h2 f2 ?_)⟩⟩
    · by_cases y : tkV B n q < lo ∨ hi < tkV B n q
      · rw [if_pos y] at h0
        exact h0 _ rfl h2 fr2 f2
      · exfalso; omega
    · have y : ¬ (tkV B n q < lo ∨ hi < tkV B n q) := by omega
      rw [if_neg y] at h1
      have e48 : h 0 48 = tkV B n q := by omega
      refine bX10_numeral_46 (d := d + 2) hE ⟨fun _ x ex => R_tok hE a (fun h3 fr3 a3 => ?_), fun z => absurd a.2.2.2.1 z⟩
      rw [ex, e48]
      exact h1 _ rfl h3 (frWr.y fr3) a3
    · have y : tkV B n q < lo ∨ hi < tkV B n q := by omega
      rw [if_pos y] at h0
      exact h0 _ rfl h2 fr2 f2
  · have k3 : ¬ tkK B n q = 3 := by omega
    rw [if_neg k3] at h0
    exact R_wrong hE a (by decide) (fun h2 fr2 f2 => bad _ h2 f2 (h0 _ rfl h2 fr2 f2))
theorem R_num_f (hE : isR E) (e : h 0 49 ≠ 0) {lo hi : Int} {K : Int → zH → Prop} (hK : K lo h) : zCI E mX10_numeral (d + 1) [zR 0, zI lo, zI hi] h K := eX10_numeral hE ⟨fun z => absurd z e, fun _ => hK⟩
theorem R_sig (hE : isR E) {q : Nat} (a : AtR h B n q) {hi : Int} (hhi : hi ≤ 99999) {K : Int → zH → Prop} (h0 : ∀ f, pSig B n hi q = .inl f → ∀ h', frWr h h' → FlR h' f → K 0 h') (h1 : ∀ r, pSig B n hi q = .inr r → ∀ h', frWr h h' → AtR h' B n r.2 → K r.1 h') : zCI E mX10_signed (d + 4) [zR 0, zI hi] h K := by
  unfold pSig at h0 h1
  have z0 : w32 (-0) = 0 := by rw [w32i (by omega) (by omega)]; rfl
  refine eX10_signed (d := d + 3) hE (R_sign hE a (kk := 8) (by decide) (by decide) (by decide) ⟨fun c => ?_, fun c => R_tok (d := d + 1) hE a (fun h2 fr2 a2 => ?_)⟩)
  · have k8 := bI_ne c
    rw [if_neg k8] at h0 h1
    rw [c]
    exact bX10_signed_15 (d := d + 3) hE (R_num hE a hhi (fun f ef h' fr fl => ⟨fun _ => h0 f ef h' fr fl, fun z => absurd rfl z⟩) (fun r er h' fr a' => ⟨fun _ => h1 r er h' fr a', fun z => absurd rfl z⟩))
  · have k8 := bI_e c
    rw [if_pos k8] at h0 h1
    refine bX10_signed_15 (d := d + 3) hE (R_num hE a2 hhi (fun f ef h' fr fl => ⟨fun z => absurd z c, fun _ => ?_⟩) (fun r er h' fr a' => ⟨fun z => absurd z c, fun _ => ?_⟩))
    · rw [z0]
      exact h0 f (xB_l ef) h' ((frWr.y fr2).tr fr) fl
    · have rr := pNum_q a2.2.2.1 er
      rw [w32i (by omega) (by omega)]
      exact h1 _ (xB_r er) h' ((frWr.y fr2).tr fr) a'
theorem R_sig_f (hE : isR E) (e : h 0 49 ≠ 0) {hi : Int} {K : Int → zH → Prop} (hK : K 0 h) : zCI E mX10_signed (d + 2) [zR 0, zI hi] h K := eX10_signed (d := d + 1) hE (R_sign_f hE e ⟨fun _ => bX10_signed_15 (d := d + 1) hE (R_num_f hE e ⟨fun _ => hK, fun z => absurd rfl z⟩), fun z => absurd rfl z⟩)
/-! names -/
theorem HfR.fnd (i : HfR T h) {c k m : Nat} {x : Int} (h2 : 2 ≤ c) (h21 : c ≤ 19) (hk : hO c = k) (hm : m ≤ k) : fnd (fun j => h c (k + j)) x m 0 = fnd (T c) x m 0 := by
  subst hk
  exact fnd_congr m 0 (fun j _ hj => i.2.1 c j h2 h21 (by omega))
theorem R_fresh (hE : isR E) {q : Nat} (a : AtR h B n q) (i : HfR T h) {c k m na : Nat} (ha : zsh E c = (20, na) ∧ c < zN E ∧ na < 2147483648) (h2 : 2 ≤ c) (h21 : c ≤ 19) (hk : hO c = k) (hm : m ≤ k) (hna : k + k ≤ na) {x3 : Int} (e3 : x3 = (m : Int)) {K : Int → zH → Prop} (h0 : ∀ f, pFresh B n (T c) m q = .inl f → ∀ h', frWr h h' → FlR h' f → K 0 h') (h1 : ∀ r, pFresh B n (T c) m q = .inr r → ∀ h', frWr h h' → AtR h' B n r.2 → K r.1 h') : zCI E mX10_fresh (d + 3) [zR 0, zR c, zI (k : Int), zI x3] h K := by
  have sk := a.sk
  unfold skR at sk
  unfold pFresh at h0 h1
  have k64 : k ≤ 80 := by rw [← hk]; unfold hO; repeat' split
                          all_goals omega
  have bad : ∀ (w : Int) (h' : zH), FlR h' (w, tkP B n q) → K 0 h' → zG E mX10_fresh (d + 3) 44 [zR 0, zU, zU, zU, zU] [] h' (qI K) := fun w h' fl k => bX10_fresh_44 (d := d + 2) hE ha ⟨fun z => absurd z fl.ne, fun _ => k⟩
  subst e3
  refine eX10_fresh (d := d + 2) hE ha ⟨fun _ => ⟨fun c2 => X10_found hE ha (by omega) (by omega) ?_, fun c2 => ?_⟩, fun z => absurd a.2.2.2.1 z⟩
  · have k2 : tkK B n q = 2 ∧ h 0 48 = tkV B n q := by omega
    rw [if_pos k2.1] at h0 h1
    rw [i.fnd h2 h21 hk hm, k2.2]
    refine ⟨fun c3 => ?_, fun c3 => R_wrong hE a (by decide) (fun h3 fr3 f3 => bad _ h3 f3 ?_)⟩
    · rw [if_pos c3] at h1
      refine bX10_fresh_44 (d := d + 2) hE ha ⟨fun _ x ex => R_tok hE a (fun h3 fr3 a3 => ?_), fun z => absurd a.2.2.2.1 z⟩
      rw [ex, k2.2]
      exact h1 _ rfl h3 (frWr.y fr3) a3
    · rw [if_neg c3] at h0
      exact h0 _ rfl h3 fr3 f3
  · have k2 : ¬ tkK B n q = 2 := by omega
    rw [if_neg k2] at h0
    exact R_wrong hE a (by decide) (fun h3 fr3 f3 => bad _ h3 f3 (h0 _ rfl h3 fr3 f3))
theorem R_fresh_f (hE : isR E) (e : h 0 49 ≠ 0) {c na : Nat} (ha : zsh E c = (20, na) ∧ c < zN E ∧ na < 2147483648) {x2 x3 : Int} {K : Int → zH → Prop} (hK : K 0 h) : zCI E mX10_fresh (d + 1) [zR 0, zR c, zI x2, zI x3] h K := eX10_fresh hE ha ⟨fun z => absurd z e, fun _ => hK⟩
theorem R_told (hE : isR E) {q : Nat} (a : AtR h B n q) (i : HfR T h) {c k m na : Nat} (ha : zsh E c = (20, na) ∧ c < zN E ∧ na < 2147483648) (h2 : 2 ≤ c) (h21 : c ≤ 19) (hk : hO c = k) (hm : m ≤ k) (hna : k + k ≤ na) {x3 : Int} (e3 : x3 = (m : Int)) {K : Int → zH → Prop} (h0 : ∀ f, pTold B n (T c) m q = .inl f → ∀ h', frWr h h' → FlR h' f → K 0 h') (h1 : ∀ r, pTold B n (T c) m q = .inr r → ∀ h', frWr h h' → AtR h' B n r.2 → K r.1 h') : zCI E mX10_toldAhead (d + 3) [zR 0, zR c, zI (k : Int), zI x3] h K := by
  have sk := a.sk
  unfold skR at sk
  unfold pTold at h0 h1
  have k64 : k ≤ 80 := by rw [← hk]; unfold hO; repeat' split
                          all_goals omega
  subst e3
  have bad : ∀ (w : Int) (h' : zH), FlR h' (w, tkP B n q) → K 0 h' → zG E mX10_toldAhead (d + 3) 44 [zR 0, zR c, zI (k : Int), zI (m : Int), zU] [] h' (qI K) := fun w h' fl k => bX10_toldAhead_44 (d := d + 2) hE ha ⟨fun z => absurd z fl.ne, fun _ => k⟩
  refine eX10_toldAhead (d := d + 2) hE ha ⟨fun _ => ⟨fun c2 => X10_found hE ha (by omega) (by omega) ?_, fun c2 => ?_⟩, fun z => absurd a.2.2.2.1 z⟩
  · have k2 : tkK B n q = 2 ∧ h 0 48 = tkV B n q := by omega
    rw [if_pos k2.1] at h0 h1
    rw [i.fnd h2 h21 hk hm, k2.2]
    refine ⟨fun c3 => ?_, fun c3 => R_wrong hE a (by decide) (fun h3 fr3 f3 => bad _ h3 f3 ?_)⟩
    · rw [if_neg c3] at h1
      refine bX10_toldAhead_44 (d := d + 2) hE ha ⟨fun _ => X10_found hE ha (by omega) (by omega) (R_tok hE a (fun h3 fr3 a3 => ?_)), fun z => absurd a.2.2.2.1 z⟩
      rw [i.fnd h2 h21 hk hm, k2.2]
      exact h1 _ rfl h3 (frWr.y fr3) a3
    · rw [if_pos (Decidable.not_not.mp c3)] at h0
      exact h0 _ rfl h3 fr3 f3
  · have k2 : ¬ tkK B n q = 2 := by omega
    rw [if_neg k2] at h0
    exact R_wrong hE a (by decide) (fun h3 fr3 f3 => bad _ h3 f3 (h0 _ rfl h3 fr3 f3))
theorem R_told_f (hE : isR E) (e : h 0 49 ≠ 0) {c na : Nat} (ha : zsh E c = (20, na) ∧ c < zN E ∧ na < 2147483648) {x2 x3 : Int} {K : Int → zH → Prop} (hK : K 0 h) : zCI E mX10_toldAhead (d + 1) [zR 0, zR c, zI x2, zI x3] h K := eX10_toldAhead hE ha ⟨fun z => absurd z e, fun _ => hK⟩
end TRefl
