/-! ===== topic: lines of a text: spec; the class's lines but rings and rules ===== -/
section TLines
variable {E : zE} {d : Nat} {h : zH} {T : zH} {K : Int → zH → Prop}
def pHead (B : Nat → Int) (n : Nat) (T : zH) (c a : Nat) (mx : Int) (q : Nat) : Sum pF (Int × Nat) := if T 0 c = mx then .inl (2, tkP B n q) else pFresh B n (T a) (T 0 c).toNat (tkQ B n q)
def pLand (B : Nat → Int) (n : Nat) (T : zH) (q : Nat) : Sum pF (zH × Nat) := xB (pHead B n T 23 2 4 q) (fun a => .inr (hset (hset T 2 (T 0 23).toNat a.1) 0 23 (T 0 23 + 1), a.2))
def pGrid (B : Nat → Int) (n : Nat) (T : zH) (q : Nat) : Sum pF (zH × Nat) := if T 0 32 = 0 then xB (pNum B n 0 9 (tkQ B n q)) (fun a => xB (pNum B n 1 20 a.2) (fun c => .inr (hset (hset (hset T 0 29 a.1) 0 30 c.1) 0 32 1, c.2))) else .inl (3, tkP B n q)
def pSlack (B : Nat → Int) (n : Nat) (T : zH) (q : Nat) : Sum pF (zH × Nat) := if T 0 33 = 0 then xB (pNum B n 0 9999 (tkQ B n q)) (fun a => .inr (hset (hset T 0 31 a.1) 0 33 1, a.2)) else .inl (3, tkP B n q)
def pBins (B : Nat → Int) (n w : Nat) : Nat → Nat → zH → Nat → Sum pF (zH × Nat)
  | 0, _, T, q => .inr (T, q)
  | m + 1, b, T, q => xB (pNum B n 0 99 q) (fun a => pBins B n w m (b + 1) (hset T 14 (6 * w + b) a.1) a.2)
def pWay (B : Nat → Int) (n : Nat) (T : zH) (q : Nat) : Sum pF (zH × Nat) := xB (pHead B n T 25 12 5 q) (fun a => xB (pNum B n 1 99 a.2) (fun c => xB (pBins B n (T 0 25).toNat 6 0 (hset (hset T 12 (T 0 25).toNat a.1) 13 (T 0 25).toNat c.1) c.2) (fun r => .inr (hset r.1 0 25 (T 0 25 + 1), r.2))))
def pMeas (B : Nat → Int) (n : Nat) (T : zH) (q : Nat) : Sum pF (Int × zH × Nat) := if tkK B n q = 2 then (if fnd (T 15) (tkV B n q) (T 0 27).toNat 0 = -1 then (if T 0 27 = 6 then .inl (2, tkP B n q) else .inr (T 0 27, hset (hset T 15 (T 0 27).toNat (tkV B n q)) 0 27 (T 0 27 + 1), tkQ B n q)) else .inr (fnd (T 15) (tkV B n q) (T 0 27).toNat 0, T, tkQ B n q)) else .inl (1, tkP B n q)
def stY (T : zH) (who rg sz bl : Int) : zH := hset (hset (hset (hset (hset T 16 (T 0 26).toNat who) 17 (T 0 26).toNat rg) 18 (T 0 26).toNat sz) 19 (T 0 26).toNat bl) 0 26 (T 0 26 + 1)
def pSaid (B : Nat → Int) (n : Nat) (T : zH) (q : Nat) : Sum pF (zH × Nat) := if T 0 26 = 20 then .inl (2, tkP B n q) else xB (pMeas B n T (tkQ B n q)) (fun m => xB (pTold B n (T 3) (T 0 24).toNat m.2.2) (fun r => xB (pNum B n 1 99999 r.2) (fun z => .inr (stY m.2.1 m.1 r.1 z.1 (bI (tkK B n z.2 = 29)), if tkK B n z.2 = 29 then tkQ B n z.2 else z.2))))
/-! parts of a survey by what they rest on -/
theorem NmC.c {h' T' : zH} {q c a : Nat} (i : NmC T h q c a) (e1 : h' q 1 = h q 1) (e2 : h' (q + 1) = h (q + 1)) (e3 : T' 0 c = T 0 c) (e4 : T' a = T a) : NmC T' h' q c a := by
  unfold NmC at i ⊢
  rw [e1, e2, e3, e4]; exact i
theorem RgC.c {h' T' : zH} {b : Nat} (i : RgC T h b) (e1 : ∀ c, b + 9 ≤ c → c ≤ b + 11 → h' c = h c) (e2 : T' 0 24 = T 0 24) (e3 : ∀ c, 4 ≤ c → c ≤ 11 → T' c = T c) : RgC T' h' b := by
  unfold RgC sixF at i ⊢
  rw [e1 (b + 9) (by omega) (by omega), e1 (b + 10) (by omega) (by omega), e1 (b + 11) (by omega) (by omega), e2, e3 4 (by omega) (by omega), e3 5 (by omega) (by omega), e3 6 (by omega) (by omega), e3 7 (by omega) (by omega), e3 8 (by omega) (by omega), e3 9 (by omega) (by omega), e3 10 (by omega) (by omega), e3 11 (by omega) (by omega)]
  exact i
theorem WyC.c {h' T' : zH} {b : Nat} (i : WyC T h b) (e1 : h' (b + 12) = h (b + 12)) (e2 : T' 0 25 = T 0 25) (e3 : T' 13 = T 13) (e4 : T' 14 = T 14) : WyC T' h' b := by
  unfold WyC at i ⊢
  rw [e1, e2, e3, e4]; exact i
theorem SyC.c {h' T' : zH} {b : Nat} (i : SyC T h b) (e0 : h' b 9 = h b 9) (e1 : h' (b + 13) = h (b + 13)) (e2 : T' 0 26 = T 0 26) (e3 : ∀ c, 16 ≤ c → c ≤ 19 → T' c = T c) : SyC T' h' b := by
  unfold SyC at i ⊢
  rw [e0, e1, e2, e3 16 (by omega) (by omega), e3 17 (by omega) (by omega), e3 18 (by omega) (by omega), e3 19 (by omega) (by omega)]
  exact i
theorem RuC.c {h' T' : zH} {b : Nat} (i : RuC T h b) (e0 : h' (b + 14) 4 = h (b + 14) 4) (e1 : h' b 11 = h b 11) (e2 : h' (b + 15) = h (b + 15)) (e3 : h' (b + 16) = h (b + 16)) (e4 : T' 0 28 = T 0 28) (e5 : T' 20 = T 20) (e6 : T' 21 = T 21) : RuC T' h' b := by
  unfold RuC at i ⊢
  rw [e0, e1, e2, e3, e4, e5, e6]; exact i
/-- a survey that is being read -/
def BdZ (T h : zH) (b : Nat) : Prop := BdC h b ∧ ∀ r : Nat, T 0 24 ≤ (r : Int) → r < 8 → h (b + 10) r = 0
theorem BdZ.c {T' h' : zH} {b : Nat} (i : BdZ T h b) (e1 : h' (b + 11) = h (b + 11)) (e2 : h' (b + 10) = h (b + 10)) (e3 : T' 0 24 = T 0 24) : BdZ T' h' b := by
  unfold BdZ BdC at i ⊢
  rw [e1, e2, e3]; exact i
def PvC (T h : zH) (b : Nat) : Prop := SvC T h b ∧ (h b 12 = T 0 32 ∧ h b 13 = T 0 33) ∧ BdZ T h b
def WfP (T : zH) : Prop := ((0 ≤ T 0 23 ∧ T 0 23 ≤ 4) ∧ (0 ≤ T 0 24 ∧ T 0 24 ≤ 8) ∧ (0 ≤ T 0 25 ∧ T 0 25 ≤ 5) ∧ (0 ≤ T 0 26 ∧ T 0 26 ≤ 20) ∧ (0 ≤ T 0 27 ∧ T 0 27 ≤ 6) ∧ (0 ≤ T 0 29 ∧ T 0 29 ≤ 9) ∧ (1 ≤ T 0 30 ∧ T 0 30 ≤ 20) ∧ (0 ≤ T 0 31 ∧ T 0 31 ≤ 9999) ∧ (T 0 32 = 0 ∨ T 0 32 = 1) ∧ (T 0 33 = 0 ∨ T 0 33 = 1)) ∧ (∀ r : Nat, (r : Int) < T 0 24 → 0 ≤ T 5 r ∧ T 5 r ≤ 10 ∧ 0 ≤ T 4 r ∧ T 4 r < T 0 23) ∧ WfW T ∧ WfY T ∧ rlOk T
def frP (b : Nat) (h h' : zH) : Prop := ∀ c j, ¬ (c = 3 ∧ 3 ≤ j ∧ j ≤ 6) → ¬ (c = 2 ∧ (j = 2 ∨ j = 3 ∨ j = 5)) → ¬ (b ≤ c ∧ c ≤ b + 18) → c ≠ 6 → c ≠ 7 → h' c j = h c j
theorem frP.rf (b : Nat) (h : zH) : frP b h h := fun _ _ _ _ _ _ _ => rfl
theorem frP.tr {b : Nat} {h h1 h2 : zH} (x : frP b h h1) (y : frP b h1 h2) : frP b h h2 := fun c j n1 n2 n3 n4 n5 => (y c j n1 n2 n3 n4 n5).trans (x c j n1 n2 n3 n4 n5)
theorem frP.m {b : Nat} {h h' : zH} (x : frM h h') : frP b h h' := fun c j n1 n2 _ _ _ => x c j n1 n2
theorem frP.st {b : Nat} {h h1 : zH} (x : frP b h h1) {c j : Nat} {v : Int} (hc : b ≤ c ∧ c ≤ b + 18) : frP b h (hset h1 c j v) := fun c' j' n1 n2 n3 n4 n5 => by rw [hset_ne (by omega)]; exact x c' j' n1 n2 n3 n4 n5
theorem frM.row {h h' : zH} (x : frM h h') {c : Nat} (h2 : c ≠ 2) (h3 : c ≠ 3) : h' c = h c := funext fun j => x c j (by omega) (by omega)
theorem PvC.m {h' : zH} {b : Nat} (p : PvC T h b) (hb : b = 8 ∨ b = 27) (x : frM h h') : PvC T h' b := by
  refine ⟨p.1.mv (fun c j q1 q2 => x c j (by omega) (by omega)), ⟨by rw [x _ _ (by omega) (by omega)]; exact p.2.1.1, by rw [x _ _ (by omega) (by omega)]; exact p.2.1.2⟩, p.2.2.c (x.row (by omega) (by omega)) (x.row (by omega) (by omega)) rfl⟩
theorem C_told (hE : isC E) {B : Nat → Int} {n q : Nat} (a : AtC h B n q) {r nr c s : Nat} (hr : isNm E r nr) (i : NmC T h r c s) (i0 : 0 ≤ T 0 c) (i1 : T 0 c ≤ nr) (hr4 : 4 < r) (h0 : ∀ f, pTold B n (T s) (T 0 c).toNat q = .inl f → ∀ h', frM h h' → FlC h' f → K 0 h') (h1 : ∀ v, pTold B n (T s) (T 0 c).toNat q = .inr v → ∀ h', frM h h' → AtC h' B n v.2 → h' 2 5 = v.1 → K 1 h') : zCI E mX4_readToldName (d + 2) [zR 2, zR r] h K := by
  refine eX4_readToldName (d := d + 1) hE hr ?_
  rw [a.k, a.v]
  unfold pTold at h0 h1
  refine ⟨fun k2 => i.find hE hr i0 i1 (fun h3 e3 => ?_), fun k2 => ?_⟩
  · rw [if_pos k2] at h0 h1
    have e5 : h3 2 5 = fnd (T s) (tkV B n q) (T 0 c).toNat 0 := by rw [e3, hset_eq]
    have a3 : AtC h3 B n q := by rw [e3]; exact a.set (by omega)
    have fr3 : frM h h3 := by rw [e3]; exact (frM.rf h).s5
    rw [e5]
    refine ⟨fun z => C_adv hE a3 (fun h4 fr4 a4 => ?_), fun z => C_refuse hE a3 (by decide) (fun h4 fr4 f4 => ?_)⟩
    · rw [if_neg z] at h1
      exact h1 _ rfl h4 (fr3.tr (frM.x fr4)) a4 (by rw [fr4 _ _ (by omega)]; exact e5)
    · rw [if_pos (Decidable.not_not.mp z)] at h0
      exact h0 _ rfl h4 (fr3.tr fr4) f4
  · rw [if_neg k2] at h0
    exact C_refuse hE a (by decide) (fun h4 fr4 f4 => h0 _ rfl h4 fr4 f4)
theorem X2_putN (hE : isC E) {r nr m : Nat} (hr : isNm E r nr) (em : h r 1 = (m : Int)) (hm : m < nr) {x : Int} (hK : K (m : Int) (hset (hset h (r + 1) m x) r 1 ((m + 1 : Nat) : Int))) : zCI E mX2_put (d + 1) [zR r, zI x] h K := by
  have h8 := hr.2.2.2
  refine eX2_put hE hr (eX2_isFull hE hr ?_)
  rw [em]
  refine ⟨fun c => ⟨fun _ => ?_, fun z => absurd rfl z⟩, fun c => absurd (by omega) c⟩
  refine ⟨nat_in hm, fun h3 e3 h4 e4 => ?_⟩
  rw [Int.toNat_natCast] at e3
  have q3 : h3 r 1 = (m : Int) := by rw [e3, hset_ne (by omega)]; exact em
  rw [q3, w_suc (by omega)] at e4
  have q4 : h4 r 1 = ((m + 1 : Nat) : Int) := by rw [e4, hset_eq]
  rw [q4, w32i (by omega) (by omega), show ((m + 1 : Nat) : Int) - 1 = (m : Int) by omega, e4, e3]
  exact hK
/-- a line's word and the new name -/
theorem C_head (hE : isC E) {B : Nat → Int} {n q : Nat} (a : AtC h B n q) {r nr c s : Nat} (hr : isNm E r nr) (i : NmC T h r c s) (i0 : 0 ≤ T 0 c) (i1 : T 0 c ≤ nr) (hr4 : 4 < r) {mx : Int} (hmx : mx = nr) (h0 : ∀ f, pHead B n T c s mx q = .inl f → ∀ h', frM h h' → FlC h' f → K 0 h')
    (h1 : ∀ v, pHead B n T c s mx q = .inr v → T 0 c < nr → ∀ h', (∀ c' j, ¬ (c' = 3 ∧ 3 ≤ j ∧ j ≤ 6) → ¬ (c' = 2 ∧ (j = 2 ∨ j = 3 ∨ j = 5)) → ¬ (c' = r ∧ j = 1) → ¬ (c' = r + 1 ∧ j = (T 0 c).toNat) → h' c' j = h c' j) → h' r 1 = T 0 c + 1 → h' (r + 1) (T 0 c).toNat = v.1 → AtC h' B n v.2 → h' 2 5 = T 0 c → K 1 h') : zCI E mX4_readHead (d + 2) [zR 2, zR r] h K := by
  obtain ⟨m, hm⟩ : ∃ m : Nat, T 0 c = m := ⟨(T 0 c).toNat, by omega⟩
  have hq := a.2.2.1
  refine eX4_readHead (d := d + 1) hE hr (eX2_isFull hE hr ?_)
  rw [i.1, hm]
  unfold pHead at h0 h1
  refine ⟨fun z => ⟨fun _ => C_adv hE a (fun h3 fr3 a3 => ?_), fun y => absurd rfl y⟩, fun z => ⟨fun y => absurd y (by decide), fun _ => C_refuse hE a (by decide) (fun h4 fr4 f4 => ?_)⟩⟩
  · have nf : ¬ T 0 c = mx := by omega
    rw [if_neg nf] at h0 h1
    have i3 : NmC T h3 r c s := i.mv (fun j => ⟨fr3 _ _ (by omega), fr3 _ _ (by omega)⟩)
    unfold pFresh at h0 h1
    rw [a3.k, a3.v]
    refine ⟨fun k2 => i3.find hE hr i0 i1 ⟨fun y => ?_, fun y => C_refuse hE a3 (by decide) (fun h4 fr4 f4 => ?_)⟩, fun k2 => C_refuse hE a3 (by decide) (fun h4 fr4 f4 => ?_)⟩
    · rw [if_pos k2, if_pos y] at h1
      rw [a3.v]
      refine X2_putN hE hr (m := m) (by rw [i3.1, hm]) (by omega) (fun h5 e5 => ?_)
      have a5 : AtC h5 B n (tkQ B n q) := by rw [e5]; exact ((a3.set (by omega)).set (by omega)).set (by omega)
      refine C_adv hE a5 (fun h6 fr6 a6 => h1 _ rfl (by omega) h6 (fun c' j n1 n2 n3 n4 => ?_) ?_ ?_ a6 ?_)
      · rw [fr6 _ _ n1, e5, hset_ne (by omega), hset_ne n3, hset_ne (by omega)]; exact fr3 _ _ n1
      · rw [fr6 _ _ (by omega), e5, hset_ne (by omega), hset_eq, hm]; rfl
      · rw [fr6 _ _ (by omega), e5, hset_ne (by omega), hset_ne (by omega), show (T 0 c).toNat = m by omega, hset_eq]
      · rw [fr6 _ _ (by omega), e5, hset_eq, hm]
    · rw [if_pos k2, if_neg y] at h0
      exact h0 _ rfl h4 ((frM.x fr3).tr fr4) f4
    · rw [if_neg k2] at h0
      exact h0 _ rfl h4 ((frM.x fr3).tr fr4) f4
  · have nf : T 0 c = mx := by omega
    rw [if_pos nf] at h0
    exact h0 _ rfl h4 fr4 f4
theorem L_land (hE : isC E) {B : Nat → Int} {n q b : Nat} (a : AtC h B n q) (hb : b = 8 ∨ b = 27) (p : PvC T h b) (w : WfP T) (h0 : ∀ f, pLand B n T q = .inl f → ∀ h', frP b h h' → BdC h' b → FlC h' f → K 0 h') (h1 : ∀ r, pLand B n T q = .inr r → ∀ h', frP b h h' → PvC r.1 h' b → AtC h' B n r.2 → K 1 h') : zCI E mX4_readHead (d + 2) [zR 2, zR (b + 1)] h K := by
  have su := su_b hE hb
  have wn := w.1
  unfold pLand at h0 h1
  refine C_head hE a su.2.2.1 p.1.la (by omega) (by omega) (by omega) (mx := 4) rfl (fun f ef h' fr fl => h0 f (xB_l ef) h' (frP.m fr) (p.m hb fr).2.2.1 fl) (fun v ev lt h' fr e1 e2 a' e5 => ?_)
  refine h1 _ (xB_r ev) h' (fun c j n1 n2 n3 n4 n5 => fr c j n1 n2 (by omega) (by omega)) ?_ a'
  have rw' : ∀ c, c ≠ 2 → c ≠ 3 → c ≠ b + 1 → c ≠ b + 2 → h' c = h c := fun c n1 n2 n3 n4 => funext fun j => fr c j (by omega) (by omega) (by omega) (by omega)
  have tr : ∀ c, c ≠ 0 → c ≠ 2 → hset (hset T 2 (T 0 23).toNat v.1) 0 23 (T 0 23 + 1) c = T c := fun c n1 n2 => by rw [hset_rne n1, hset_rne n2]
  have tn : ∀ j, j ≠ 23 → hset (hset T 2 (T 0 23).toNat v.1) 0 23 (T 0 23 + 1) 0 j = T 0 j := fun j n1 => by rw [hset_ne (by omega), hset_ne (by omega)]
  have hbr : ∀ j, h' b j = h b j := fun j => fr b j (by omega) (by omega) (by omega) (by omega)
  obtain ⟨s1, s2, s3, s4, s5, s6, s7, s8, s9, s10, s11⟩ := p.1
  dsimp only
  refine ⟨⟨⟨by rw [hset_eq]; exact e1, fun k hk => ?_⟩, s2.c (by rw [rw' _ (by omega) (by omega) (by omega) (by omega)]) (rw' _ (by omega) (by omega) (by omega) (by omega)) (tn _ (by omega)) (tr _ (by omega) (by omega)), s3.c (by rw [rw' _ (by omega) (by omega) (by omega) (by omega)]) (rw' _ (by omega) (by omega) (by omega) (by omega)) (tn _ (by omega)) (tr _ (by omega) (by omega)), s4.c (by rw [rw' _ (by omega) (by omega) (by omega) (by omega)]) (rw' _ (by omega) (by omega) (by omega) (by omega)) (tn _ (by omega)) (tr _ (by omega) (by omega)), s5.c (fun c q1 q2 => rw' c (by omega) (by omega) (by omega) (by omega)) (tn _ (by omega)) (fun c q1 q2 => tr c (by omega) (by omega)), s6.c (rw' _ (by omega) (by omega) (by omega) (by omega)) (tn _ (by omega)) (tr _ (by omega) (by omega)) (tr _ (by omega) (by omega)), s7.c (hbr 9) (rw' _ (by omega) (by omega) (by omega) (by omega)) (tn _ (by omega)) (fun c q1 q2 => tr c (by omega) (by omega)), s8.c (by rw [rw' _ (by omega) (by omega) (by omega) (by omega)]) (hbr 11) (rw' _ (by omega) (by omega) (by omega) (by omega)) (rw' _ (by omega) (by omega) (by omega) (by omega)) (tn _ (by omega)) (tr _ (by omega) (by omega)) (tr _ (by omega) (by omega)), by rw [hbr, tn _ (by omega)]; exact s9, by rw [hbr, tn _ (by omega)]; exact s10, by rw [hbr, tn _ (by omega)]; exact s11⟩, ⟨by rw [hbr, tn _ (by omega)]; exact p.2.1.1, by rw [hbr, tn _ (by omega)]; exact p.2.1.2⟩, p.2.2.c (rw' _ (by omega) (by omega) (by omega) (by omega)) (rw' _ (by omega) (by omega) (by omega) (by omega)) (tn _ (by omega))⟩
  rw [hset_eq] at hk
  rw [hset_ne (by omega)]
  by_cases z : k = (T 0 23).toNat
  · rw [z, hset_eq]; exact e2
  · rw [hset_ne (by omega), fr _ _ (by omega) (by omega) (by omega) (by omega)]
    exact s1.2 k (by omega)
theorem L_grid (hE : isC E) {B : Nat → Int} {n q b : Nat} (a : AtC h B n q) (hb : b = 8 ∨ b = 27) (p : PvC T h b) (w : WfP T) (h0 : ∀ f, pGrid B n T q = .inl f → ∀ h', frP b h h' → BdC h' b → FlC h' f → K 0 h') (h1 : ∀ r, pGrid B n T q = .inr r → ∀ h', frP b h h' → PvC r.1 h' b → AtC h' B n r.2 → K 1 h') : zCI E mX4_readGrid (d + 3) [zR 2, zR b] h K := by
  have su := su_b hE hb
  have bn : b ≠ 1 ∧ b ≠ 3 ∧ b ≠ 4 := by omega
  refine eX4_readGrid (d := d + 2) hE su ?_
  rw [p.2.1.1]
  unfold pGrid at h0 h1
  refine ⟨fun c h2 e2 => ?_, fun c => C_refuse hE a (by decide) (fun h4 fr4 f4 => ?_)⟩
  · rw [if_pos c] at h0 h1
    have a2 : AtC h2 B n q := by rw [e2]; exact a.set (by omega)
    have fr2 : frP b h h2 := by rw [e2]; exact (frP.rf b h).st (by omega)
    have bd2 : BdC h2 b := p.2.2.1.mv (fun j => by rw [e2, hset_ne (by omega)])
    refine C_adv hE a2 (fun h3 fr3 a3 => ?_)
    have fr3' : frM h2 h3 := frM.x fr3
    have bd3 : BdC h3 b := bd2.mv (fun j => fr3' _ _ (by omega) (by omega))
    refine C_num hE a3 (by omega) (by omega) (fun f ef h4 fr4 fl => ⟨fun z => absurd rfl z, fun _ => h0 f (xB_l ef) h4 ((fr2.tr (frP.m fr3')).tr (frP.m fr4)) (bd3.mv (fun j => fr4 _ _ (by omega) (by omega))) fl⟩) (fun r er h4 fr4 a4 e5 => ⟨fun _ h6 e6 => ?_, fun z => absurd (by decide) z⟩)
    rw [e5] at e6
    have a6 : AtC h6 B n r.2 := by rw [e6]; exact a4.set (by omega)
    have fr6 : frP b h h6 := by rw [e6]; exact ((fr2.tr (frP.m fr3')).tr (frP.m fr4)).st (by omega)
    have bd6 : BdC h6 b := bd3.mv (fun j => by rw [e6, hset_ne (by omega)]; exact fr4 _ _ (by omega) (by omega))
    rw [xB_r er] at h0 h1
    refine C_num hE a6 (by omega) (by omega) (fun f ef h7 fr7 fl => ⟨fun z => absurd rfl z, fun _ => h0 f (xB_l ef) h7 (fr6.tr (frP.m fr7)) (bd6.mv (fun j => fr7 _ _ (by omega) (by omega))) fl⟩) (fun t et h7 fr7 a7 e7 => ⟨fun _ h9 e9 => ?_, fun z => absurd (by decide) z⟩)
    rw [e7] at e9
    rw [xB_r et] at h1
    refine h1 _ rfl h9 (by rw [e9]; exact (fr6.tr (frP.m fr7)).st (by omega)) ?_ (by rw [e9]; exact a7.set (by omega))
    have rw' : ∀ c, c ≠ 2 → c ≠ 3 → c ≠ b → h9 c = h c := fun c n1 n2 n3 => by
      funext j
      rw [e9, hset_ne (by omega), fr7 c j (by omega) (by omega), e6, hset_ne (by omega), fr4 c j (by omega) (by omega), fr3' c j (by omega) (by omega), e2, hset_ne (by omega)]
    have tr : ∀ c, c ≠ 0 → hset (hset (hset T 0 29 r.1) 0 30 t.1) 0 32 1 c = T c := fun c n1 => by rw [hset_rne n1, hset_rne n1, hset_rne n1]
    have tn : ∀ j, j ≠ 29 → j ≠ 30 → j ≠ 32 → hset (hset (hset T 0 29 r.1) 0 30 t.1) 0 32 1 0 j = T 0 j := fun j n1 n2 n3 => by rw [hset_ne (by omega), hset_ne (by omega), hset_ne (by omega)]
    have hbr : ∀ j, j ≠ 12 → j ≠ 14 → j ≠ 15 → h9 b j = h b j := fun j n1 n2 n3 => by
      rw [e9, hset_ne (by omega), fr7 b j (by omega) (by omega), e6, hset_ne (by omega), fr4 b j (by omega) (by omega), fr3' b j (by omega) (by omega), e2, hset_ne (by omega)]
    obtain ⟨s1, s2, s3, s4, s5, s6, s7, s8, s9, s10, s11⟩ := p.1
    dsimp only
    refine ⟨⟨s1.c (by rw [rw' _ (by omega) (by omega) (by omega)]) (rw' _ (by omega) (by omega) (by omega)) (tn _ (by omega) (by omega) (by omega)) (tr _ (by omega)), s2.c (by rw [rw' _ (by omega) (by omega) (by omega)]) (rw' _ (by omega) (by omega) (by omega)) (tn _ (by omega) (by omega) (by omega)) (tr _ (by omega)), s3.c (by rw [rw' _ (by omega) (by omega) (by omega)]) (rw' _ (by omega) (by omega) (by omega)) (tn _ (by omega) (by omega) (by omega)) (tr _ (by omega)), s4.c (by rw [rw' _ (by omega) (by omega) (by omega)]) (rw' _ (by omega) (by omega) (by omega)) (tn _ (by omega) (by omega) (by omega)) (tr _ (by omega)), s5.c (fun c q1 q2 => rw' c (by omega) (by omega) (by omega)) (tn _ (by omega) (by omega) (by omega)) (fun c q1 q2 => tr c (by omega)), s6.c (rw' _ (by omega) (by omega) (by omega)) (tn _ (by omega) (by omega) (by omega)) (tr _ (by omega)) (tr _ (by omega)), s7.c (hbr 9 (by omega) (by omega) (by omega)) (rw' _ (by omega) (by omega) (by omega)) (tn _ (by omega) (by omega) (by omega)) (fun c q1 q2 => tr c (by omega)), s8.c (by rw [rw' _ (by omega) (by omega) (by omega)]) (hbr 11 (by omega) (by omega) (by omega)) (rw' _ (by omega) (by omega) (by omega)) (rw' _ (by omega) (by omega) (by omega)) (tn _ (by omega) (by omega) (by omega)) (tr _ (by omega)) (tr _ (by omega)), ?_, ?_, by rw [hbr _ (by omega) (by omega) (by omega), tn _ (by omega) (by omega) (by omega)]; exact s11⟩, ⟨?_, by rw [hbr _ (by omega) (by omega) (by omega), tn _ (by omega) (by omega) (by omega)]; exact p.2.1.2⟩, p.2.2.c (rw' _ (by omega) (by omega) (by omega)) (rw' _ (by omega) (by omega) (by omega)) (tn _ (by omega) (by omega) (by omega))⟩
    · rw [e9, hset_ne (by omega), fr7 b 14 (by omega) (by omega), e6, hset_eq, hset_ne (by omega), hset_ne (by omega), hset_eq]
    · rw [e9, hset_eq, hset_ne (by omega), hset_eq]
    · rw [e9, hset_ne (by omega), fr7 b 12 (by omega) (by omega), e6, hset_ne (by omega), fr4 b 12 (by omega) (by omega), fr3' b 12 (by omega) (by omega), e2, hset_eq, hset_eq]
  · rw [if_neg c] at h0
    exact h0 _ rfl h4 (frP.m fr4) (p.m hb fr4).2.2.1 f4
theorem L_slack (hE : isC E) {B : Nat → Int} {n q b : Nat} (a : AtC h B n q) (hb : b = 8 ∨ b = 27) (p : PvC T h b) (w : WfP T) (h0 : ∀ f, pSlack B n T q = .inl f → ∀ h', frP b h h' → BdC h' b → FlC h' f → K 0 h') (h1 : ∀ r, pSlack B n T q = .inr r → ∀ h', frP b h h' → PvC r.1 h' b → AtC h' B n r.2 → K 1 h') : zCI E mX4_readSlack (d + 3) [zR 2, zR b] h K := by
  have su := su_b hE hb
  have bn : b ≠ 1 ∧ b ≠ 3 ∧ b ≠ 4 := by omega
  refine eX4_readSlack (d := d + 2) hE su ?_
  rw [p.2.1.2]
  unfold pSlack at h0 h1
  refine ⟨fun c h2 e2 => ?_, fun c => C_refuse hE a (by decide) (fun h4 fr4 f4 => ?_)⟩
  · rw [if_pos c] at h0 h1
    have a2 : AtC h2 B n q := by rw [e2]; exact a.set (by omega)
    have fr2 : frP b h h2 := by rw [e2]; exact (frP.rf b h).st (by omega)
    have bd2 : BdC h2 b := p.2.2.1.mv (fun j => by rw [e2, hset_ne (by omega)])
    refine C_adv hE a2 (fun h3 fr3 a3 => ?_)
    have fr3' : frM h2 h3 := frM.x fr3
    have bd3 : BdC h3 b := bd2.mv (fun j => fr3' _ _ (by omega) (by omega))
    refine C_num hE a3 (by omega) (by omega) (fun f ef h4 fr4 fl => ⟨fun z => absurd rfl z, fun _ => h0 f (xB_l ef) h4 ((fr2.tr (frP.m fr3')).tr (frP.m fr4)) (bd3.mv (fun j => fr4 _ _ (by omega) (by omega))) fl⟩) (fun r er h4 fr4 a4 e5 => ⟨fun _ h6 e6 => ?_, fun z => absurd (by decide) z⟩)
    rw [e5] at e6
    rw [xB_r er] at h1
    refine h1 _ rfl h6 (by rw [e6]; exact ((fr2.tr (frP.m fr3')).tr (frP.m fr4)).st (by omega)) ?_ (by rw [e6]; exact a4.set (by omega))
    have rw' : ∀ c, c ≠ 2 → c ≠ 3 → c ≠ b → h6 c = h c := fun c n1 n2 n3 => by
      funext j
      rw [e6, hset_ne (by omega), fr4 c j (by omega) (by omega), fr3' c j (by omega) (by omega), e2, hset_ne (by omega)]
    have tr : ∀ c, c ≠ 0 → hset (hset T 0 31 r.1) 0 33 1 c = T c := fun c n1 => by rw [hset_rne n1, hset_rne n1]
    have tn : ∀ j, j ≠ 31 → j ≠ 33 → hset (hset T 0 31 r.1) 0 33 1 0 j = T 0 j := fun j n1 n2 => by rw [hset_ne (by omega), hset_ne (by omega)]
    have hbr : ∀ j, j ≠ 13 → j ≠ 16 → h6 b j = h b j := fun j n1 n2 => by
      rw [e6, hset_ne (by omega), fr4 b j (by omega) (by omega), fr3' b j (by omega) (by omega), e2, hset_ne (by omega)]
    obtain ⟨s1, s2, s3, s4, s5, s6, s7, s8, s9, s10, s11⟩ := p.1
    dsimp only
    refine ⟨⟨s1.c (by rw [rw' _ (by omega) (by omega) (by omega)]) (rw' _ (by omega) (by omega) (by omega)) (tn _ (by omega) (by omega)) (tr _ (by omega)), s2.c (by rw [rw' _ (by omega) (by omega) (by omega)]) (rw' _ (by omega) (by omega) (by omega)) (tn _ (by omega) (by omega)) (tr _ (by omega)), s3.c (by rw [rw' _ (by omega) (by omega) (by omega)]) (rw' _ (by omega) (by omega) (by omega)) (tn _ (by omega) (by omega)) (tr _ (by omega)), s4.c (by rw [rw' _ (by omega) (by omega) (by omega)]) (rw' _ (by omega) (by omega) (by omega)) (tn _ (by omega) (by omega)) (tr _ (by omega)), s5.c (fun c q1 q2 => rw' c (by omega) (by omega) (by omega)) (tn _ (by omega) (by omega)) (fun c q1 q2 => tr c (by omega)), s6.c (rw' _ (by omega) (by omega) (by omega)) (tn _ (by omega) (by omega)) (tr _ (by omega)) (tr _ (by omega)), s7.c (hbr 9 (by omega) (by omega)) (rw' _ (by omega) (by omega) (by omega)) (tn _ (by omega) (by omega)) (fun c q1 q2 => tr c (by omega)), s8.c (by rw [rw' _ (by omega) (by omega) (by omega)]) (hbr 11 (by omega) (by omega)) (rw' _ (by omega) (by omega) (by omega)) (rw' _ (by omega) (by omega) (by omega)) (tn _ (by omega) (by omega)) (tr _ (by omega)) (tr _ (by omega)), by rw [hbr _ (by omega) (by omega), tn _ (by omega) (by omega)]; exact s9, by rw [hbr _ (by omega) (by omega), tn _ (by omega) (by omega)]; exact s10, ?_⟩, ⟨by rw [hbr _ (by omega) (by omega), tn _ (by omega) (by omega)]; exact p.2.1.1, ?_⟩, p.2.2.c (rw' _ (by omega) (by omega) (by omega)) (rw' _ (by omega) (by omega) (by omega)) (tn _ (by omega) (by omega))⟩
    · rw [e6, hset_eq, hset_ne (by omega), hset_eq]
    · rw [e6, hset_ne (by omega), fr4 b 13 (by omega) (by omega), fr3' b 13 (by omega) (by omega), e2, hset_eq, hset_eq]
  · rw [if_neg c] at h0
    exact h0 _ rfl h4 (frP.m fr4) (p.m hb fr4).2.2.1 f4
end TLines
