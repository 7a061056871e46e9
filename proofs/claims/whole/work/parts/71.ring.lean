/-! ===== topic: rings of the class ===== -/
section TRing
variable {E : zE} {d : Nat} {h : zH} {T : zH} {K : Int → zH → Prop}
abbrev z6 : Type := Int × Int × Int × Int × Int × Int
def nxK (B : Nat → Int) (n : Nat) (k : Int) (q : Nat) : Nat := if tkK B n q = k then tkQ B n q else q
def pLn (B : Nat → Int) (n q : Nat) : Sum pF (Int × Int × Nat) := if tkK B n q = 23 then xB (pSig B n 99 (tkQ B n q)) (fun u => xB (pSig B n 99 u.2) (fun v => .inr (u.1, v.1, v.2))) else .inr (0, 0, q)
def pSt6 (B : Nat → Int) (n q : Nat) : Sum pF (z6 × Nat) := xB (pSig B n 999 q) (fun x => xB (pSig B n 999 x.2) (fun y => xB (pLn B n y.2) (fun l => .inr ((x.1, y.1, l.1, l.2.1, bI (tkK B n l.2.2 = 24), bI (tkK B n (nxK B n 24 l.2.2) = 25)), nxK B n 25 (nxK B n 24 l.2.2)))))
def st6 (T : zH) (s : Nat) (v : z6) : zH := hset (hset (hset (hset (hset (hset T 6 s v.1) 7 s v.2.1) 8 s v.2.2.1) 9 s v.2.2.2.1) 10 s v.2.2.2.2.1) 11 s v.2.2.2.2.2
def pStones (B : Nat → Int) (n r : Nat) : Nat → Nat → zH → Nat → Sum pF (zH × Nat)
  | 0, _, T, q => .inr (T, q)
  | m + 1, k, T, q => if tkK B n q = 22 then (if k = 10 then .inl (2, tkP B n q) else xB (pSt6 B n (tkQ B n q)) (fun v => pStones B n r m (k + 1) (hset (st6 T (10 * r + k) v.1) 5 r ((k + 1 : Nat) : Int)) v.2)) else .inr (T, q)
def pRing (B : Nat → Int) (n : Nat) (T : zH) (q : Nat) : Sum pF (zH × Nat) := xB (pHead B n T 24 3 8 q) (fun a => xB (pTold B n (T 2) (T 0 23).toNat a.2) (fun l => pStones B n (T 0 24).toNat 11 0 (hset (hset (hset (hset T 3 (T 0 24).toNat a.1) 4 (T 0 24).toNat l.1) 5 (T 0 24).toNat 0) 0 24 (T 0 24 + 1)) l.2))
theorem nxK_r {B : Nat → Int} {n q : Nat} {k : Int} (hq : q ≤ n) : q ≤ nxK B n k q ∧ nxK B n k q ≤ n := by
  have := tkQ_r (B := B) hq
  unfold nxK
  split <;> omega
theorem sixF.m {h' : zH} {c j : Nat} {a1 a2 a3 a4 a5 a6 : Int} (i : sixF h c j a1 a2 a3 a4 a5 a6) (e : h' c = h c) : sixF h' c j a1 a2 a3 a4 a5 a6 := by
  unfold sixF at i ⊢
  rw [e]; exact i
def bd6 (v : z6) : Prop := (-999 ≤ v.1 ∧ v.1 ≤ 999 ∧ -999 ≤ v.2.1 ∧ v.2.1 ≤ 999) ∧ (-99 ≤ v.2.2.1 ∧ v.2.2.1 ≤ 99 ∧ -99 ≤ v.2.2.2.1 ∧ v.2.2.2.1 ≤ 99)
def sx (h : zH) (c j : Nat) (v : z6) : Prop := sixF h c j v.1 v.2.1 v.2.2.1 v.2.2.2.1 v.2.2.2.2.1 v.2.2.2.2.2
/-- one stone read into its place -/
theorem C_stone (hE : isC E) {B : Nat → Int} {n q b s : Nat} (a : AtC h B n q) (hb : b = 8 ∨ b = 27) (hs : s < 80)
    (h0 : ∀ f, pSt6 B n q = .inl f → ∀ h' v, (∀ c j, ¬ (c = 3 ∧ 3 ≤ j ∧ j ≤ 6) → ¬ (c = 2 ∧ (j = 2 ∨ j = 3 ∨ j = 5)) → ¬ (c = b + 11 ∧ s * 6 ≤ j ∧ j < s * 6 + 6) → h' c j = h c j) → sx h' (b + 11) (s * 6) v → bd6 v → FlC h' f → K 0 h')
    (h1 : ∀ r, pSt6 B n q = .inr r → ∀ h', (∀ c j, ¬ (c = 3 ∧ 3 ≤ j ∧ j ≤ 6) → ¬ (c = 2 ∧ (j = 2 ∨ j = 3 ∨ j = 5)) → ¬ (c = b + 11 ∧ s * 6 ≤ j ∧ j < s * 6 + 6) → h' c j = h c j) → sx h' (b + 11) (s * 6) r.1 → bd6 r.1 → AtC h' B n r.2 → K 1 h') : zCI E mX4_readStone (d + 3) [zR 2, zR (b + 11), zI ((s * 6 : Nat) : Int)] h K := by
  have su := su_b hE hb
  have hq := a.2.2.1
  have ha : zsh E (b + 11) = (20, 480) ∧ b + 11 < zN E := ⟨su.2.2.2.2.2.2.2.2.1, Nat.lt_of_le_of_lt (by omega) su.1⟩
  have ei : ∀ i : Nat, i < 6 → w32 (((s * 6 : Nat) : Int) + (i : Int)) = ((s * 6 + i : Nat) : Int) := fun i hi => by rw [w32i (by omega) (by omega)]; omega
  have b48 : ∀ i : Nat, i < 6 → (0 : Int) ≤ ((s * 6 + i : Nat) : Int) ∧ ((s * 6 + i : Nat) : Int) < 480 := fun i hi => nat_in (n := 480) (by omega)
  let frT : zH → Prop := fun h' => ∀ c j, ¬ (c = 3 ∧ 3 ≤ j ∧ j ≤ 6) → ¬ (c = 2 ∧ (j = 2 ∨ j = 3 ∨ j = 5)) → ¬ (c = b + 11 ∧ s * 6 ≤ j ∧ j < s * 6 + 6) → h' c j = h c j
  have ftM : ∀ {h1 h2 : zH}, frT h1 → frM h1 h2 → frT h2 := fun f m c j n1 n2 n3 => by rw [m c j n1 n2]; exact f c j n1 n2 n3
  have ftS : ∀ {h1 : zH} (i : Nat) (v : Int), i < 6 → frT h1 → frT (hset h1 (b + 11) (s * 6 + i) v) := fun i v hi f c j n1 n2 n3 => by rw [hset_ne (by omega)]; exact f c j n1 n2 n3
  -- the words behind
  have g168 : ∀ (v : z6) (q2 : Nat) (h2 : zH), frT h2 → sx h2 (b + 11) (s * 6) v → v.2.2.2.2.2 = 0 → bd6 v → AtC h2 B n q2 → (∀ r, r = ((v.1, v.2.1, v.2.2.1, v.2.2.2.1, v.2.2.2.2.1, bI (tkK B n q2 = 25)), nxK B n 25 q2) → ∀ h', frT h' → sx h' (b + 11) (s * 6) r.1 → bd6 r.1 → AtC h' B n r.2 → K 1 h') → zG E mX4_readStone (d + 3) 168 [zR 2, zR (b + 11), zI ((s * 6 : Nat) : Int), zU, zU] [] h2 (qI K) := by
    intro v q2 h2 f2 x2 v5 bv a2 k1
    refine bX4_readStone_168 (d := d + 2) hE ha ?_
    rw [a2.k]
    unfold nxK at k1
    refine ⟨fun c => ?_, fun c => ?_⟩
    · rw [if_neg c, bI_f c, ← v5] at k1
      exact k1 _ rfl h2 f2 x2 bv a2
    · have c' := Decidable.not_not.mp c
      have e5 : w32 (((s * 6 : Nat) : Int) + 5) = ((s * 6 + 5 : Nat) : Int) := ei 5 (by omega)
      rw [if_pos c', bI_t c'] at k1
      rw [e5, Int.toNat_natCast]
      refine ⟨b48 5 (by omega), fun h3 e3 => C_adv hE (q := q2) (by rw [e3]; exact a2.set (by omega)) (fun h4 fr4 a4 => k1 _ rfl h4 (ftM (by rw [e3]; exact ftS 5 1 (by omega) f2) (frM.x fr4)) ?_ bv a4)⟩
      obtain ⟨y1, y2, y3, y4, y5, y6⟩ := x2
      refine ⟨?_, ?_, ?_, ?_, ?_, ?_⟩
      · rw [fr4 _ _ (by omega), e3, hset_ne (by omega)]; exact y1
      · rw [fr4 _ _ (by omega), e3, hset_ne (by omega)]; exact y2
      · rw [fr4 _ _ (by omega), e3, hset_ne (by omega)]; exact y3
      · rw [fr4 _ _ (by omega), e3, hset_ne (by omega)]; exact y4
      · rw [fr4 _ _ (by omega), e3, hset_ne (by omega)]; exact y5
      · rw [fr4 _ _ (by omega), e3, hset_eq]
  have g143 : ∀ (v : z6) (q2 : Nat) (h2 : zH), frT h2 → sx h2 (b + 11) (s * 6) v → v.2.2.2.2.1 = 0 → v.2.2.2.2.2 = 0 → bd6 v → AtC h2 B n q2 → (∀ r, r = ((v.1, v.2.1, v.2.2.1, v.2.2.2.1, bI (tkK B n q2 = 24), bI (tkK B n (nxK B n 24 q2) = 25)), nxK B n 25 (nxK B n 24 q2)) → ∀ h', frT h' → sx h' (b + 11) (s * 6) r.1 → bd6 r.1 → AtC h' B n r.2 → K 1 h') → zG E mX4_readStone (d + 3) 143 [zR 2, zR (b + 11), zI ((s * 6 : Nat) : Int), zU, zU] [] h2 (qI K) := by
    intro v q2 h2 f2 x2 v4 v5 bv a2 k1
    refine bX4_readStone_143 (d := d + 2) hE ha ?_
    rw [a2.k]
    have eN : nxK B n 24 q2 = if tkK B n q2 = 24 then tkQ B n q2 else q2 := rfl
    refine ⟨fun c => ?_, fun c => ?_⟩
    · rw [if_neg c] at eN
      rw [eN, bI_f c, ← v4] at k1
      exact g168 v q2 h2 f2 x2 v5 bv a2 k1
    · have c' := Decidable.not_not.mp c
      have e4 : w32 (((s * 6 : Nat) : Int) + 4) = ((s * 6 + 4 : Nat) : Int) := ei 4 (by omega)
      rw [if_pos c'] at eN
      rw [eN, bI_t c'] at k1
      rw [e4, Int.toNat_natCast]
      refine ⟨b48 4 (by omega), fun h3 e3 => C_adv hE (q := q2) (by rw [e3]; exact a2.set (by omega)) (fun h4 fr4 a4 => g168 (v.1, v.2.1, v.2.2.1, v.2.2.2.1, 1, v.2.2.2.2.2) (tkQ B n q2) h4 (ftM (by rw [e3]; exact ftS 4 1 (by omega) f2) (frM.x fr4)) ?_ v5 bv a4 k1)⟩
      obtain ⟨y1, y2, y3, y4, y5, y6⟩ := x2
      refine ⟨?_, ?_, ?_, ?_, ?_, ?_⟩
      · rw [fr4 _ _ (by omega), e3, hset_ne (by omega)]; exact y1
      · rw [fr4 _ _ (by omega), e3, hset_ne (by omega)]; exact y2
      · rw [fr4 _ _ (by omega), e3, hset_ne (by omega)]; exact y3
      · rw [fr4 _ _ (by omega), e3, hset_ne (by omega)]; exact y4
      · rw [fr4 _ _ (by omega), e3, hset_eq]
      · rw [fr4 _ _ (by omega), e3, hset_ne (by omega)]; exact y6
  -- a number into field i
  have sxS : ∀ (h2 h3 h4 : zH) (v : z6) (i : Nat) (x : Int), i < 4 → sx h2 (b + 11) (s * 6) v → frM h2 h3 → h4 = hset h3 (b + 11) (s * 6 + i) x → sx h4 (b + 11) (s * 6) (if i = 0 then x else v.1, if i = 1 then x else v.2.1, if i = 2 then x else v.2.2.1, if i = 3 then x else v.2.2.2.1, v.2.2.2.2.1, v.2.2.2.2.2) := by
    intro h2 h3 h4 v i x hi x2 fr e4
    obtain ⟨y1, y2, y3, y4, y5, y6⟩ := x2
    have k : ∀ j, h3 (b + 11) j = h2 (b + 11) j := fun j => fr _ _ (by omega) (by omega)
    rcases (show i = 0 ∨ i = 1 ∨ i = 2 ∨ i = 3 by omega) with z | z | z | z <;> subst z
    · refine ⟨?_, ?_, ?_, ?_, ?_, ?_⟩ <;> dsimp only <;> rw [e4]
      · rw [show s * 6 + 0 = s * 6 from rfl, hset_eq, if_pos rfl]
      · rw [hset_ne (by omega), k, if_neg (by omega)]; exact y2
      · rw [hset_ne (by omega), k, if_neg (by omega)]; exact y3
      · rw [hset_ne (by omega), k, if_neg (by omega)]; exact y4
      · rw [hset_ne (by omega), k]; exact y5
      · rw [hset_ne (by omega), k]; exact y6
    · refine ⟨?_, ?_, ?_, ?_, ?_, ?_⟩ <;> dsimp only <;> rw [e4]
      · rw [hset_ne (by omega), k, if_neg (by omega)]; exact y1
      · rw [hset_eq, if_pos rfl]
      · rw [hset_ne (by omega), k, if_neg (by omega)]; exact y3
      · rw [hset_ne (by omega), k, if_neg (by omega)]; exact y4
      · rw [hset_ne (by omega), k]; exact y5
      · rw [hset_ne (by omega), k]; exact y6
    · refine ⟨?_, ?_, ?_, ?_, ?_, ?_⟩ <;> dsimp only <;> rw [e4]
      · rw [hset_ne (by omega), k, if_neg (by omega)]; exact y1
      · rw [hset_ne (by omega), k, if_neg (by omega)]; exact y2
      · rw [hset_eq, if_pos rfl]
      · rw [hset_ne (by omega), k, if_neg (by omega)]; exact y4
      · rw [hset_ne (by omega), k]; exact y5
      · rw [hset_ne (by omega), k]; exact y6
    · refine ⟨?_, ?_, ?_, ?_, ?_, ?_⟩ <;> dsimp only <;> rw [e4]
      · rw [hset_ne (by omega), k, if_neg (by omega)]; exact y1
      · rw [hset_ne (by omega), k, if_neg (by omega)]; exact y2
      · rw [hset_ne (by omega), k, if_neg (by omega)]; exact y3
      · rw [hset_eq, if_pos rfl]
      · rw [hset_ne (by omega), k]; exact y5
      · rw [hset_ne (by omega), k]; exact y6
  have sxM : ∀ (h2 h3 : zH) (v : z6), sx h2 (b + 11) (s * 6) v → frM h2 h3 → sx h3 (b + 11) (s * 6) v := fun h2 h3 v x2 fr => sixF.m x2 (fr.row (by omega) (by omega))
  unfold pSt6 at h0 h1
  -- from the numbers on
  have g37 : ∀ h2 : zH, frT h2 → sx h2 (b + 11) (s * 6) (0, 0, 0, 0, 0, 0) → AtC h2 B n q → zG E mX4_readStone (d + 3) 37 [zR 2, zR (b + 11), zI ((s * 6 : Nat) : Int), zI 0, zU] [] h2 (qI K) := by
    intro h2 f2 x2 a2
    have e0 : w32 (((s * 6 : Nat) : Int) + 0) = ((s * 6 + 0 : Nat) : Int) := ei 0 (by omega)
    have e1 : w32 (((s * 6 : Nat) : Int) + 1) = ((s * 6 + 1 : Nat) : Int) := ei 1 (by omega)
    have e2 : w32 (((s * 6 : Nat) : Int) + 2) = ((s * 6 + 2 : Nat) : Int) := ei 2 (by omega)
    have e3 : w32 (((s * 6 : Nat) : Int) + 3) = ((s * 6 + 3 : Nat) : Int) := ei 3 (by omega)
    refine bX4_readStone_37 (d := d + 2) hE ha ⟨fun z => absurd z (by decide), fun _ => C_sig hE a2 (by omega) (by omega) (fun f ef h' fr fl => ⟨fun z => absurd rfl z, fun _ => h0 f (xB_l ef) h' _ (ftM f2 fr) (sxM _ _ _ x2 fr) (by unfold bd6; dsimp only; omega) fl⟩) (fun x ex h3 fr3 a3 g3 => ⟨fun _ => ?_, fun z => absurd (by decide) z⟩)⟩
    have bx := pSig_q hq ex
    rw [xB_r ex] at h0 h1
    rw [e0, Int.toNat_natCast, g3]
    refine ⟨b48 0 (by omega), fun h4 e4 y ey => ?_⟩
    rw [w32i (by omega) (by omega)] at ey
    rw [ey]
    have f4 : frT h4 := by rw [e4]; exact ftS 0 _ (by omega) (ftM f2 fr3)
    have x4 : sx h4 (b + 11) (s * 6) (x.1, 0, 0, 0, 0, 0) := sxS h2 h3 h4 _ 0 x.1 (by omega) x2 fr3 e4
    have a4 : AtC h4 B n x.2 := by rw [e4]; exact a3.set (by omega)
    refine bX4_readStone_37 (d := d + 2) hE ha ⟨fun z => absurd z (by decide), fun _ => C_sig hE a4 (by omega) (by omega) (fun f ef h' fr fl => ⟨fun z => absurd rfl z, fun _ => h0 f (xB_l ef) h' _ (ftM f4 fr) (sxM _ _ _ x4 fr) (by unfold bd6; dsimp only; omega) fl⟩) (fun yv eyv h5 fr5 a5 g5 => ⟨fun _ => ?_, fun z => absurd (by decide) z⟩)⟩
    have by' := pSig_q bx.1 eyv
    rw [xB_r eyv] at h0 h1
    rw [show ((0 : Int) + 1) = 1 from rfl, e1, Int.toNat_natCast, g5]
    refine ⟨b48 1 (by omega), fun h6 e6 y2 ey2 => ?_⟩
    rw [w32i (by omega) (by omega)] at ey2
    rw [ey2]
    have f6 : frT h6 := by rw [e6]; exact ftS 1 _ (by omega) (ftM f4 fr5)
    have x6 : sx h6 (b + 11) (s * 6) (x.1, yv.1, 0, 0, 0, 0) := sxS h4 h5 h6 _ 1 yv.1 (by omega) x4 fr5 e6
    have a6 : AtC h6 B n yv.2 := by rw [e6]; exact a5.set (by omega)
    have bv6 : bd6 (x.1, yv.1, 0, 0, 0, 0) := by unfold bd6; dsimp only; omega
    have eL : pLn B n yv.2 = if tkK B n yv.2 = 23 then xB (pSig B n 99 (tkQ B n yv.2)) (fun u => xB (pSig B n 99 u.2) (fun v => .inr (u.1, v.1, v.2))) else .inr (0, 0, yv.2) := rfl
    refine bX4_readStone_37 (d := d + 2) hE ha ⟨fun _ => ?_, fun z => absurd (by decide) z⟩
    rw [a6.k]
    refine ⟨fun c => ?_, fun c => C_adv hE a6 (fun h7 fr7 a7 => ?_)⟩
    · rw [if_neg c] at eL
      rw [xB_r eL] at h1
      exact bX4_readStone_104 (d := d + 2) hE ha ⟨fun _ => g143 (x.1, yv.1, 0, 0, 0, 0) yv.2 h6 f6 x6 rfl rfl bv6 a6 (fun r er h' f' x' b' a' => h1 r (by rw [er]) h' f' x' b' a'), fun z => absurd rfl z⟩
    · rw [if_pos (Decidable.not_not.mp c)] at eL
      rw [eL] at h0 h1
      have rq := tkQ_r (B := B) by'.1
      have f7 : frT h7 := ftM f6 (frM.x fr7)
      have x7 := sxM _ _ _ x6 (frM.x fr7)
      refine bX4_readStone_104 (d := d + 2) hE ha ⟨fun z => absurd z (by decide), fun _ => ⟨fun z => absurd z (by decide), fun _ => C_sig hE a7 (by omega) (by omega) (fun f ef h' fr fl => ⟨fun z => absurd rfl z, fun _ => h0 f (by rw [xB_l ef]; rfl) h' _ (ftM f7 fr) (sxM _ _ _ x7 fr) bv6 fl⟩) (fun u eu h8 fr8 a8 g8 => ⟨fun _ => ?_, fun z => absurd (by decide) z⟩)⟩⟩
      have bu := pSig_q rq.2.1 eu
      rw [xB_r eu] at h0 h1
      rw [e2, Int.toNat_natCast, g8]
      refine ⟨b48 2 (by omega), fun h9 e9 y3 ey3 => ?_⟩
      rw [w32i (by omega) (by omega)] at ey3
      rw [ey3]
      have f9 : frT h9 := by rw [e9]; exact ftS 2 _ (by omega) (ftM f7 fr8)
      have x9 : sx h9 (b + 11) (s * 6) (x.1, yv.1, u.1, 0, 0, 0) := sxS h7 h8 h9 _ 2 u.1 (by omega) x7 fr8 e9
      have a9 : AtC h9 B n u.2 := by rw [e9]; exact a8.set (by omega)
      refine bX4_readStone_104 (d := d + 2) hE ha ⟨fun z => absurd z (by decide), fun _ => ⟨fun z => absurd z (by decide), fun _ => C_sig hE a9 (by omega) (by omega) (fun f ef h' fr fl => ⟨fun z => absurd rfl z, fun _ => h0 f (by rw [xB_l ef]; rfl) h' _ (ftM f9 fr) (sxM _ _ _ x9 fr) (by unfold bd6; dsimp only; omega) fl⟩) (fun v ev h10 fr10 a10 g10 => ⟨fun _ => ?_, fun z => absurd (by decide) z⟩)⟩⟩
      have bv := pSig_q bu.1 ev
      rw [xB_r ev] at h1
      rw [show ((2 : Int) + 1) = 3 from rfl, e3, Int.toNat_natCast, g10]
      refine ⟨b48 3 (by omega), fun h11 e11 y4 ey4 => ?_⟩
      rw [w32i (by omega) (by omega)] at ey4
      rw [ey4]
      have f11 : frT h11 := by rw [e11]; exact ftS 3 _ (by omega) (ftM f9 fr10)
      have x11 : sx h11 (b + 11) (s * 6) (x.1, yv.1, u.1, v.1, 0, 0) := sxS h9 h10 h11 _ 3 v.1 (by omega) x9 fr10 e11
      have a11 : AtC h11 B n v.2 := by rw [e11]; exact a10.set (by omega)
      exact bX4_readStone_104 (d := d + 2) hE ha ⟨fun z => absurd z (by decide), fun _ => ⟨fun _ => g143 (x.1, yv.1, u.1, v.1, 0, 0) v.2 h11 f11 x11 rfl rfl (by unfold bd6; dsimp only; omega) a11 (fun r er h' f' x' b' a' => h1 r (by rw [er]; rfl) h' f' x' b' a'), fun z => absurd (by decide) z⟩⟩
  have loop : ∀ (m i : Nat), i + m = 6 → ∀ h2 : zH, frT h2 → (∀ k, k < i → h2 (b + 11) (s * 6 + k) = 0) → AtC h2 B n q → zG E mX4_readStone (d + 3) 17 [zR 2, zR (b + 11), zI ((s * 6 : Nat) : Int), zI i, zU] [] h2 (qI K) := by
    intro m
    induction m with
    | zero =>
      intro i hi h2 f2 k2 a2
      have e6 : i = 6 := by omega
      subst e6
      exact bX4_readStone_17 (d := d + 2) hE ha ⟨fun _ => g37 h2 f2 ⟨k2 0 (by omega), k2 1 (by omega), k2 2 (by omega), k2 3 (by omega), k2 4 (by omega), k2 5 (by omega)⟩ a2, fun z => absurd (by decide) z⟩
    | succ m ih =>
      intro i hi h2 f2 k2 a2
      refine bX4_readStone_17 (d := d + 2) hE ha ⟨fun z => absurd z (by omega), fun _ => ?_⟩
      rw [ei i (by omega), Int.toNat_natCast]
      refine ⟨b48 i (by omega), fun h3 e3 y ey => ?_⟩
      rw [w_suc (by omega)] at ey
      rw [ey]
      refine ih (i + 1) (by omega) h3 (by rw [e3]; exact ftS i 0 (by omega) f2) (fun k hk => ?_) (by rw [e3]; exact a2.set (by omega))
      by_cases z : k = i
      · subst z; rw [e3, hset_eq]
      · rw [e3, hset_ne (by omega)]; exact k2 k (by omega)
  refine eX4_readStone (d := d + 2) hE ha ?_
  rw [w32i (x := ((s * 6 : Nat) : Int) + 6) (by omega) (by omega)]
  exact ⟨fun z => absurd z (by omega), fun _ => ⟨fun _ => loop 6 0 rfl h (fun _ _ _ _ _ => rfl) (fun k hk => absurd hk (by omega)) a, fun z => absurd (by omega) z⟩⟩
end TRing
