/-! ===== topic: rings of the class, the line ===== -/
section TRing2
variable {E : zE} {d : Nat} {h : zH} {T : zH} {K : Int → zH → Prop}
theorem st6_o {T : zH} {s : Nat} {v : z6} {c j : Nat} (hn : ¬ (6 ≤ c ∧ c ≤ 11 ∧ j = s)) : st6 T s v c j = T c j := by
  unfold st6
  rw [hset_ne (by omega), hset_ne (by omega), hset_ne (by omega), hset_ne (by omega), hset_ne (by omega), hset_ne (by omega)]
theorem st6_at (T : zH) (s : Nat) (v : z6) : st6 T s v 6 s = v.1 ∧ st6 T s v 7 s = v.2.1 ∧ st6 T s v 8 s = v.2.2.1 ∧ st6 T s v 9 s = v.2.2.2.1 ∧ st6 T s v 10 s = v.2.2.2.2.1 ∧ st6 T s v 11 s = v.2.2.2.2.2 := by
  unfold st6
  refine ⟨?_, ?_, ?_, ?_, ?_, ?_⟩
  · rw [hset_ne (by omega), hset_ne (by omega), hset_ne (by omega), hset_ne (by omega), hset_ne (by omega), hset_eq]
  · rw [hset_ne (by omega), hset_ne (by omega), hset_ne (by omega), hset_ne (by omega), hset_eq]
  · rw [hset_ne (by omega), hset_ne (by omega), hset_ne (by omega), hset_eq]
  · rw [hset_ne (by omega), hset_ne (by omega), hset_eq]
  · rw [hset_ne (by omega), hset_eq]
  · rw [hset_eq]
theorem L_ring (hE : isC E) {B : Nat → Int} {n q b : Nat} (a : AtC h B n q) (hb : b = 8 ∨ b = 27) (p : PvC T h b) (w : WfP T) (h0 : ∀ f, pRing B n T q = .inl f → ∀ h', frP b h h' → BdC h' b → FlC h' f → K 0 h') (h1 : ∀ r, pRing B n T q = .inr r → ∀ h', frP b h h' → PvC r.1 h' b → AtC h' B n r.2 → K 1 h') : zCI E mX4_readRing (d + 4) [zR 2, zR b] h K := by
  have su := su_b hE hb
  have wn := w.1
  obtain ⟨R, hR⟩ : ∃ R : Nat, T 0 24 = R := ⟨(T 0 24).toNat, by omega⟩
  have hRn : (T 0 24).toNat = R := by omega
  unfold pRing at h0 h1
  rw [hRn] at h0 h1
  refine eX4_readRing (d := d + 3) hE su (C_head hE a su.2.2.2.1 p.1.ri (by omega) (by omega) (by omega) (mx := 8) rfl (fun f ef h' fr fl => ⟨fun z => absurd rfl z, fun _ => h0 f (xB_l ef) h' (frP.m fr) (p.m hb fr).2.2.1 fl⟩) (fun v ev lt h2 fr2 e1 e2 a2 e5 => ⟨fun _ x3 ex3 => ?_, fun z => absurd (by decide) z⟩))
  rw [xB_r ev] at h0 h1
  rw [e5, hR] at ex3
  rw [ex3]
  rw [hRn] at fr2 e2
  have frp2 : frP b h h2 := fun c j n1 n2 n3 n4 n5 => fr2 c j n1 n2 (by omega) (by omega)
  have bd2 : BdC h2 b := p.2.2.1.mv (fun j => fr2 _ _ (by omega) (by omega) (by omega) (by omega))
  have nl2 : NmC T h2 (b + 1) 23 2 := p.1.la.mv (fun j => ⟨fr2 _ _ (by omega) (by omega) (by omega) (by omega), fr2 _ _ (by omega) (by omega) (by omega) (by omega)⟩)
  refine C_told hE a2 su.2.2.1 nl2 (by omega) (by omega) (by omega) (fun f ef h' fr fl => ⟨fun _ => h0 f (xB_l ef) h' (frp2.tr (frP.m fr)) (bd2.mv (fun j => fr _ _ (by omega) (by omega))) fl, fun z => absurd rfl z⟩) (fun l el h3 fr3 a3 e3 => ⟨fun z => absurd z (by decide), fun _ => X8_hasRing hE su (R := R + 1) (by rw [fr3 _ _ (by omega) (by omega), e1, hR]; rfl) (by omega) ⟨fun _ => ⟨by omega, fun h8 e8 => ?_⟩, fun z => absurd (by rw [ne_eq, bI_n]; omega) z⟩⟩)
  rw [xB_r el] at h0 h1
  rw [Int.toNat_natCast, e3] at e8
  generalize hT1 : hset (hset (hset (hset T 3 R v.1) 4 R l.1) 5 R 0) 0 24 (T 0 24 + 1) = T1 at h0 h1
  have fr8 : ∀ c j, ¬ (c = 3 ∧ 3 ≤ j ∧ j ≤ 6) → ¬ (c = 2 ∧ (j = 2 ∨ j = 3 ∨ j = 5)) → ¬ (c = b + 3 ∧ j = 1) → ¬ (c = b + 4 ∧ j = R) → ¬ (c = b + 9 ∧ j = R) → h8 c j = h c j := fun c j n1 n2 n3 n4 n5 => by
    rw [e8, hset_ne n5, fr3 c j n1 n2]; exact fr2 c j n1 n2 n3 n4
  have hl := p.2.2.2 R (by omega) (by omega)
  have loop : ∀ (m k : Nat), k + m = 11 → k ≤ 10 → ∀ (q' : Nat) (Tc : zH) (h5 : zH), AtC h5 B n q' → (∀ c j, ¬ (c = 3 ∧ 3 ≤ j ∧ j ≤ 6) → ¬ (c = 2 ∧ (j = 2 ∨ j = 3 ∨ j = 5)) → ¬ (c = b + 10 ∧ j = R) → ¬ (c = b + 11 ∧ R * 60 ≤ j ∧ j < R * 60 + 60) → h5 c j = h8 c j) → (∀ c j, ¬ (c = 5 ∧ j = R) → ¬ (6 ≤ c ∧ c ≤ 11 ∧ 10 * R ≤ j ∧ j < 10 * R + 10) → Tc c j = T1 c j) → Tc 5 R = (k : Int) → h5 (b + 10) R = (k : Int) → BdC h5 b →
      (∀ j, j < k → sixF h5 (b + 11) ((10 * R + j) * 6) (Tc 6 (10 * R + j)) (Tc 7 (10 * R + j)) (Tc 8 (10 * R + j)) (Tc 9 (10 * R + j)) (Tc 10 (10 * R + j)) (Tc 11 (10 * R + j))) →
      (∀ f, pStones B n R m k Tc q' = .inl f → ∀ h', frP b h h' → BdC h' b → FlC h' f → K 0 h') → (∀ r, pStones B n R m k Tc q' = .inr r → ∀ h', frP b h h' → PvC r.1 h' b → AtC h' B n r.2 → K 1 h') →
      zG E mX4_readRing (d + 4) 51 [zR 2, zR b, zI R, zI k] [] h5 (qI K) := by
    intro m
    induction m with
    | zero =>
      intro k hk hk10
      exact absurd hk (by omega)
    | succ m ih =>
      intro k hk hk10 q' Tc h5 a5 fr5 ft tk hk5 bd5 k6 k0 k1
      have frA : frP b h h5 := fun c j n1 n2 n3 n4 n5 => by rw [fr5 c j n1 n2 (by omega) (by omega)]; exact fr8 c j n1 n2 (by omega) (by omega) (by omega)
      unfold pStones at k0 k1
      refine bX4_readRing_51 (d := d + 3) hE su ⟨fun z => absurd z (by omega), fun _ => ?_⟩
      rw [a5.k]
      refine ⟨fun c => ?_, fun c => ?_⟩
      · rw [if_neg c] at k1
        refine k1 _ rfl h5 frA ?_ a5
        have frB : ∀ c j, ¬ (c = 3 ∧ 3 ≤ j ∧ j ≤ 6) → ¬ (c = 2 ∧ (j = 2 ∨ j = 3 ∨ j = 5)) → ¬ (c = b + 3 ∧ j = 1) → ¬ (c = b + 4 ∧ j = R) → ¬ (c = b + 9 ∧ j = R) → ¬ (c = b + 10 ∧ j = R) → ¬ (c = b + 11 ∧ R * 60 ≤ j ∧ j < R * 60 + 60) → h5 c j = h c j := fun c j n1 n2 n3 n4 n5 n6 n7 => by rw [fr5 c j n1 n2 n6 n7]; exact fr8 c j n1 n2 n3 n4 n5
        have rw' : ∀ c, c ≠ 2 → c ≠ 3 → c ≠ b + 3 → c ≠ b + 4 → c ≠ b + 9 → c ≠ b + 10 → c ≠ b + 11 → h5 c = h c := fun c n1 n2 n3 n4 n5 n6 n7 => funext fun j => frB c j (by omega) (by omega) (by omega) (by omega) (by omega) (by omega) (by omega)
        have tr : ∀ c, c ≠ 0 → c ≠ 3 → ¬ (4 ≤ c ∧ c ≤ 11) → Tc c = T c := fun c n1 n2 n3 => funext fun j => by rw [ft c j (by omega) (by omega), ← hT1, hset_ne (by omega), hset_ne (by omega), hset_ne (by omega), hset_ne (by omega)]
        have tn : ∀ j, j ≠ 24 → Tc 0 j = T 0 j := fun j n1 => by rw [ft 0 j (by omega) (by omega), ← hT1, hset_ne (by omega), hset_ne (by omega), hset_ne (by omega), hset_ne (by omega)]
        have t24 : Tc 0 24 = T 0 24 + 1 := by rw [ft 0 24 (by omega) (by omega), ← hT1, hset_eq]
        have hbr : ∀ j, j ≠ 99 → h5 b j = h b j := fun j _ => frB b j (by omega) (by omega) (by omega) (by omega) (by omega) (by omega) (by omega)
        obtain ⟨s1, s2, s3, s4, s5, s6, s7, s8, s9, s10, s11⟩ := p.1
        dsimp only
        refine ⟨⟨s1.c (by rw [rw' _ (by omega) (by omega) (by omega) (by omega) (by omega) (by omega) (by omega)]) (rw' _ (by omega) (by omega) (by omega) (by omega) (by omega) (by omega) (by omega)) (tn _ (by omega)) (tr _ (by omega) (by omega) (by omega)), ?_, s3.c (by rw [rw' _ (by omega) (by omega) (by omega) (by omega) (by omega) (by omega) (by omega)]) (rw' _ (by omega) (by omega) (by omega) (by omega) (by omega) (by omega) (by omega)) (tn _ (by omega)) (tr _ (by omega) (by omega) (by omega)), s4.c (by rw [rw' _ (by omega) (by omega) (by omega) (by omega) (by omega) (by omega) (by omega)]) (rw' _ (by omega) (by omega) (by omega) (by omega) (by omega) (by omega) (by omega)) (tn _ (by omega)) (tr _ (by omega) (by omega) (by omega)), ?_, s6.c (rw' _ (by omega) (by omega) (by omega) (by omega) (by omega) (by omega) (by omega)) (tn _ (by omega)) (tr _ (by omega) (by omega) (by omega)) (tr _ (by omega) (by omega) (by omega)), s7.c (hbr 9 (by omega)) (rw' _ (by omega) (by omega) (by omega) (by omega) (by omega) (by omega) (by omega)) (tn _ (by omega)) (fun c q1 q2 => tr c (by omega) (by omega) (by omega)), s8.c (by rw [rw' _ (by omega) (by omega) (by omega) (by omega) (by omega) (by omega) (by omega)]) (hbr 11 (by omega)) (rw' _ (by omega) (by omega) (by omega) (by omega) (by omega) (by omega) (by omega)) (rw' _ (by omega) (by omega) (by omega) (by omega) (by omega) (by omega) (by omega)) (tn _ (by omega)) (tr _ (by omega) (by omega) (by omega)) (tr _ (by omega) (by omega) (by omega)), by rw [hbr _ (by omega), tn _ (by omega)]; exact s9, by rw [hbr _ (by omega), tn _ (by omega)]; exact s10, by rw [hbr _ (by omega), tn _ (by omega)]; exact s11⟩, ⟨by rw [hbr _ (by omega), tn _ (by omega)]; exact p.2.1.1, by rw [hbr _ (by omega), tn _ (by omega)]; exact p.2.1.2⟩, ?_⟩
        · refine ⟨?_, fun i hi => ?_⟩
          · rw [t24, fr5 _ _ (by omega) (by omega) (by omega) (by omega), e8, hset_ne (by omega), fr3 _ _ (by omega) (by omega)]
            exact e1
          · rw [t24] at hi
            rw [ft 3 i (by omega) (by omega), ← hT1, hset_ne (by omega), hset_ne (by omega), hset_ne (by omega)]
            by_cases z : i = R
            · subst z
              rw [hset_eq, fr5 _ _ (by omega) (by omega) (by omega) (by omega), e8, hset_ne (by omega), fr3 _ _ (by omega) (by omega)]
              exact e2
            · rw [hset_ne (by omega), frB _ _ (by omega) (by omega) (by omega) (by omega) (by omega) (by omega) (by omega)]
              exact s2.2 i (by omega)
        · intro r hr
          rw [t24] at hr
          by_cases z : r = R
          · subst z
            refine ⟨?_, ?_, fun j hj => ?_⟩
            · rw [fr5 _ _ (by omega) (by omega) (by omega) (by omega), e8, hset_eq, ft 4 r (by omega) (by omega), ← hT1, hset_ne (by omega), hset_ne (by omega), hset_eq]
            · rw [hk5, tk]
            · rw [tk] at hj
              exact k6 j (by omega)
          · have s := s5 r (by omega)
            have wr := w.2.1 r (by omega)
            have t5 : Tc 5 r = T 5 r := by rw [ft 5 r (by omega) (by omega), ← hT1, hset_ne (by omega), hset_ne (by omega), hset_ne (by omega), hset_ne (by omega)]
            refine ⟨?_, ?_, fun j hj => ?_⟩
            · rw [frB _ _ (by omega) (by omega) (by omega) (by omega) (by omega) (by omega) (by omega), ft 4 r (by omega) (by omega), ← hT1, hset_ne (by omega), hset_ne (by omega), hset_ne (by omega), hset_ne (by omega)]
              exact s.1
            · rw [frB _ _ (by omega) (by omega) (by omega) (by omega) (by omega) (by omega) (by omega), t5]
              exact s.2.1
            · rw [t5] at hj
              have s3' := s.2.2 j hj
              have ts : ∀ c, 6 ≤ c → c ≤ 11 → Tc c (10 * r + j) = T c (10 * r + j) := fun c q1 q2 => by rw [ft c _ (by omega) (by omega), ← hT1, hset_ne (by omega), hset_ne (by omega), hset_ne (by omega), hset_ne (by omega)]
              rw [ts 6 (by omega) (by omega), ts 7 (by omega) (by omega), ts 8 (by omega) (by omega), ts 9 (by omega) (by omega), ts 10 (by omega) (by omega), ts 11 (by omega) (by omega)]
              have hh : ∀ i, i < 6 → h5 (b + 11) ((10 * r + j) * 6 + i) = h (b + 11) ((10 * r + j) * 6 + i) := fun i hi => frB _ _ (by omega) (by omega) (by omega) (by omega) (by omega) (by omega) (by omega)
              have hh0 : h5 (b + 11) ((10 * r + j) * 6) = h (b + 11) ((10 * r + j) * 6) := hh 0 (by omega)
              unfold sixF at s3' ⊢
              rw [hh0, hh 1 (by omega), hh 2 (by omega), hh 3 (by omega), hh 4 (by omega), hh 5 (by omega)]
              exact s3'
        · refine ⟨bd5, fun r hr hr8 => ?_⟩
          rw [t24] at hr
          rw [frB _ _ (by omega) (by omega) (by omega) (by omega) (by omega) (by omega) (by omega)]
          exact p.2.2.2 r (by omega) hr8
      · rw [if_pos (Decidable.not_not.mp c)] at k0 k1
        refine ⟨fun c2 => C_adv hE a5 (fun h6 fr6 a6 => X9_stoneAt hE (by omega) (by omega) (by omega) (by omega) ?_), fun c2 => C_refuse hE a5 (by decide) (fun h6 fr6 f6 => ?_)⟩
        · have nk : ¬ k = 10 := by omega
          rw [if_neg nk] at k0 k1
          rw [show ((R : Int) * 10 + (k : Int)) * 6 = (((10 * R + k) * 6 : Nat) : Int) by omega]
          have fr6' : frM h5 h6 := frM.x fr6
          have bd6' : BdC h6 b := bd5.mv (fun j => fr6' _ _ (by omega) (by omega))
          have bdS : ∀ (h7 : zH) (v' : z6), (∀ c j, ¬ (c = 3 ∧ 3 ≤ j ∧ j ≤ 6) → ¬ (c = 2 ∧ (j = 2 ∨ j = 3 ∨ j = 5)) → ¬ (c = b + 11 ∧ (10 * R + k) * 6 ≤ j ∧ j < (10 * R + k) * 6 + 6) → h7 c j = h6 c j) → sx h7 (b + 11) ((10 * R + k) * 6) v' → bd6 v' → BdC h7 b := by
            intro h7 v' fr7 x7 bv s hs
            by_cases z : s = 10 * R + k
            · subst z
              obtain ⟨y1, y2, y3, y4, y5, y6⟩ := x7
              rw [y1, y2, y3, y4]
              exact bv
            · have hh : ∀ i, i < 6 → h7 (b + 11) (s * 6 + i) = h6 (b + 11) (s * 6 + i) := fun i hi => fr7 _ _ (by omega) (by omega) (by omega)
              have hh0 : h7 (b + 11) (s * 6) = h6 (b + 11) (s * 6) := hh 0 (by omega)
              rw [hh0, hh 1 (by omega), hh 2 (by omega), hh 3 (by omega)]
              exact bd6' s hs
          refine C_stone hE a6 hb (s := 10 * R + k) (by omega) (fun f ef h7 v' fr7 x7 bv fl => ⟨fun z => absurd rfl z, fun _ => k0 f (xB_l ef) h7 (frA.tr (fun c j n1 n2 n3 n4 n5 => by rw [fr7 c j n1 n2 (by omega)]; exact fr6' c j n1 n2)) (bdS h7 v' fr7 x7 bv) fl⟩) (fun r er h7 fr7 x7 bv a7 => ⟨fun _ => ⟨by omega, fun h9 e9 y ey => ?_⟩, fun z => absurd (by decide) z⟩)
          rw [w_suc (by omega)] at ey e9
          rw [Int.toNat_natCast] at e9
          rw [ey]
          rw [xB_r er] at k0 k1
          refine ih (k + 1) (by omega) (by omega) r.2 _ h9 (by rw [e9]; exact a7.set (by omega)) (fun c j n1 n2 n3 n4 => ?_) (fun c j n1 n2 => ?_) (by rw [hset_eq]) (by rw [e9, hset_eq]) ?_ (fun j hj => ?_) k0 k1
          · rw [e9, hset_ne n3, fr7 c j n1 n2 (by omega), fr6' c j n1 n2]; exact fr5 c j n1 n2 n3 n4
          · rw [hset_ne n1, st6_o (by omega)]; exact ft c j n1 n2
          · exact (bdS h7 r.1 fr7 x7 bv).mv (fun j => by rw [e9, hset_ne (by omega)])
          · have sa := st6_at Tc (10 * R + k) r.1
            by_cases z : j = k
            · subst z
              rw [hset_ne (by omega), hset_ne (by omega), hset_ne (by omega), hset_ne (by omega), hset_ne (by omega), hset_ne (by omega), sa.1, sa.2.1, sa.2.2.1, sa.2.2.2.1, sa.2.2.2.2.1, sa.2.2.2.2.2]
              exact sixF.m x7 (by rw [e9]; exact hset_rne (by omega))
            · have s6' := k6 j (by omega)
              rw [hset_ne (by omega), hset_ne (by omega), hset_ne (by omega), hset_ne (by omega), hset_ne (by omega), hset_ne (by omega), st6_o (by omega), st6_o (by omega), st6_o (by omega), st6_o (by omega), st6_o (by omega), st6_o (by omega)]
              have hh : ∀ i, i < 6 → h9 (b + 11) ((10 * R + j) * 6 + i) = h5 (b + 11) ((10 * R + j) * 6 + i) := fun i hi => by rw [e9, hset_ne (by omega), fr7 _ _ (by omega) (by omega) (by omega)]; exact fr6' _ _ (by omega) (by omega)
              have hh0 : h9 (b + 11) ((10 * R + j) * 6) = h5 (b + 11) ((10 * R + j) * 6) := hh 0 (by omega)
              unfold sixF at s6' ⊢
              rw [hh0, hh 1 (by omega), hh 2 (by omega), hh 3 (by omega), hh 4 (by omega), hh 5 (by omega)]
              exact s6'
        · have yk : k = 10 := by omega
          rw [if_pos yk] at k0
          exact k0 _ rfl h6 (frA.tr (frP.m fr6)) (bd5.mv (fun j => fr6 _ _ (by omega) (by omega))) f6
  refine loop 11 0 rfl (by omega) l.2 T1 h8 (by rw [e8]; exact a3.set (by omega)) (fun _ _ _ _ _ _ => rfl) (fun _ _ _ _ => rfl) ?_ ?_ (bd2.mv (fun j => by rw [e8, hset_ne (by omega)]; exact fr3 _ _ (by omega) (by omega))) (fun j hj => absurd hj (by omega)) h0 h1
  · rw [← hT1, hset_ne (by omega), hset_eq]; rfl
  · rw [fr8 _ _ (by omega) (by omega) (by omega) (by omega) (by omega)]; exact hl
end TRing2
