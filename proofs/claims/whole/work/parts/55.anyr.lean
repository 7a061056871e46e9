/-! ===== topic: any of the reference ===== -/
section TAnyr
variable {E : zE} {d : Nat} {h : zH} {S : zH} {K : Int → zH → Prop}
theorem drS_ext {f : Nat → Int} {sw y0 : Int} {n : Nat} : ∀ m, (∀ k, n ≤ k → f k = -1) → drS f sw y0 (n + m) = drS f sw y0 n
  | 0, _ => rfl
  | m + 1, hh => by
    rw [show n + (m + 1) = (n + m) + 1 by omega, drS, if_pos (hh (n + m) (by omega))]
    exact drS_ext m hh
theorem R_lob (hE : isR E) (i : IRL S h) {f : Nat → Int} (q : rkAt S h f) {a b c : Int} (hu : areU a b c) {K : Int → zH → Prop} (hK : K (luB S f a b c) h) : zCI E mX10_bestOf (d + 2) [zR 0, zI a, zI b, zI c] h (fun r_2 h_2 => zCI E mX10_lumpsOf (d + 2) [zR 0, zI r_2] h_2 K) := by
  refine R_bestOf hE i q hu (R_lumpsOf hE i q (sBest_in hu) ?_)
  exact hK
theorem IRL.n84 {h' : zH} (i : IRL S h) {v : Int} (e : h' = hset h 0 84 v) : IRL S h' := by
  refine i.mv (fun c j hz => by rw [e, hset_ne (by unfold zn at hz; omega)]) ?_
  rw [e, hset_rne (by omega)]; exact i.z
theorem R_any (hE : isR E) (i : IR S h) {a b c sw seed n : Int} (hsd : seed < 2147483648) (hK : ∀ h', IR S h' → K (aAny S a b c sw seed n) h') : zCI E mX10_any (d + 6) [zR 0, zI a, zI b, zI c, zI sw, zI seed, zI n] h K := by
  refine eX10_any (d := d + 5) hE (fun h1 e1 => ?_)
  have i1 := i.thr e1
  have k := hK h1 i1
  have wn := i.wf.n
  unfold WfN at wn
  obtain ⟨R, hR⟩ : ∃ R : Nat, S 0 24 = R := ⟨(S 0 24).toNat, by omega⟩
  unfold aAny at k hK
  refine X10_areUnits hE ⟨fun c1 => ?_, fun c1 => ⟨fun c2 => ?_, fun c2 => ⟨fun c3 => ?_, fun c3 => ⟨fun c4 => ?_, fun c4 => ⟨fun c5 => ?_, fun c5 => ⟨fun c6 => X10_laid hE i1 (fun h2 i2 => R_reckon hE i2 (fun h3 i3 q3 => ?_)), fun c6 => ?_⟩⟩⟩⟩⟩⟩
  · rw [bI_0] at c1
    rwa [if_neg (fun z => c1 z.1)] at k
  · rwa [if_neg (by omega)] at k
  · rwa [if_neg (by omega)] at k
  · rwa [if_neg (by omega)] at k
  · rwa [if_neg (by omega)] at k
  · rw [bI_n] at c1
    have z := c1.1
    have hs : 0 ≤ sw ∧ sw ≤ 9999 := by omega
    have hf := rk_o2 i.wf
    rw [if_pos ⟨c1, hs, by omega, by omega, by omega⟩] at hK
    obtain ⟨N, hN⟩ : ∃ N : Nat, n = N := ⟨n.toNat, by omega⟩
    subst hN
    rw [Int.toNat_natCast] at hK
    refine R_lob hE i3 (rkAt_rk q3) z (fun h4 e4 => ?_)
    have fh : ∀ r : Nat, (hasF S r → rk S (-1) (-1) r = szB (sLs S (sNk S) r) (sG S) (sH S)) ∧ (¬ hasF S r → rk S (-1) (-1) r = -1) := fun r => ⟨fun z => by rw [rk_all, if_pos z], fun z => by rw [rk_all, if_neg z]⟩
    have fout : ∀ k, R ≤ k → rk S (-1) (-1) k = -1 := fun k hk => rk_out (by omega)
    generalize rk S (-1) (-1) = f at hK hf q3 fh fout ⊢
    have e8 : ∀ y, drS f sw y 8 = drS f sw y R := fun y => by rw [show 8 = R + (8 - R) by omega, drS_ext (8 - R) fout]
    have ew : w32 (w32 (2 * sw) + 1) = 2 * sw + 1 := by rw [w32i (x := 2 * sw) (by omega) (by omega), w32i (by omega) (by omega)]
    have loop : ∀ (m k : Nat), k + m = N → ∀ h2 : zH, IRL S h2 → (∀ r, r < R → ¬ hasF S r → h2 39 r = -1) → h2 0 84 = (anS S f a b c sw seed k).1 → zG E mX10_any (d + 6) 84 [zR 0, zI a, zI b, zI c, zI sw, zU, zI (N : Int), zI (luB S f a b c), zI (anS S f a b c sw seed k).2, zI k, zU] [] h2 (qI K) := by
      intro m
      induction m with
      | zero =>
        intro k hk h2 i2 u2 y2
        have e : k = N := by omega
        subst e
        exact bX10_any_84 (d := d + 5) hE ⟨fun _ => hK h2 i2.ir, fun c => absurd (Int.le_refl _) c⟩
      | succ m ih =>
        intro k hk h2 i2 u2 y2
        have nx := ih (k + 1) (by omega)
        have ar := anS_r (S := S) (f := f) (a := a) (b := b) (c := c) (sw := sw) (seed := seed) (by omega) k
        unfold anS at nx
        generalize anS S f a b c sw seed k = p at nx ar y2 ⊢
        rw [e8] at nx
        have lp : ∀ (m r : Nat), r + m = R → ∀ h4 : zH, IRL S h4 → (∀ r', r' < R → ¬ hasF S r' → h4 39 r' = -1) → (∀ r', r' < r → h4 39 r' = (drS f sw p.1 r).2 r') → h4 0 84 = (drS f sw p.1 r).1 → zG E mX10_any (d + 6) 94 [zR 0, zI a, zI b, zI c, zI sw, zU, zI (N : Int), zI (luB S f a b c), zI p.2, zI k, zI r] [] h4 (qI K) := by
          intro m
          induction m with
          | zero =>
            intro r hr h4 i4 u4 d4 y4
            have e : r = R := by omega
            subst e
            have q4 : rkAt S h4 (drS f sw p.1 r).2 := ⟨fun r' hr' => d4 r' (by omega), fun r' hr' => drS_hi r r' (by omega)⟩
            refine bX10_any_94 (d := d + 5) hE ⟨fun _ => R_lob hE i4 q4 z ⟨fun c7 y ey w ez => ?_, fun c7 y ey w ez => ?_⟩, fun c => absurd (by rw [i4.q.num (j := 24) (by omega)]; omega) c⟩
            · rw [w_suc (by omega)] at ez
              rw [w32i (by omega) (by omega), Int.add_zero] at ey
              rw [ey, ez]
              rw [if_neg (by omega)] at nx
              exact nx h4 i4 u4 y4
            · rw [w_suc (by omega)] at ez
              rw [w32i (by omega) (by omega)] at ey
              rw [ey, ez]
              rw [if_pos (by omega)] at nx
              exact nx h4 i4 u4 y4
          | succ m ih2 =>
            intro r hr h4 i4 u4 d4 y4
            have hrR : (r : Int) < S 0 24 := by omega
            have hr8 := i.wf.r8 hrR
            have n2 := ih2 (r + 1) (by omega)
            have dhi := drS_hi (f := f) (sw := sw) (y0 := p.1) r r (Nat.le_refl r)
            unfold drS at n2
            refine bX10_any_94 (d := d + 5) hE ⟨fun c => absurd c (by rw [i4.q.num (j := 24) (by omega)]; omega), fun _ => X10_hasFit hE hr8 (i4.sh r hrR) ⟨fun c7 h5 e5 => ?_, fun c7 y ey => ?_⟩⟩
            · rw [ne_eq, bI_n] at c7
              have hfr := (fh r).1 c7
              have sz := szB_r i.wf (r := r) c7
              rw [y4, sNx_I] at e5
              have i5 := i4.n84 e5
              have e84 : h5 0 84 = sNx (drS f sw p.1 r).1 := by rw [e5, hset_eq]
              have yr := sNx_r (drS f sw p.1 r).1
              rw [if_neg (by omega), hfr] at n2
              generalize sNx (drS f sw p.1 r).1 = y7 at n2 e84 yr
              obtain ⟨Y, hY⟩ : ∃ Y : Nat, y7 = Y := ⟨y7.toNat, by omega⟩
              subst hY
              refine X10_sizeOf hE hr8 (i5.sh r hrR) c7 ⟨by rw [ew]; omega, nat_in (n := 8) hr8, ?_⟩
              have m0 := Int.emod_nonneg ((Y : Int) / 65536) (show 2 * sw + 1 ≠ 0 by omega)
              have m1 := Int.emod_lt_of_pos ((Y : Int) / 65536) (show 0 < 2 * sw + 1 by omega)
              rw [e84, zshr_16 (by omega), ew, show ((Y / 65536 : Nat) : Int) = (Y : Int) / 65536 by omega]
              generalize szB (sLs S (sNk S) r) (sG S) (sH S) = x at sz n2 ⊢
              rw [Int.tmod_eq_emod_of_nonneg (by omega), w32i (x := (Y : Int) / 65536 % (2 * sw + 1)) (by omega) (by omega), w32i (x := x + (Y : Int) / 65536 % (2 * sw + 1)) (by omega) (by omega), w32i (x := x + (Y : Int) / 65536 % (2 * sw + 1) - sw) (by omega) (by omega), Int.toNat_natCast]
              have sr := sDr_r (sz := x) (y := (Y : Int)) (sw := sw) (by omega) hs
              change ∀ h_13 : zH, h_13 = hset h5 39 r (sDr x Y sw) → _
              have sr2 : sDr x Y sw < 1000000000 := by unfold sDr; omega
              intro h6 e6 y ey
              rw [w_suc (by omega)] at ey
              rw [ey]
              have i6 : IRL S h6 := by rw [e6]; exact i5.set39 (Or.inr ⟨sr.1, sr2⟩)
              refine n2 h6 i6 (fun r' hr' nf => ?_) (fun r' hr' => ?_) ?_
              · by_cases q : r' = r
                · subst q; exact absurd c7 nf
                · rw [e6, hset_ne (by omega), e5, hset_ne (by omega)]; exact u4 r' hr' nf
              · dsimp only
                by_cases q : r' = r
                · subst q; rw [e6, hset_eq, uN_eq]
                · rw [e6, hset_ne (by omega), e5, hset_ne (by omega), uN_ne q]; exact d4 r' (by omega)
              · rw [e6, hset_ne (by omega)]; exact e84
            · rw [ne_eq, bI_n] at c7
              have hfr := (fh r).2 c7
              rw [w_suc (by omega)] at ey
              rw [ey]
              rw [if_pos hfr] at n2
              refine n2 h4 i4 u4 (fun r' hr' => ?_) y4
              by_cases q : r' = r
              · subst q; rw [dhi]; exact u4 r' (by omega) c7
              · exact d4 r' (by omega)
        exact bX10_any_84 (d := d + 5) hE ⟨fun c => absurd c (by omega), fun _ => lp R 0 (by omega) h2 i2 u2 (fun r' hr' => absurd hr' (by omega)) y2⟩
    refine loop N 0 (by omega) h4 (i3.n84 e4) (fun r hr nf => ?_) (by rw [e4, hset_eq]; rfl)
    rw [e4, hset_ne (by omega), q3 r (by omega)]
    exact (fh r).2 nf
  · rwa [if_neg (by omega)] at k
end TAnyr
