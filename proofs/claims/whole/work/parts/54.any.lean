/-! ===== topic: any ===== -/
section TAny
variable {E : zE} {d : Nat} {h : zH} {S : zH} {K : Int → zH → Prop}
theorem zand_m31 (a : Int) : zand a 2147483647 = w32 a % 2147483648 := by
  have e : ∀ x : Int32, (x &&& Int32.ofInt 2147483647).toInt = x.toInt % 2147483648 := by
    intro x
    have h1 : (x &&& Int32.ofInt 2147483647).toBitVec = x.toBitVec &&& 2147483647#32 := rfl
    show (x &&& Int32.ofInt 2147483647).toBitVec.toInt = x.toBitVec.toInt % 2147483648
    rw [h1]
    generalize x.toBitVec = b
    have h2 : (b &&& 2147483647#32).toNat = b.toNat % 2147483648 := by rw [BitVec.toNat_and]; exact Nat.and_two_pow_sub_one_eq_mod b.toNat 31
    rw [BitVec.toInt_eq_toNat_cond, BitVec.toInt_eq_toNat_cond, h2]
    have := b.isLt
    split <;> split <;> omega
  unfold zand
  rw [e, i32_to]
theorem zandJ_m31 (a : Int) : zandJ a 2147483647 = w64 a % 2147483648 := by
  have e : ∀ x : Int64, (x &&& Int64.ofInt 2147483647).toInt = x.toInt % 2147483648 := by
    intro x
    have h1 : (x &&& Int64.ofInt 2147483647).toBitVec = x.toBitVec &&& 2147483647#64 := rfl
    show (x &&& Int64.ofInt 2147483647).toBitVec.toInt = x.toBitVec.toInt % 2147483648
    rw [h1]
    generalize x.toBitVec = b
    have h2 : (b &&& 2147483647#64).toNat = b.toNat % 2147483648 := by rw [BitVec.toNat_and]; exact Nat.and_two_pow_sub_one_eq_mod b.toNat 31
    rw [BitVec.toInt_eq_toNat_cond, BitVec.toInt_eq_toNat_cond, h2]
    have := b.isLt
    split <;> split <;> omega
  unfold zandJ
  rw [e, i64_to]
theorem zshr_16 {b : Nat} (hb : b < 2147483648) : zshr (b : Int) 16 = ((b / 65536 : Nat) : Int) := by
  have e1 : Int32.ofInt (b : Int) >>> (Int32.ofInt 16 &&& 31) = nI (b / 2 ^ 16) := pk_shrN (n := b) (by omega) (nI 16 &&& 31) 16 (s_l35 16 (by omega))
  unfold zshr
  rw [e1, nI_toInt (by omega)]
def sNx (y : Int) : Int := (y * 1103515245 + 12345) % 2147483648
theorem sNx_r (y : Int) : 0 ≤ sNx y ∧ sNx y < 2147483648 := by unfold sNx; omega
theorem sNx_J {y : Int} (h0 : 0 ≤ y) (h1 : y < 2147483648) : zandJ (w64 (w64 (y * 1103515245) + 12345)) 2147483647 = sNx y := by
  rw [w64i (x := y * 1103515245) (by omega) (by omega), w64i (x := y * 1103515245 + 12345) (by omega) (by omega), zandJ_m31, w64i (by omega) (by omega)]
  rfl
theorem sNx_I (y : Int) : zand (w32 (w32 (y * 1103515245) + 12345)) 2147483647 = sNx y := by
  rw [zand_m31, w32_id (w32_r _), w32_add_l]
  unfold sNx
  rw [w32_def]
  omega
def sDr (sz y sw : Int) : Int := max 0 (sz + (y / 65536) % (2 * sw + 1) - sw)
/-- one draw over the rings of a row: the last number, the drawn row -/
def drS (f : Nat → Int) (sw y0 : Int) : Nat → Int × (Nat → Int)
  | 0 => (y0, fun _ => -1)
  | n + 1 => if f n = -1 then drS f sw y0 n else (sNx (drS f sw y0 n).1, uN (drS f sw y0 n).2 n (sDr (f n) (sNx (drS f sw y0 n).1) sw))
theorem drS_y {f : Nat → Int} {sw y0 : Int} (h0 : 0 ≤ y0 ∧ y0 < 2147483648) : ∀ n, 0 ≤ (drS f sw y0 n).1 ∧ (drS f sw y0 n).1 < 2147483648
  | 0 => h0
  | n + 1 => by
    have ih := drS_y (f := f) (sw := sw) h0 n
    unfold drS
    split
    · exact ih
    · exact sNx_r _
theorem drS_hi {f : Nat → Int} {sw y0 : Int} : ∀ n r, n ≤ r → (drS f sw y0 n).2 r = -1
  | 0, _, _ => rfl
  | n + 1, r, hr => by
    have ih := drS_hi (f := f) (sw := sw) (y0 := y0) n r (by omega)
    unfold drS
    split
    · exact ih
    · dsimp only
      rw [uN_ne (by omega)]; exact ih
theorem drS_no {f : Nat → Int} {sw y0 : Int} {r : Nat} (hr : f r = -1) : ∀ n, (drS f sw y0 n).2 r = -1
  | 0 => rfl
  | n + 1 => by
    have ih := drS_no (sw := sw) (y0 := y0) hr n
    unfold drS
    split
    · exact ih
    · rename_i c
      dsimp only
      rw [uN_ne (j := r) (k := n) (fun z => c (by rw [← z]; exact hr))]; exact ih
theorem sDr_r {sz y sw : Int} (hz : 0 ≤ sz ∧ sz < 1000000000) (hs : 0 ≤ sw ∧ sw ≤ 9999) : 0 ≤ sDr sz y sw ∧ sDr sz y sw < 1000010000 := by
  have := Int.emod_nonneg (y / 65536) (show 2 * sw + 1 ≠ 0 by omega)
  have := Int.emod_lt_of_pos (y / 65536) (show 0 < 2 * sw + 1 by omega)
  unfold sDr
  omega
def szO2 (f : Nat → Int) : Prop := ∀ r, f r = -1 ∨ (0 ≤ f r ∧ f r ≤ 1000000)
theorem drS_ok {f : Nat → Int} {sw y0 : Int} (hf : szO2 f) (hs : 0 ≤ sw ∧ sw ≤ 9999) : ∀ n, szOk (drS f sw y0 n).2
  | 0 => fun _ => Or.inl rfl
  | n + 1 => by
    have ih := drS_ok (y0 := y0) hf hs n
    unfold drS
    split
    · exact ih
    · rename_i c
      intro r
      dsimp only
      by_cases z : r = n
      · rw [z, uN_eq]
        right
        have hn := (hf n).resolve_left c
        have := Int.emod_nonneg (sNx (drS f sw y0 n).1 / 65536) (show 2 * sw + 1 ≠ 0 by omega)
        have := Int.emod_lt_of_pos (sNx (drS f sw y0 n).1 / 65536) (show 0 < 2 * sw + 1 by omega)
        unfold sDr
        omega
      · rw [uN_ne z]; exact ih r
theorem cmpL_congr {f g : Nat → Int} : ∀ n, (∀ r, r < n → f r = g r) → cmpL f n = cmpL g n
  | 0, _ => rfl
  | n + 1, hh => by
    unfold cmpL
    rw [hh n (by omega), cmpL_congr n (fun r hr => hh r (by omega))]
/-- the class goes over the list -/
def gDr (sw : Int) : Int × List Int → Int → Int × List Int := fun p x => (sNx p.1, p.2 ++ [sDr x (sNx p.1) sw])
theorem gDr_cmp {f : Nat → Int} {sw y0 : Int} (hf : szO2 f) (hs : 0 ≤ sw ∧ sw ≤ 9999) : ∀ n, (cmpL f n).foldl (gDr sw) (y0, []) = ((drS f sw y0 n).1, cmpL (drS f sw y0 n).2 n)
  | 0 => rfl
  | n + 1 => by
    have ih := gDr_cmp (y0 := y0) hf hs n
    by_cases c : f n = -1
    · have e1 : cmpL f (n + 1) = cmpL f n := by rw [cmpL, if_pos c]
      have e2 : drS f sw y0 (n + 1) = drS f sw y0 n := by rw [drS, if_pos c]
      rw [e1, e2, ih]
      congr 1
      rw [cmpL, if_pos (drS_hi n n (by omega))]
    · have e1 : cmpL f (n + 1) = cmpL f n ++ [f n] := by rw [cmpL, if_neg c]
      have e2 : drS f sw y0 (n + 1) = (sNx (drS f sw y0 n).1, uN (drS f sw y0 n).2 n (sDr (f n) (sNx (drS f sw y0 n).1) sw)) := by rw [drS, if_neg c]
      rw [e1, e2, List.foldl_append, ih]
      have hn := (hf n).resolve_left c
      have r := sDr_r (sz := f n) (y := sNx (drS f sw y0 n).1) (by omega) hs
      dsimp only [List.foldl, gDr]
      congr 1
      rw [cmpL, uN_eq, if_neg (by omega), cmpL_congr (f := uN (drS f sw y0 n).2 n (sDr (f n) (sNx (drS f sw y0 n).1) sw)) (g := (drS f sw y0 n).2) n (fun r hr => uN_ne (by omega))]
def luB (S : zH) (g : Nat → Int) (a b c : Int) : Int := lumpsR g (sPart (bsU S g a b c) (S 0 57)) 8
def anS (S : zH) (f : Nat → Int) (a b c sw seed : Int) : Nat → Int × Int
  | 0 => (seed, 0)
  | n + 1 => ((drS f sw (anS S f a b c sw seed n).1 8).1, if luB S (drS f sw (anS S f a b c sw seed n).1 8).2 a b c ≤ luB S f a b c then (anS S f a b c sw seed n).2 + 1 else (anS S f a b c sw seed n).2)
theorem anS_r {f : Nat → Int} {a b c sw seed : Int} (h0 : 0 ≤ seed ∧ seed < 2147483648) : ∀ n : Nat, (0 ≤ (anS S f a b c sw seed n).1 ∧ (anS S f a b c sw seed n).1 < 2147483648) ∧ 0 ≤ (anS S f a b c sw seed n).2 ∧ (anS S f a b c sw seed n).2 ≤ n
  | 0 => by unfold anS; dsimp only; omega
  | n + 1 => by
    have ih := anS_r (f := f) (a := a) (b := b) (c := c) (sw := sw) h0 n
    unfold anS
    refine ⟨drS_y ih.1 8, ?_⟩
    dsimp only
    split <;> omega
def aAny (S : zH) (a b c sw seed n : Int) : Int := if okU a b c 100 ∧ (0 ≤ sw ∧ sw ≤ 9999) ∧ 0 ≤ seed ∧ 1 ≤ n ∧ n ≤ 50 then (anS S (rk S (-1) (-1)) a b c sw seed n.toNat).2 else -1
theorem rk_o2 (w : WfS S) : szO2 (rk S (-1) (-1)) := by
  intro r
  rw [rk_all]
  split
  · rename_i z
    exact Or.inr (szB_r w z)
  · exact Or.inl rfl
theorem C_lob (hE : isC E) {q : Nat} (hq : isSi E q) {f : Nat → Int} (hf : szOk f) (hs : SizesAt h q (cmpL f 8)) {a b c : Int} (hu : areU a b c) (hK : K (luB S f a b c) h) : zCI E mX7_lumpsOfBestUnit (d + 3) [zR q, zI a, zI b, zI c, zI (S 0 57)] h K := by
  refine X7_lumpsOfBestUnit hE hq hs (szL_cmp hf 8) hu ?_
  rw [lumpS_cmp, show (fun u => lumpS (sPart u (S 0 57)) (cmpL f 8)) = (fun u => lumpsR f (sPart u (S 0 57)) 8) from funext fun u => lumpS_cmp f _ 8]
  exact hK
theorem ICb.s8 {h' : zH} {b : Nat} (i : ICb S h b) (fr : ∀ c j, ¬ ((c = 78 ∧ j = 1) ∨ c = 79) → h' c j = h c j) : ICb S h' b :=
  i.mvC (fun c j n1 n2 n3 n4 n5 n6 => fr c j (by omega)) (i.fi.sm (fun c j a1 a2 => fr c j (by omega)))
theorem SizesAt.s8 {h' : zH} {l : List Int} (s : SizesAt h 76 l) (fr : ∀ c j, ¬ ((c = 78 ∧ j = 1) ∨ c = 79) → h' c j = h c j) : SizesAt h' 76 l := ⟨by rw [fr _ _ (by omega)]; exact s.1, s.2.1, fun k x hk => by rw [fr _ _ (by omega)]; exact s.2.2 k x hk⟩
theorem C_any (hE : isC E) (i : IC S h) {a b c sw seed n : Int} (hsd : seed < 2147483648) (hK : ∀ h', IC S h' → K (aAny S a b c sw seed n) h') : zCI E mX9_any (d + 6) [zR 0, zI a, zI b, zI c, zI sw, zI seed, zI n] h K := by
  have k := hK h i
  obtain ⟨bt, i⟩ := i
  unfold aAny at k hK
  refine eX9_any (d := d + 5) hE (X9_unitsOf hE ?_)
  by_cases z : areU a b c
  · rw [if_pos z]
    have hm := sMany_r z
    refine ⟨fun c1 => absurd c1 (by omega), fun _ => ⟨fun c1 => ?_, fun c1 => X9_isBeyond hE ⟨fun c2 => ?_, fun c2 => ⟨fun c3 => ?_, fun c3 => X9_isBeyond hE ⟨fun c4 => C_gather hE i (fun h1 i1 s1 => ?_), fun c4 => ?_⟩⟩⟩⟩⟩
    · rwa [if_neg (fun y => by have := y.1.2; omega)] at k
    · rw [ne_eq, bI_n] at c2
      rwa [if_neg (by omega)] at k
    · rwa [if_neg (by omega)] at k
    · rw [ne_eq, bI_n] at c2
      rw [bI_0] at c4
      have hs : 0 ≤ sw ∧ sw ≤ 9999 := by omega
      have hf := rk_o2 i.wf
      have hfo := rk_ok i.wf (-1) (-1)
      have hz := szL_rk i.wf (-1) (-1)
      rw [if_pos ⟨⟨z, by omega⟩, hs, by omega, by omega, by omega⟩] at hK
      obtain ⟨N, hN⟩ : ∃ N : Nat, n = N := ⟨n.toNat, by omega⟩
      subst hN
      rw [Int.toNat_natCast] at hK
      rw [i1.hv]
      refine C_lob hE (si_76 hE) hfo s1 z ?_
      generalize rk S (-1) (-1) = f at hK hf hfo s1 hz ⊢
      have h8 := s1.2.1
      have ew : w32 (w32 (2 * sw) + 1) = 2 * sw + 1 := by rw [w32i (x := 2 * sw) (by omega) (by omega), w32i (by omega) (by omega)]
      have loop : ∀ (m k : Nat), k + m = N → ∀ h2 : zH, ICb S h2 bt → SizesAt h2 76 (cmpL f 8) → zG E mX9_any (d + 6) 83 [zR 0, zI a, zI b, zI c, zI sw, zU, zI (N : Int), zU, zI (luB S f a b c), zJ (anS S f a b c sw seed k).1, zU, zI (anS S f a b c sw seed k).2, zI k, zU, zU] [] h2 (qI K) := by
        intro m
        induction m with
        | zero =>
          intro k hk h2 i2 s2
          have e : k = N := by omega
          subst e
          exact bX9_any_83 (d := d + 5) hE ⟨fun _ => hK h2 i2.ic, fun c => absurd (Int.le_refl _) c⟩
        | succ m ih =>
          intro k hk h2 i2 s2
          have nx := ih (k + 1) (by omega)
          have ar := anS_r (S := S) (f := f) (a := a) (b := b) (c := c) (sw := sw) (seed := seed) (by omega) k
          unfold anS at nx
          generalize anS S f a b c sw seed k = p at nx ar ⊢
          have gd := gDr_cmp (y0 := p.1) hf hs 8
          have dok := drS_ok (y0 := p.1) hf hs 8
          generalize drS f sw p.1 8 = dr at nx gd dok
          refine bX9_any_83 (d := d + 5) hE ⟨fun c => absurd c (by omega), fun _ h3 e3 => ?_⟩
          have fr3 : ∀ c j, ¬ ((c = 78 ∧ j = 1) ∨ c = 79) → h3 c j = h2 c j := fun c j n => by rw [e3, hset_ne (by omega)]
          generalize hl : cmpL f 8 = l at s2 gd hz h8
          rw [hl] at nx
          have lp : ∀ (rest pre : List Int) (q : Int × List Int), l = pre ++ rest → q.2.length = pre.length → (0 ≤ q.1 ∧ q.1 < 2147483648) → rest.foldl (gDr sw) q = (dr.1, cmpL dr.2 8) → ∀ h4 : zH, ICb S h4 bt → SizesAt h4 76 l → SizesAt h4 78 q.2 → zG E mX9_any (d + 6) 101 [zR 0, zI a, zI b, zI c, zI sw, zU, zI (N : Int), zU, zI (luB S f a b c), zJ q.1, zU, zI p.2, zI k, zI (pre.length : Int), zU] [] h4 (qI K) := by
            intro rest
            induction rest with
            | nil =>
              intro pre q e ql qr es h4 i4 s4 t4
              have el : l.length = pre.length := by rw [e]; simp
              have eq1 : q.1 = dr.1 := congrArg Prod.fst es
              have eq2 : q.2 = cmpL dr.2 8 := congrArg Prod.snd es
              refine bX9_any_101 (d := d + 5) hE ⟨fun _ => ?_, fun c => absurd (by rw [s4.1]; omega) c⟩
              rw [i4.hv, eq1]
              rw [eq2] at t4
              refine C_lob hE (si_78 hE) dok t4 z ⟨fun c5 y ey => ?_, fun c5 y ey w ew => ?_⟩
              · rw [w_suc (by omega)] at ey
                rw [ey]
                rw [if_neg (by omega)] at nx
                exact nx h4 i4 s4
              · rw [w_suc (by omega)] at ew
                rw [w32i (by omega) (by omega)] at ey
                rw [ey, ew]
                rw [if_pos (by omega)] at nx
                exact nx h4 i4 s4
            | cons x rest ihr =>
              intro pre q e ql qr es h4 i4 s4 t4
              have hlen : pre.length + 1 ≤ l.length := by rw [e]; simp
              have hx : l[pre.length]? = some x := by rw [e]; simp
              have hxs := hz x (by rw [e]; simp)
              have hr : h4 77 pre.length = x := s4.2.2 _ _ hx
              refine bX9_any_101 (d := d + 5) hE ⟨fun c => absurd c (by rw [s4.1]; omega), fun _ y7 e7 => ⟨nat_in (n := 8) (by omega), by rw [ew]; omega, fun x8 e8 => ?_⟩⟩
              rw [sNx_J qr.1 qr.2] at e7
              have yr := sNx_r q.1
              rw [← e7] at yr
              have m0 := Int.emod_nonneg (y7 / 65536) (show 2 * sw + 1 ≠ 0 by omega)
              have m1 := Int.emod_lt_of_pos (y7 / 65536) (show 0 < 2 * sw + 1 by omega)
              rw [Int.toNat_natCast, hr, ew, Int.tdiv_eq_ediv_of_nonneg yr.1, w64i (x := y7 / 65536) (by omega) (by omega), w32i (x := y7 / 65536) (by omega) (by omega), Int.tmod_eq_emod_of_nonneg (by omega), w32i (x := y7 / 65536 % (2 * sw + 1)) (by omega) (by omega), w32i (x := x + y7 / 65536 % (2 * sw + 1)) (by omega) (by omega), w32i (by omega) (by omega)] at e8
              have ed : max x8 0 = sDr x y7 sw := by unfold sDr; rw [e8, Int.max_comm]
              rw [ed]
              refine X7_put hE (si_78 hE) t4 (by omega) (fun h5 fr5 t5 y ey => ?_)
              rw [w_suc (by omega)] at ey
              rw [ey]
              have := ihr (pre ++ [x]) (y7, q.2 ++ [sDr x y7 sw]) (by rw [e]; simp) (by simp; omega) yr (by rw [← es, e7]; rfl) h5 (i4.s8 fr5) (s4.s8 fr5) t5
              simpa using this
          exact lp l [] (p.1, []) rfl rfl ar.1 gd h3 (i2.s8 fr3) (s2.s8 fr3) ⟨by rw [e3, hset_eq]; rfl, Nat.zero_le 8, fun k x hk => absurd hk (by intro z; cases z)⟩
      exact loop N 0 (by omega) h1 i1 s1
    · rw [bI_n] at c4
      rwa [if_neg (by omega)] at k
  · rw [if_neg z]
    refine ⟨fun _ => ?_, fun c1 => absurd rfl c1⟩
    rwa [if_neg (fun y => z y.1.1)] at k
end TAny
