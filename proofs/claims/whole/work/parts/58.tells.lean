/-! ===== topic: least terms, tells ===== -/
section TTells
variable {E : zE} {d : Nat} {h : zH} {S : zH} {K : Int → zH → Prop}
theorem zabsJ_n {x : Int} (h1 : -9000000000000000000 ≤ x) (h2 : x ≤ 9000000000000000000) : zabsJ x = (x.natAbs : Int) := by
  unfold zabsJ
  split
  · rw [w64i (by omega) (by omega)]; omega
  · omega
def aLT (a b w : Int) : Int := if b = 0 then 0 else if w = 0 then b.tdiv (Nat.gcd a.natAbs b.natAbs : Int) else a.tdiv (Nat.gcd a.natAbs b.natAbs : Int)
theorem tdiv_r {x y B : Int} (h1 : -B ≤ x) (h2 : x ≤ B) : -B ≤ x.tdiv y ∧ x.tdiv y ≤ B := by
  have h3 : (x.tdiv y).natAbs ≤ x.natAbs := by rw [Int.natAbs_tdiv]; exact Nat.div_le_self _ _
  omega
theorem tmod_n (a b : Nat) (hb : b < 9223372036854775808) : b ≠ 0 → w64 (Int.tmod (a : Int) (b : Int)) = ((a % b : Nat) : Int) := by
  intro hb0
  have := Nat.mod_lt a (show 0 < b by omega)
  rw [Int.tmod_eq_emod_of_nonneg (by omega), w64i (by omega) (by omega)]
  omega
theorem X9_inLeastTerms (hE : isC E) {a b w : Int} (ha1 : -9000000000000000000 ≤ a) (ha2 : a ≤ 9000000000000000000) (hb1 : -9000000000000000000 ≤ b) (hb2 : b ≤ 9000000000000000000) (hK : K (aLT a b w) h) : zCJ E mX9_inLeastTerms d [zJ a, zJ b, zI w] h K := by
  refine eX9_inLeastTerms hE ⟨fun c y2 e2 y3 e3 => ?_, fun c => ?_⟩
  · rw [zabsJ_n ha1 ha2] at e2
    rw [zabsJ_n hb1 hb2] at e3
    rw [e2, e3]
    unfold aLT at hK
    rw [if_neg c] at hK
    have gp : 0 < Nat.gcd a.natAbs b.natAbs := Nat.gcd_pos_of_pos_right _ (by omega)
    have ra := tdiv_r (y := (Nat.gcd a.natAbs b.natAbs : Int)) ha1 ha2
    have rb := tdiv_r (y := (Nat.gcd a.natAbs b.natAbs : Int)) hb1 hb2
    have hn : b.natAbs < 9223372036854775808 := by omega
    generalize hg : Nat.gcd a.natAbs b.natAbs = g at hK gp ra rb
    have g59 : zG E mX9_inLeastTerms d 59 [zJ a, zU, zJ b, zU, zI w, zJ (g : Int), zU, zU, zU, zU, zU, zU] [] h (qJ K) := by
      refine bX9_inLeastTerms_59 hE ⟨fun c2 => ⟨fun c3 => ⟨c3, ?_⟩, fun c3 => absurd (by omega) c3⟩, fun c2 => ⟨fun c3 => ⟨c3, ?_⟩, fun c3 => absurd (by omega) c3⟩⟩
      · rw [w64i (by omega) (by omega)]
        rwa [if_pos c2] at hK
      · rw [w64i (by omega) (by omega)]
        rwa [if_neg c2] at hK
    have loop : ∀ (k x y i : Nat), y < 2 ^ k → y < 9223372036854775808 → i + 2 * k ≤ 190 → Nat.gcd x y = g → zG E mX9_inLeastTerms d 23 [zJ a, zU, zJ b, zU, zI w, zJ (x : Int), zU, zJ (y : Int), zU, zI i, zU, zU] [] h (qJ K) := by
      intro k
      induction k with
      | zero =>
        intro x y i hy hy2 hi hgc
        have y0 : y = 0 := by omega
        subst y0
        rw [Nat.gcd_zero_right] at hgc
        subst hgc
        exact bX9_inLeastTerms_23 hE ⟨fun _ => g59, fun _ => ⟨fun _ => g59, fun c => absurd rfl c⟩⟩
      | succ k ih =>
        intro x y i hy hy2 hi hgc
        refine bX9_inLeastTerms_23 hE ⟨fun c => absurd c (by omega), fun _ => ⟨fun c => ?_, fun c => ⟨c, fun y3 e3 x4 e4 => ?_⟩⟩⟩
        · have y0 : y = 0 := by omega
          subst y0
          rw [Nat.gcd_zero_right] at hgc
          subst hgc
          exact g59
        · have y0 : y ≠ 0 := by omega
          rw [tmod_n x y hy2 y0] at e3
          rw [w_suc (by omega)] at e4
          rw [e3, e4]
          have hl := Nat.mod_lt x (show 0 < y by omega)
          have hgc2 : Nat.gcd y (x % y) = g := by rw [← hgc, Nat.gcd_comm x y, Nat.gcd_rec y x, Nat.gcd_comm]
          generalize x % y = z at hl hgc2 ⊢
          refine bX9_inLeastTerms_23 hE ⟨fun c => absurd c (by omega), fun _ => ⟨fun c => ?_, fun c => ⟨c, fun y5 e5 x6 e6 => ?_⟩⟩⟩
          · have z0 : z = 0 := by omega
            subst z0
            rw [Nat.gcd_zero_right] at hgc2
            subst hgc2
            exact g59
          · have z0 : z ≠ 0 := by omega
            rw [tmod_n y z (by omega) z0] at e5
            rw [w_suc (by omega)] at e6
            rw [e5, e6]
            have hl2 := Nat.mod_lt y (show 0 < z by omega)
            have hd : z * (y / z) + y % z = y := Nat.div_add_mod y z
            have hd1 : 1 ≤ y / z := Nat.div_pos (by omega) (by omega)
            have hd2 : z * 1 ≤ z * (y / z) := Nat.mul_le_mul_left z hd1
            have hk2 : (2 : Nat) ^ (k + 1) = 2 * 2 ^ k := by rw [Nat.pow_succ, Nat.mul_comm]
            refine ih z (y % z) (i + 1 + 1) (by omega) (by omega) (by omega) ?_
            rw [← hgc2, Nat.gcd_comm y z, Nat.gcd_rec z y, Nat.gcd_comm]
    have := loop 63 a.natAbs b.natAbs 0 (by have : (2 : Nat) ^ 63 = 9223372036854775808 := by decide
                                            omega) (by omega) (by omega) hg
    exact this
  · unfold aLT at hK
    rwa [if_pos (Decidable.not_not.mp c)] at hK
theorem X10_common (hE : isR E) {a b : Int} (ha1 : -9000000000000000000 ≤ a) (ha2 : a ≤ 9000000000000000000) (hb1 : 0 ≤ b) (hb2 : b ≤ 9000000000000000000) (hK : K (Nat.gcd a.natAbs b.natAbs : Int) h) : zCJ E mX10_common d [zJ a, zJ b] h K := by
  refine eX10_common hE (fun y1 e1 => ?_)
  rw [zabsJ_n ha1 ha2] at e1
  rw [e1]
  obtain ⟨B, hB⟩ : ∃ B : Nat, b = B := ⟨b.toNat, by omega⟩
  subst hB
  rw [Int.natAbs_natCast] at hK
  generalize hg : Nat.gcd a.natAbs B = g at hK
  have loop : ∀ (N y : Nat), y ≤ N → y < 9223372036854775808 → ∀ x : Nat, Nat.gcd x y = g → zG E mX10_common d 9 [zU, zU, zU, zU, zJ (x : Int), zU, zJ (y : Int), zU, zU, zU] [] h (qJ K) := by
    intro N
    induction N with
    | zero =>
      intro y hy hy2 x hgc
      have y0 : y = 0 := by omega
      subst y0
      rw [Nat.gcd_zero_right] at hgc
      subst hgc
      exact bX10_common_9 hE ⟨fun _ => hK, fun c => absurd rfl c⟩
    | succ N ih =>
      intro y hy hy2 x hgc
      refine bX10_common_9 hE ⟨fun c => ?_, fun c => ⟨c, fun y3 e3 => ?_⟩⟩
      · have y0 : y = 0 := by omega
        subst y0
        rw [Nat.gcd_zero_right] at hgc
        subst hgc
        exact hK
      · have y0 : y ≠ 0 := by omega
        rw [tmod_n x y hy2 y0] at e3
        rw [e3]
        have hl := Nat.mod_lt x (show 0 < y by omega)
        refine ih (x % y) (by omega) (by omega) y ?_
        rw [← hgc, Nat.gcd_comm x y, Nat.gcd_rec y x, Nat.gcd_comm]
  exact loop B B (Nat.le_refl B) (by omega) a.natAbs hg
/-! the weights of ways -/
def p99 : Nat → Int
  | 0 => 99
  | n + 1 => 99 * p99 n
theorem p99_r : ∀ n, n ≤ 8 → 99 ≤ p99 n ∧ p99 n ≤ 913517247483640899 := by decide +kernel
def gTw (S : zH) (w : Nat) (v : Int) : Int → Int → Int := fun acc x => acc * S 14 (6 * w + (sBin x v).toNat)
def tw (S : zH) (u : Int) (w : Nat) : Int := foR (gTw S w (sPart u (S 0 57))) (S 13 w) (rk S (-1) (-1)) 8
def twS (S : zH) (u : Int) : Nat → Int
  | 0 => 0
  | n + 1 => twS S u n + tw S u n
theorem sBin_r {x v : Int} (hv : 0 < v) : 0 ≤ sBin x v ∧ sBin x v ≤ 5 := by
  have ho := sOff_r x hv
  have hd0 : 0 ≤ 12 * sOff x v / v := Int.ediv_nonneg (by omega) (by omega)
  unfold sBin
  omega
theorem tw_step {acc x B : Int} (h0 : 0 ≤ acc) (h1 : acc ≤ B) (hx : 0 ≤ x ∧ x ≤ 99) : 0 ≤ acc * x ∧ acc * x ≤ 99 * B := by
  have a1 : 0 ≤ acc * x := Int.mul_nonneg h0 hx.1
  have a2 : acc * x ≤ B * x := Int.mul_le_mul_of_nonneg_right h1 hx.1
  have a3 : B * x ≤ B * 99 := Int.mul_le_mul_of_nonneg_left hx.2 (by omega)
  omega
theorem tw_r (w : WfS S) {u : Int} (hu : isU u) {k : Nat} (hk : (k : Int) < S 0 25) : ∀ n, 0 ≤ foR (gTw S k (sPart u (S 0 57))) (S 13 k) (rk S (-1) (-1)) n ∧ foR (gTw S k (sPart u (S 0 57))) (S 13 k) (rk S (-1) (-1)) n ≤ p99 n
  | 0 => by
    have := w.w k hk
    unfold foR p99
    omega
  | n + 1 => by
    have ih := tw_r w hu hk n
    have hp := sPart_r (hv := S 0 57) hu
    have hpn : 0 ≤ p99 n := by omega
    unfold foR p99
    split
    · omega
    · rename_i c
      generalize foR (gTw S k (sPart u (S 0 57))) (S 13 k) (rk S (-1) (-1)) n = acc at ih ⊢
      unfold gTw
      have sb := sBin_r (x := rk S (-1) (-1) n) (v := sPart u (S 0 57)) (by omega)
      exact tw_step ih.1 ih.2 ((w.w k hk).2.2 _ (by omega))
theorem tw_b (w : WfS S) {u : Int} (hu : isU u) {k : Nat} (hk : (k : Int) < S 0 25) : 0 ≤ tw S u k ∧ tw S u k ≤ 913517247483640899 := by
  have h1 := tw_r w hu hk 8
  have h2 := p99_r 8 (Nat.le_refl 8)
  unfold tw
  omega
theorem twS_b (w : WfS S) {u : Int} (hu : isU u) : ∀ n : Nat, (n : Int) ≤ S 0 25 → 0 ≤ twS S u n ∧ twS S u n ≤ 913517247483640899 * n
  | 0, _ => by unfold twS; omega
  | n + 1, hn => by
    have ih := twS_b w hu n (by omega)
    have := tw_b w hu (k := n) (by omega)
    unfold twS
    omega
def aTells (S : zH) (w u x : Int) : Int := if (0 ≤ w ∧ w < S 0 25) ∧ isU u ∧ 0 ≤ x ∧ x ≤ 1 then aLT (tw S u w.toNat) (twS S u (S 0 25).toNat) (if x = 0 then 1 else 0) else -1
theorem C_weightOf (hE : isC E) {b : Nat} (i : ICb S h b) {u : Int} (hu : isU u) (s : SizesAt h 76 (cmpL (rk S (-1) (-1)) 8)) {k : Nat} (hk : (k : Int) < S 0 25) (hK : K (tw S u k) h) : zCJ E mX8_weightOf (d + 2) [zR b, zI k, zR 76, zI (sPart u (S 0 57))] h K := by
  have wn := i.wf.n
  unfold WfN at wn
  have hp := sPart_r (hv := S 0 57) hu
  have su := su_b hE i.hb
  have wy := i.sv.wy k hk
  have ww := i.wf.w k hk
  refine eX8_weightOf (d := d + 1) hE su (si_76 hE) (fun x1 e1 => ?_)
  rw [w32i (by omega) (by omega)] at e1
  rw [show (k : Int) * 7 = ((7 * k : Nat) : Int) by omega] at e1
  rw [e1, w32i (x := ((7 * k : Nat) : Int) + 7) (by omega) (by omega), Int.toNat_natCast]
  refine ⟨fun c => absurd c (by omega), fun _ => ⟨fun _ => ⟨nat_in (n := 35) (by omega), fun y4 e4 => ?_⟩, fun c => absurd (by omega) c⟩⟩
  rw [wy.1] at e4
  rw [e4]
  unfold tw at hK
  rw [← foR_cmp] at hK
  have hz := szL_rk i.wf (-1) (-1)
  have h8 := s.2.1
  generalize cmpL (rk S (-1) (-1)) 8 = l at s hz hK h8
  generalize sPart u (S 0 57) = v at hp hK ⊢
  have loop : ∀ (rest pre : List Int) (acc : Int), l = pre ++ rest → 0 ≤ acc → acc ≤ p99 pre.length → rest.foldl (gTw S k v) acc = l.foldl (gTw S k v) (S 13 k) → zG E mX8_weightOf (d + 2) 39 [zR b, zU, zR 76, zI v, zI ((7 * k : Nat) : Int), zJ acc, zU, zI (pre.length : Int)] [] h (qJ K) := by
    intro rest
    induction rest with
    | nil =>
      intro pre acc e a0 a1 es
      have el : l.length = pre.length := by rw [e]; simp
      rw [← es] at hK
      exact bX8_weightOf_39 (d := d + 1) hE su (si_76 hE) ⟨fun _ => hK, fun c => absurd (by rw [s.1]; omega) c⟩
    | cons x rest ih =>
      intro pre acc e a0 a1 es
      have hlen : pre.length + 1 ≤ l.length := by rw [e]; simp
      have hx : l[pre.length]? = some x := by rw [e]; simp
      have sb := sBin_r (x := x) (v := v) (by omega)
      refine bX8_weightOf_39 (d := d + 1) hE su (si_76 hE) ⟨fun c => absurd c (by rw [s.1]; omega), fun _ => X7_binOf (d := d) hE (si_76 hE) s hz (by omega) (by omega) hx ?_⟩
      change ((0 : Int) ≤ w32 ((w32 (((7 * k : Nat) : Int) + 1)) + sBin x v) ∧ _) ∧ _
      have e2 : w32 ((w32 (((7 * k : Nat) : Int) + 1)) + sBin x v) = ((7 * k + 1 + (sBin x v).toNat : Nat) : Int) := by
        rw [w32i (x := ((7 * k : Nat) : Int) + 1) (by omega) (by omega), w32i (by omega) (by omega)]; omega
      change ((0 : Int) ≤ w32 ((w32 (((7 * k : Nat) : Int) + 1)) + sBin x v) ∧ w32 ((w32 (((7 * k : Nat) : Int) + 1)) + sBin x v) < 35) ∧ (∀ y_3 : Int, y_3 = w64 (acc * (h (b + 12) (w32 ((w32 (((7 * k : Nat) : Int) + 1)) + sBin x v)).toNat)) → _)
      rw [e2, Int.toNat_natCast, wy.2 _ (by omega)]
      refine ⟨nat_in (n := 35) (by omega), fun y3 e3 x4 e4 => ?_⟩
      have st := tw_step a0 a1 (ww.2.2 (sBin x v).toNat (by omega))
      have pr := p99_r (pre.length + 1) (by omega)
      have pe : p99 (pre.length + 1) = 99 * p99 pre.length := rfl
      rw [w64i (by omega) (by omega)] at e3
      rw [w_suc (by omega)] at e4
      rw [e4]
      have := ih (pre ++ [x]) y3 (by rw [e]; simp) (by omega) (by rw [List.length_append]; change y3 ≤ p99 (pre.length + 1); omega) (by rw [← es, e3]; rfl)
      simpa using this
  exact loop l [] (S 13 k) rfl (by omega) (by unfold p99; simp; omega) rfl
theorem C_tells (hE : isC E) (i : IC S h) {w u x : Int} (hK : ∀ h', IC S h' → K (aTells S w u x) h') : zCJ E mX9_tells (d + 6) [zR 0, zI w, zI u, zI x] h K := by
  have k := hK h i
  obtain ⟨b, i⟩ := i
  have wn := i.wf.n
  unfold WfN at wn
  have su := su_b hE i.hb
  unfold aTells at k hK
  refine eX9_tells (d := d + 5) hE su ⟨i.tld, ?_⟩
  rw [i.sv.wa.1, w32i (by omega) (by omega)]
  refine X9_isBeyond hE ⟨fun c => ?_, fun c => X9_isUnit hE ⟨fun c2 => ?_, fun c2 => X9_isBeyond hE ⟨fun c3 => C_gather hE i (fun h1 i1 s1 => ?_), fun c3 => ?_⟩⟩⟩
  · rw [ne_eq, bI_n] at c
    rwa [if_neg (by omega)] at k
  · rw [bI_0] at c2
    rwa [if_neg (fun z => c2 z.2.1)] at k
  · rw [ne_eq, bI_n] at c
    rw [bI_n] at c2
    rw [bI_0] at c3
    have k1 := hK h1 i1.ic
    rw [if_pos ⟨by omega, c2, by omega, by omega⟩] at k1
    obtain ⟨W, hW⟩ : ∃ W : Nat, w = W := ⟨w.toNat, by omega⟩
    subst hW
    rw [Int.toNat_natCast] at k1
    rw [i1.hv]
    refine X9_placesOf hE (by omega) (by omega) ⟨i1.tld, C_weightOf hE i1 c2 s1 (by omega) ?_⟩
    have tb := tw_b i.wf c2 (k := W) (by omega)
    have loop : ∀ (m r : Nat), r + m = (S 0 25).toNat → zG E mX9_tells (d + 6) 78 [zR 0, zU, zU, zI x, zI (sPart u (S 0 57)), zJ (tw S u W), zU, zJ (twS S u r), zU, zI r] [] h1 (qJ K) := by
      intro m
      induction m with
      | zero =>
        intro r hr
        have e : r = (S 0 25).toNat := by omega
        have sb := twS_b i.wf c2 r (by omega)
        rw [← e] at k1
        refine bX9_tells_78 (d := d + 5) hE su ⟨i1.tld, fun _ => ⟨fun c4 => X9_inLeastTerms hE (by omega) (by omega) (by omega) (by omega) ?_, fun c4 => X9_inLeastTerms hE (by omega) (by omega) (by omega) (by omega) ?_⟩, fun c => absurd (by rw [i1.sv.wa.1]; omega) c⟩
        · rwa [if_neg c4] at k1
        · rwa [if_pos (by omega)] at k1
      | succ m ih =>
        intro r hr
        have nx := ih (r + 1) (by omega)
        have sb := twS_b i.wf c2 r (by omega)
        have t2 := tw_b i.wf c2 (k := r) (by omega)
        refine bX9_tells_78 (d := d + 5) hE su ⟨i1.tld, fun c => absurd c (by rw [i1.sv.wa.1]; omega), fun _ => ⟨i1.tld, C_weightOf hE i1 c2 s1 (by omega) (fun y ey z ez => ?_)⟩⟩
        rw [w_suc (by omega)] at ez
        rw [w64i (by omega) (by omega)] at ey
        rw [ey, ez]
        exact nx
    exact loop (S 0 25).toNat 0 (by omega)
  · rw [bI_n] at c3
    rwa [if_neg (by omega)] at k
theorem R_toldBy (hE : isR E) (i : IRL S h) {u : Int} (hu : isU u) {k : Nat} (hk : (k : Int) < S 0 25) (hK : K (tw S u k) h) : zCJ E mX10_toldBy (d + 2) [zR 0, zI k, zI u] h K := by
  have wn := i.wf.n
  unfold WfN at wn
  have hp := sPart_r (hv := S 0 57) hu
  have ww := i.wf.w k hk
  obtain ⟨R, hR⟩ : ∃ R : Nat, S 0 24 = R := ⟨(S 0 24).toNat, by omega⟩
  refine eX10_toldBy (d := d + 1) hE ⟨by omega, fun y1 e1 => ?_⟩
  rw [Int.toNat_natCast, i.q.row (c := 13) (by omega) (by omega)] at e1
  rw [e1]
  unfold tw at hK
  rw [show 8 = R + (8 - R) by omega, foR_ext (8 - R) (fun k hk => rk_out (by omega))] at hK
  have loop : ∀ (m r : Nat), r + m = R → zG E mX10_toldBy (d + 2) 11 [zR 0, zI k, zI u, zJ (foR (gTw S k (sPart u (S 0 57))) (S 13 k) (rk S (-1) (-1)) r), zU, zI r] [] h (qJ K) := by
    intro m
    induction m with
    | zero =>
      intro r hr
      have e : r = R := by omega
      subst e
      exact bX10_toldBy_11 (d := d + 1) hE ⟨fun _ => hK, fun c => absurd (by rw [i.q.num (j := 24) (by omega)]; omega) c⟩
    | succ m ih =>
      intro r hr
      have nx := ih (r + 1) (by omega)
      have tr := tw_r i.wf hu hk r
      unfold foR at nx
      have er := rk_all (S := S) r
      have hrR : (r : Int) < S 0 24 := by omega
      refine bX10_toldBy_11 (d := d + 1) hE ⟨fun c => absurd c (by rw [i.q.num (j := 24) (by omega)]; omega), fun _ => X10_hasFit hE (i.wf.r8 hrR) (i.sh r hrR) ⟨fun c4 y ey => ?_, fun c4 => R_bin hE i ?_ hu ?_⟩⟩
      · rw [bI_0] at c4
        rw [if_neg c4] at er
        rw [if_pos er] at nx
        rw [w_suc (by omega)] at ey
        rw [ey]
        exact nx
      · rwa [bI_n] at c4
      · rw [bI_n] at c4
        have sz := szB_r i.wf (r := r) c4
        rw [if_pos c4] at er
        rw [if_neg (by omega), er] at nx
        generalize szB (sLs S (sNk S) r) (sG S) (sH S) = x at sz nx ⊢
        generalize foR (gTw S k (sPart u (S 0 57))) (S 13 k) (rk S (-1) (-1)) r = acc at nx tr ⊢
        have sb := sBin_r (x := x) (v := sPart u (S 0 57)) (by omega)
        have e2 : w32 ((w32 (6 * (k : Int))) + sBin x (sPart u (S 0 57))) = ((6 * k + (sBin x (sPart u (S 0 57))).toNat : Nat) : Int) := by
          rw [w32i (x := 6 * (k : Int)) (by omega) (by omega), w32i (by omega) (by omega)]; omega
        rw [e2, Int.toNat_natCast, i.q.row (c := 14) (by omega) (by omega)]
        refine ⟨nat_in (n := 60) (by omega), fun y3 e3 x4 e4 => ?_⟩
        have st := tw_step tr.1 tr.2 (ww.2.2 (sBin x (sPart u (S 0 57))).toNat (by omega))
        have pr := p99_r (r + 1) (by omega)
        have pe : p99 (r + 1) = 99 * p99 r := rfl
        rw [w64i (by omega) (by omega)] at e3
        rw [w_suc (by omega)] at e4
        rw [e3, e4]
        exact nx
  exact loop R 0 (by omega)
theorem R_tells (hE : isR E) (i : IR S h) {w u x : Int} (hK : ∀ h', IR S h' → K (aTells S w u x) h') : zCJ E mX10_tells (d + 6) [zR 0, zI w, zI u, zI x] h K := by
  refine eX10_tells (d := d + 5) hE (fun h1 e1 => ?_)
  have i1 := i.thr e1
  have k := hK h1 i1
  have wn := i.wf.n
  unfold WfN at wn
  unfold aTells at k hK
  rw [i1.q.num (j := 25) (by omega)]
  refine ⟨fun c => ?_, fun c => ⟨fun c2 => ?_, fun c2 => X10_isUnit hE ⟨fun c3 => ?_, fun c3 => ⟨fun c4 => ?_, fun c4 => ⟨fun c5 => X10_laid hE i1 (fun h2 i2 => ?_), fun c5 => ?_⟩⟩⟩⟩⟩
  · rwa [if_neg (by omega)] at k
  · rwa [if_neg (by omega)] at k
  · rw [bI_0] at c3
    rwa [if_neg (fun z => c3 z.2.1)] at k
  · rwa [if_neg (by omega)] at k
  · rw [bI_n] at c3
    have k2 := hK h2 i2.ir
    rw [if_pos ⟨by omega, c3, by omega, by omega⟩] at k2
    obtain ⟨W, hW⟩ : ∃ W : Nat, w = W := ⟨w.toNat, by omega⟩
    subst hW
    rw [Int.toNat_natCast] at k2
    have tb := tw_b i.wf c3 (k := W) (by omega)
    have loop : ∀ (m r : Nat), r + m = (S 0 25).toNat → zG E mX10_tells (d + 6) 47 [zR 0, zI (W : Int), zI u, zI x, zJ (twS S u r), zU, zI r, zU] [] h2 (qJ K) := by
      intro m
      induction m with
      | zero =>
        intro r hr
        have e : r = (S 0 25).toNat := by omega
        have sb := twS_b i.wf c3 r (by omega)
        rw [← e] at k2
        unfold aLT at k2
        refine bX10_tells_47 (d := d + 5) hE ⟨fun _ => ⟨fun c6 => R_toldBy hE i2 c3 (by omega) (X10_common hE (by omega) (by omega) (by omega) (by omega) ?_), fun c6 => ?_⟩, fun c => absurd (by rw [i2.q.num (j := 25) (by omega)]; omega) c⟩
        · rw [if_neg c6] at k2
          have gp : 0 < Nat.gcd (tw S u W).natAbs (twS S u r).natAbs := Nat.gcd_pos_of_pos_right _ (by omega)
          have ra := tdiv_r (x := tw S u W) (y := (Nat.gcd (tw S u W).natAbs (twS S u r).natAbs : Int)) (B := 9000000000000000000) (by omega) (by omega)
          have rb := tdiv_r (x := twS S u r) (y := (Nat.gcd (tw S u W).natAbs (twS S u r).natAbs : Int)) (B := 9000000000000000000) (by omega) (by omega)
          generalize Nat.gcd (tw S u W).natAbs (twS S u r).natAbs = g at k2 gp ra rb ⊢
          refine ⟨fun c7 => ⟨by omega, ?_⟩, fun c7 => R_toldBy hE i2 c3 (by omega) ⟨by omega, ?_⟩⟩
          · rw [w64i (by omega) (by omega)]
            rw [if_neg c7] at k2
            rwa [if_pos rfl] at k2
          · rw [w64i (by omega) (by omega)]
            rw [if_pos (show x = 0 by omega)] at k2
            rwa [if_neg (by decide)] at k2
        · rwa [if_pos (by omega)] at k2
      | succ m ih =>
        intro r hr
        have nx := ih (r + 1) (by omega)
        have sb := twS_b i.wf c3 r (by omega)
        have t2 := tw_b i.wf c3 (k := r) (by omega)
        refine bX10_tells_47 (d := d + 5) hE ⟨fun c => absurd c (by rw [i2.q.num (j := 25) (by omega)]; omega), fun _ => R_toldBy hE i2 c3 (by omega) (fun y ey z ez => ?_)⟩
        rw [w_suc (by omega)] at ez
        rw [w64i (by omega) (by omega)] at ey
        rw [ey, ez]
        exact nx
    exact loop (S 0 25).toNat 0 (by omega)
  · rwa [if_neg (by omega)] at k
end TTells
