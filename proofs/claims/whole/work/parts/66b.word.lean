/-! ===== topic: the reference's words ===== -/
section TWordr
variable {E : zE} {d : Nat} {h : zH}
def woL : List Nat := [0, 5, 10, 14, 19, 24, 29, 35, 41, 46, 52, 57, 63, 66, 70, 74, 78, 83, 88, 94, 101, 106]
def wlL : List Nat := [4, 4, 3, 4, 4, 4, 5, 5, 4, 5, 4, 5, 2, 3, 3, 3, 4, 4, 5, 6, 4]
def wiL : List Nat := [0, 1, 6, 7, 8, 10, 11, 2, 3, 4, 5, 9, 12, 13, 14, 15, 16, 17, 18, 19, 20]
def wo (k : Nat) : Nat := woL.getD k 0
def wl (k : Nat) : Nat := wlL.getD k 0
def wi (k : Nat) : Nat := wiL.getD k 0
theorem wo_all : wo 0 = 0 ∧ wo 21 = 106 ∧ ∀ k, k < 21 → (wo (k + 1) = wo k + wl k + 1 ∧ 1 ≤ wl k ∧ wl k ≤ 6 ∧ wo k + wl k < 106 ∧ wi k < 21 ∧ rIx ((wi k : Nat) : Int) = (k : Int) ∧ fnd wdL (wdL (wi k)) 21 0 = ((wi k : Nat) : Int)) := by decide +kernel
theorem wt_all : ∀ k, k < 21 → tChZ 0 (wo k + wl k) = 32 ∧ ∀ j, j < wl k → 97 ≤ tChZ 0 (wo k + j) ∧ tChZ 0 (wo k + j) ≤ 122 := by decide +kernel
/-- a digit of a word, by its letters -/
def wdg (k j : Nat) : Int := if j < wl k then tChZ 0 (wo k + j) - 96 else 0
theorem wv_all : ∀ k, k < 21 → wdL (wi k) = wdg k 0 * 33554432 + wdg k 1 * 1048576 + wdg k 2 * 32768 + wdg k 3 * 1024 + wdg k 4 * 32 + wdg k 5 := by decide +kernel
theorem wi_sur : ∀ i, i < 21 → ∃ k, k < 21 ∧ wi k = i := by decide +kernel
theorem wdg_r {k : Nat} (hk : k < 21) (j : Nat) : 0 ≤ wdg k j ∧ wdg k j ≤ 31 := by
  unfold wdg
  split
  · rename_i c
    have := (wt_all k hk).2 j c
    omega
  · omega
/-- the digits of the letters read -/
def bdg (B : Nat → Int) (p len j : Nat) : Int := if j < len then B (p + j) - 96 else 0
theorem wVal_d {B : Nat → Int} {p len : Nat} (h6 : len ≤ 6) (hl : ∀ j, j < len → 97 ≤ B (p + j) ∧ B (p + j) ≤ 122) : (wVal B p len : Int) = bdg B p len 0 * 33554432 + bdg B p len 1 * 1048576 + bdg B p len 2 * 32768 + bdg B p len 3 * 1024 + bdg B p len 4 * 32 + bdg B p len 5 := by
  have tn : ∀ j, j < len → (((B (p + j) - 96).toNat : Nat) : Int) = B (p + j) - 96 := fun j hj => by
    have := hl j hj
    omega
  unfold wVal bdg
  rw [Nat.min_eq_left h6]
  have cs : len = 0 ∨ len = 1 ∨ len = 2 ∨ len = 3 ∨ len = 4 ∨ len = 5 ∨ len = 6 := by omega
  rcases cs with z | z | z | z | z | z | z <;> subst z <;> simp only [lgN, Nat.lt_irrefl, Nat.not_lt_zero, if_false, if_true, Nat.reduceLT, Nat.reducePow, Nat.reduceSub, Nat.zero_add] 
  · omega
  · have t0 := tn 0 (by omega)
    omega
  · have t0 := tn 0 (by omega)
    have t1 := tn 1 (by omega)
    omega
  · have t0 := tn 0 (by omega)
    have t1 := tn 1 (by omega)
    have t2 := tn 2 (by omega)
    omega
  · have t0 := tn 0 (by omega)
    have t1 := tn 1 (by omega)
    have t2 := tn 2 (by omega)
    have t3 := tn 3 (by omega)
    omega
  · have t0 := tn 0 (by omega)
    have t1 := tn 1 (by omega)
    have t2 := tn 2 (by omega)
    have t3 := tn 3 (by omega)
    have t4 := tn 4 (by omega)
    omega
  · have t0 := tn 0 (by omega)
    have t1 := tn 1 (by omega)
    have t2 := tn 2 (by omega)
    have t3 := tn 3 (by omega)
    have t4 := tn 4 (by omega)
    have t5 := tn 5 (by omega)
    omega
/-- the letters are the word k's -/
def wMt (B : Nat → Int) (p len k : Nat) : Prop := len = wl k ∧ ∀ j, j < wl k → B (p + j) = tChZ 0 (wo k + j)
theorem dig6 {a0 a1 a2 a3 a4 a5 b0 b1 b2 b3 b4 b5 : Int} (ha0 : 0 ≤ a0 ∧ a0 ≤ 31) (ha1 : 0 ≤ a1 ∧ a1 ≤ 31) (ha2 : 0 ≤ a2 ∧ a2 ≤ 31) (ha3 : 0 ≤ a3 ∧ a3 ≤ 31) (ha4 : 0 ≤ a4 ∧ a4 ≤ 31) (ha5 : 0 ≤ a5 ∧ a5 ≤ 31) (hb0 : 0 ≤ b0 ∧ b0 ≤ 31) (hb1 : 0 ≤ b1 ∧ b1 ≤ 31) (hb2 : 0 ≤ b2 ∧ b2 ≤ 31) (hb3 : 0 ≤ b3 ∧ b3 ≤ 31) (hb4 : 0 ≤ b4 ∧ b4 ≤ 31) (hb5 : 0 ≤ b5 ∧ b5 ≤ 31)
    (e : a0 * 33554432 + a1 * 1048576 + a2 * 32768 + a3 * 1024 + a4 * 32 + a5 = b0 * 33554432 + b1 * 1048576 + b2 * 32768 + b3 * 1024 + b4 * 32 + b5) : a0 = b0 ∧ a1 = b1 ∧ a2 = b2 ∧ a3 = b3 ∧ a4 = b4 ∧ a5 = b5 := by omega
theorem wMt_v {B : Nat → Int} {p len k : Nat} (hk : k < 21) (hl : ∀ j, j < len → 97 ≤ B (p + j) ∧ B (p + j) ≤ 122) : wMt B p len k ↔ (len ≤ 6 ∧ (wVal B p len : Int) = wdL (wi k)) := by
  have a := wo_all.2.2 k hk
  have w := wt_all k hk
  constructor
  · rintro ⟨e, m⟩
    refine ⟨by omega, ?_⟩
    rw [wVal_d (by omega) hl, wv_all k hk]
    have z : ∀ j, bdg B p len j = wdg k j := fun j => by
      unfold bdg wdg
      rw [e]
      split
      · rename_i c
        rw [m j c]
      · rfl
    rw [z, z, z, z, z, z]
  · rintro ⟨h6, e⟩
    rw [wVal_d h6 hl, wv_all k hk] at e
    have br : ∀ j, 0 ≤ bdg B p len j ∧ bdg B p len j ≤ 31 := fun j => by
      unfold bdg
      split
      · rename_i c
        have := hl j c
        omega
      · omega
    have wr := fun j => wdg_r hk j
    have d6 := dig6 (br 0) (br 1) (br 2) (br 3) (br 4) (br 5) (wr 0) (wr 1) (wr 2) (wr 3) (wr 4) (wr 5) e
    have al : ∀ j, bdg B p len j = wdg k j := fun j => by
      by_cases c : j < 6
      · have cs : j = 0 ∨ j = 1 ∨ j = 2 ∨ j = 3 ∨ j = 4 ∨ j = 5 := by omega
        rcases cs with y | y | y | y | y | y <;> subst y
        · exact d6.1
        · exact d6.2.1
        · exact d6.2.2.1
        · exact d6.2.2.2.1
        · exact d6.2.2.2.2.1
        · exact d6.2.2.2.2.2
      · unfold bdg wdg
        rw [if_neg (by omega), if_neg (by omega)]
    have ln : len = wl k := by
      by_cases c1 : len < wl k
      · have z := al len
        unfold bdg wdg at z
        rw [if_neg (by omega), if_pos c1] at z
        have := w.2 len c1
        omega
      · by_cases c2 : wl k < len
        · have z := al (wl k)
          unfold bdg wdg at z
          rw [if_pos c2, if_neg (by omega)] at z
          have := hl (wl k) c2
          omega
        · omega
    refine ⟨ln, fun j hj => ?_⟩
    have z := al j
    unfold bdg wdg at z
    rw [if_pos (by omega), if_pos hj] at z
    omega
theorem fnd_no {f : Nat → Int} {x : Int} : ∀ (m i : Nat), (∀ k, i ≤ k → k < i + m → f k ≠ x) → fnd f x m i = -1
  | 0, _, _ => rfl
  | m + 1, i, hh => by
    unfold fnd
    rw [if_neg (hh i (by omega) (by omega))]
    exact fnd_no m (i + 1) (fun k a b => hh k (by omega) (by omega))
theorem rWd_y {B : Nat → Int} {p len k : Nat} (hk : k < 21) (hl : ∀ j, j < len → 97 ≤ B (p + j) ∧ B (p + j) ≤ 122) (m : wMt B p len k) : rWd (wVal B p len : Int) len = (k : Int) := by
  have a := wo_all.2.2 k hk
  obtain ⟨h6, e⟩ := (wMt_v hk hl).mp m
  unfold rWd
  rw [if_neg (by omega), e, a.2.2.2.2.2.2, if_neg (by omega)]
  exact a.2.2.2.2.2.1
theorem rWd_n {B : Nat → Int} {p len : Nat} (hl : ∀ j, j < len → 97 ≤ B (p + j) ∧ B (p + j) ≤ 122) (m : ∀ k, k < 21 → ¬ wMt B p len k) : rWd (wVal B p len : Int) len = -1 := by
  unfold rWd
  by_cases c : 6 < len
  · rw [if_pos c]
  · rw [if_neg c, fnd_no 21 0 (fun i _ hi z => ?_), if_pos rfl]
    obtain ⟨k, hk, e⟩ := wi_sur i (by omega)
    exact m k hk ((wMt_v hk hl).mpr ⟨by omega, by rw [e]; exact z.symm⟩)
theorem X10_word (hE : isR E) {B : Nat → Int} {n p e : Nat} (t : TxR h B n) (hpe : p < e) (hen : e ≤ n) (hl : ∀ j, j < e - p → 97 ≤ B (p + j) ∧ B (p + j) ≤ 122) (e46 : h 0 46 = (p : Int)) (e45 : h 0 45 = (e : Int)) {K : Int → zH → Prop} (hK : K (rWd (wVal B p (e - p) : Int) (e - p)) h) : zCI E mX10_word d [zR 0] h K := by
  have h9 := t.2.1
  have hZ : ∀ U : State, zSt E U U.heap → vk_R mX10_word.1.cls 196 zTtx (zTK E 0) U := fun U z => z.2.2.2.2.1
  have l106 : zTlen.getD 0 0 = 106 := rfl
  have ret : ∀ (k : Nat) (x2 x3 : zV), k < 21 → wMt B p (e - p) k → zG E mX10_word d 95 [zR 0, zI (k : Int), x2, x3] [] h (qI K) := by
    intro k x2 x3 hk m
    refine z_iload_n dX10_word_95 rfl ?_
    rw [rWd_y hk hl m] at hK
    exact z_iret dX10_word_96 rfl ⟨_, rfl, hK⟩
  have main : ∀ (mm k : Nat), k + mm = 21 → (∀ k', k' < k → ¬ wMt B p (e - p) k') → ∀ x3 : zV, (x3.1 == 1) = false → zG E mX10_word d 4 [zR 0, zI (k : Int), zI (wo k : Nat), x3] [] h (qI K) := by
    intro mm
    induction mm with
    | zero =>
      intro k hk no x3 h3
      have k21 : k = 21 := by omega
      subst k21
      refine z_iload_n dX10_word_4 rfl ?_
      refine z_ldcS dX10_word_5 hZ ?_
      refine z_slen dX10_word_7 (by omega) wt1338 (Nat.le_of_ble_eq_true rfl) ?_
      refine z_icmp_ge (tgt := 123) dX10_word_10 (by decide) (fun _ => ?_) (fun z => absurd (by rw [l106, wo_all.2.1]; omega) z)
      refine z_iconst dX10_word_123 (r32d rfl) ?_
      rw [rWd_n hl (fun k' hk' => no k' hk')] at hK
      exact z_iret dX10_word_124 rfl ⟨_, rfl, hK⟩
    | succ mm ih =>
      intro k hk no x3 h3
      have hk21 : k < 21 := by omega
      have a := wo_all.2.2 k hk21
      have w := wt_all k hk21
      have skip : ¬ wMt B p (e - p) k → ∀ (m2 i : Nat), i + m2 = wl k → ∀ x3' : zV, (x3'.1 == 1) = false → zG E mX10_word d 97 [zR 0, zI (k : Int), zI ((wo k + i : Nat) : Int), x3'] [] h (qI K) := by
        intro nm m2
        induction m2 with
        | zero =>
          intro i hi x3' h3'
          have ei : i = wl k := by omega
          subst ei
          refine z_ldcS dX10_word_97 hZ ?_
          refine z_iload_n dX10_word_99 rfl ?_
          refine z_schr dX10_word_100 (by omega) rfl (by rw [l106]; omega) wt1339 (Nat.le_of_ble_eq_true rfl) ?_
          refine z_bipush dX10_word_103 (r32d rfl) (by decide) ?_
          refine z_icmp_eq (tgt := 114) dX10_word_105 (by decide) (fun _ => ?_) (fun z => absurd w.1 z)
          refine z_iinc dX10_word_114 rfl (by decide) rfl ?_
          refine z_iinc dX10_word_117 rfl (by decide) rfl ?_
          refine z_goto (tgt := 4) dX10_word_120 (by decide) ?_
          rw [w_suc (i := wo k + wl k) (by omega), w_suc (i := k) (by omega)]
          have g := ih (k + 1) (by omega) (fun k' hk' => by
            by_cases y : k' = k
            · rw [y]; exact nm
            · exact no k' (by omega)) x3' h3'
          rw [a.1] at g
          exact g
        | succ m2 ih2 =>
          intro i hi x3' h3'
          refine z_ldcS dX10_word_97 hZ ?_
          refine z_iload_n dX10_word_99 rfl ?_
          refine z_schr dX10_word_100 (by omega) rfl (by rw [l106]; omega) wt1339 (Nat.le_of_ble_eq_true rfl) ?_
          refine z_bipush dX10_word_103 (r32d rfl) (by decide) ?_
          refine z_icmp_eq (tgt := 114) dX10_word_105 (by decide) (fun z => absurd z (by have := w.2 i (by omega); omega)) (fun _ => ?_)
          refine z_iinc dX10_word_108 rfl (by decide) rfl ?_
          refine z_goto (tgt := 97) dX10_word_111 (by decide) ?_
          rw [w_suc (i := wo k + i) (by omega)]
          exact ih2 (i + 1) (by omega) x3' h3'
      have inner : ∀ (m2 j : Nat), j + m2 = wl k → p + j ≤ e → (∀ j', j' < j → B (p + j') = tChZ 0 (wo k + j')) → zG E mX10_word d 15 [zR 0, zI (k : Int), zI (wo k : Nat), zI (j : Int)] [] h (qI K) := by
        intro m2
        induction m2 with
        | zero =>
          intro j hj hje eq
          have ej : j = wl k := by omega
          subst ej
          have ew : w32 ((wo k : Nat) + ((wl k : Nat) : Int)) = ((wo k + wl k : Nat) : Int) := by rw [w32i (by omega) (by omega)]; omega
          have ep : w32 ((p : Int) + ((wl k : Nat) : Int)) = ((p + wl k : Nat) : Int) := by rw [w32i (by omega) (by omega)]; omega
          refine z_ldcS dX10_word_15 hZ ?_
          refine z_iload_n dX10_word_17 rfl ?_
          refine z_iload_n dX10_word_18 rfl ?_
          refine z_iadd dX10_word_19 ?_
          refine z_schr dX10_word_20 (by omega) ew (by rw [l106]; omega) wt1339 (Nat.le_of_ble_eq_true rfl) ?_
          refine z_bipush dX10_word_23 (r32d rfl) (by decide) ?_
          refine z_icmp_eq (tgt := 69) dX10_word_25 (by decide) (fun _ => ?_) (fun z => absurd w.1 z)
          refine z_ldcS dX10_word_69 hZ ?_
          refine z_iload_n dX10_word_71 rfl ?_
          refine z_iload_n dX10_word_72 rfl ?_
          refine z_iadd dX10_word_73 ?_
          refine z_schr dX10_word_74 (by omega) ew (by rw [l106]; omega) wt1339 (Nat.le_of_ble_eq_true rfl) ?_
          refine z_bipush dX10_word_77 (r32d rfl) (by decide) ?_
          refine z_icmp_ne (tgt := 97) dX10_word_79 (by decide) (fun z => absurd w.1 z) (fun _ => ?_)
          refine z_aload_n dX10_word_82 rfl ?_
          refine gf_X10_169 dX10_word_83 rfl (sR_0 hE) (cR_0 hE) ?_
          refine z_iload_n dX10_word_86 rfl ?_
          refine z_iadd dX10_word_87 ?_
          refine z_aload_n dX10_word_88 rfl ?_
          refine gf_X10_159 dX10_word_89 rfl (sR_0 hE) (cR_0 hE) ?_
          rw [e46, e45, ep]
          refine z_icmp_ne (tgt := 97) dX10_word_92 (by decide) (fun z => ?_) (fun z => ?_)
          · exact skip (fun y => z (by have := y.1; omega)) (wl k) 0 (by omega) _ rfl
          · exact ret k _ _ hk21 ⟨by omega, eq⟩
        | succ m2 ih2 =>
          intro j hj hje eq
          have ew : w32 ((wo k : Nat) + (j : Int)) = ((wo k + j : Nat) : Int) := by rw [w32i (by omega) (by omega)]; omega
          have ep : w32 ((p : Int) + (j : Int)) = ((p + j : Nat) : Int) := by rw [w32i (by omega) (by omega)]; omega
          have wj := w.2 j (by omega)
          have out : ¬ wMt B p (e - p) k → zG E mX10_word d 69 [zR 0, zI (k : Int), zI (wo k : Nat), zI (j : Int)] [] h (qI K) := by
            intro nm
            refine z_ldcS dX10_word_69 hZ ?_
            refine z_iload_n dX10_word_71 rfl ?_
            refine z_iload_n dX10_word_72 rfl ?_
            refine z_iadd dX10_word_73 ?_
            refine z_schr dX10_word_74 (by omega) ew (by rw [l106]; omega) wt1339 (Nat.le_of_ble_eq_true rfl) ?_
            refine z_bipush dX10_word_77 (r32d rfl) (by decide) ?_
            refine z_icmp_ne (tgt := 97) dX10_word_79 (by decide) (fun _ => ?_) (fun z => absurd (Decidable.not_not.mp z) (by omega))
            exact skip nm (wl k) 0 (by omega) _ rfl
          refine z_ldcS dX10_word_15 hZ ?_
          refine z_iload_n dX10_word_17 rfl ?_
          refine z_iload_n dX10_word_18 rfl ?_
          refine z_iadd dX10_word_19 ?_
          refine z_schr dX10_word_20 (by omega) ew (by rw [l106]; omega) wt1339 (Nat.le_of_ble_eq_true rfl) ?_
          refine z_bipush dX10_word_23 (r32d rfl) (by decide) ?_
          refine z_icmp_eq (tgt := 69) dX10_word_25 (by decide) (fun z => absurd z (by omega)) (fun _ => ?_)
          refine z_aload_n dX10_word_28 rfl ?_
          refine gf_X10_169 dX10_word_29 rfl (sR_0 hE) (cR_0 hE) ?_
          refine z_iload_n dX10_word_32 rfl ?_
          refine z_iadd dX10_word_33 ?_
          refine z_aload_n dX10_word_34 rfl ?_
          refine gf_X10_159 dX10_word_35 rfl (sR_0 hE) (cR_0 hE) ?_
          rw [e46, e45, ep]
          refine z_icmp_ge (tgt := 69) dX10_word_38 (by decide) (fun z => out (fun y => by have := y.1; omega)) (fun z => ?_)
          refine z_aload_n dX10_word_41 rfl ?_
          refine gf_X10_9 dX10_word_42 rfl (sR_0 hE) (cR_0 hE) rfl ?_
          refine z_aload_n dX10_word_45 rfl ?_
          refine gf_X10_169 dX10_word_46 rfl (sR_0 hE) (cR_0 hE) ?_
          refine z_iload_n dX10_word_49 rfl ?_
          refine z_iadd dX10_word_50 ?_
          rw [e46, ep]
          refine z_iaload dX10_word_51 (sR_1 hE) (cR_1 hE) (by omega) (by omega) ?_
          rw [Int.toNat_natCast, (t.2.2 (p + j) (by omega)).1]
          refine z_ldcS dX10_word_52 hZ ?_
          refine z_iload_n dX10_word_54 rfl ?_
          refine z_iload_n dX10_word_55 rfl ?_
          refine z_iadd dX10_word_56 ?_
          refine z_schr dX10_word_57 (by omega) ew (by rw [l106]; omega) wt1339 (Nat.le_of_ble_eq_true rfl) ?_
          refine z_icmp_ne (tgt := 69) dX10_word_60 (by decide) (fun z2 => out (fun y => z2 (y.2 j (by omega)))) (fun z2 => ?_)
          have z2' := Decidable.not_not.mp z2
          refine z_iinc dX10_word_63 rfl (by decide) rfl ?_
          refine z_goto (tgt := 15) dX10_word_66 (by decide) ?_
          rw [w_suc (i := j) (by omega)]
          refine ih2 (j + 1) (by omega) (by omega) (fun j' hj' => ?_)
          by_cases y : j' = j
          · rw [y]; exact z2'
          · exact eq j' (by omega)
      refine z_iload_n dX10_word_4 rfl ?_
      refine z_ldcS dX10_word_5 hZ ?_
      refine z_slen dX10_word_7 (by omega) wt1338 (Nat.le_of_ble_eq_true rfl) ?_
      refine z_icmp_ge (tgt := 123) dX10_word_10 (by decide) (fun z => absurd z (by rw [l106]; omega)) (fun _ => ?_)
      refine z_iconst dX10_word_13 (r32d rfl) ?_
      refine z_istore_n dX10_word_14 rfl (by decide) rfl ?_
      exact inner (wl k) 0 (by omega) (by omega) (fun j' hj' => absurd hj' (Nat.not_lt_zero _))
  refine zC_in (L0 := [zR 0, zU, zU, zU]) pn_X10 rfl (Nat.le_of_ble_eq_true rfl) ?_
  refine z_iconst dX10_word_0 (r32d rfl) ?_
  refine z_istore_n dX10_word_1 rfl (by decide) rfl ?_
  refine z_iconst dX10_word_2 (r32d rfl) ?_
  refine z_istore_n dX10_word_3 rfl (by decide) rfl ?_
  exact main 21 0 (by omega) (fun k' hk' => absurd hk' (Nat.not_lt_zero _)) zU rfl
end TWordr
