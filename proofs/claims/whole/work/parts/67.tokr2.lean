/-! ===== topic: the reference's tokens: signs, numbers, all ===== -/
section TTokr2
variable {E : zE} {d : Nat} {h : zH}
def nuR (B : Nat → Int) (p : Nat) : Nat → Int
  | 0 => 0
  | k + 1 => if nuR B p k ≤ 99999 then 10 * nuR B p k + B (p + k) - 48 else nuR B p k
theorem nuR_r {B : Nat → Int} {p : Nat} : ∀ k, (∀ j, j < k → 48 ≤ B (p + j) ∧ B (p + j) ≤ 57) → (0 ≤ nuR B p k ∧ nuR B p k ≤ 999999) ∧ (nuR B p k = nuV B p k ∨ (99999 < nuR B p k ∧ 99999 < nuV B p k))
  | 0, _ => by unfold nuR nuV; omega
  | k + 1, hh => by
    have ih := nuR_r k (fun j hj => hh j (by omega))
    have := hh k (by omega)
    unfold nuR nuV
    split <;> omega
def frZ (h h' : zH) : Prop := ∀ c j, ¬ (c = 0 ∧ (j = 45 ∨ j = 47 ∨ j = 48)) → h' c j = h c j
theorem X10_sign (hE : isR E) {B : Nat → Int} {n p : Nat} (t : TxR h B n) (hp : p < n) (e45 : h 0 45 = (p : Int)) {c : Int} (hc : c = B p) {K : zH → Prop}
    (hK : ∀ h', frZ h h' → h' 0 45 = ((if sgK c (nxB B n (p + 1)) = 12 ∨ sgK c (nxB B n (p + 1)) = 14 ∨ sgK c (nxB B n (p + 1)) = 15 then p + 2 else p + 1 : Nat) : Int) → skR (sgK c (nxB B n (p + 1))) 0 (h' 0 47) (h' 0 48) → K h') : zCV E mX10_sign (d + 1) [zR 0, zI c] h K := by
  have h900 := t.2.1
  have hB := t.2.2 p hp
  refine eX10_sign hE (fun h1 e1 => ?_)
  rw [e45, w_suc (by omega)] at e1
  have q1 : h1 0 45 = ((p + 1 : Nat) : Int) := by rw [e1, hset_eq]
  have fr1 : frZ h h1 := fun c' j z => by rw [e1, hset_ne (by omega)]
  -- what stands behind
  have hr : ∀ v : Int, (v = 61 ∨ v = 62) → (hrB B n (p + 1) = v ↔ nxB B n (p + 1) = v) := by
    intro v hv
    unfold hrB nxB
    split
    · exact Iff.rfl
    · constructor <;> intro z <;> omega
  generalize hs : nxB B n (p + 1) = s0 at hK hr
  have r61 := hr 61 (Or.inl rfl)
  have r62 := hr 62 (Or.inr rfl)
  generalize hrB B n (p + 1) = r0 at hr r61 r62
  have her : ∀ (h2 : zH), frZ h h2 → h2 0 45 = ((p + 1 : Nat) : Int) → ∀ K2 : Int → zH → Prop, K2 (hrB B n (p + 1)) h2 → zCI E mX10_here d [zR 0] h2 K2 := by
    intro h2 fr2 e2 K2 k2
    exact X10_here hE ⟨by rw [fr2 _ _ (by omega)]; exact t.1, t.2.1, fun j hj => by rw [fr2 _ _ (by omega)]; exact t.2.2 j hj⟩ e2 k2
  have hrr : hrB B n (p + 1) = 61 ↔ s0 = 61 := by rw [← hs]; unfold hrB nxB; split <;> constructor <;> intro z <;> omega
  have hrr2 : hrB B n (p + 1) = 62 ↔ s0 = 62 := by rw [← hs]; unfold hrB nxB; split <;> constructor <;> intro z <;> omega
  -- the end
  have g150 : ∀ (s w : Int) (h2 : zH), frZ h h2 → h2 0 45 = ((p + 1 : Nat) : Int) → h2 0 47 = s → h2 0 48 = w → skR (sgK c s0) 0 s w → (256 ≤ w ↔ (sgK c s0 = 12 ∨ sgK c s0 = 14 ∨ sgK c s0 = 15)) → zG E mX10_sign (d + 1) 150 [zR 0, zU] [] h2 (qV K) := by
    intro s w h2 fr2 g45 g47 g48 sk iff
    refine bX10_sign_150 hE ?_
    rw [g48]
    refine ⟨fun z => ?_, fun z h3 e3 => ?_⟩
    · have nz : ¬ (sgK c s0 = 12 ∨ sgK c s0 = 14 ∨ sgK c s0 = 15) := fun q => absurd (iff.mpr q) (by omega)
      rw [if_neg nz] at hK
      exact hK h2 fr2 g45 (by rw [g47, g48]; exact sk)
    · have yz : sgK c s0 = 12 ∨ sgK c s0 = 14 ∨ sgK c s0 = 15 := iff.mp (by omega)
      rw [if_pos yz] at hK
      rw [g45, w_suc (by omega)] at e3
      exact hK h3 (fun c' j z => by rw [e3, hset_ne (by omega)]; exact fr2 c' j z) (by rw [e3, hset_eq]) (by rw [e3, hset_ne (by omega), hset_ne (by omega), g47, g48]; exact sk)
  -- from the sort on
  have g76 : ∀ s : Int, (s = if c = 59 ∨ c = 40 ∨ c = 41 ∨ c = 43 ∨ c = 45 ∨ c = 42 ∨ c = 47 ∨ c = 60 ∨ c = 61 ∨ c = 62 then 3 else 5) → zG E mX10_sign (d + 1) 76 [zR 0, zI c] [zI s, zR 0] h1 (qV K) := by
    intro s es
    refine bX10_sign_76 hE (fun h2 e2 h3 e3 => ?_)
    have q45 : h3 0 45 = ((p + 1 : Nat) : Int) := by rw [e3, hset_ne (by omega), e2, hset_ne (by omega)]; exact q1
    have q47 : h3 0 47 = s := by rw [e3, hset_ne (by omega), e2, hset_eq]
    have q48 : h3 0 48 = c := by rw [e3, hset_eq]
    have fr3 : frZ h h3 := fun c' j z => by rw [e3, hset_ne (by omega), e2, hset_ne (by omega)]; exact fr1 c' j z
    by_cases c60 : c = 60
    · have s3 : s = 3 := by rw [es, if_pos (by omega)]
      refine ⟨fun z => absurd c60 z, fun _ => her h3 fr3 q45 _ ⟨fun z => ?_, fun z h4 e4 => ?_⟩⟩
      · have n61 : ¬ s0 = 61 := fun q => z (hrr.mpr q)
        refine bX10_sign_106 hE ⟨fun z => absurd c60 z, fun _ => her h3 fr3 q45 _ ⟨fun z2 => ?_, fun z2 h4 e4 => ?_⟩⟩
        · have n62 : ¬ s0 = 62 := fun q => z2 (hrr2.mpr q)
          have ek : sgK c s0 = 11 := by rw [c60]; unfold sgK; rw [if_neg (by decide), if_neg (by decide), if_neg (by decide), if_neg (by decide), if_neg (by decide), if_neg (by decide), if_neg (by decide), if_pos rfl, if_neg n61, if_neg n62]
          exact bX10_sign_128 hE ⟨fun _ => g150 s c h3 fr3 q45 q47 q48 (by rw [ek, s3, c60]; unfold skR sgV; simp) (by rw [ek]; omega), fun z3 => absurd (by omega) z3⟩
        · have y62 : s0 = 62 := hrr2.mp (Decidable.not_not.mp z2)
          have ek : sgK c s0 = 14 := by rw [c60]; unfold sgK; rw [if_neg (by decide), if_neg (by decide), if_neg (by decide), if_neg (by decide), if_neg (by decide), if_neg (by decide), if_neg (by decide), if_pos rfl, if_neg n61, if_pos y62]
          exact bX10_sign_128 hE ⟨fun _ => g150 s 257 h4 (fun c' j z => by rw [e4, hset_ne (by omega)]; exact fr3 c' j z) (by rw [e4, hset_ne (by omega)]; exact q45) (by rw [e4, hset_ne (by omega)]; exact q47) (by rw [e4, hset_eq]) (by rw [ek, s3]; unfold skR sgV; simp) (by rw [ek]; omega), fun z3 => absurd (by omega) z3⟩
      · have y61 : s0 = 61 := hrr.mp (Decidable.not_not.mp z)
        have ek : sgK c s0 = 12 := by rw [c60]; unfold sgK; rw [if_neg (by decide), if_neg (by decide), if_neg (by decide), if_neg (by decide), if_neg (by decide), if_neg (by decide), if_neg (by decide), if_pos rfl, if_pos y61]
        have fr4 : frZ h h4 := fun c' j z => by rw [e4, hset_ne (by omega)]; exact fr3 c' j z
        have p45 : h4 0 45 = ((p + 1 : Nat) : Int) := by rw [e4, hset_ne (by omega)]; exact q45
        refine bX10_sign_106 hE ⟨fun z => absurd c60 z, fun _ => her h4 fr4 p45 _ ⟨fun z2 => ?_, fun z2 => absurd (hrr2.mp (Decidable.not_not.mp z2)) (by omega)⟩⟩
        exact bX10_sign_128 hE ⟨fun _ => g150 s 256 h4 fr4 p45 (by rw [e4, hset_ne (by omega)]; exact q47) (by rw [e4, hset_eq]) (by rw [ek, s3]; unfold skR sgV; simp) (by rw [ek]; omega), fun z3 => absurd (by omega) z3⟩
    · refine ⟨fun _ => bX10_sign_106 hE ⟨fun _ => ?_, fun z => absurd c60 z⟩, fun z => absurd c60 z⟩
      by_cases c62 : c = 62
      · have s3 : s = 3 := by rw [es, if_pos (by omega)]
        refine bX10_sign_128 hE ⟨fun z => absurd c62 z, fun _ => her h3 fr3 q45 _ ⟨fun z => ?_, fun z h4 e4 => ?_⟩⟩
        · have n61 : ¬ s0 = 61 := fun q => z (hrr.mpr q)
          have ek : sgK c s0 = 16 := by rw [c62]; unfold sgK; rw [if_neg (by decide), if_neg (by decide), if_neg (by decide), if_neg (by decide), if_neg (by decide), if_neg (by decide), if_neg (by decide), if_neg (by decide), if_neg (by decide), if_pos rfl, if_neg n61]
          exact g150 s c h3 fr3 q45 q47 q48 (by rw [ek, s3, c62]; unfold skR sgV; simp) (by rw [ek]; omega)
        · have y61 : s0 = 61 := hrr.mp (Decidable.not_not.mp z)
          have ek : sgK c s0 = 15 := by rw [c62]; unfold sgK; rw [if_neg (by decide), if_neg (by decide), if_neg (by decide), if_neg (by decide), if_neg (by decide), if_neg (by decide), if_neg (by decide), if_neg (by decide), if_neg (by decide), if_pos rfl, if_pos y61]
          exact g150 s 258 h4 (fun c' j z => by rw [e4, hset_ne (by omega)]; exact fr3 c' j z) (by rw [e4, hset_ne (by omega)]; exact q45) (by rw [e4, hset_ne (by omega)]; exact q47) (by rw [e4, hset_eq]) (by rw [ek, s3]; unfold skR sgV; simp) (by rw [ek]; omega)
      · refine bX10_sign_128 hE ⟨fun _ => ?_, fun z => absurd c62 z⟩
        have kk : (s = 5 ∧ sgK c s0 = 1) ∨ (s = 3 ∧ 4 ≤ sgK c s0 ∧ sgK c s0 ≤ 13 ∧ sgK c s0 ≠ 12 ∧ c = sgV (sgK c s0)) := by
          by_cases z : c = 59 ∨ c = 40 ∨ c = 41 ∨ c = 43 ∨ c = 45 ∨ c = 42 ∨ c = 47 ∨ c = 60 ∨ c = 61 ∨ c = 62
          · right
            rw [if_pos z] at es
            rcases z with z | z | z | z | z | z | z | z | z | z
            all_goals first
              | (exact absurd z c60)
              | (exact absurd z c62)
              | (subst z; exact ⟨es, by simp [sgK], by simp [sgK], by simp [sgK], by simp [sgK, sgV]⟩)
          · left
            rw [if_neg z] at es
            refine ⟨es, ?_⟩
            unfold sgK
            rw [if_neg (by omega), if_neg (by omega), if_neg (by omega), if_neg (by omega), if_neg (by omega), if_neg (by omega), if_neg (by omega), if_neg (by omega), if_neg (by omega), if_neg (by omega)]
        refine g150 s c h3 fr3 q45 q47 q48 ?_ ?_
        · rcases kk with ⟨a, b⟩ | ⟨a, b1, b2, b3, b4⟩
          · rw [a, b]; exact Or.inr (Or.inl ⟨rfl, rfl⟩)
          · exact Or.inr (Or.inr (Or.inr (Or.inr (Or.inl ⟨b1, by omega, a, b4⟩))))
        · omega
  have g71 : (c = 59 ∨ c = 40 ∨ c = 41 ∨ c = 43 ∨ c = 45 ∨ c = 42 ∨ c = 47 ∨ c = 60 ∨ c = 61 ∨ c = 62) → zG E mX10_sign (d + 1) 71 [zR 0, zI c] [zR 0] h1 (qV K) := fun z => bX10_sign_71 hE (g76 3 (by rw [if_pos z]))
  refine ⟨fun z => g71 (by omega), fun z1 => ⟨fun z => g71 (by omega), fun z2 => ⟨fun z => g71 (by omega), fun z3 => ⟨fun z => g71 (by omega), fun z4 => ⟨fun z => g71 (by omega), fun z5 => ⟨fun z => g71 (by omega), fun z6 => ⟨fun z => g71 (by omega), fun z7 => ⟨fun z => g71 (by omega), fun z8 => ⟨fun z => g71 (by omega), fun z9 => ⟨fun z => g76 5 (by rw [if_neg (by omega)]), fun z => g71 (by omega)⟩⟩⟩⟩⟩⟩⟩⟩⟩⟩
theorem wdK_sk {v : Int} {len : Nat} : (wdK v len = 1 ∧ rWd v len = -1 ∧ 6 < len) ∨ (wdK v len = 2 ∧ rWd v len = -1 ∧ len ≤ 6) ∨ (20 ≤ wdK v len ∧ wdK v len ≤ 40 ∧ rWd v len = rIx (wdK v len - 20) ∧ 0 ≤ rWd v len ∧ len ≤ 6) := by
  unfold wdK rWd
  by_cases z : 6 < len
  · left
    rw [if_pos z, if_pos z]
    exact ⟨rfl, rfl, z⟩
  · right
    rw [if_neg z, if_neg z]
    by_cases q : fnd wdL v 21 0 = -1
    · left
      rw [if_pos q, if_pos q]
      exact ⟨rfl, rfl, by omega⟩
    · right
      rw [if_neg q, if_neg q]
      have r := (fnd_r (f := wdL) (x := v) 21 0).resolve_left q
      generalize fnd wdL v 21 0 = k at r ⊢
      refine ⟨by omega, by omega, by rw [show 20 + k - 20 = k by omega], ?_, by omega⟩
      obtain ⟨j, rfl⟩ : ∃ j : Nat, k = j := ⟨k.toNat, by omega⟩
      have hj : j < 21 := by omega
      unfold rIx
      rw [Int.toNat_natCast]
      have : ∀ j : Nat, j < 21 → (0 : Int) ≤ ([0, 1, 7, 8, 9, 10, 2, 3, 4, 11, 5, 6, 12, 13, 14, 15, 16, 17, 18, 19, 20] : List Int).getD j 0 := by decide
      exact this j hj
theorem X10_token (hE : isR E) {B : Nat → Int} {n q : Nat} (t : TxR h B n) (hq : q ≤ n) (e45 : h 0 45 = (q : Int)) {K : zH → Prop} (hK : ∀ h', frY h h' → LxR h' B n q → K h') : zCV E mX10_token (d + 2) [zR 0] h K := by
  have h900 := t.2.1
  unfold LxR tkQ tkK tkV tkP at hK
  have sr := seB_r (P := isBl) (B := B) hq
  generalize he : seB isBl B n q = p at hK sr
  have loop : ∀ (m k : Nat), k + m = n → seB isBl B n k = p → ∀ h1 : zH, frY h h1 → h1 0 45 = (k : Int) → zG E mX10_token (d + 2) 0 [zR 0, zU] [] h1 (qV K) := by
    intro m
    have fin : ∀ h1 : zH, frY h h1 → h1 0 45 = (p : Int) → ¬ (p < n ∧ (B p = 32 ∨ B p = 10)) → zG E mX10_token (d + 2) 0 [zR 0, zU] [] h1 (qV K) := by
      intro h1 fr1 g45 nb
      have t1 := t.mv fr1
      have n10 : ¬ hrB B n p = 10 := by
        unfold hrB
        split
        · rename_i z; exact fun q => nb ⟨z, Or.inr q⟩
        · decide
      have n32 : ¬ hrB B n p = 32 := by
        unfold hrB
        split
        · rename_i z; exact fun q => nb ⟨z, Or.inl q⟩
        · decide
      refine bX10_token_0 (d := d + 1) hE (X10_here hE t1 g45 ⟨fun c => absurd c n10, fun _ => X10_here hE t1 g45 ⟨fun _ h6 e6 => ?_, fun c => absurd (Decidable.not_not.mp c) n32⟩⟩)
      rw [g45] at e6
      have q45 : h6 0 45 = (p : Int) := by rw [e6, hset_ne (by omega)]; exact g45
      have q46 : h6 0 46 = (p : Int) := by rw [e6, hset_eq]
      have fr6 : frY h h6 := by rw [e6]; exact fr1.set (by omega)
      have t6 := t.mv fr6
      refine X10_here hE t6 q45 ⟨fun c => ?_, fun c h16 e16 => ?_⟩
      · have hpn : p < n := by
          by_cases z : p < n
          · exact z
          · exact absurd (if_neg z) c
        have eh : hrB B n p = B p := if_pos hpn
        rw [eh]
        have np : ¬ n ≤ p := by omega
        unfold t4Q t4K t4V at hK
        rw [if_neg np, if_neg np, if_neg np] at hK
        refine X10_isSmall hE ⟨fun c2 => X10_isDigit hE ⟨fun c3 => ?_, fun c3 h14 e14 h15 e15 => ?_⟩, fun c2 => ?_⟩
        · rw [bI_0] at c2 c3
          have nl : ¬ isLe (B p) = true := by unfold isLe; rw [decide_eq_true_iff]; exact c2
          have nd : ¬ isDg (B p) = true := by unfold isDg; rw [decide_eq_true_iff]; exact c3
          rw [if_neg nl, if_neg nl, if_neg nl, if_neg nd, if_neg nd, if_neg nd] at hK
          refine X10_sign hE t6 hpn q45 rfl (fun h7 fr7 g1 g2 => hK h7 (fr6.tr (fun c j z => fr7 c j (by omega))) ⟨g1, by rw [fr7 _ _ (by omega)]; exact q46, g2⟩)
        · rw [bI_0] at c2
          rw [bI_n] at c3
          have nl : ¬ isLe (B p) = true := by unfold isLe; rw [decide_eq_true_iff]; exact c2
          have yd : isDg (B p) = true := by unfold isDg; exact decide_eq_true c3
          rw [if_neg nl, if_neg nl, if_neg nl, if_pos yd, if_pos yd, if_pos yd] at hK
          generalize hee : seB isDg B n p = e at hK
          have lp : ∀ (m k : Nat), p + k + m = n → seB isDg B n (p + k) = e → (∀ j, j < k → 48 ≤ B (p + j) ∧ B (p + j) ≤ 57) → ∀ h1 : zH, frY h h1 → h1 0 46 = (p : Int) → h1 0 45 = ((p + k : Nat) : Int) → h1 0 47 = 2 → h1 0 48 = nuR B p k → zG E mX10_token (d + 2) 162 [zR 0, zU] [] h1 (qV K) := by
            intro m
            have stop : ∀ (k : Nat), p + k ≤ n → e = p + k → (∀ j, j < k → 48 ≤ B (p + j) ∧ B (p + j) ≤ 57) → ∀ h1 : zH, frY h h1 → h1 0 46 = (p : Int) → h1 0 45 = ((p + k : Nat) : Int) → h1 0 47 = 2 → h1 0 48 = nuR B p k → K h1 := by
              intro k hk e0 hl h1 fr1 g46 g45 g47 g48
              have nr := nuR_r (B := B) (p := p) k hl
              have nv := nuV_r (B := B) (p := p) k (fun j hj => (hl j hj).1)
              refine hK h1 fr1 ⟨by rw [e0]; exact g45, g46, ?_⟩
              rw [g47, g48, e0, show p + k - p = k by omega]
              exact Or.inr (Or.inr (Or.inr (Or.inl ⟨rfl, rfl, nr.2, nr.1.1, nr.1.2, nv.1, nv.2⟩)))
            induction m with
            | zero =>
              intro k hk hs hl h1 fr1 g46 g45 g47 g48
              have t1 := t.mv fr1
              have e0 : e = p + k := by rw [← hs]; exact seB_no (by omega)
              have eh2 : hrB B n (p + k) = -1 := if_neg (by omega)
              refine bX10_token_162 (d := d + 1) hE (X10_here hE t1 g45 (X10_isDigit hE ⟨fun _ => stop k (by omega) e0 hl h1 fr1 g46 g45 g47 g48, fun c4 => ?_⟩))
              rw [bI_n, eh2] at c4
              exact absurd c4 (by decide)
            | succ m ih =>
              intro k hk hs hl h1 fr1 g46 g45 g47 g48
              have t1 := t.mv fr1
              have hB := t1.2.2 (p + k) (by omega)
              have eh2 : hrB B n (p + k) = B (p + k) := if_pos (by omega)
              have nr := nuR_r (B := B) (p := p) k hl
              refine bX10_token_162 (d := d + 1) hE (X10_here hE t1 g45 (X10_isDigit hE ⟨fun c4 => ?_, fun c4 => ?_⟩))
              · rw [bI_0, eh2] at c4
                have e0 : e = p + k := by
                  rw [← hs]
                  refine seB_no (fun z => c4 ?_)
                  have := z.2
                  unfold isDg at this
                  exact of_decide_eq_true this
                exact stop k (by omega) e0 hl h1 fr1 g46 g45 g47 g48
              · rw [bI_n, eh2] at c4
                have hs2 : seB isDg B n (p + (k + 1)) = e := by
                  rw [← hs]
                  exact (seB_go (p := p + k) (by omega) (by unfold isDg; exact decide_eq_true c4)).symm
                have hl2 : ∀ j, j < k + 1 → 48 ≤ B (p + j) ∧ B (p + j) ≤ 57 := fun j hj => by
                  by_cases z : j = k
                  · subst z; exact c4
                  · exact hl j (by omega)
                have ew : w32 (((p + k : Nat) : Int) + 1) = ((p + (k + 1) : Nat) : Int) := w_suc (by omega)
                have en : nuR B p (k + 1) = if nuR B p k ≤ 99999 then 10 * nuR B p k + B (p + k) - 48 else nuR B p k := rfl
                rw [g48]
                refine ⟨fun c5 => X10_here hE t1 g45 (fun h6' e6' h7 e7 => ?_), fun c5 h8 e8 h9 e9 => ?_⟩
                · rw [eh2, w32i (x := 10 * nuR B p k) (by omega) (by omega), w32i (x := 10 * nuR B p k + B (p + k)) (by omega) (by omega), w32i (by omega) (by omega)] at e6'
                  have z45 : h6' 0 45 = ((p + k : Nat) : Int) := by rw [e6', hset_ne (by omega)]; exact g45
                  rw [z45, ew] at e7
                  rw [if_pos c5] at en
                  exact ih (k + 1) (by omega) hs2 hl2 h7 (by rw [e7, e6']; exact (fr1.set (by omega)).set (by omega)) (by rw [e7, hset_ne (by omega), e6', hset_ne (by omega)]; exact g46) (by rw [e7, hset_eq]) (by rw [e7, hset_ne (by omega), e6', hset_ne (by omega)]; exact g47) (by rw [e7, hset_ne (by omega), e6', hset_eq, en])
                · have z45 : h8 0 45 = ((p + k : Nat) : Int) := by rw [e8, hset_ne (by omega)]; exact g45
                  rw [z45, ew] at e9
                  rw [if_neg c5] at en
                  exact ih (k + 1) (by omega) hs2 hl2 h9 (by rw [e9, e8]; exact (fr1.set (by omega)).set (by omega)) (by rw [e9, hset_ne (by omega), e8, hset_ne (by omega)]; exact g46) (by rw [e9, hset_eq]) (by rw [e9, hset_ne (by omega), e8, hset_ne (by omega)]; exact g47) (by rw [e9, hset_ne (by omega), e8, hset_eq, en])
          exact lp (n - p) 0 (by omega) hee (fun j hj => absurd hj (by omega)) h15 (by rw [e15, e14]; exact (fr6.set (by omega)).set (by omega)) (by rw [e15, hset_ne (by omega), e14, hset_ne (by omega)]; exact q46) (by rw [e15, hset_ne (by omega), e14, hset_ne (by omega)]; exact q45) (by rw [e15, hset_ne (by omega), e14, hset_eq]) (by rw [e15, hset_eq]; rfl)
        · rw [bI_n] at c2
          have yl : isLe (B p) = true := by unfold isLe; exact decide_eq_true c2
          rw [if_pos yl, if_pos yl, if_pos yl] at hK
          have sgo := seB_go (P := isLe) (B := B) hpn yl
          have ser := seB_r (P := isLe) (B := B) (show p + 1 ≤ n by omega)
          generalize hee : seB isLe B n p = e at hK sgo
          have fin2 : (∀ j, j < e - p → 97 ≤ B (p + j) ∧ B (p + j) ≤ 122) → ∀ h1 : zH, frY h h1 → h1 0 46 = (p : Int) → h1 0 45 = (e : Int) → ∀ K2 : zH → Prop, (∀ h', K h' → K2 h') → zCI E mX10_word (d + 1) [zR 0] h1 (fun r_4 h_4 => ∀ h_5 : zH, h_5 = hset h_4 0 48 r_4 → (((h_5 0 48) = (-1) → (((w32 ((h_5 0 45) - (h_5 0 46))) ≤ 6 → zG E mX10_token (d + 2) 127 [zR 0, zU] [zI 1, zR 0] h_5 (qV K)) ∧ (¬ ((w32 ((h_5 0 45) - (h_5 0 46))) ≤ 6) → zG E mX10_token (d + 2) 127 [zR 0, zU] [zI 5, zR 0] h_5 (qV K)))) ∧ (¬ ((h_5 0 48) = (-1)) → zG E mX10_token (d + 2) 127 [zR 0, zU] [zI 0, zR 0] h_5 (qV K)))) := by
            intro hl h1 fr1 g46 g45 K2 _
            have t1 := t.mv fr1
            refine X10_word hE t1 (by omega) (by omega) hl g46 g45 (fun h5 e5 => ?_)
            have z48 : h5 0 48 = rWd (wVal B p (e - p) : Int) (e - p) := by rw [e5, hset_eq]
            have z45 : h5 0 45 = (e : Int) := by rw [e5, hset_ne (by omega)]; exact g45
            have z46 : h5 0 46 = (p : Int) := by rw [e5, hset_ne (by omega)]; exact g46
            have fr5 : frY h h5 := by rw [e5]; exact fr1.set (by omega)
            have sk := wdK_sk (v := (wVal B p (e - p) : Int)) (len := e - p)
            rw [z48, z45, z46, w32i (by omega) (by omega)]
            refine ⟨fun c3 => ⟨fun c4 => ?_, fun c4 => ?_⟩, fun c3 => ?_⟩
            · refine bX10_token_127 (d := d + 1) hE (fun h7 e7 => ?_)
              have y47 : h7 0 47 = 1 := by rw [e7, hset_eq]
              have fr7 : frY h h7 := by rw [e7]; exact fr5.set (by omega)
              rw [y47]
              refine ⟨fun z => absurd rfl z, fun _ => X10_name hE (t.mv fr7) (show p ≤ e by omega) (by omega) (by omega) hl (by rw [e7, hset_ne (by omega)]; exact z46) (by rw [e7, hset_ne (by omega)]; exact z45) (fun h8 fr8 g8 => hK h8 (fun c j z => (fr8 c j (by omega)).trans (fr7 c j z)) ⟨?_, ?_, ?_⟩)⟩
              · rw [fr8 _ _ (by omega), e7, hset_ne (by omega)]; exact z45
              · rw [fr8 _ _ (by omega), e7, hset_ne (by omega)]; exact z46
              · rw [fr8 0 47 (by omega), y47, g8]
                have : wdK (wVal B p (e - p) : Int) (e - p) = 2 := by omega
                rw [this]
                exact Or.inr (Or.inr (Or.inl ⟨rfl, rfl, rfl⟩))
            · refine bX10_token_127 (d := d + 1) hE (fun h7 e7 => ?_)
              have y47 : h7 0 47 = 5 := by rw [e7, hset_eq]
              rw [y47]
              refine ⟨fun _ => hK h7 (by rw [e7]; exact fr5.set (by omega)) ⟨by rw [e7, hset_ne (by omega)]; exact z45, by rw [e7, hset_ne (by omega)]; exact z46, ?_⟩, fun z => absurd (by decide) z⟩
              have : wdK (wVal B p (e - p) : Int) (e - p) = 1 := by omega
              rw [y47, this]
              exact Or.inr (Or.inl ⟨rfl, rfl⟩)
            · refine bX10_token_127 (d := d + 1) hE (fun h7 e7 => ?_)
              have y47 : h7 0 47 = 0 := by rw [e7, hset_eq]
              rw [y47]
              refine ⟨fun _ => hK h7 (by rw [e7]; exact fr5.set (by omega)) ⟨by rw [e7, hset_ne (by omega)]; exact z45, by rw [e7, hset_ne (by omega)]; exact z46, ?_⟩, fun z => absurd (by decide) z⟩
              rw [y47, e7, hset_ne (by omega), z48]
              exact Or.inr (Or.inr (Or.inr (Or.inr (Or.inr (by omega)))))
          have lp : ∀ (m k : Nat), p + k + m = n → seB isLe B n (p + k) = e → (∀ j, j < k → 97 ≤ B (p + j) ∧ B (p + j) ≤ 122) → ∀ h1 : zH, frY h h1 → h1 0 46 = (p : Int) → h1 0 45 = ((p + k : Nat) : Int) → zG E mX10_token (d + 2) 64 [zR 0, zU] [] h1 (qV K) := by
            intro m
            induction m with
            | zero =>
              intro k hk hs hl h1 fr1 g46 g45
              have t1 := t.mv fr1
              have e0 : e = p + k := by rw [← hs]; exact seB_no (by omega)
              have eh2 : hrB B n (p + k) = -1 := if_neg (by omega)
              refine bX10_token_64 (d := d + 1) hE (X10_here hE t1 g45 (X10_isSmall hE ⟨fun _ => fin2 (fun j hj => hl j (by omega)) h1 fr1 g46 (by rw [e0]; exact g45) K (fun _ z => z), fun c4 => ?_⟩))
              rw [bI_n, eh2] at c4
              exact absurd c4 (by decide)
            | succ m ih =>
              intro k hk hs hl h1 fr1 g46 g45
              have t1 := t.mv fr1
              have eh2 : hrB B n (p + k) = B (p + k) := if_pos (by omega)
              refine bX10_token_64 (d := d + 1) hE (X10_here hE t1 g45 (X10_isSmall hE ⟨fun c4 => ?_, fun c4 h8 e8 => ?_⟩))
              · rw [bI_0, eh2] at c4
                have e0 : e = p + k := by
                  rw [← hs]
                  refine seB_no (fun z => c4 ?_)
                  have := z.2
                  unfold isLe at this
                  exact of_decide_eq_true this
                exact fin2 (fun j hj => hl j (by omega)) h1 fr1 g46 (by rw [e0]; exact g45) K (fun _ z => z)
              · rw [bI_n, eh2] at c4
                rw [g45, w_suc (by omega)] at e8
                refine ih (k + 1) (by omega) ?_ (fun j hj => ?_) h8 (by rw [e8]; exact fr1.set (by omega)) (by rw [e8, hset_ne (by omega)]; exact g46) (by rw [e8, hset_eq]; rfl)
                · rw [← hs]
                  exact (seB_go (p := p + k) (by omega) (by unfold isLe; exact decide_eq_true c4)).symm
                · by_cases z : j = k
                  · subst z; exact c4
                  · exact hl j (by omega)
          exact lp (n - p) 0 (by omega) hee (fun j hj => absurd hj (by omega)) h6 fr6 q46 q45
      · have hpn : n ≤ p := by
          by_cases z : p < n
          · exfalso
            have := (t1.2.2 p z).2.1
            have e9 : hrB B n p = B p := if_pos z
            omega
          · omega
        unfold t4Q t4K t4V at hK
        rw [if_pos hpn, if_pos hpn, if_pos hpn] at hK
        refine hK h16 (by rw [e16]; exact fr6.set (by omega)) ⟨by rw [e16, hset_ne (by omega)]; exact q45, by rw [e16, hset_ne (by omega)]; exact q46, ?_⟩
        rw [e16, hset_eq]
        exact Or.inl ⟨rfl, rfl⟩
    induction m with
    | zero =>
      intro k hk hs h1 fr1 g45
      have e0 : p = k := by rw [← hs]; exact seB_no (by omega)
      exact fin h1 fr1 (by rw [e0]; exact g45) (by omega)
    | succ m ih =>
      intro k hk hs h1 fr1 g45
      have t1 := t.mv fr1
      have eh : hrB B n k = B k := if_pos (by omega)
      by_cases z : B k = 32 ∨ B k = 10
      · have go : ∀ h2 : zH, h2 = hset h1 0 45 (w32 ((h1 0 45) + 1)) → zG E mX10_token (d + 2) 0 [zR 0, zU] [] h2 (qV K) := by
          intro h2 e2
          rw [g45, w_suc (by omega)] at e2
          refine ih (k + 1) (by omega) ?_ h2 (by rw [e2]; exact fr1.set (by omega)) (by rw [e2, hset_eq])
          rw [← hs]
          exact (seB_go (p := k) (by omega) (by unfold isBl; exact decide_eq_true z)).symm
        refine bX10_token_0 (d := d + 1) hE (X10_here hE t1 g45 ⟨fun _ => go, fun c => X10_here hE t1 g45 ⟨fun c2 => ?_, fun _ => go⟩⟩)
        rw [eh] at c c2
        exact absurd z (by omega)
      · have e0 : p = k := by
          rw [← hs]
          refine seB_no (fun y => z ?_)
          have := y.2
          unfold isBl at this
          exact of_decide_eq_true this
        exact fin h1 fr1 (by rw [e0]; exact g45) (by rw [e0]; exact fun y => z y.2)
  exact eX10_token (d := d + 1) hE (loop (n - q) q (by omega) he h (frY.rf h) e45)
end TTokr2
