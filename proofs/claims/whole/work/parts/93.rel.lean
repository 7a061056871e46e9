/-! ===== topic: states alike in what they show ===== -/
section TRel
variable {S S' : zH}
theorem apS_c {st nk nw na nb : Nat → Int} {b b' : zTri} {s : Nat} (h1 : b'.1 s = b.1 s) (h2 : b'.2.1 s = b.2.1 s) (h3 : b'.2.2 s = b.2.2 s) : ∀ i, (apS st nk nw na nb b' i).1 s = (apS st nk nw na nb b i).1 s ∧ (apS st nk nw na nb b' i).2.1 s = (apS st nk nw na nb b i).2.1 s ∧ (apS st nk nw na nb b' i).2.2 s = (apS st nk nw na nb b i).2.2 s
  | 0 => ⟨h1, h2, h3⟩
  | i + 1 => by
    have ih := apS_c (st := st) (nk := nk) (nw := nw) (na := na) (nb := nb) h1 h2 h3 i
    unfold apS
    split
    · exact ih
    · split
      · refine ⟨ih.1, ih.2.1, ?_⟩
        unfold updN
        dsimp only
        split
        · rfl
        · exact ih.2.2
      · refine ⟨?_, ?_, ih.2.2⟩
        · unfold updN
          dsimp only
          split
          · rfl
          · exact ih.1
        · unfold updN
          dsimp only
          split
          · rfl
          · exact ih.2.1
theorem sdL_c {inc inc' : Nat → Bool} {vx vx' vy vy' : Nat → Int} : ∀ k, (∀ j, j < k → inc' j = inc j ∧ vx' j = vx j ∧ vy' j = vy j) → sdL inc' vx' vy' k = sdL inc vx vy k
  | 0, _ => rfl
  | k + 1, hh => by
    have ih := sdL_c (inc := inc) (inc' := inc') (vx := vx) (vx' := vx') (vy := vy) (vy' := vy') k (fun j hj => hh j (by omega))
    have z := hh k (by omega)
    unfold sdL
    rw [ih, z.1, z.2.1, z.2.2]
theorem rwR_c {ks ks' kv kv' : Nat → Int} : ∀ (m i n : Nat), (∀ j, i ≤ j → j < i + m → ks' j = ks j ∧ kv' j = kv j) → rwR ks kv m i n → rwR ks' kv' m i n
  | 0, _, _, _, w => w
  | m + 1, i, n, hh, w => by
    have ih := fun n' => rwR_c (ks := ks) (ks' := ks') (kv := kv) (kv' := kv') m (i + 1) n' (fun j a b => hh j (by omega) (by omega))
    have z := hh i (by omega) (by omega)
    unfold rwR at w ⊢
    rw [z.1, z.2]
    split
    · rename_i c
      rw [if_pos c] at w
      split
      · rename_i c2
        rw [if_pos c2] at w
        exact ⟨w.1, ih _ w.2⟩
      · rename_i c2
        rw [if_neg c2] at w
        exact ⟨w.1, w.2.1, ih _ w.2.2⟩
    · rename_i c
      rw [if_neg c] at w
      exact ⟨w.1, w.2.1, ih _ w.2.2⟩
/-- the told survey as T has it -/
def smU (T S' : zH) : Prop := (∀ j, 23 ≤ j → j ≤ 31 → S' 0 j = T 0 j) ∧ (∀ c j, 2 ≤ c → c ≤ 19 → j < hO c → S' c j = T c j) ∧ ∀ j : Nat, (j : Int) < T 0 28 → S' 20 j = T 20 j ∧ S' 21 j = T 21 j
def bdT (T : zH) : Prop := T 0 23 ≤ 4 ∧ T 0 24 ≤ 8 ∧ T 0 25 ≤ 5 ∧ T 0 26 ≤ 20 ∧ T 0 27 ≤ 6 ∧ ∀ r : Nat, (r : Int) < T 0 24 → T 5 r ≤ 10
theorem WfS.bt (w : WfS S) : bdT S := by
  have n := w.n
  have g := w.g
  unfold WfN at n
  exact ⟨by omega, by omega, by omega, by omega, by omega, fun r hr => (g.1 r hr).2.1⟩
theorem WfP.bt {T : zH} (w : WfP T) : bdT T := by
  have n := w.1
  exact ⟨by omega, by omega, by omega, by omega, by omega, fun r hr => (w.2.1 r hr).2.1⟩
theorem SvC.u {T h : zH} {b : Nat} (i : SvC T h b) (u : smU T S') (w : bdT T) : SvC S' h b := by
  have n := u.1
  have r := u.2.1
  obtain ⟨w23, w24, w25, w26, w27, w5⟩ := w
  have n23 := n 23 (by omega) (by omega)
  have n24 := n 24 (by omega) (by omega)
  have n25 := n 25 (by omega) (by omega)
  have n26 := n 26 (by omega) (by omega)
  have n27 := n 27 (by omega) (by omega)
  have n28 := n 28 (by omega) (by omega)
  refine ⟨⟨by rw [n23]; exact i.la.1, fun k hk => ?_⟩, ⟨by rw [n24]; exact i.ri.1, fun k hk => ?_⟩, ⟨by rw [n25]; exact i.wa.1, fun k hk => ?_⟩, ⟨by rw [n27]; exact i.me.1, fun k hk => ?_⟩, fun r' hr => ?_, fun w' hw => ?_, ⟨by rw [n26]; exact i.sy.1, fun s hs => ?_⟩, ⟨by rw [n28]; exact i.ru.1, by rw [n28]; exact i.ru.2.1, fun k hk => ?_⟩, by rw [n 29 (by omega) (by omega)]; exact i.gd, by rw [n 30 (by omega) (by omega)]; exact i.sp, by rw [n 31 (by omega) (by omega)]; exact i.sl⟩
  · rw [n23] at hk
    rw [r 2 k (by omega) (by omega) (show k < 4 by omega)]; exact i.la.2 k hk
  · rw [n24] at hk
    rw [r 3 k (by omega) (by omega) (show k < 8 by omega)]; exact i.ri.2 k hk
  · rw [n25] at hk
    rw [r 12 k (by omega) (by omega) (show k < 5 by omega)]; exact i.wa.2 k hk
  · rw [n27] at hk
    rw [r 15 k (by omega) (by omega) (show k < 6 by omega)]; exact i.me.2 k hk
  · rw [n24] at hr
    have z := i.rg r' hr
    have w5' := w5 r' hr
    rw [r 4 r' (by omega) (by omega) (show r' < 8 by omega), r 5 r' (by omega) (by omega) (show r' < 8 by omega)]
    refine ⟨z.1, z.2.1, fun k hk => ?_⟩
    have hk8 : 10 * r' + k < 80 := by omega
    rw [r 6 _ (by omega) (by omega) (show 10 * r' + k < 80 from hk8), r 7 _ (by omega) (by omega) (show 10 * r' + k < 80 from hk8), r 8 _ (by omega) (by omega) (show 10 * r' + k < 80 from hk8), r 9 _ (by omega) (by omega) (show 10 * r' + k < 80 from hk8), r 10 _ (by omega) (by omega) (show 10 * r' + k < 80 from hk8), r 11 _ (by omega) (by omega) (show 10 * r' + k < 80 from hk8)]
    exact z.2.2 k hk
  · rw [n25] at hw
    have z := i.wy w' hw
    rw [r 13 w' (by omega) (by omega) (show w' < 5 by omega)]
    refine ⟨z.1, fun j hj => ?_⟩
    rw [r 14 _ (by omega) (by omega) (show 6 * w' + j < 30 by omega)]
    exact z.2 j hj
  · rw [n26] at hs
    have z := i.sy.2 s hs
    rw [r 16 s (by omega) (by omega) (show s < 20 by omega), r 17 s (by omega) (by omega) (show s < 20 by omega), r 18 s (by omega) (by omega) (show s < 20 by omega), r 19 s (by omega) (by omega) (show s < 20 by omega)]
    exact z
  · rw [n28] at hk
    have z := u.2.2 k hk
    rw [z.1, z.2]
    exact i.ru.2.2 k hk
/-- the bounds of the stones -/
def stB (S : zH) : Prop := ∀ s : Nat, s < 80 → (-999 ≤ S 6 s ∧ S 6 s ≤ 999 ∧ -999 ≤ S 7 s ∧ S 7 s ≤ 999) ∧ (-99 ≤ S 8 s ∧ S 8 s ≤ 99 ∧ -99 ≤ S 9 s ∧ S 9 s ≤ 99) ∧ (S 10 s = 0 ∨ S 10 s = 1) ∧ (S 11 s = 0 ∨ S 11 s = 1)
theorem WfS_u {T : zH} (u : smU T S') (w : bdT T) (wn : WfN S') (st : stB S') (g : ∀ r : Nat, (r : Int) < T 0 24 → 0 ≤ T 5 r ∧ T 5 r ≤ 10 ∧ 0 ≤ T 4 r ∧ T 4 r < T 0 23) (ww : WfW T) (wy : WfY T) (wr : rlOk T) (wt : WfT S') (wb : WfB S') : WfS S' := by
  have n := u.1
  have r := u.2.1
  obtain ⟨w23, w24, w25, w26, w27, w5⟩ := w
  have n23 := n 23 (by omega) (by omega)
  have n24 := n 24 (by omega) (by omega)
  have n25 := n 25 (by omega) (by omega)
  have n26 := n 26 (by omega) (by omega)
  have n27 := n 27 (by omega) (by omega)
  have n28 := n 28 (by omega) (by omega)
  refine ⟨wn, ⟨fun r' hr => ?_, st⟩, fun w' hw => ?_, fun s hs => ?_, wt, ?_, wb⟩
  · rw [n24] at hr
    rw [r 4 r' (by omega) (by omega) (show r' < 8 by omega), r 5 r' (by omega) (by omega) (show r' < 8 by omega), n23]
    exact g r' hr
  · rw [n25] at hw
    have z := ww w' hw
    rw [r 13 w' (by omega) (by omega) (show w' < 5 by omega)]
    refine ⟨z.1, z.2.1, fun b hb => ?_⟩
    rw [r 14 _ (by omega) (by omega) (show 6 * w' + b < 30 by omega)]
    exact z.2.2 b hb
  · rw [n26] at hs
    have z := wy s hs
    rw [r 16 s (by omega) (by omega) (show s < 20 by omega), r 17 s (by omega) (by omega) (show s < 20 by omega), r 18 s (by omega) (by omega) (show s < 20 by omega), r 19 s (by omega) (by omega) (show s < 20 by omega), n24, n27]
    exact z
  · refine ⟨by rw [n28]; exact wr.1, by rw [n28]; exact wr.2.1, fun z => ?_⟩
    rw [n28] at z ⊢
    exact rwR_c _ 0 0 (fun j _ hj => u.2.2 j (by omega)) (wr.2.2 z)
/-- the same state but for the tape, the faults and what no one sees -/
def smH (S S' : zH) : Prop := smU S S' ∧ (∀ c j, 22 ≤ c → c ≤ 25 → S' c j = S c j) ∧ ∀ j, 54 ≤ j → j ≤ 57 → S' 0 j = S 0 j
theorem smH.n (m : smH S S') {j : Nat} (h1 : 23 ≤ j) (h2 : j ≤ 31) : S' 0 j = S 0 j := m.1.1 j h1 h2
theorem smH.r (m : smH S S') {c j : Nat} (h1 : 2 ≤ c) (h2 : c ≤ 19) (h3 : j < hO c) : S' c j = S c j := m.1.2.1 c j h1 h2 h3
theorem smH.n5 (m : smH S S') {j : Nat} (h1 : 54 ≤ j) (h2 : j ≤ 57) : S' 0 j = S 0 j := m.2.2 j h1 h2
theorem smH.row (m : smH S S') {c : Nat} (h1 : 22 ≤ c) (h2 : c ≤ 25) : S' c = S c := funext fun j => m.2.1 c j h1 h2
theorem smH.nk (m : smH S S') : sNk S' = sNk S := by
  unfold sNk
  rw [m.n5 (j := 54) (by omega) (by omega), m.n5 (j := 55) (by omega) (by omega)]
theorem smH.gh (m : smH S S') : sG S' = sG S ∧ sH S' = sH S := by
  unfold sG sH
  rw [m.n (j := 29) (by omega) (by omega), m.n (j := 30) (by omega) (by omega)]
  exact ⟨rfl, rfl⟩
theorem smH.tr3 (m : smH S S') (n : Nat) {s : Nat} (hs : s < 80) : (sTr S' n).1 s = (sTr S n).1 s ∧ (sTr S' n).2.1 s = (sTr S n).2.1 s ∧ (sTr S' n).2.2 s = (sTr S n).2.2 s := by
  unfold sTr
  rw [m.row (c := 22) (by omega) (by omega), m.row (c := 23) (by omega) (by omega), m.row (c := 24) (by omega) (by omega), m.row (c := 25) (by omega) (by omega)]
  exact apS_c (b := (S 6, S 7, S 11)) (b' := (S' 6, S' 7, S' 11)) (m.r (c := 6) (by omega) (by omega) hs) (m.r (c := 7) (by omega) (by omega) hs) (m.r (c := 11) (by omega) (by omega) hs) n
theorem smH.ls (m : smH S S') (w : WfS S) (n : Nat) {r : Nat} (hr : r < 8) : sLs S' n r = sLs S n r := by
  have wn := w.n
  unfold WfN at wn
  unfold sLs suL sPts
  dsimp only
  rw [m.n (j := 24) (by omega) (by omega), m.n5 (j := 56) (by omega) (by omega), m.r (c := 5) (j := r) (by omega) (by omega) (show r < 8 from hr)]
  refine sdL_c _ (fun j hj => ?_)
  have h8 : 10 * r + j < 80 := by
    split at hj
    · rename_i c
      have := (w.g.1 r (by omega)).2.1
      omega
    · omega
  have t := m.tr3 n h8
  unfold sInc sVx
  rw [t.1, t.2.1, t.2.2, m.r (c := 8) (by omega) (by omega) (show 10 * r + j < 80 from h8), m.r (c := 9) (by omega) (by omega) (show 10 * r + j < 80 from h8), m.r (c := 10) (by omega) (by omega) (show 10 * r + j < 80 from h8)]
  exact ⟨rfl, rfl, rfl⟩
theorem smH.wf (m : smH S S') (w : WfS S) (e2 : S' 0 2 = 0) : WfS S' := by
  have wn := w.n
  refine WfS_u m.1 w.bt ?_ (fun s hs => ?_) w.g.1 w.w w.y w.r ?_ (fun j hj => by omega)
  · unfold WfN at wn ⊢
    rw [e2, m.n (j := 23) (by omega) (by omega), m.n (j := 24) (by omega) (by omega), m.n (j := 25) (by omega) (by omega), m.n (j := 26) (by omega) (by omega), m.n (j := 27) (by omega) (by omega), m.n (j := 29) (by omega) (by omega), m.n (j := 30) (by omega) (by omega), m.n (j := 31) (by omega) (by omega), m.n5 (j := 54) (by omega) (by omega), m.n5 (j := 55) (by omega) (by omega), m.n5 (j := 56) (by omega) (by omega), m.n5 (j := 57) (by omega) (by omega)]
    omega
  · have z := w.g.2 s hs
    rw [m.r (c := 6) (by omega) (by omega) (show s < 80 from hs), m.r (c := 7) (by omega) (by omega) (show s < 80 from hs), m.r (c := 8) (by omega) (by omega) (show s < 80 from hs), m.r (c := 9) (by omega) (by omega) (show s < 80 from hs), m.r (c := 10) (by omega) (by omega) (show s < 80 from hs), m.r (c := 11) (by omega) (by omega) (show s < 80 from hs)]
    exact z
  · have z := w.t
    unfold WfT at z ⊢
    rw [m.n5 (j := 54) (by omega) (by omega), m.row (c := 22) (by omega) (by omega), m.row (c := 23) (by omega) (by omega), m.row (c := 24) (by omega) (by omega), m.row (c := 25) (by omega) (by omega)]
    exact z
/-- where reading begins -/
def tS (S : zH) : zH := fun c j => if c = 0 then (if j = 29 then 4 else if j = 30 then 6 else if j = 31 then 300 else 0) else S c (hO c + j)
theorem tS_0 {j : Nat} (hj : ¬ (29 ≤ j ∧ j ≤ 31)) : tS S 0 j = 0 := by
  unfold tS
  rw [if_pos rfl, if_neg (by omega), if_neg (by omega), if_neg (by omega)]
theorem tS_c {c j : Nat} (hc : c ≠ 0) : tS S c j = S c (hO c + j) := by
  unfold tS
  rw [if_neg hc]
theorem tS_w : WfP (tS S) := by
  have z : ∀ j, ¬ (29 ≤ j ∧ j ≤ 31) → tS S 0 j = 0 := fun j hj => tS_0 hj
  have e29 : tS S 0 29 = 4 := rfl
  have e30 : tS S 0 30 = 6 := rfl
  have e31 : tS S 0 31 = 300 := rfl
  have e23 := z 23 (by omega)
  have e24 := z 24 (by omega)
  have e25 := z 25 (by omega)
  have e26 := z 26 (by omega)
  have e27 := z 27 (by omega)
  have e28 := z 28 (by omega)
  have e32 := z 32 (by omega)
  have e33 := z 33 (by omega)
  refine ⟨by omega, fun r hr => ?_, fun w hw => ?_, fun s hs => ?_, ?_⟩
  · omega
  · omega
  · omega
  · exact ⟨by omega, by omega, fun q => absurd e28 q⟩
abbrev okTx (S : zH) (x : Int) : Prop := 0 ≤ x ∧ x ≤ S 0 2
def tRes (S : zH) (x : Int) : Sum pF (zH × Nat) := pTx (S 1) x.toNat (x.toNat + 1) (tS S) 0 0
def RelR (S S' : zH) (r : Sum pF (zH × Nat)) : Prop := match r with
  | .inl f => smH S S' ∧ S' 0 51 = f.1 ∧ S' 0 52 = (f.2 : Int)
  | .inr r => smU r.1 S' ∧ WfP r.1 ∧ S' 0 51 = 0 ∧ S' 0 52 = -1 ∧ S' 0 54 = 0 ∧ S' 0 55 = -1 ∧ ∀ c j, 22 ≤ c → c ≤ 25 → S' c j = S c j
def RelT (S : zH) (x : Int) (S' : zH) : Prop := if okTx S x then (WfS S' ∧ BdR S' ∧ S' 0 2 = 0 ∧ S' 0 56 = S 0 56 ∧ S' 0 57 = S 0 57) ∧ RelR S S' (tRes S x) else S' = S
def aRes (r : Sum pF (zH × Nat)) : Int := match r with
  | .inl _ => -1
  | .inr r => (r.2 : Int)
def aText (S : zH) (x : Int) : Int := if okTx S x then aRes (tRes S x) else -2
end TRel
