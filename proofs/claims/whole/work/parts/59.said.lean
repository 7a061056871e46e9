/-! ===== topic: blind, lean, count ===== -/
section TSaid
variable {E : zE} {d : Nat} {h : zH} {S : zH} {K : Int → zH → Prop}
theorem X8_saidOf (hE : isC E) {b : Nat} (hb : isSu E b) {s f : Nat} (hs : s < 20) (hf : f < 4) (hK : K (h (b + 13) (4 * s + f)) h) : zCI E mX8_saidOf d [zR b, zI s, zI f] h K := by
  refine eX8_saidOf hE hb (fun x e => ?_)
  rw [w32i (x := (s : Int) * 4) (by omega) (by omega), w32i (by omega) (by omega)] at e
  rw [show (s : Int) * 4 + f = ((4 * s + f : Nat) : Int) by omega] at e
  rw [e, Int.toNat_natCast]
  exact ⟨fun c => absurd c (by omega), fun _ => ⟨fun c => absurd c (by omega), fun _ => ⟨nat_in (n := 80) (by omega), hK⟩⟩⟩
def blS (S : zH) (v wt : Int) : Nat → Int × Int
  | 0 => (0, 0)
  | s + 1 => if S 19 s = wt then ((blS S v wt s).1 + sOff (S 18 s) v, (blS S v wt s).2 + 1) else blS S v wt s
theorem blS_r {v wt : Int} (hv : 0 < v) (hv2 : v ≤ 9999) : ∀ n : Nat, (0 ≤ (blS S v wt n).1 ∧ (blS S v wt n).1 ≤ 5000 * n) ∧ 0 ≤ (blS S v wt n).2 ∧ (blS S v wt n).2 ≤ n
  | 0 => by unfold blS; dsimp only; omega
  | n + 1 => by
    have ih := blS_r (wt := wt) hv hv2 n
    have := sOff_r (S 18 n) hv
    unfold blS
    split
    · dsimp only
      omega
    · omega
def aBlind (S : zH) (u w : Int) : Int := if isU u ∧ 0 ≤ w ∧ w ≤ 3 then (if w % 2 = 0 then (blS S (sPart u (S 0 57)) (if w < 2 then 1 else 0) (S 0 26).toNat).1 else (blS S (sPart u (S 0 57)) (if w < 2 then 1 else 0) (S 0 26).toNat).2) else -1
theorem C_blind (hE : isC E) (i : IC S h) {u w : Int} (hK : ∀ h', IC S h' → K (aBlind S u w) h') : zCI E mX9_blind (d + 1) [zR 0, zI u, zI w] h K := by
  have k := hK h i
  obtain ⟨b, i⟩ := i
  have wn := i.wf.n
  unfold WfN at wn
  have su := su_b hE i.hb
  unfold aBlind at k
  refine eX9_blind hE su (X9_isUnit hE ⟨fun c => ?_, fun c => X9_isBeyond hE ⟨fun c2 => ?_, fun c2 => ?_⟩⟩)
  · rw [bI_0] at c
    rwa [if_neg (fun z => c z.1)] at k
  · rw [bI_n] at c
    rw [bI_0] at c2
    have hp := sPart_r (hv := S 0 57) c
    rw [if_pos ⟨c, by omega, by omega⟩] at k
    rw [i.hv]
    refine X9_placesOf hE (by omega) (by omega) ?_
    generalize sPart u (S 0 57) = v at hp k ⊢
    have em : w32 (Int.tmod w 2) = w % 2 := by rw [Int.tmod_eq_emod_of_nonneg (by omega), w32i (by omega) (by omega)]
    have loop : ∀ wt : Int, (wt = if w < 2 then 1 else 0) → ∀ (m s : Nat), s + m = (S 0 26).toNat → zG E mX9_blind (d + 1) 48 [zR 0, zU, zI w, zI v, zI wt, zI (blS S v wt s).1, zI (blS S v wt s).2, zI s] [] h (qI K) := by
      intro wt ewt m
      rw [← ewt] at k
      induction m with
      | zero =>
        intro s hs
        have e : s = (S 0 26).toNat := by omega
        rw [← e] at k
        refine bX9_blind_48 hE su ⟨i.tld, fun _ => ?_, fun c => absurd (by rw [i.sv.sy.1]; omega) c⟩
        rw [em]
        refine ⟨fun c3 => ?_, fun c3 => ?_⟩
        · rwa [if_neg c3] at k
        · rwa [if_pos (by omega)] at k
      | succ m ih =>
        intro s hs
        have nx := ih (s + 1) (by omega)
        have br := blS_r (S := S) (wt := wt) (v := v) (by omega) (by omega) s
        unfold blS at nx
        have sy := i.sv.sy.2 s (by omega)
        have wy := i.wf.y s (by omega)
        have o := sOff_r (S 18 s) (u := v) (by omega)
        refine bX9_blind_48 hE su ⟨i.tld, fun c => absurd c (by rw [i.sv.sy.1]; omega), fun _ => ⟨i.tld, X8_saidOf hE su (f := 3) (by omega) (by omega) ?_⟩⟩
        rw [sy.2.2.2]
        refine ⟨fun c3 y ey => ?_, fun c3 => ⟨i.tld, X8_saidOf hE su (f := 2) (by omega) (by omega) ?_⟩⟩
        · rw [w_suc (by omega)] at ey
          rw [ey]
          rw [if_neg c3] at nx
          exact nx
        · rw [sy.2.2.1]
          refine X9_offBy hE (by omega) (by omega) (by omega) (fun y1 e1 y2 e2 y3 e3 => ?_)
          rw [w_suc (by omega)] at e3
          rw [w32i (by omega) (by omega)] at e1 e2
          rw [e1, e2, e3]
          rw [if_pos (Decidable.not_not.mp c3)] at nx
          exact nx
    refine ⟨fun c3 => loop 0 (by rw [if_neg (by omega)]) _ 0 (Nat.zero_add _), fun c3 => loop 1 (by rw [if_pos (by omega)]) _ 0 (Nat.zero_add _)⟩
  · rw [bI_n] at c2
    rwa [if_neg (by omega)] at k
theorem R_blind (hE : isR E) (i : IR S h) {u w : Int} (hK : ∀ h', IR S h' → K (aBlind S u w) h') : zCI E mX10_blind (d + 1) [zR 0, zI u, zI w] h K := by
  refine eX10_blind hE (fun h1 e1 => ?_)
  have i1 := i.thr e1
  have k := hK h1 i1
  have wn := i.wf.n
  unfold WfN at wn
  unfold aBlind at k
  refine X10_isUnit hE ⟨fun c => ?_, fun c => ⟨fun c2 => ?_, fun c2 => ⟨fun c3 => ?_, fun c3 => ?_⟩⟩⟩
  · rw [bI_0] at c
    rwa [if_neg (fun z => c z.1)] at k
  · rwa [if_neg (by omega)] at k
  · rw [bI_n] at c
    have hp := sPart_r (hv := S 0 57) c
    rw [if_pos ⟨c, by omega, by omega⟩] at k
    have hv := i1.q.num (j := 57) (by omega)
    generalize hvv : sPart u (S 0 57) = v at hp k
    have em : w32 (Int.tmod w 2) = w % 2 := by rw [Int.tmod_eq_emod_of_nonneg (by omega), w32i (by omega) (by omega)]
    have ew1 : ¬ 2 ≤ w → (if w < 2 then (1 : Int) else 0) = 1 := fun z => if_pos (by omega)
    have ew0 : 2 ≤ w → (if w < 2 then (1 : Int) else 0) = 0 := fun z => if_neg (by omega)
    generalize (if w < 2 then (1 : Int) else 0) = wt at k ew1 ew0
    have loop : ∀ (m s : Nat), s + m = (S 0 26).toNat → zG E mX10_blind (d + 1) 31 [zR 0, zI u, zI w, zI (blS S v wt s).1, zI (blS S v wt s).2, zI s] [] h1 (qI K) := by
      intro m
      induction m with
      | zero =>
        intro s hs
        have e : s = (S 0 26).toNat := by omega
        rw [← e] at k
        refine bX10_blind_31 hE ⟨fun _ => ?_, fun c => absurd (by rw [i1.q.num (j := 26) (by omega)]; omega) c⟩
        rw [em]
        refine ⟨fun c3 => ?_, fun c3 => ?_⟩
        · rwa [if_neg c3] at k
        · rwa [if_pos (by omega)] at k
      | succ m ih =>
        intro s hs
        have nx := ih (s + 1) (by omega)
        have br := blS_r (S := S) (wt := wt) (v := v) (by omega) (by omega) s
        unfold blS at nx
        have wy := i.wf.y s (by omega)
        have o := sOff_r (S 18 s) (u := v) (by omega)
        have g57 : ∀ s0 : Int, s0 = wt → zG E mX10_blind (d + 1) 57 [zR 0, zI u, zI w, zI (blS S v wt s).1, zI (blS S v wt s).2, zI s] [zI s0, zI (S 19 s)] h1 (qI K) := by
          intro s0 es
          rw [es]
          refine bX10_blind_57 hE ⟨fun c4 => ⟨by omega, X10_part hE (by omega) (by omega) ?_⟩, fun c4 y ey => ?_⟩
          · rw [hv, hvv, Int.toNat_natCast, i1.q.row (c := 18) (by omega) (by omega)]
            refine X10_offBy hE (by omega) (by omega) (by omega) (fun y1 e1 y2 e2 y3 e3 => ?_)
            rw [w_suc (by omega)] at e3
            rw [w32i (by omega) (by omega)] at e1 e2
            rw [e1, e2, e3]
            rw [if_pos c4] at nx
            exact nx
          · rw [w_suc (by omega)] at ey
            rw [ey]
            rw [if_neg c4] at nx
            exact nx
        refine bX10_blind_31 hE ⟨fun c => absurd c (by rw [i1.q.num (j := 26) (by omega)]; omega), fun _ => ⟨by omega, ?_⟩⟩
        rw [Int.toNat_natCast, i1.q.row (c := 19) (by omega) (by omega)]
        exact ⟨fun c4 => g57 0 (ew0 c4).symm, fun c4 => g57 1 (ew1 c4).symm⟩
    exact loop _ 0 (Nat.zero_add _)
  · rwa [if_neg (by omega)] at k
/-! lean -/
def leS (S : zH) (m : Int) : Nat → Int × Int
  | 0 => (0, 0)
  | s + 1 => if S 16 s = m ∧ hasF S (S 17 s).toNat then ((leS S m s).1 + (S 18 s - szB (sLs S (sNk S) (S 17 s).toNat) (sG S) (sH S)), (leS S m s).2 + 1) else leS S m s
theorem leS_r (w : WfS S) {m : Int} : ∀ n : Nat, (n : Int) ≤ S 0 26 → (-1000000 * (n : Int) ≤ (leS S m n).1 ∧ (leS S m n).1 ≤ 1000000 * n) ∧ 0 ≤ (leS S m n).2 ∧ (leS S m n).2 ≤ n
  | 0, _ => by unfold leS; dsimp only; omega
  | n + 1, hn => by
    have ih := leS_r w (m := m) n (by omega)
    have wy := w.y n (by omega)
    unfold leS
    split
    · rename_i z
      have := szB_r w z.2
      dsimp only
      omega
    · omega
def aLean (S : zH) (m w : Int) : Int := if (0 ≤ m ∧ m < S 0 27) ∧ 0 ≤ w ∧ w ≤ 1 then aLT (leS S m (S 0 26).toNat).1 (leS S m (S 0 26).toNat).2 (if w = 0 then 1 else 0) else -2147483648
theorem aLT_r {a b w B : Int} (hB : 0 ≤ B) (ha1 : -B ≤ a) (ha2 : a ≤ B) (hb1 : -B ≤ b) (hb2 : b ≤ B) : -B ≤ aLT a b w ∧ aLT a b w ≤ B := by
  have ra := tdiv_r (y := (Nat.gcd a.natAbs b.natAbs : Int)) ha1 ha2
  have rb := tdiv_r (y := (Nat.gcd a.natAbs b.natAbs : Int)) hb1 hb2
  unfold aLT
  split
  · omega
  · split
    · exact rb
    · exact ra
theorem C_lean (hE : isC E) (i : IC S h) {m w : Int} (hK : ∀ h', IC S h' → K (aLean S m w) h') : zCI E mX9_lean (d + 5) [zR 0, zI m, zI w] h K := by
  have k := hK h i
  obtain ⟨b, i⟩ := i
  have wn := i.wf.n
  unfold WfN at wn
  have su := su_b hE i.hb
  unfold aLean at k hK
  refine eX9_lean (d := d + 4) hE su ⟨i.tld, ?_⟩
  rw [i.sv.me.1, w32i (by omega) (by omega)]
  refine X9_isBeyond hE ⟨fun c => ?_, fun c => X9_isBeyond hE ⟨fun c2 => ?_, fun c2 => ?_⟩⟩
  · rw [ne_eq, bI_n] at c
    rwa [if_neg (by omega)] at k
  · rw [ne_eq, bI_n] at c
    rw [bI_0] at c2
    rw [if_pos ⟨by omega, by omega, by omega⟩] at hK
    have loop : ∀ (n s : Nat), s + n = (S 0 26).toNat → ∀ h1 : zH, ICb S h1 b → zG E mX9_lean (d + 5) 40 [zR 0, zI m, zI w, zJ (leS S m s).1, zU, zJ (leS S m s).2, zU, zI s, zU] [] h1 (qI K) := by
      intro n
      induction n with
      | zero =>
        intro s hs h1 i1
        have e : s = (S 0 26).toNat := by omega
        have k1 := hK h1 i1.ic
        have lr := leS_r i.wf (m := m) s (by omega)
        rw [← e] at k1
        refine bX9_lean_40 (d := d + 4) hE su ⟨i1.tld, fun _ => ⟨fun c3 => X9_inLeastTerms hE (by omega) (by omega) (by omega) (by omega) ?_, fun c3 => X9_inLeastTerms hE (by omega) (by omega) (by omega) (by omega) ?_⟩, fun c => absurd (by rw [i1.sv.sy.1]; omega) c⟩
        · have ar := aLT_r (w := 0) (B := 100000000) (by omega) (show -100000000 ≤ (leS S m s).1 by omega) (by omega) (show -100000000 ≤ (leS S m s).2 by omega) (by omega)
          rw [w32i (by omega) (by omega)]
          rwa [if_neg c3] at k1
        · have ar := aLT_r (w := 1) (B := 100000000) (by omega) (show -100000000 ≤ (leS S m s).1 by omega) (by omega) (show -100000000 ≤ (leS S m s).2 by omega) (by omega)
          rw [w32i (by omega) (by omega)]
          rwa [if_pos (by omega)] at k1
      | succ n ih =>
        intro s hs h1 i1
        have nx := ih (s + 1) (by omega)
        have lr := leS_r i.wf (m := m) s (by omega)
        unfold leS at nx
        have sy := i1.sv.sy.2 s (by omega)
        have wy := i.wf.y s (by omega)
        refine bX9_lean_40 (d := d + 4) hE su ⟨i1.tld, fun c => absurd c (by rw [i1.sv.sy.1]; omega), fun _ => ⟨i1.tld, X8_saidOf hE su (f := 1) (by omega) (by omega) ?_⟩⟩
        rw [sy.2.1]
        have skip : ¬ (S 16 s = m ∧ hasF S (S 17 s).toNat) → ∀ h2 : zH, ICb S h2 b → ∀ y : Int, y = w32 ((s : Int) + 1) → zG E mX9_lean (d + 5) 40 [zR 0, zI m, zI w, zJ (leS S m s).1, zU, zJ (leS S m s).2, zU, zI y, zU] [] h2 (qI K) := by
          intro q h2 i2 y ey
          rw [w_suc (by omega)] at ey
          rw [ey]
          rw [if_neg q] at nx
          exact nx h2 i2
        refine X0_bestSize hE (fi_52 hE) i1.fw (fun nf => ⟨i1.tld, X8_saidOf hE su (f := 0) (by omega) (by omega) ?_⟩) (fun r er hr8 h3 h2 fr2 hw2 => ?_)
        · rw [show 4 * s + 0 = 4 * s from rfl, sy.1]
          have nf' : ¬ hasF S (S 17 s).toNat := fun z => nf ⟨by omega, by omega, z⟩
          exact ⟨fun c3 => skip (fun z => c3 z.1) h1 i1, fun c3 => ⟨fun _ => skip (fun z => nf' z.2) h1 i1, fun c4 => absurd rfl c4⟩⟩
        · have i2 := i1.mvQ fr2 hw2
          have sy2 := i2.sv.sy.2 s (by omega)
          have er' : (S 17 s).toNat = r := by omega
          have hf : hasF S (S 17 s).toNat := by rw [er']; exact h3
          have sz := szB_r i.wf hf
          rw [er'] at sz nx
          refine ⟨i2.tld, X8_saidOf hE su (f := 0) (by omega) (by omega) ?_⟩
          rw [show 4 * s + 0 = 4 * s from rfl, sy2.1]
          refine ⟨fun c3 => skip (fun z => c3 z.1) h2 i2, fun c3 => ⟨fun c4 => absurd c4 (by omega), fun _ => ⟨i2.tld, X8_saidOf hE su (f := 2) (by omega) (by omega) ?_⟩⟩⟩
          rw [sy2.2.2.1]
          intro y1 e1 y2 e2 y3 e3
          rw [w_suc (by omega)] at e3
          rw [w32i (by omega) (by omega), w64i (by omega) (by omega)] at e1
          rw [w64i (by omega) (by omega)] at e2
          rw [e1, e2, e3]
          rw [if_pos ⟨Decidable.not_not.mp c3, by rw [← er']; exact hf⟩] at nx
          exact nx h2 i2
    exact loop (S 0 26).toNat 0 (by omega) h i
  · rw [bI_n] at c2
    rwa [if_neg (by omega)] at k
theorem R_lean (hE : isR E) (i : IR S h) {m w : Int} (hK : ∀ h', IR S h' → K (aLean S m w) h') : zCI E mX10_lean (d + 6) [zR 0, zI m, zI w] h K := by
  refine eX10_lean (d := d + 5) hE (fun h1 e1 => ?_)
  have i1 := i.thr e1
  have k := hK h1 i1
  have wn := i.wf.n
  unfold WfN at wn
  unfold aLean at k hK
  rw [i1.q.num (j := 27) (by omega)]
  refine ⟨fun c => ?_, fun c => ⟨fun c2 => ?_, fun c2 => ⟨fun c3 => ?_, fun c3 => ⟨fun c4 => X10_laid hE i1 (fun h2 i2 => ?_), fun c4 => ?_⟩⟩⟩⟩
  · rwa [if_neg (by omega)] at k
  · rwa [if_neg (by omega)] at k
  · rwa [if_neg (by omega)] at k
  · have k2 := hK h2 i2.ir
    rw [if_pos ⟨by omega, by omega, by omega⟩] at k2
    have loop : ∀ (n s : Nat), s + n = (S 0 26).toNat → zG E mX10_lean (d + 6) 42 [zR 0, zI m, zI w, zJ (leS S m s).1, zU, zJ (leS S m s).2, zU, zI s, zU] [] h2 (qI K) := by
      intro n
      induction n with
      | zero =>
        intro s hs
        have e : s = (S 0 26).toNat := by omega
        have lr := leS_r i.wf (m := m) s (by omega)
        rw [← e] at k2
        unfold aLT at k2
        refine bX10_lean_42 (d := d + 5) hE ⟨fun _ => ⟨fun c5 => X10_common hE (by omega) (by omega) (by omega) (by omega) ?_, fun c5 => ?_⟩, fun c => absurd (by rw [i2.q.num (j := 26) (by omega)]; omega) c⟩
        · rw [if_neg c5] at k2
          have gp : 0 < Nat.gcd (leS S m s).1.natAbs (leS S m s).2.natAbs := Nat.gcd_pos_of_pos_right _ (by omega)
          have ra := tdiv_r (x := (leS S m s).1) (y := (Nat.gcd (leS S m s).1.natAbs (leS S m s).2.natAbs : Int)) (B := 100000000) (by omega) (by omega)
          have rb := tdiv_r (x := (leS S m s).2) (y := (Nat.gcd (leS S m s).1.natAbs (leS S m s).2.natAbs : Int)) (B := 100000000) (by omega) (by omega)
          generalize Nat.gcd (leS S m s).1.natAbs (leS S m s).2.natAbs = g at k2 gp ra rb ⊢
          refine ⟨fun c7 => ⟨by omega, ?_⟩, fun c7 => ⟨by omega, ?_⟩⟩
          · rw [w64i (by omega) (by omega), w32i (by omega) (by omega)]
            rw [if_neg c7] at k2
            rwa [if_pos rfl] at k2
          · rw [w64i (by omega) (by omega), w32i (by omega) (by omega)]
            rw [if_pos (show w = 0 by omega)] at k2
            rwa [if_neg (by decide)] at k2
        · rwa [if_pos (by omega)] at k2
      | succ n ih =>
        intro s hs
        have nx := ih (s + 1) (by omega)
        have lr := leS_r i.wf (m := m) s (by omega)
        unfold leS at nx
        have wy := i.wf.y s (by omega)
        have skip : ¬ (S 16 s = m ∧ hasF S (S 17 s).toNat) → ∀ y : Int, y = w32 ((s : Int) + 1) → zG E mX10_lean (d + 6) 42 [zR 0, zI m, zI w, zJ (leS S m s).1, zU, zJ (leS S m s).2, zU, zI y, zU] [] h2 (qI K) := by
          intro q y ey
          rw [w_suc (by omega)] at ey
          rw [ey]
          rw [if_neg q] at nx
          exact nx
        refine bX10_lean_42 (d := d + 5) hE ⟨fun c => absurd c (by rw [i2.q.num (j := 26) (by omega)]; omega), fun _ => ⟨by omega, ?_⟩⟩
        rw [Int.toNat_natCast, i2.q.row (c := 16) (by omega) (by omega), i2.q.row (c := 17) (by omega) (by omega)]
        refine ⟨fun c5 => skip (fun z => c5 z.1), fun c5 => ⟨by omega, ?_⟩⟩
        obtain ⟨r, hr⟩ : ∃ r : Nat, S 17 s = r := ⟨(S 17 s).toNat, by omega⟩
        rw [hr] at skip nx ⊢
        rw [Int.toNat_natCast] at skip nx
        have hrR : (r : Int) < S 0 24 := by omega
        refine X10_hasFit hE (i.wf.r8 hrR) (i2.sh r hrR) ⟨fun c6 => ⟨by omega, by omega, ?_⟩, fun c6 => skip (fun z => ?_)⟩
        · rw [ne_eq, bI_n] at c6
          have sz := szB_r i.wf (r := r) c6
          rw [i2.q.row (c := 17) (by omega) (by omega), i2.q.row (c := 18) (by omega) (by omega), hr]
          refine X10_sizeOf hE (i.wf.r8 hrR) (i2.sh r hrR) c6 (fun y1 e1 y2 e2 y3 e3 => ?_)
          rw [w_suc (by omega)] at e3
          rw [w32i (by omega) (by omega), w64i (by omega) (by omega)] at e1
          rw [w64i (by omega) (by omega)] at e2
          rw [e1, e2, e3]
          rw [if_pos ⟨Decidable.not_not.mp c5, c6⟩] at nx
          exact nx
        · rw [ne_eq, bI_n] at c6
          exact c6 z.2
    exact loop (S 0 26).toNat 0 (by omega)
  · rwa [if_neg (by omega)] at k
/-! count -/
def aCount (S : zH) (w : Int) : Int :=
  if w = 0 then S 0 23 else if w = 1 then S 0 24 else if w = 2 then S 0 25 else if w = 3 then S 0 26 else if w = 4 then S 0 27 else if w = 5 then S 0 54 else if w = 6 then (sNk S : Int) else if w = 7 then S 0 28 else if w = 8 then S 0 29 else if w = 9 then S 0 30 else if w = 10 then S 0 31 else if w = 11 then S 0 56 else if w = 12 then S 0 57 else if w = 13 then cntR (rk S (-1) (-1)) 8 else -1
theorem C_notesKnown (hE : isC E) {b : Nat} (i : ICb S h b) (hK : K (sNk S : Int) h) : zCI E mX9_notesKnown d [zR 0] h K := by
  have w := i.wf.n
  unfold WfN at w
  obtain ⟨a1, a2, a3, a4, a5, a6, a7, a8, a9, a10⟩ := i.ot
  unfold sNk at hK
  refine eX9_notesKnown hE ?_
  rw [a3, a8]
  refine ⟨fun c => ?_, fun c => ?_⟩
  · rw [if_neg c] at hK
    rwa [show (((S 0 55).toNat : Nat) : Int) = S 0 55 by omega] at hK
  · rw [if_pos (Decidable.not_not.mp c)] at hK
    rwa [show (((S 0 54).toNat : Nat) : Int) = S 0 54 by omega] at hK
theorem C_count2 (hE : isC E) (i : IC S h) {w : Int} (hK : ∀ h', IC S h' → K (aCount S w) h') : zCI E mX9_count (d + 2) [zR 0, zI w] h K := by
  have k := hK h i
  obtain ⟨b, i⟩ := i
  have wn := i.wf.n
  unfold WfN at wn
  have su := su_b hE i.hb
  obtain ⟨a1, a2, a3, a4, a5, a6, a7, a8, a9, a10⟩ := i.ot
  have ft : ((ftN (sLs S (sNk S)) 8 : Nat) : Int) = cntR (rk S (-1) (-1)) 8 := (ftN_cnt 8).resolve_right (fun z => z i.wf)
  unfold aCount at k
  refine eX9_count (d := d + 1) hE su ?_
  rw [i.sv.la.1, i.sv.ri.1, i.sv.wa.1, i.sv.sy.1, i.sv.me.1, a8, i.sv.ru.1, i.sv.gd, i.sv.sp, i.sv.sl, a4, a5]
  refine ⟨fun c => ⟨i.tld, ?_⟩, fun c => ⟨i.tld, ?_⟩, fun c => ⟨i.tld, ?_⟩, fun c => ⟨i.tld, ?_⟩, fun c => ⟨i.tld, ?_⟩, fun c => ?_, fun c => C_notesKnown hE i ?_, fun c => ⟨i.tld, ?_⟩, fun c => ⟨i.tld, ?_⟩, fun c => ⟨i.tld, ?_⟩, fun c => ⟨i.tld, ?_⟩, fun c => ?_, fun c => ⟨fun c2 => ?_, fun c2 => ?_⟩, fun c => X0_fittedRings hE (fi_52 hE) i.fi ?_, fun c => ?_⟩
  · subst c; exact k
  · subst c; exact k
  · subst c; exact k
  · subst c; exact k
  · subst c; exact k
  · subst c; exact k
  · subst c; exact k
  · subst c; exact k
  · subst c; exact k
  · subst c; exact k
  · subst c; exact k
  · subst c; exact k
  · subst c; change K (S 0 57) h at k; rwa [c2] at k
  · subst c; change K (S 0 57) h at k; rwa [show S 0 57 = 1 by omega] at k
  · subst c; rw [ft]; exact k
  · rwa [if_neg (by omega), if_neg (by omega), if_neg (by omega), if_neg (by omega), if_neg (by omega), if_neg (by omega), if_neg (by omega), if_neg (by omega), if_neg (by omega), if_neg (by omega), if_neg (by omega), if_neg (by omega), if_neg (by omega), if_neg (by omega)] at k
theorem R_count (hE : isR E) (i : IR S h) {w : Int} (hK : ∀ h', IR S h' → K (aCount S w) h') : zCI E mX10_count (d + 6) [zR 0, zI w] h K := by
  refine eX10_count (d := d + 5) hE (fun h1 e1 => ?_)
  have i1 := i.thr e1
  have k := hK h1 i1
  have wn := i.wf.n
  unfold WfN at wn
  unfold aCount at k hK
  have q := i1.q
  rw [q.num (j := 23) (by omega), q.num (j := 24) (by omega), q.num (j := 25) (by omega), q.num (j := 26) (by omega), q.num (j := 27) (by omega), q.num (j := 54) (by omega), q.num (j := 28) (by omega), q.num (j := 29) (by omega), q.num (j := 30) (by omega), q.num (j := 31) (by omega), q.num (j := 56) (by omega), q.num (j := 57) (by omega)]
  refine ⟨fun c => ?_, fun c => ?_, fun c => ?_, fun c => ?_, fun c => ?_, fun c => ?_, fun c => X10_knownNotes hE i1 ?_, fun c => ?_, fun c => ?_, fun c => ?_, fun c => ?_, fun c => ?_, fun c => ⟨fun c2 => ?_, fun c2 => ?_⟩, fun c => X10_laid hE i1 (fun h2 i2 => R_reckon hE i2 (fun h3 i3 q3 => R_many hE i3 (rkAt_rk q3) ?_)), fun c => ?_⟩
  · subst c; exact k
  · subst c; exact k
  · subst c; exact k
  · subst c; exact k
  · subst c; exact k
  · subst c; exact k
  · subst c; exact k
  · subst c; exact k
  · subst c; exact k
  · subst c; exact k
  · subst c; exact k
  · subst c; exact k
  · subst c; change K (S 0 57) h1 at k; rwa [c2] at k
  · subst c; change K (S 0 57) h1 at k; rwa [show S 0 57 = 1 by omega] at k
  · subst c; exact hK h3 i3.ir
  · rwa [if_neg (by omega), if_neg (by omega), if_neg (by omega), if_neg (by omega), if_neg (by omega), if_neg (by omega), if_neg (by omega), if_neg (by omega), if_neg (by omega), if_neg (by omega), if_neg (by omega), if_neg (by omega), if_neg (by omega), if_neg (by omega)] at k
end TSaid
