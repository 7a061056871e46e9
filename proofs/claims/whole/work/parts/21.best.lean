/-! ===== topic: rows of sizes of the class; the best unit; both sides ===== -/
section TBest
variable {E : zE} {d : Nat} {h : zH} {K : Int → zH → Prop}
def cmpL (f : Nat → Int) : Nat → List Int
  | 0 => []
  | n + 1 => if f n = -1 then cmpL f n else cmpL f n ++ [f n]
def lumpS (u : Int) : List Int → Int
  | [] => 0
  | x :: l => sLump x u + lumpS u l
theorem lumpS_app (u : Int) : ∀ (a b : List Int), lumpS u (a ++ b) = lumpS u a + lumpS u b
  | [], b => by simp [lumpS]
  | x :: a, b => by
    have := lumpS_app u a b
    simp only [List.cons_append, lumpS]
    omega
theorem lumpS_cmp (f : Nat → Int) (u : Int) : ∀ n, lumpS u (cmpL f n) = lumpsR f u n
  | 0 => rfl
  | n + 1 => by
    have ih := lumpS_cmp f u n
    unfold cmpL lumpsR
    split
    · exact ih
    · rw [lumpS_app, ih]; simp [lumpS]
theorem cmpL_len (f : Nat → Int) : ∀ n, ((cmpL f n).length : Int) = cntR f n
  | 0 => rfl
  | n + 1 => by
    have ih := cmpL_len f n
    unfold cmpL cntR
    split
    · exact ih
    · simp; omega
theorem cmpL_le (f : Nat → Int) (n : Nat) : (cmpL f n).length ≤ n := by
  have h1 := cmpL_len f n
  have h2 := cntR_r f n
  omega
theorem cmpL_mem {f : Nat → Int} {x : Int} : ∀ {n : Nat}, x ∈ cmpL f n → ∃ r, r < n ∧ f r = x ∧ f r ≠ -1
  | 0, h => by cases h
  | n + 1, h => by
    unfold cmpL at h
    split at h
    · obtain ⟨r, a1, a2⟩ := cmpL_mem h
      exact ⟨r, by omega, a2⟩
    · rename_i hne
      rcases List.mem_append.mp h with q | q
      · obtain ⟨r, a1, a2⟩ := cmpL_mem q
        exact ⟨r, by omega, a2⟩
      · simp at q
        exact ⟨n, by omega, q.symm, hne⟩
theorem lumpS_r {u : Int} (hu : 0 < u) : ∀ l : List Int, 0 ≤ lumpS u l ∧ lumpS u l ≤ 2000 * l.length
  | [] => by simp [lumpS]
  | x :: l => by
    have ih := lumpS_r hu l
    have t := sLump_r x hu
    simp only [lumpS, List.length_cons]
    omega
/-- a Sizes object holds a list -/
def SizesAt (h : zH) (q : Nat) (l : List Int) : Prop := h q 1 = l.length ∧ l.length ≤ 8 ∧ ∀ i x, l[i]? = some x → h (q + 1) i = x
def szL (l : List Int) : Prop := ∀ x ∈ l, 0 ≤ x ∧ x < 1000000000
theorem szL_cmp {f : Nat → Int} (hf : szOk f) (n : Nat) : szL (cmpL f n) := by
  intro x hx
  obtain ⟨r, -, rfl, h2⟩ := cmpL_mem hx
  exact (hf r).resolve_left h2
theorem X7_sumOfLumps (hE : isC E) {q : Nat} (hq : isSi E q) {l : List Int} (hl : SizesAt h q l) (hz : szL l) {v : Int} (hv : 0 < v) (hv2 : v ≤ 9999) (hK : K (lumpS v l) h) : zCI E mX7_sumOfLumps (d + 1) [zR q, zI v] h K := by
  refine eX7_sumOfLumps hE hq ?_
  have loop : ∀ (rest pre : List Int) (acc : Int), l = pre ++ rest → 0 ≤ acc → acc ≤ 2000 * pre.length → acc + lumpS v rest = lumpS v l → zG E mX7_sumOfLumps (d + 1) 4 [zR q, zI v, zI acc, zI pre.length] [] h (qI K) := by
    intro rest
    induction rest with
    | nil =>
      intro pre acc e a0 a1 es
      simp [lumpS] at es
      simp at e
      subst e
      refine bX7_sumOfLumps_4 hE hq ⟨fun _ => ?_, fun c => absurd (by rw [hl.1]; omega) c⟩
      rw [es]; exact hK
    | cons x rest ih =>
      intro pre acc e a0 a1 es
      have hlen : pre.length + 1 ≤ l.length := by rw [e]; simp
      have h8 := hl.2.1
      have hx : l[pre.length]? = some x := by rw [e]; simp
      have hr : h (q + 1) pre.length = x := hl.2.2 _ _ hx
      have hxs := hz x (by rw [e]; simp)
      have ht : ((pre.length : Nat) : Int).toNat = pre.length := by simp
      refine bX7_sumOfLumps_4 hE hq ⟨fun c => by rw [hl.1] at c; omega, fun c => ⟨fun c2 => by omega, fun c2 => ⟨by omega, ?_⟩⟩⟩
      rw [ht, hr]
      have hl2 := sLump_r x hv
      have ho := sOff_r x hv
      unfold sLump at hl2
      refine X9_offBy hE hxs.1 hv hv2 ⟨by omega, fun x1 e1 x2 e2 => ?_⟩
      rw [w32i (x := 4000 * _) (by omega) (by omega), Int.tdiv_eq_ediv_of_nonneg (by omega), w32i (x := _ / v) (by omega) (by omega), w32i (by omega) (by omega)] at e1
      rw [w32i (by omega) (by omega)] at e2
      have := ih (pre ++ [x]) x1 (by rw [e]; simp) (by omega) (by simp; omega) (by simp only [lumpS, sLump] at es ⊢; omega)
      rw [e2]
      simpa using this
  exact loop l [] 0 rfl (by omega) (by simp) (by omega)
theorem X7_binOf (hE : isC E) {q : Nat} (hq : isSi E q) {l : List Int} (hl : SizesAt h q l) (hz : szL l) {v : Int} (hv : 0 < v) (hv2 : v ≤ 9999) {i : Nat} {x : Int} (hi : l[i]? = some x) (hK : K (min (12 * sOff x v / v) 5) h) : zCI E mX7_binOf (d + 1) [zR q, zI i, zI v] h K := by
  have h8 := hl.2.1
  have hil := (List.getElem?_eq_some_iff.mp hi).1
  have ht : (i : Int).toNat = i := by simp
  have ho := sOff_r x hv
  have hxs := hz x (List.mem_of_getElem? hi)
  refine eX7_binOf hE hq ⟨fun c => by omega, fun c => ⟨fun c2 => by omega, fun c2 => ⟨fun _ => ⟨by omega, ?_⟩, fun c3 => absurd hv c3⟩⟩⟩
  rw [ht, hl.2.2 _ _ hi]
  refine X9_offBy hE hxs.1 hv hv2 ⟨by omega, ?_⟩
  have hd0 : 0 ≤ 12 * sOff x v / v := Int.ediv_nonneg (by omega) (by omega)
  have hd1 := Int.ediv_le_self v (show 0 ≤ 12 * sOff x v by omega)
  rwa [w32i (x := 12 * _) (by omega) (by omega), Int.tdiv_eq_ediv_of_nonneg (by omega), w32i (x := _ / v) (by omega) (by omega)]
/-- the search: the best and its lumps behind i units -/
def bestG (L : Int → Int) (a c : Int) : Nat → Int × Int
  | 0 => (a, 2147483647)
  | i + 1 => if L (a + i * c) < (bestG L a c i).2 then (a + i * c, L (a + i * c)) else bestG L a c i
def bestH (L : Int → Int) (a c : Int) : Nat → Int × Int
  | 0 => (a, L a)
  | i + 1 => if L (a + i * c) < (bestH L a c i).2 then (a + i * c, L (a + i * c)) else bestH L a c i
def sBest (L : Int → Int) (a b c : Int) : Int := (bestG L a c (sMany a b c).toNat).1
theorem bestGH {L : Int → Int} {a c : Int} (hL : L a < 2147483647) : ∀ i : Nat, bestG L a c (i + 1) = bestH L a c (i + 1)
  | 0 => by simp [bestG, bestH, hL]
  | i + 1 => by
    have ih := bestGH (c := c) hL i
    rw [bestG, bestH, ih]
theorem bestG_congr {L L' : Int → Int} {a c : Int} : ∀ {n : Nat}, (∀ i : Nat, i < n → L (a + i * c) = L' (a + i * c)) → bestG L a c n = bestG L' a c n
  | 0, _ => rfl
  | n + 1, hh => by
    rw [bestG, bestG, hh n (by omega), bestG_congr (fun i hi => hh i (by omega))]
theorem unit_in {a b c : Int} (hu : areU a b c) {i : Nat} (hi : i < (sMany a b c).toNat) : 0 ≤ (i : Int) * c ∧ a + i * c ≤ b ∧ isU (a + i * c) := by
  obtain ⟨h1, h2, h3, h4⟩ := sMany_r hu
  have h5 : (i : Int) ≤ sMany a b c - 1 := by omega
  have h6 : (i : Int) * c ≤ (sMany a b c - 1) * c := Int.mul_le_mul_of_nonneg_right h5 (by omega)
  have h7 : 0 ≤ (i : Int) * c := Int.mul_nonneg (by omega) (by omega)
  refine ⟨h7, by omega, by omega, by omega⟩
theorem bestG_in {L : Int → Int} {a b c : Int} (hu : areU a b c) : ∀ n : Nat, n ≤ (sMany a b c).toNat → isU (bestG L a c n).1 ∧ (bestG L a c n).1 ≤ b
  | 0, _ => by simp only [bestG]; omega
  | n + 1, hn => by
    have ih := bestG_in (L := L) hu n (by omega)
    have := unit_in hu (i := n) (by omega)
    unfold bestG
    split
    · exact ⟨this.2.2, this.2.1⟩
    · exact ih
theorem sBest_in {L : Int → Int} {a b c : Int} (hu : areU a b c) : isU (sBest L a b c) := (bestG_in hu _ (Nat.le_refl _)).1
theorem X7_bestUnit (hE : isC E) {q : Nat} (hq : isSi E q) {l : List Int} (hl : SizesAt h q l) (hz : szL l) {a b c hv : Int} (hu : areU a b c) (hK : K (sBest (fun u => lumpS (sPart u hv) l) a b c) h) : zCI E mX7_bestUnit (d + 2) [zR q, zI a, zI b, zI c, zI hv] h K := by
  refine eX7_bestUnit (d := d + 1) hE hq (X9_unitsOf (d := d) hE ?_)
  rw [if_pos hu]
  have hm := sMany_r hu
  have hK2 : K (bestG (fun u => lumpS (sPart u hv) l) a c (sMany a b c).toNat).1 h := hK
  have hui := fun (i : Nat) (hi : i < (sMany a b c).toNat) => unit_in hu hi
  generalize hmm : sMany a b c = m at hm hK2 hui ⊢
  generalize hL : (fun u => lumpS (sPart u hv) l) = L at hK2
  have loop : ∀ (k i : Nat), i + k = m.toNat → zG E mX7_bestUnit (d + 2) 18 [zR q, zI a, zU, zI c, zI hv, zI (bestG L a c i).1, zI (bestG L a c i).2, zI m, zI i, zU, zU] [] h (qI K) := by
    intro k
    induction k with
    | zero =>
      intro i hi
      refine bX7_bestUnit_18 (d := d + 1) hE hq ⟨fun _ => ?_, fun cc => by omega⟩
      have : i = m.toNat := by omega
      rw [this]; exact hK2
    | succ k ih =>
      intro i hi
      have hi2 := hui i (by omega)
      have nx := ih (i + 1) (by omega)
      rw [bestG] at nx
      refine bX7_bestUnit_18 (d := d + 1) hE hq ⟨fun cc => by omega, fun cc x e => ?_⟩
      rw [w32i (x := (i : Int) * c) (by omega) (by omega), w32i (by omega) (by omega)] at e
      subst e
      have hp := sPart_r (hv := hv) hi2.2.2
      refine X9_placesOf hE (by omega) (by omega) (X7_sumOfLumps (d := d) hE hq hl hz (by omega) (by omega) ?_)
      have eL : lumpS (sPart (a + i * c) hv) l = L (a + i * c) := by rw [← hL]
      rw [eL]
      have ei : w32 ((i : Int) + 1) = ((i + 1 : Nat) : Int) := by rw [w32i (by omega) (by omega)]; omega
      refine ⟨fun c1 x1 e1 => ?_, fun c1 x1 e1 => ?_⟩
      · rw [ei] at e1; subst e1
        rwa [if_neg (by omega)] at nx
      · rw [ei] at e1; subst e1
        rwa [if_pos (by omega)] at nx
  have := loop m.toNat 0 (by omega)
  simpa [bestG] using this
theorem X7_lumpsOfBestUnit (hE : isC E) {q : Nat} (hq : isSi E q) {l : List Int} (hl : SizesAt h q l) (hz : szL l) {a b c hv : Int} (hu : areU a b c) (hK : K (lumpS (sPart (sBest (fun u => lumpS (sPart u hv) l) a b c) hv) l) h) : zCI E mX7_lumpsOfBestUnit (d + 3) [zR q, zI a, zI b, zI c, zI hv] h K := by
  have hb := sBest_in (L := fun u => lumpS (sPart u hv) l) hu
  have hp := sPart_r (hv := hv) hb
  refine eX7_lumpsOfBestUnit (d := d + 2) hE hq (X7_bestUnit hE hq hl hz hu (X9_placesOf hE (by omega) (by omega) (X7_sumOfLumps (d := d + 1) hE hq hl hz (by omega) (by omega) hK)))
theorem X10_bestOf (hE : isR E) {n : Nat} (hn : h 0 24 = n) (hn8 : n ≤ 8) (hz : szOk (h 39)) {a b c : Int} (hu : areU a b c) (hK : K (sBest (fun u => lumpsR (h 39) (sPart u (h 0 57)) n) a b c) h) : zCI E mX10_bestOf (d + 2) [zR 0, zI a, zI b, zI c] h K := by
  refine eX10_bestOf (d := d + 1) hE (X10_lumpsOf hE hu.1 hn hn8 hz ?_)
  have hm := sMany_r hu
  have hK2 : K (bestG (fun u => lumpsR (h 39) (sPart u (h 0 57)) n) a c (sMany a b c).toNat).1 h := hK
  have hui := fun (i : Nat) (hi : i < (sMany a b c).toNat) => unit_in hu hi
  have hLa : lumpsR (h 39) (sPart a (h 0 57)) n < 2147483647 := by
    have hp := sPart_r (hv := h 0 57) hu.1
    have := lumpsR_r (h 39) (u := sPart a (h 0 57)) (by omega) n
    omega
  generalize hmm : sMany a b c = m at hm hK2 hui ⊢
  generalize hL : (fun u => lumpsR (h 39) (sPart u (h 0 57)) n) = L at hK2
  have eL : ∀ u, lumpsR (h 39) (sPart u (h 0 57)) n = L u := fun u => by rw [← hL]
  rw [eL] at hLa ⊢
  obtain ⟨m', hm'⟩ : ∃ m' : Nat, m.toNat = m' + 1 := ⟨m.toNat - 1, by omega⟩
  rw [hm', bestGH hLa, ← hm'] at hK2
  have loop : ∀ (k i : Nat), i + k = m.toNat → zG E mX10_bestOf (d + 2) 13 [zR 0, zU, zI b, zI c, zI (bestH L a c i).1, zI (bestH L a c i).2, zI (a + i * c), zU] [] h (qI K) := by
    intro k
    induction k with
    | zero =>
      intro i hi
      have e1 : (i : Int) = m := by omega
      refine bX10_bestOf_13 (d := d + 1) hE ⟨fun _ => ?_, fun cc => ?_⟩
      · have : i = m.toNat := by omega
        rw [this]; exact hK2
      · rw [e1] at cc
        omega
    | succ k ih =>
      intro i hi
      have hi2 := hui i (by omega)
      have nx := ih (i + 1) (by omega)
      rw [bestH] at nx
      refine bX10_bestOf_13 (d := d + 1) hE ⟨fun cc => by omega, fun cc => X10_lumpsOf hE hi2.2.2 hn hn8 hz ?_⟩
      rw [eL]
      have ei : w32 (a + i * c + c) = a + ((i + 1 : Nat) : Int) * c := by
        rw [w32i (by omega) (by omega)]
        have : ((i + 1 : Nat) : Int) * c = i * c + c := by rw [Int.natCast_add, Int.add_mul]; simp
        omega
      refine ⟨fun c1 x1 e1 => ?_, fun c1 x1 e1 => ?_⟩
      · rw [ei] at e1; subst e1
        rwa [if_pos c1] at nx
      · rw [ei] at e1; subst e1
        rwa [if_neg c1] at nx
  have := loop m.toNat 0 (by omega)
  simpa [bestH] using this
end TBest
