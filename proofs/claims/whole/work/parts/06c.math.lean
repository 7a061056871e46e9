/-! ===== Math, knowledge forgotten, long comparisons ===== -/
section ZMath
variable {E : zE} {M : zM} {d pc : Nat} {L st : List zV} {h : zH} {Q : List zV → zH → Prop}
noncomputable def zabs (a : Int) : Int := if a < 0 then w32 (-a) else a
noncomputable def zabsJ (a : Int) : Int := if a < 0 then w64 (-a) else a
theorem zcats {st : List zV} (h8 : ((st.map (zrv E)).map fun v => v.category).sum ≤ 8) : ((st.map (zrv E)).map fun v => v.category).sum + 13 ≤ (zrm d).locals := by
  simp only [zrm]; omega

theorem z_mmax {ix : Nat} {a b : Int} (hd : decode M.2.1 pc = .ok (.invokestatic ix, 3)) (hlk : Cond.methodLink M.1.cls ix Lib.Math.max.name ∈ ztb) (hst : Cond.static Lib.Math.max.name ∈ ztb) (hini : Cond.initialized "java/lang/Math" ∈ ztb) (hcd : Cond.code Lib.Math.max.name Lib.Math.max.code 2 (some .int) ∈ ztb) (h8 : ((st.map (zrv E)).map fun v => v.category).sum ≤ 8) (k : zG E M d (pc + 3) L (zI (max a b) :: st) h Q) : zG E M d pc L (zI b :: zI a :: st) h Q := by
  intro oL oS oH p e s m args below meth c H ls locs C P S V
  have o1 := zokS_cons.mp oS
  have o2 := zokS_cons.mp o1.2
  have ra : r32 a := o2.1.1 rfl
  have rb : r32 b := o1.1.1 rfl
  have tb : ∀ w ∈ ztb, w.before args s = true := fun w hw => C.2.2.2.2.2.1 w (List.mem_cons_of_mem _ hw)
  have kk := k oL (zokS_cons.mpr ⟨zok_i (by unfold r32 at ra rb ⊢; omega), o2.2⟩) oH p e s m args below meth c H ls locs C P S V
  refine va_mmax (x := Int32.ofInt a) (y := Int32.ofInt b) C.1 C.2.1 (C.2.2.2.1.trans V.1.symm) C.2.2.2.2.1 (tb _ hlk) (tb _ hst) (tb _ hini) (tb _ hcd) (by simp [zrm]) (zcats h8) (Nat.zero_le _) (Nat.zero_le _) hd ?_
  have e1 : (if Int32.ofInt a < Int32.ofInt b then Int32.ofInt b else Int32.ofInt a) = Int32.ofInt (max a b) := by
    by_cases q : a < b
    · rw [if_pos ((i32_lt ra rb).mpr q), Int.max_eq_right (by omega)]
    · rw [if_neg (fun z => q ((i32_lt ra rb).mp z)), Int.max_eq_left (by omega)]
  rw [e1]
  exact kk

theorem z_mmin {ix : Nat} {a b : Int} (hd : decode M.2.1 pc = .ok (.invokestatic ix, 3)) (hlk : Cond.methodLink M.1.cls ix Lib.Math.min.name ∈ ztb) (hst : Cond.static Lib.Math.min.name ∈ ztb) (hini : Cond.initialized "java/lang/Math" ∈ ztb) (hcd : Cond.code Lib.Math.min.name Lib.Math.min.code 2 (some .int) ∈ ztb) (h8 : ((st.map (zrv E)).map fun v => v.category).sum ≤ 8) (k : zG E M d (pc + 3) L (zI (min a b) :: st) h Q) : zG E M d pc L (zI b :: zI a :: st) h Q := by
  intro oL oS oH p e s m args below meth c H ls locs C P S V
  have o1 := zokS_cons.mp oS
  have o2 := zokS_cons.mp o1.2
  have ra : r32 a := o2.1.1 rfl
  have rb : r32 b := o1.1.1 rfl
  have tb : ∀ w ∈ ztb, w.before args s = true := fun w hw => C.2.2.2.2.2.1 w (List.mem_cons_of_mem _ hw)
  have kk := k oL (zokS_cons.mpr ⟨zok_i (by unfold r32 at ra rb ⊢; omega), o2.2⟩) oH p e s m args below meth c H ls locs C P S V
  refine va_mmin (x := Int32.ofInt a) (y := Int32.ofInt b) C.1 C.2.1 (C.2.2.2.1.trans V.1.symm) C.2.2.2.2.1 (tb _ hlk) (tb _ hst) (tb _ hini) (tb _ hcd) (by simp [zrm]) (zcats h8) (Nat.zero_le _) (Nat.zero_le _) hd ?_
  have e1 : (if Int32.ofInt b < Int32.ofInt a then Int32.ofInt b else Int32.ofInt a) = Int32.ofInt (min a b) := by
    by_cases q : b < a
    · rw [if_pos ((i32_lt rb ra).mpr q), Int.min_eq_right (by omega)]
    · rw [if_neg (fun z => q ((i32_lt rb ra).mp z)), Int.min_eq_left (by omega)]
  rw [e1]
  exact kk

theorem z_mabs {ix : Nat} {a : Int} (hd : decode M.2.1 pc = .ok (.invokestatic ix, 3)) (hlk : Cond.methodLink M.1.cls ix Lib.Math.abs.name ∈ ztb) (hst : Cond.static Lib.Math.abs.name ∈ ztb) (hini : Cond.initialized "java/lang/Math" ∈ ztb) (hcd : Cond.code Lib.Math.abs.name Lib.Math.abs.code 1 (some .int) ∈ ztb) (h8 : ((st.map (zrv E)).map fun v => v.category).sum ≤ 8) (k : zG E M d (pc + 3) L (zI (zabs a) :: st) h Q) : zG E M d pc L (zI a :: st) h Q := by
  intro oL oS oH p e s m args below meth c H ls locs C P S V
  have o1 := zokS_cons.mp oS
  have ra : r32 a := o1.1.1 rfl
  have tb : ∀ w ∈ ztb, w.before args s = true := fun w hw => C.2.2.2.2.2.1 w (List.mem_cons_of_mem _ hw)
  have rz : r32 (zabs a) := by
    unfold zabs
    split
    · exact w32_r _
    · exact ra
  have kk := k oL (zokS_cons.mpr ⟨zok_i rz, o1.2⟩) oH p e s m args below meth c H ls locs C P S V
  refine va_mabs (x := Int32.ofInt a) C.1 C.2.1 (C.2.2.2.1.trans V.1.symm) C.2.2.2.2.1 (tb _ hlk) (tb _ hst) (tb _ hini) (tb _ hcd) (by simp [zrm]) (zcats h8) (Nat.zero_le _) (Nat.zero_le _) hd ?_
  have r0 : r32 0 := by unfold r32; omega
  have e1 : (if 0 ≤ Int32.ofInt a then Int32.ofInt a else 0 - Int32.ofInt a) = Int32.ofInt (zabs a) := by
    unfold zabs
    rw [show (0 : Int32) = Int32.ofInt 0 from rfl]
    by_cases q : a < 0
    · rw [if_pos q, if_neg (fun z => absurd ((i32_le r0 ra).mp z) (by omega)), i32_w, ← Int32.ofInt_sub, Int.zero_sub]
    · rw [if_neg q, if_pos ((i32_le r0 ra).mpr (by omega))]
  rw [e1]
  exact kk
theorem z_mabsJ {ix : Nat} {a : Int} (hd : decode M.2.1 pc = .ok (.invokestatic ix, 3)) (hlk : Cond.methodLink M.1.cls ix Lib.MathLoose.abs_long.x ∈ ztb) (hst : Cond.static Lib.MathLoose.abs_long.x ∈ ztb) (hini : Cond.initialized "java/lang/Math" ∈ ztb) (hcd : Cond.code Lib.MathLoose.abs_long.x Lib.MathLoose.abs_long.code 2 (some .long) ∈ ztb) (h8 : ((st.map (zrv E)).map fun v => v.category).sum ≤ 8) (k : zG E M d (pc + 3) L (zJ (zabsJ a) :: st) h Q) : zG E M d pc L (zJ a :: st) h Q := by
  intro oL oS oH p e s m args below meth c H ls locs C P S V
  have o1 := zokS_cons.mp oS
  have ra : r64 a := o1.1.2 rfl
  have tb : ∀ w ∈ ztb, w.before args s = true := fun w hw => C.2.2.2.2.2.1 w (List.mem_cons_of_mem _ hw)
  have rz : r64 (zabsJ a) := by
    unfold zabsJ
    split
    · exact w64_r _
    · exact ra
  have kk := k oL (zokS_cons.mpr ⟨zok_j rz, o1.2⟩) oH p e s m args below meth c H ls locs C P S V
  refine va_mabs_long (x := Int64.ofInt a) C.1 C.2.1 (C.2.2.2.1.trans V.1.symm) C.2.2.2.2.1 (tb _ hlk) (tb _ hst) (tb _ hini) (tb _ hcd) (by simp [zrm]) (zcats h8) (Nat.zero_le _) (Nat.zero_le _) hd ?_
  have r0 : r64 0 := by unfold r64; omega
  have e1 : (if 0 < Int64.ofInt a then Int64.ofInt a else - Int64.ofInt a) = Int64.ofInt (zabsJ a) := by
    unfold zabsJ
    rw [show (0 : Int64) = Int64.ofInt 0 from rfl]
    by_cases q : a < 0
    · rw [if_pos q, if_neg (fun z => absurd ((i64_lt r0 ra).mp z) (by omega)), i64_neg]
    · rw [if_neg q]
      by_cases q2 : 0 < a
      · rw [if_pos ((i64_lt r0 ra).mpr q2)]
      · have : a = 0 := by omega
        subst this
        decide +kernel
  rw [e1]
  exact kk
def zmask : List Bool → List zV → List zV
  | b :: bs, v :: L => (if b then v else zU) :: zmask bs L
  | _, _ => []
theorem zmask_at : ∀ (bs : List Bool) (L : List zV) (j : Nat) (w : zV), (zmask bs L)[j]? = some w → w.1 ≠ 9 → L[j]? = some w
  | [], _, _, _ => by simp [zmask]
  | _ :: _, [], _, _ => by simp [zmask]
  | b :: bs, v :: L, 0, w => by
    intro hw h9
    cases b
    · have : zU = w := by simpa [zmask] using hw
      subst this
      exact absurd rfl h9
    · simpa [zmask] using hw
  | b :: bs, v :: L, j + 1, w => by
    intro hw h9
    have := zmask_at bs L j w (by simpa [zmask] using hw) h9
    simpa using this
theorem z_forget {L' : List zV} (bs : List Bool) (hL : zmask bs L = L') (k : zG E M d pc L' st h Q) : zG E M d pc L st h Q := by
  intro oL oS oH p e s m args below meth c H ls locs C P S V
  subst hL
  refine k (fun v hv => ?_) oS oH p e s m args below meth c H ls locs C P S ⟨V.1, V.2.1, fun q hq => ?_⟩
  · obtain ⟨j, hj⟩ := List.getElem?_of_mem hv
    by_cases h9 : v.1 = 9
    · exact ⟨fun z => by omega, fun z => by omega⟩
    · exact zokS_at oL (zmask_at bs L j v hj h9)
  · obtain ⟨w, a1, a2, a3⟩ := zlv_mem.mp hq
    exact V.2.2 q (zlv_mem.mpr ⟨w, zmask_at bs L _ w a1 a2, a2, a3⟩)

theorem z_lc_eq {a b : Int} {off : Int} {tgt : Nat} (hd : decode M.2.1 pc = .ok (.lcmp, 1)) (hd2 : decode M.2.1 (pc + 1) = .ok (.ifCond .eq off, 3)) (ht : ((pc + 1 : Nat) : Int) + off = (tgt : Int)) (k : a = b → zG E M d tgt L st h Q) (k2 : ¬ (a = b) → zG E M d (pc + 1 + 3) L st h Q) : zG E M d pc L (zJ b :: zJ a :: st) h Q := by
  refine z_lcmp hd (z_if_eq hd2 ht (fun q => k ?_) (fun q => k2 ?_))
  · unfold zcmp at q
    by_cases h1 : a > b
    · simp only [h1, if_true] at q; first | omega | (exact absurd q (by decide))
    · by_cases h2 : a = b
      · simp only [h1, h2, if_true, if_false] at q; first | omega | (simp at q)
      · simp only [h1, h2, if_false] at q; first | omega | (exact absurd q (by decide))
  · unfold zcmp at q
    by_cases h1 : a > b
    · simp only [h1, if_true] at q; first | omega | (exact absurd q (by decide))
    · by_cases h2 : a = b
      · simp only [h1, h2, if_true, if_false] at q; first | omega | (simp at q)
      · simp only [h1, h2, if_false] at q; first | omega | (exact absurd q (by decide))

theorem z_lc_ne {a b : Int} {off : Int} {tgt : Nat} (hd : decode M.2.1 pc = .ok (.lcmp, 1)) (hd2 : decode M.2.1 (pc + 1) = .ok (.ifCond .ne off, 3)) (ht : ((pc + 1 : Nat) : Int) + off = (tgt : Int)) (k : a ≠ b → zG E M d tgt L st h Q) (k2 : ¬ (a ≠ b) → zG E M d (pc + 1 + 3) L st h Q) : zG E M d pc L (zJ b :: zJ a :: st) h Q := by
  refine z_lcmp hd (z_if_ne hd2 ht (fun q => k ?_) (fun q => k2 ?_))
  · unfold zcmp at q
    by_cases h1 : a > b
    · simp only [h1, if_true] at q; first | omega | (exact absurd q (by decide))
    · by_cases h2 : a = b
      · simp only [h1, h2, if_true, if_false] at q; first | omega | (simp at q)
      · simp only [h1, h2, if_false] at q; first | omega | (exact absurd q (by decide))
  · unfold zcmp at q
    by_cases h1 : a > b
    · simp only [h1, if_true] at q; first | omega | (exact absurd q (by decide))
    · by_cases h2 : a = b
      · simp only [h1, h2, if_true, if_false] at q; first | omega | (simp at q)
      · simp only [h1, h2, if_false] at q; first | omega | (exact absurd q (by decide))

theorem z_lc_lt {a b : Int} {off : Int} {tgt : Nat} (hd : decode M.2.1 pc = .ok (.lcmp, 1)) (hd2 : decode M.2.1 (pc + 1) = .ok (.ifCond .lt off, 3)) (ht : ((pc + 1 : Nat) : Int) + off = (tgt : Int)) (k : a < b → zG E M d tgt L st h Q) (k2 : ¬ (a < b) → zG E M d (pc + 1 + 3) L st h Q) : zG E M d pc L (zJ b :: zJ a :: st) h Q := by
  refine z_lcmp hd (z_if_lt hd2 ht (fun q => k ?_) (fun q => k2 ?_))
  · unfold zcmp at q
    by_cases h1 : a > b
    · simp only [h1, if_true] at q; first | omega | (exact absurd q (by decide))
    · by_cases h2 : a = b
      · simp only [h1, h2, if_true, if_false] at q; first | omega | (simp at q)
      · simp only [h1, h2, if_false] at q; first | omega | (exact absurd q (by decide))
  · unfold zcmp at q
    by_cases h1 : a > b
    · simp only [h1, if_true] at q; first | omega | (exact absurd q (by decide))
    · by_cases h2 : a = b
      · simp only [h1, h2, if_true, if_false] at q; first | omega | (simp at q)
      · simp only [h1, h2, if_false] at q; first | omega | (exact absurd q (by decide))

theorem z_lc_ge {a b : Int} {off : Int} {tgt : Nat} (hd : decode M.2.1 pc = .ok (.lcmp, 1)) (hd2 : decode M.2.1 (pc + 1) = .ok (.ifCond .ge off, 3)) (ht : ((pc + 1 : Nat) : Int) + off = (tgt : Int)) (k : b ≤ a → zG E M d tgt L st h Q) (k2 : ¬ (b ≤ a) → zG E M d (pc + 1 + 3) L st h Q) : zG E M d pc L (zJ b :: zJ a :: st) h Q := by
  refine z_lcmp hd (z_if_ge hd2 ht (fun q => k ?_) (fun q => k2 ?_))
  · unfold zcmp at q
    by_cases h1 : a > b
    · simp only [h1, if_true] at q; first | omega | (exact absurd q (by decide))
    · by_cases h2 : a = b
      · simp only [h1, h2, if_true, if_false] at q; first | omega | (simp at q)
      · simp only [h1, h2, if_false] at q; first | omega | (exact absurd q (by decide))
  · unfold zcmp at q
    by_cases h1 : a > b
    · simp only [h1, if_true] at q; first | omega | (exact absurd q (by decide))
    · by_cases h2 : a = b
      · simp only [h1, h2, if_true, if_false] at q; first | omega | (simp at q)
      · simp only [h1, h2, if_false] at q; first | omega | (exact absurd q (by decide))

theorem z_lc_gt {a b : Int} {off : Int} {tgt : Nat} (hd : decode M.2.1 pc = .ok (.lcmp, 1)) (hd2 : decode M.2.1 (pc + 1) = .ok (.ifCond .gt off, 3)) (ht : ((pc + 1 : Nat) : Int) + off = (tgt : Int)) (k : b < a → zG E M d tgt L st h Q) (k2 : ¬ (b < a) → zG E M d (pc + 1 + 3) L st h Q) : zG E M d pc L (zJ b :: zJ a :: st) h Q := by
  refine z_lcmp hd (z_if_gt hd2 ht (fun q => k ?_) (fun q => k2 ?_))
  · unfold zcmp at q
    by_cases h1 : a > b
    · simp only [h1, if_true] at q; first | omega | (exact absurd q (by decide))
    · by_cases h2 : a = b
      · simp only [h1, h2, if_true, if_false] at q; first | omega | (simp at q)
      · simp only [h1, h2, if_false] at q; first | omega | (exact absurd q (by decide))
  · unfold zcmp at q
    by_cases h1 : a > b
    · simp only [h1, if_true] at q; first | omega | (exact absurd q (by decide))
    · by_cases h2 : a = b
      · simp only [h1, h2, if_true, if_false] at q; first | omega | (simp at q)
      · simp only [h1, h2, if_false] at q; first | omega | (exact absurd q (by decide))

theorem z_lc_le {a b : Int} {off : Int} {tgt : Nat} (hd : decode M.2.1 pc = .ok (.lcmp, 1)) (hd2 : decode M.2.1 (pc + 1) = .ok (.ifCond .le off, 3)) (ht : ((pc + 1 : Nat) : Int) + off = (tgt : Int)) (k : a ≤ b → zG E M d tgt L st h Q) (k2 : ¬ (a ≤ b) → zG E M d (pc + 1 + 3) L st h Q) : zG E M d pc L (zJ b :: zJ a :: st) h Q := by
  refine z_lcmp hd (z_if_le hd2 ht (fun q => k ?_) (fun q => k2 ?_))
  · unfold zcmp at q
    by_cases h1 : a > b
    · simp only [h1, if_true] at q; first | omega | (exact absurd q (by decide))
    · by_cases h2 : a = b
      · simp only [h1, h2, if_true, if_false] at q; first | omega | (simp at q)
      · simp only [h1, h2, if_false] at q; first | omega | (exact absurd q (by decide))
  · unfold zcmp at q
    by_cases h1 : a > b
    · simp only [h1, if_true] at q; first | omega | (exact absurd q (by decide))
    · by_cases h2 : a = b
      · simp only [h1, h2, if_true, if_false] at q; first | omega | (simp at q)
      · simp only [h1, h2, if_false] at q; first | omega | (exact absurd q (by decide))

end ZMath
