/-! ===== the law, from its entry ===== -/
section ZWhole
def gv1 : Cond := Jvm.Cond.and given_1 narrow_1
def tmS : Nat → Term := fun i => if i = 0 then .string RX10 zTix else .string RX1 zTix1
def fEl (i j : Nat) : Cond := Cond.eq (.elem (.field (tmS i) "java/lang/String" "value" "[B") (.int (Int32.ofNat j))) (.int ((zTbyt.getD i []).getD j 0))
theorem gx (i : Nat) (hi : i < 2) : Cond.exactly (tmS i) "java/lang/String" ∈ flatC gv1 := by
  rcases (show i = 0 ∨ i = 1 by omega) with e | e <;> subst e <;> decide +kernel
theorem gc (i : Nat) (hi : i < 2) : Cond.eq (.field (tmS i) "java/lang/String" "coder" "B") (.int 0) ∈ flatC gv1 := by
  rcases (show i = 0 ∨ i = 1 by omega) with e | e <;> subst e <;> decide +kernel
theorem ga (i : Nat) (hi : i < 2) : Cond.arrayOf (.field (tmS i) "java/lang/String" "value" "[B") .byte ∈ flatC gv1 := by
  rcases (show i = 0 ∨ i = 1 by omega) with e | e <;> subst e <;> decide +kernel
theorem gl (i : Nat) (hi : i < 2) : Cond.eq (.length (.field (tmS i) "java/lang/String" "value" "[B")) (.int (Int32.ofNat (zTlen.getD i 0))) ∈ flatC gv1 := by
  rcases (show i = 0 ∨ i = 1 by omega) with e | e <;> subst e <;> decide +kernel
theorem ge0 : ∀ j, j < 106 → fEl 0 j ∈ flatC gv1 := va_run (p := 192) (by decide +kernel)
theorem ge1 : ∀ j, j < 105 → fEl 1 j ∈ flatC gv1 := va_run (p := 39) (by decide +kernel)
theorem gn : Cond.not (Cond.eq (tmS 0) (tmS 1)) ∈ flatC gv1 ∨ Cond.not (Cond.eq (tmS 1) (tmS 0)) ∈ flatC gv1 := by decide +kernel
theorem gz1 : Cond.eq (.static RJ0 "COMPACT_STRINGS" "Z") (.int 1) ∈ flatC gv1 := by decide +kernel
theorem gz2 : Cond.isRef (.static RJ3 "SIOOBE_FORMATTER" "Ljava/util/function/BiFunction;") ∈ flatC gv1 := by decide +kernel
theorem gz3 : Cond.isRef (.static Bundle.tN "UNASSIGNED_STACK" Bundle.steD) ∈ flatC gv1 := by decide +kernel
theorem gz4 : Cond.isRef (.static Bundle.tN "SUPPRESSED_SENTINEL" Bundle.listD) ∈ flatC gv1 := by decide +kernel
theorem gk1 : Cond.not (.castable xNs xIo) ∈ flatC gv1 := by decide +kernel
theorem gs1 : Cond.exactly (.string RX9 123) "java/lang/String" ∈ flatC gv1 := by decide +kernel
theorem gs2 : Cond.exactly (.string RX9 130) "java/lang/String" ∈ flatC gv1 := by decide +kernel
theorem tl1 : Cond.laysStatic RJ0 "COMPACT_STRINGS" "Z" ∈ lw_tbl := by decide +kernel
theorem tl2 : Cond.laysStatic RJ3 "SIOOBE_FORMATTER" "Ljava/util/function/BiFunction;" ∈ lw_tbl := by decide +kernel
theorem tl3 : Cond.laysStatic Bundle.tN "UNASSIGNED_STACK" Bundle.steD ∈ lw_tbl := by decide +kernel
theorem tl4 : Cond.laysStatic Bundle.tN "SUPPRESSED_SENTINEL" Bundle.listD ∈ lw_tbl := by decide +kernel
theorem ti1 : Cond.initialized RJ0 ∈ lw_tbl := by decide +kernel
theorem ti2 : Cond.initialized RJ3 ∈ lw_tbl := by decide +kernel
theorem ti3 : Cond.initialized Bundle.tN ∈ lw_tbl := by decide +kernel
theorem tr1 : Cond.stringRef RX10 zTix zTtx ∈ lw_tbl := by decide +kernel
theorem tr2 : Cond.stringRef RX1 zTix1 zTtx1 ∈ lw_tbl := by decide +kernel
theorem tr3 : Cond.stringRef RX9 123 "no such ring or stone" ∈ lw_tbl := by decide +kernel
theorem tr4 : Cond.stringRef RX9 130 "no such what" ∈ lw_tbl := by decide +kernel
theorem tB : ∀ w ∈ lkB, w ∈ lw_tbl := by decide +kernel
end ZWhole
