/-! ===== Math.floorDiv: its body, walked; the call ===== -/
section ZFloor
variable {E : zE} {M : zM} {d pc : Nat} {L st : List zV} {h : zH} {Q : List zV → zH → Prop}
def fdV (a b : Int32) : Int32 := if a ^^^ b < 0 then (if a / b * b = a then a / b else a / b - 1) else a / b
def fdS (a b : Int32) : Spec := { pre := .and (.code yJ9_floorDiv_7cf53 cJ9_floorDiv_7cf53 3 (some .int)) (.and (.count 2) (.and (.and (.isInt (.arg 0)) (.isInt (.arg 1))) (.and (.eq (.arg 0) (.int a)) (.eq (.arg 1) (.int b))))), post := .and .returned (.eq .result (.int (fdV a b))), changes := some [] }
theorem fd_row0 : (NativeRow.find? natives yJ9_floorDiv_7cf53.cls yJ9_floorDiv_7cf53.name yJ9_floorDiv_7cf53.desc).isNone = true := by decide +kernel
theorem fd_row (p : Program) : NativeRow.find? p.tables.natives yJ9_floorDiv_7cf53.cls yJ9_floorDiv_7cf53.name yJ9_floorDiv_7cf53.desc = none := by
  cases p <;> exact Option.isNone_iff_eq_none.mp fd_row0
theorem fd_met (l : Launch) (a b : Int32) (hb0 : b ≠ 0) : MeetsLoose l yJ9_floorDiv_7cf53 (fdS a b) := by
  refine MeetsLoose.of_body_ov (code := cJ9_floorDiv_7cf53) (maxLocals := 3) (ret := some .int) fd_row ?_ ?_
  · intro args s h
    simp only [fdS, Cond.before_and, Bool.and_eq_true] at h
    exact h.1
  · intro p e s m args below meth c s₁ B
    have hpre := B.pre
    simp only [fdS, Cond.before_and, Bool.and_eq_true] at hpre
    obtain ⟨a', b', rfl⟩ := Cond.two_ints hpre.2.1 hpre.2.2.1.1 hpre.2.2.1.2
    have e1 : a' = a := by
      have := hpre.2.2.2.1
      simpa [Cond.before, Cond.holds, Cond.value, Term.eval] using this
    have e2 : b' = b := by
      have := hpre.2.2.2.2
      simpa [Cond.before, Cond.holds, Cond.value, Term.eval] using this
    subst e1
    subst e2
    have hloc : argsToLocals #[.int a', .int b'] 3 = #[.val (.int a'), .val (.int b'), .unset] := rfl
    have fin : ∀ r : Int32, (∀ fs, Steps p.tables e below (s₁.setTop (entryFrame m #[.int a', .int b'] 3)) (s₁.setFrames fs) ∨ handOver s₁ (some (.int r)) below ≠ some fs) →
        ((fdS a' b').post.after #[.int a', .int b'] s (.returned (some (.int r))) = fun _ => true) →
        ∃ s₂ o, Steps p.tables e below (s₁.setTop (entryFrame m #[.int a', .int b'] 3)) s₂ ∧ s₂.status = .running ∧ Ended s₂ below o ∧
          (fdS a' b').ensures #[.int a', .int b'] s o s₂ := by
      intro r hwalk hpost
      obtain ⟨fs, hfs⟩ := handOver_isSome (s := s₁) (some (.int r)) B.hears₁
      refine ⟨s₁.setFrames fs, .returned (some (.int r)), (hwalk fs).resolve_right (fun h => h hfs), B.here.running, B.ended hfs (by intro h; cases h), ?_, State.sameBut_nil.mpr ?_⟩
      · rw [hpost]
      · rw [State.frames_setFrames _ B.cur₁, B.back]
    refine fin (fdV a' b') (fun fs => ?_) (by funext s'; simp [fdS, Cond.after, Cond.holds, Cond.value, Term.eval])
    by_cases hfs : handOver s₁ (some (.int (fdV a' b'))) below = some fs
    · left
      unfold entryFrame; rw [hloc]
      refine Steps.instrAtOv (c := _) (by simpa using B.here) ?_
      simp [jvm, wpRun, exec, B.here.top, B.exec, B.bytes, dJ9_floorDiv_7cf53_0]
      refine Steps.instrAtOv (c := _) (by simpa using B.here) ?_
      simp [jvm, wpRun, exec, B.here.top, B.exec, B.bytes, dJ9_floorDiv_7cf53_1]
      refine Steps.instrAtOv (c := _) (by simpa using B.here) ?_
      simp [jvm, wpRun, exec, B.here.top, B.exec, B.bytes, dJ9_floorDiv_7cf53_2, hb0]
      refine Steps.instrAtOv (c := _) (by simpa using B.here) ?_
      simp [jvm, wpRun, exec, B.here.top, B.exec, B.bytes, dJ9_floorDiv_7cf53_3]
      refine ⟨#[.val (.int a'), .val (.int b'), .val (.int (a' / b'))], rfl, ?_⟩
      refine Steps.instrAtOv (c := _) (by simpa using B.here) ?_
      simp [jvm, wpRun, exec, B.here.top, B.exec, B.bytes, dJ9_floorDiv_7cf53_4]
      refine Steps.instrAtOv (c := _) (by simpa using B.here) ?_
      simp [jvm, wpRun, exec, B.here.top, B.exec, B.bytes, dJ9_floorDiv_7cf53_5]
      refine Steps.instrAtOv (c := _) (by simpa using B.here) ?_
      simp [jvm, wpRun, exec, B.here.top, B.exec, B.bytes, dJ9_floorDiv_7cf53_6]
      refine Steps.instrAtOv (c := _) (by simpa using B.here) ?_
      by_cases h1 : a' ^^^ b' < 0
      · have h1' : ¬ (0 ≤ a' ^^^ b') := Int32.not_le.mpr h1
        simp [jvm, wpRun, exec, B.here.top, B.exec, B.bytes, dJ9_floorDiv_7cf53_7, ifCond.holds, h1, h1']
        refine Steps.instrAtOv (c := _) (by simpa using B.here) ?_
        simp [jvm, wpRun, exec, B.here.top, B.exec, B.bytes, dJ9_floorDiv_7cf53_10]
        refine Steps.instrAtOv (c := _) (by simpa using B.here) ?_
        simp [jvm, wpRun, exec, B.here.top, B.exec, B.bytes, dJ9_floorDiv_7cf53_11]
        refine Steps.instrAtOv (c := _) (by simpa using B.here) ?_
        simp [jvm, wpRun, exec, B.here.top, B.exec, B.bytes, dJ9_floorDiv_7cf53_12]
        refine Steps.instrAtOv (c := _) (by simpa using B.here) ?_
        simp [jvm, wpRun, exec, B.here.top, B.exec, B.bytes, dJ9_floorDiv_7cf53_13]
        refine Steps.instrAtOv (c := _) (by simpa using B.here) ?_
        by_cases h2 : a' / b' * b' = a'
        · simp [jvm, wpRun, exec, B.here.top, B.exec, B.bytes, dJ9_floorDiv_7cf53_14, if_icmp.holds, h2]
          refine Steps.instrAtOv (c := _) (by simpa using B.here) ?_
          simp [jvm, wpRun, exec, B.here.top, B.exec, B.bytes, dJ9_floorDiv_7cf53_21]
          refine Steps.instrAtOv (c := _) (by simpa using B.here) ?_
          have e3 : fdV a' b' = a' / b' := by unfold fdV; rw [if_pos h1, if_pos h2]
          rw [e3] at hfs
          simp [jvm, wpRun, exec, B.here.top, B.exec, B.bytes, dJ9_floorDiv_7cf53_22, B.method₁, B.returns]
          intro acts
          rw [show ∀ z : Int32, narrow FieldType.int (Value.int z) = Value.int z from fun _ => rfl]
          rw [ret_to B.frames₁ B.method₁ B.notSynchronized rfl rfl hfs]
          exact Steps.refl _
        · simp [jvm, wpRun, exec, B.here.top, B.exec, B.bytes, dJ9_floorDiv_7cf53_14, if_icmp.holds, h2]
          refine Steps.instrAtOv (c := _) (by simpa using B.here) ?_
          simp [jvm, wpRun, exec, B.here.top, B.exec, B.bytes, dJ9_floorDiv_7cf53_17]
          refine Steps.instrAtOv (c := _) (by simpa using B.here) ?_
          simp [jvm, wpRun, exec, B.here.top, B.exec, B.bytes, dJ9_floorDiv_7cf53_18]
          refine Steps.instrAtOv (c := _) (by simpa using B.here) ?_
          simp [jvm, wpRun, exec, B.here.top, B.exec, B.bytes, dJ9_floorDiv_7cf53_19]
          refine Steps.instrAtOv (c := _) (by simpa using B.here) ?_
          have e3 : fdV a' b' = a' / b' - 1 := by unfold fdV; rw [if_pos h1, if_neg h2]
          rw [e3] at hfs
          simp [jvm, wpRun, exec, B.here.top, B.exec, B.bytes, dJ9_floorDiv_7cf53_20, B.method₁, B.returns]
          intro acts
          rw [show ∀ z : Int32, narrow FieldType.int (Value.int z) = Value.int z from fun _ => rfl]
          rw [ret_to B.frames₁ B.method₁ B.notSynchronized rfl rfl hfs]
          exact Steps.refl _
      · have h1' : 0 ≤ a' ^^^ b' := Int32.not_lt.mp h1
        simp [jvm, wpRun, exec, B.here.top, B.exec, B.bytes, dJ9_floorDiv_7cf53_7, ifCond.holds, h1, h1']
        refine Steps.instrAtOv (c := _) (by simpa using B.here) ?_
        simp [jvm, wpRun, exec, B.here.top, B.exec, B.bytes, dJ9_floorDiv_7cf53_21]
        refine Steps.instrAtOv (c := _) (by simpa using B.here) ?_
        have e3 : fdV a' b' = a' / b' := by unfold fdV; rw [if_neg h1]
        rw [e3] at hfs
        simp [jvm, wpRun, exec, B.here.top, B.exec, B.bytes, dJ9_floorDiv_7cf53_22, B.method₁, B.returns]
        intro acts
        rw [show ∀ z : Int32, narrow FieldType.int (Value.int z) = Value.int z from fun _ => rfl]
        rw [ret_to B.frames₁ B.method₁ B.notSynchronized rfl rfl hfs]
        exact Steps.refl _
    · exact Or.inr hfs
theorem fd_V {p : Program} {l : Launch} {e : Env} {R : Room} {s : State} {m : MethodId} {args : Array Value} {below : List Frame} {meth : Method} {c : Code} {T : State} {locs : List Loc} {cells slots : Nat} (X : Stand p l e R s m args below meth c T locs cells slots) (hexec : p.tables.exec = Jvm.exec) {own : String} {index : Nat} (hown : s.vm.findClass own = some m.cls)
    (hlink : (Cond.methodLink own index yJ9_floorDiv_7cf53).before args s = true) (hstat : (Cond.static yJ9_floorDiv_7cf53).before args s = true) (hinit : (Cond.initialized "java/lang/Math").before args s = true)
    (hcode : (Cond.code yJ9_floorDiv_7cf53 cJ9_floorDiv_7cf53 3 (some .int)).before args s = true)
    {g : JFrame} (hg : g.method = m) (hsize : g.locals.size = c.maxLocals) {a b : Int32} (hb0 : b ≠ 0) {rest : List Value} (hstack : g.stack = .int b :: .int a :: rest) (hdg : decode c.code g.pc = .ok (.invokestatic index, 3))
    (hframes : 1 ≤ R.frames) (hlocals : 2 * g.monitorRoom + (rest.map fun v => v.category).sum + 14 ≤ R.locals) (hcells : cells ≤ R.cells) (hslots : slots ≤ R.slots) :
    ∃ vm', Stand p l e R s m args below meth c (T.setVm vm') locs cells slots ∧
      ∀ target, Steps p.tables e below ((T.setVm vm').setTop { g with pc := g.pc + 3, stack := .int (fdV a b) :: rest }) target → Steps p.tables e below (T.setTop g) target := by
  obtain ⟨v, T', X', ⟨first, t, hpost⟩, hstep⟩ := X.staticByContractV hexec hown hlink hstat hinit hcode (by decide)
    (fd_met l a b hb0)
    rfl rfl rfl rfl
    (fun args' first o s₂ h => by
      cases o with
      | returned r => exact ⟨r, rfl⟩
      | threw y =>
        have hz : (fdS a b).post.value args' first (some (.threw y)) s₂ [] = some true := by simpa [Cond.after, Cond.holds] using h
        exact absurd hz va_nvRet)
    hg hsize (argsL := [.int a, .int b]) (rest := rest)
    (fun sig hs => by
      have h : parseMethodDescriptor "(II)I" = some { parameters := [.int, .int], returnType := some .int } := by decide +kernel
      rw [show yJ9_floorDiv_7cf53.desc = "(II)I" from rfl, h] at hs
      rw [← Option.some.inj hs]; rfl)
    hstack hdg
    (fun vm' hW => by
      simp only [fdS, Cond.before_and, Bool.and_eq_true]
      refine ⟨?_, rfl, ⟨rfl, rfl⟩, ?_, ?_⟩
      · have q := hcode
        rw [← Cond.code_setVm hW.alike] at q
        simp only [Cond.before, Cond.holds, Cond.value, State.methodNamed?, State.vm_setVm] at q ⊢
        exact q
      · simp [Cond.before, Cond.holds, Cond.value, Term.eval]
      · simp [Cond.before, Cond.holds, Cond.value, Term.eval])
    (by show 0 + 1 ≤ R.frames; omega) (by show 2 * g.monitorRoom + (rest.map fun v => v.category).sum + (3 + 11) + 0 ≤ R.locals; omega) (by show cells + 0 ≤ R.cells; omega) (by show slots + 0 ≤ R.slots; omega)
  refine ⟨T', X', fun target h => hstep target ?_⟩
  obtain rfl : v = some (.int (fdV a b)) := by
    rcases v with _ | w
    · simp [fdS, Cond.after, Cond.holds, Cond.value, Term.eval] at hpost
    · cases w <;> simp [fdS, Cond.after, Cond.holds, Cond.value, Term.eval] at hpost
      first | (simp [hpost]; done) | (rename_i r; by_cases hr : r = fdV a b <;> simp [hr] at hpost ⊢)
  exact h
theorem va_fd {p : Program} {l : Launch} {e : Env} {R : Room} {s : State} {m : MethodId} {args : Array Value} {below : List Frame} {meth : Method} {c : Code} {H : Heap} {locs : List Loc} {cells slots : Nat} {QQ : State → Prop} {pc : Nat} {ls : Array Slot} {rest : List Value} {cc : ByteArray} (hexec : p.tables.exec = Jvm.exec) (hb : c.code = cc) (hml : c.maxLocals = ls.size) {own : String} {index : Nat} (hown : s.vm.findClass own = some m.cls) (hlink : (Cond.methodLink own index yJ9_floorDiv_7cf53).before args s = true) (hstat : (Cond.static yJ9_floorDiv_7cf53).before args s = true) (hini : (Cond.initialized "java/lang/Math").before args s = true) (hcode : (Cond.code yJ9_floorDiv_7cf53 cJ9_floorDiv_7cf53 3 (some .int)).before args s = true)
    (hframes : 1 ≤ R.frames) (hlocals : (rest.map fun v => v.category).sum + 14 ≤ R.locals) (hc : cells ≤ R.cells) (hs : slots ≤ R.slots) {x y : Int32} (hy : y ≠ 0) (hdg : decode cc pc = .ok (.invokestatic index, 3))
    (kk : W p l e R s m args below meth c H locs cells slots QQ (F0 m (pc + 3) ls (.int (fdV x y) :: rest))) : W p l e R s m args below meth c H locs cells slots QQ (F0 m pc ls (.int y :: .int x :: rest)) := by
  intro T hT X
  obtain ⟨vm', X', st⟩ := fd_V X hexec hown hlink hstat hini hcode (g := F0 m pc ls (.int y :: .int x :: rest)) rfl (by rw [hml]) (a := x) (b := y) hy (rest := rest) rfl (by rw [hb]; exact hdg) hframes (by show 2 * 0 + _ + 14 ≤ _; omega) hc hs
  obtain ⟨t, a1, b1⟩ := kk (T.setVm vm') hT X'
  exact ⟨t, st t a1, b1⟩
theorem neg_msb (x : Int32) : x < 0 ↔ x.toBitVec.msb = true := by
  rw [Int32.lt_iff_toInt_lt, BitVec.msb_eq_toInt, decide_eq_true_iff]
  exact Iff.rfl
theorem fd_neg {a b : Int32} (hb : ¬ b < 0) : a ^^^ b < 0 ↔ a < 0 := by
  rw [neg_msb] at hb
  rw [neg_msb, neg_msb, Int32.toBitVec_xor, BitVec.msb_xor]
  cases ha : a.toBitVec.msb <;> cases hc : b.toBitVec.msb <;> simp_all
theorem fd_val {a b : Int} (ra : r32 a) (rb : r32 b) (hb : 0 < b) : fdV (Int32.ofInt a) (Int32.ofInt b) = Int32.ofInt (a / b) := by
  have r0 : r32 0 := by unfold r32; omega
  have nb : ¬ Int32.ofInt b < 0 := fun z => by
    have := (i32_lt rb r0).mp z
    omega
  unfold fdV
  have e0 : Int32.ofInt a / Int32.ofInt b = Int32.ofInt (a.tdiv b) := by rw [i32_div ra rb, i32_w]
  rw [e0]
  by_cases h1 : a < 0
  · have n1 : Int32.ofInt a < 0 := (i32_lt ra r0).mpr h1
    rw [if_pos ((fd_neg nb).mpr n1), i32_mul]
    have em := Int.emod_nonneg a (show b ≠ 0 by omega)
    have el := Int.emod_lt_of_pos a hb
    have ed := Int.mul_ediv_add_emod a b
    have td := Int.tdiv_eq_ediv (a := a) (b := b)
    by_cases h2 : b ∣ a
    · rw [if_pos (Or.inr h2), Int.add_zero] at td
      rw [td, Int.ediv_mul_cancel h2, w32_id ra, if_pos rfl]
    · have sg : b.sign = 1 := Int.sign_eq_one_of_pos hb
      rw [if_neg (by intro z; rcases z with z | z; omega; exact h2 z), sg] at td
      have mu : a.tdiv b * b = a - a % b + b := by
        rw [td, Int.add_mul, Int.one_mul, Int.mul_comm]
        omega
      have rr : r32 (a.tdiv b * b) := by
        rw [mu]
        unfold r32 at ra rb ⊢
        omega
      rw [w32_id rr, if_neg (fun z => h2 ⟨a.tdiv b, by rw [Int.mul_comm]; exact ((i32_eq rr ra).mp z).symm⟩), td, show (1 : Int32) = Int32.ofInt 1 from rfl, i32_sub, i32_w, Int.add_sub_cancel]
  · have n1 : ¬ Int32.ofInt a < 0 := fun z => h1 ((i32_lt ra r0).mp z)
    rw [if_neg (fun z => n1 ((fd_neg nb).mp z)), Int.tdiv_eq_ediv_of_nonneg (by omega)]
set_option maxRecDepth 100000 in
theorem wfd1 : Cond.code yJ9_floorDiv_7cf53 cJ9_floorDiv_7cf53 3 (some .int) ∈ ztb := List.mem_filter.mpr ⟨List.mem_append_right _ (List.mem_of_getElem? (i := 709) rfl), rfl⟩
set_option maxRecDepth 100000 in
theorem wfd2 : Cond.static yJ9_floorDiv_7cf53 ∈ ztb := List.mem_filter.mpr ⟨List.mem_append_right _ (List.mem_of_getElem? (i := 708) rfl), rfl⟩
set_option maxRecDepth 100000 in
theorem wfd3 : Cond.initialized "java/lang/Math" ∈ ztb := List.mem_filter.mpr ⟨List.mem_append_right _ (List.mem_of_getElem? (i := 11) rfl), rfl⟩
theorem z_floorDiv {ix : Nat} {a b : Int} (hd : decode M.2.1 pc = .ok (.invokestatic ix, 3)) (hlk : Cond.methodLink M.1.cls ix yJ9_floorDiv_7cf53 ∈ ztb) (hb : 0 < b) (h8 : ((st.map (zrv E)).map fun v => v.category).sum ≤ 8) (k : zG E M d (pc + 3) L (zI (a / b) :: st) h Q) : zG E M d pc L (zI b :: zI a :: st) h Q := by
  intro oL oS oH p e s m args below meth c H ls locs C P S V
  have o1 := zokS_cons.mp oS
  have o2 := zokS_cons.mp o1.2
  have ra : r32 a := o2.1.1 rfl
  have rb : r32 b := o1.1.1 rfl
  have tb : ∀ w ∈ ztb, w.before args s = true := fun w hw => C.2.2.2.2.2.1 w (List.mem_cons_of_mem _ hw)
  have rz : r32 (a / b) := by
    by_cases q : a < 0
    · have e1 : a ≤ a / b := by
        rw [Int.le_ediv_iff_mul_le hb]
        have := Int.mul_le_mul_of_nonpos_left (a := a) (b := b) (c := 1) (by omega) (by omega)
        omega
      have e2 : a / b < 0 := Int.ediv_neg_of_neg_of_pos q hb
      unfold r32 at ra ⊢
      omega
    · have e1 := Int.ediv_nonneg (a := a) (b := b) (by omega) (by omega)
      have e2 := Int.ediv_le_self (a := a) b (by omega)
      unfold r32 at ra ⊢
      omega
  have kk := k oL (zokS_cons.mpr ⟨zok_i rz, o2.2⟩) oH p e s m args below meth c H ls locs C P S V
  have r0 : r32 0 := by unfold r32; omega
  refine va_fd (x := Int32.ofInt a) (y := Int32.ofInt b) C.1 C.2.1 (C.2.2.2.1.trans V.1.symm) C.2.2.2.2.1 (tb _ hlk) (tb _ wfd2) (tb _ wfd3) (tb _ wfd1) (by simp [zrm]) (by simp only [zrm]; omega) (Nat.zero_le _) (Nat.zero_le _) (fun z => by have := (i32_eq rb r0).mp z; omega) hd ?_
  rw [fd_val ra rb hb]
  exact kk
end ZFloor
