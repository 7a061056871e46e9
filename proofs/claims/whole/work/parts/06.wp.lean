/-! ===== the judgement zG, and a rule an instruction ===== -/
section ZWp
def ztb : List Cond := lw_tbl.filter goodWord
def zws (M : zM) : List Cond := Cond.code M.1 M.2.1 M.2.2.1 M.2.2.2 :: ztb
abbrev ztys (E : zE) : List (ClassId × FieldType) := [(zcA E 0, .int), (zcA E 1, .char), (zcA E 2, .boolean), (zcA E 3, .long)]
def zrm (d : Nat) : Room := { frames := d + 6, cells := 0, slots := 0, locals := 64 * (d + 6) }
/-- what a state's tables and texts must say -/
def zSt (E : zE) (U : State) (H : Heap) : Prop :=
  va_K (zD E) vwCl (ztys E) U ∧ (∀ i j, i < zN E → j < zN E → zad E i = zad E j → i = j) ∧ (∀ w ∈ znw, va_Nw w U) ∧ vk_S 2 zTlen zTbyt (zTK E) (zTV E) (zA E) U H ∧ vk_R RX10 zTix zTtx (zTK E 0) U ∧ vk_R RX1 zTix1 zTtx1 (zTK E 1) U ∧ va_Z RJ0 "COMPACT_STRINGS" "Z" (.int 1) (zA E) U H ∧ va_Z RJ3 "SIOOBE_FORMATTER" "Ljava/util/function/BiFunction;" (zrv E zFm) (zA E) U H
def zQ (E : zE) (Q : List zV → zH → Prop) : Array Value → State → Outcome → State → Prop := fun _ st oc t =>
  (∃ (r : List zV) (h' : zH), oc = .returned ((r.map (zrv E)).head?) ∧ r.length ≤ 1 ∧ zokS r ∧ zokH E h' ∧ va_P (zD E) vwCl (zw E h') t.heap ∧ Q r h') ∧ va_F (zA E) st t
def zAt (E : zE) (M : zM) (p : Program) (s : State) (m : MethodId) (args : Array Value) (meth : Method) (c : Code) : Prop :=
  p.tables.exec = Jvm.exec ∧ c.code = M.2.1 ∧ meth.sig.returnType = M.2.2.2 ∧ c.maxLocals = M.2.2.1 ∧ s.vm.findClass M.1.cls = some m.cls ∧ (∀ w ∈ zws M, w.before args s = true) ∧ meth.locks = false ∧ zSt E s s.heap
def zG (E : zE) (M : zM) (d pc : Nat) (L st : List zV) (h : zH) (Q : List zV → zH → Prop) : Prop :=
  zokS L → zokS st → zokH E h → ∀ (p : Program) (e : Env) (s : State) (m : MethodId) (args : Array Value) (below : List Frame) (meth : Method) (c : Code) (H : Heap) (ls : Array Slot) (locs : List Loc),
    zAt E M p s m args meth c → va_P (zD E) vwCl (zw E h) H → va_S (zA E) s.heap H locs → lv_has ls M.2.2.1 (zlv E L) →
    W p (zl E) e (zrm d) s m args below meth c H locs 0 0 (MQ below (zQ E Q) args s 0 0 (zA E)) (F0 m pc ls (st.map (zrv E)))
/-- a method's contract -/
def zC (E : zE) (M : zM) (d : Nat) (as : List zV) (h : zH) (Q : List zV → zH → Prop) : Prop :=
  zokS as → zokH E h → Met (zl E) M.1 (zws M) (zrm d) (va_Pc (as.map (zrv E)) (fun U => va_P (zD E) vwCl (zw E h) U.heap ∧ zSt E U U.heap)) (zQ E Q) 0 0 (zA E)
def qI (K : Int → zH → Prop) : List zV → zH → Prop := fun r h => ∃ x, r = [zI x] ∧ K x h
def qJ (K : Int → zH → Prop) : List zV → zH → Prop := fun r h => ∃ x, r = [zJ x] ∧ K x h
def qV (K : zH → Prop) : List zV → zH → Prop := fun r h => r = [] ∧ K h
abbrev zCI (E : zE) (M : zM) (d : Nat) (as : List zV) (h : zH) (K : Int → zH → Prop) : Prop := zC E M d as h (qI K)
abbrev zCJ (E : zE) (M : zM) (d : Nat) (as : List zV) (h : zH) (K : Int → zH → Prop) : Prop := zC E M d as h (qJ K)
abbrev zCV (E : zE) (M : zM) (d : Nat) (as : List zV) (h : zH) (K : zH → Prop) : Prop := zC E M d as h (qV K)
variable {E : zE} {M : zM} {d pc : Nat} {L st : List zV} {h : zH} {Q : List zV → zH → Prop}
theorem zD_of {s : State} {H : Heap} (hs : zSt E s H) : va_D (zA E) (zw E h) := by
  have key : ∀ (k : Nat) (q : Nat × va_E), (zw E h)[k]? = some q → k < zN E ∧ q.1 = zad E k := by
    intro k q hk
    have hl : k < zN E := by
      have := (List.getElem?_eq_some_iff.mp hk).1
      simpa [zw] using this
    rw [zw_at hl] at hk
    cases hk
    exact ⟨hl, rfl⟩
  refine ⟨fun i j x y hx hy hxy => ?_, fun k q hk => ?_⟩
  · obtain ⟨a1, a2⟩ := key i x hx
    obtain ⟨b1, b2⟩ := key j y hy
    exact hs.2.1 i j a1 b1 (by rw [← a2, ← b2]; exact hxy)
  · obtain ⟨a1, a2⟩ := key k q hk
    exact ⟨k, a1, a2⟩
theorem zSt.use {s U : State} {H : Heap} {locs : List Loc} (hs : zSt E s s.heap) (hS : va_S (zA E) s.heap H locs) (hW : s.WarmedH U.vm) (hU : U.heap = H) : zSt E U U.heap := by
  obtain ⟨h1, h2, h3, h4, h5, h6, h7, h8⟩ := hs
  rw [hU]
  exact ⟨va_K.moved hW.alike h1, h2, fun w hw => znw_warm hW w hw (h3 w hw), vk_S.moved hW.alike (h4.kept (fun a ha hn => hS.2.1 a ha hn)), vk_R.warm hW h5, vk_R.warm hW h6, va_Z.moved hW.alike (h7.kept (fun a ha hn => hS.2.1 a ha hn)), va_Z.moved hW.alike (h8.kept (fun a ha hn => hS.2.1 a ha hn))⟩
theorem zSt.blind {U : State} {g : JFrame} {mk : MethodId} {a : Array Value} (hs : zSt E U U.heap) : zSt E (U.calling g mk a) (U.calling g mk a).heap := by
  obtain ⟨h1, h2, h3, h4, h5, h6, h7, h8⟩ := hs
  refine ⟨va_K.moved (u := U) (U := U.calling g mk a) (Vm.Alike.refl U.vm) h1, h2, fun w hw => va_Nw.same (znw_on w hw) (u := U) (U := U.calling g mk a) rfl (h3 w hw), ?_, vk_R.same (u := U) (U := U.calling g mk a) rfl h5, vk_R.same (u := U) (U := U.calling g mk a) rfl h6, va_Z.moved (u := U) (U := U.calling g mk a) (Vm.Alike.refl U.vm) h7, va_Z.moved (u := U) (U := U.calling g mk a) (Vm.Alike.refl U.vm) h8⟩
  exact vk_S.moved (u := U) (U := U.calling g mk a) (Vm.Alike.refl U.vm) h4
/-- ranges may be asked for at any point -/
theorem zG_ok (k : zokS L → zokS st → zokH E h → zG E M d pc L st h Q) : zG E M d pc L st h Q := fun a b c => k a b c a b c
theorem zC_ok {as : List zV} (k : zokS as → zokH E h → zC E M d as h Q) : zC E M d as h Q := fun a b => k a b a b
theorem zG_mono {Q' : List zV → zH → Prop} (hq : ∀ r h', Q' r h' → Q r h') (k : zG E M d pc L st h Q') : zG E M d pc L st h Q := by
  intro oL oS oH p e s m args below meth c H ls locs C P S V T hT X
  obtain ⟨t, a, o, b1, b2, ⟨⟨r, h', c1, c2, c3, c4, c5, c6⟩, c7⟩, b4⟩ := k oL oS oH p e s m args below meth c H ls locs C P S V T hT X
  exact ⟨t, a, o, b1, b2, ⟨⟨r, h', c1, c2, c3, c4, c5, hq r h' c6⟩, c7⟩, b4⟩

theorem z_iadd {a b : Int} (hd : decode M.2.1 pc = .ok (.iadd, 1)) (k : zG E M d (pc + 1) L (zI (w32 (a + b)) :: st) h Q) : zG E M d pc L (zI b :: zI a :: st) h Q := by
  intro oL oS oH p e s m args below meth c H ls locs C P S V
  have o1 := zokS_cons.mp oS
  have o2 := zokS_cons.mp o1.2
  have ra : r32 a := o2.1.1 rfl
  have rb : r32 b := o1.1.1 rfl
  have kk := k oL (zokS_cons.mpr ⟨zok_i (w32_r _), o2.2⟩) oH p e s m args below meth c H ls locs C P S V
  refine lv_iadd (x := Int32.ofInt a) (y := Int32.ofInt b) C.1 C.2.1 hd ?_
  rw [i32_add]
  exact kk

theorem z_isub {a b : Int} (hd : decode M.2.1 pc = .ok (.isub, 1)) (k : zG E M d (pc + 1) L (zI (w32 (a - b)) :: st) h Q) : zG E M d pc L (zI b :: zI a :: st) h Q := by
  intro oL oS oH p e s m args below meth c H ls locs C P S V
  have o1 := zokS_cons.mp oS
  have o2 := zokS_cons.mp o1.2
  have ra : r32 a := o2.1.1 rfl
  have rb : r32 b := o1.1.1 rfl
  have kk := k oL (zokS_cons.mpr ⟨zok_i (w32_r _), o2.2⟩) oH p e s m args below meth c H ls locs C P S V
  refine lv_isub (x := Int32.ofInt a) (y := Int32.ofInt b) C.1 C.2.1 hd ?_
  rw [i32_sub]
  exact kk

theorem z_imul {a b : Int} (hd : decode M.2.1 pc = .ok (.imul, 1)) (k : zG E M d (pc + 1) L (zI (w32 (a * b)) :: st) h Q) : zG E M d pc L (zI b :: zI a :: st) h Q := by
  intro oL oS oH p e s m args below meth c H ls locs C P S V
  have o1 := zokS_cons.mp oS
  have o2 := zokS_cons.mp o1.2
  have ra : r32 a := o2.1.1 rfl
  have rb : r32 b := o1.1.1 rfl
  have kk := k oL (zokS_cons.mpr ⟨zok_i (w32_r _), o2.2⟩) oH p e s m args below meth c H ls locs C P S V
  refine lv_imul (x := Int32.ofInt a) (y := Int32.ofInt b) C.1 C.2.1 hd ?_
  rw [i32_mul]
  exact kk

theorem z_idiv {a b : Int} (hb0 : ¬ b = 0) (hd : decode M.2.1 pc = .ok (.idiv, 1)) (k : zG E M d (pc + 1) L (zI (w32 (a.tdiv b)) :: st) h Q) : zG E M d pc L (zI b :: zI a :: st) h Q := by
  intro oL oS oH p e s m args below meth c H ls locs C P S V
  have o1 := zokS_cons.mp oS
  have o2 := zokS_cons.mp o1.2
  have ra : r32 a := o2.1.1 rfl
  have rb : r32 b := o1.1.1 rfl
  have kk := k oL (zokS_cons.mpr ⟨zok_i (w32_r _), o2.2⟩) oH p e s m args below meth c H ls locs C P S V
  refine lv_idiv (x := Int32.ofInt a) (y := Int32.ofInt b) C.1 C.2.1 hd (fun q => hb0 ((i32_eq rb (by unfold r32; omega)).mp q)) ?_
  rw [i32_div ra rb]
  exact kk

theorem z_irem {a b : Int} (hb0 : ¬ b = 0) (hd : decode M.2.1 pc = .ok (.irem, 1)) (k : zG E M d (pc + 1) L (zI (w32 (a.tmod b)) :: st) h Q) : zG E M d pc L (zI b :: zI a :: st) h Q := by
  intro oL oS oH p e s m args below meth c H ls locs C P S V
  have o1 := zokS_cons.mp oS
  have o2 := zokS_cons.mp o1.2
  have ra : r32 a := o2.1.1 rfl
  have rb : r32 b := o1.1.1 rfl
  have kk := k oL (zokS_cons.mpr ⟨zok_i (w32_r _), o2.2⟩) oH p e s m args below meth c H ls locs C P S V
  refine lv_irem (x := Int32.ofInt a) (y := Int32.ofInt b) C.1 C.2.1 hd (fun q => hb0 ((i32_eq rb (by unfold r32; omega)).mp q)) ?_
  rw [i32_rem ra rb]
  exact kk

theorem z_iand {a b : Int} (hd : decode M.2.1 pc = .ok (.iand, 1)) (k : zG E M d (pc + 1) L (zI (zand a b) :: st) h Q) : zG E M d pc L (zI b :: zI a :: st) h Q := by
  intro oL oS oH p e s m args below meth c H ls locs C P S V
  have o1 := zokS_cons.mp oS
  have o2 := zokS_cons.mp o1.2
  have ra : r32 a := o2.1.1 rfl
  have rb : r32 b := o1.1.1 rfl
  have kk := k oL (zokS_cons.mpr ⟨zok_i (i32_r _), o2.2⟩) oH p e s m args below meth c H ls locs C P S V
  refine lv_iand (x := Int32.ofInt a) (y := Int32.ofInt b) C.1 C.2.1 hd ?_
  rw [show Int32.ofInt a &&& Int32.ofInt b = Int32.ofInt (zand a b) from (i32_self _).symm]
  exact kk

theorem z_ior {a b : Int} (hd : decode M.2.1 pc = .ok (.ior, 1)) (k : zG E M d (pc + 1) L (zI (zor a b) :: st) h Q) : zG E M d pc L (zI b :: zI a :: st) h Q := by
  intro oL oS oH p e s m args below meth c H ls locs C P S V
  have o1 := zokS_cons.mp oS
  have o2 := zokS_cons.mp o1.2
  have ra : r32 a := o2.1.1 rfl
  have rb : r32 b := o1.1.1 rfl
  have kk := k oL (zokS_cons.mpr ⟨zok_i (i32_r _), o2.2⟩) oH p e s m args below meth c H ls locs C P S V
  refine lv_ior (x := Int32.ofInt a) (y := Int32.ofInt b) C.1 C.2.1 hd ?_
  rw [show Int32.ofInt a ||| Int32.ofInt b = Int32.ofInt (zor a b) from (i32_self _).symm]
  exact kk

theorem z_ishl {a b : Int} (hd : decode M.2.1 pc = .ok (.ishl, 1)) (k : zG E M d (pc + 1) L (zI (zshl a b) :: st) h Q) : zG E M d pc L (zI b :: zI a :: st) h Q := by
  intro oL oS oH p e s m args below meth c H ls locs C P S V
  have o1 := zokS_cons.mp oS
  have o2 := zokS_cons.mp o1.2
  have ra : r32 a := o2.1.1 rfl
  have rb : r32 b := o1.1.1 rfl
  have kk := k oL (zokS_cons.mpr ⟨zok_i (i32_r _), o2.2⟩) oH p e s m args below meth c H ls locs C P S V
  refine lv_ishl (x := Int32.ofInt a) (y := Int32.ofInt b) C.1 C.2.1 hd ?_
  rw [show Int32.ofInt a <<< (Int32.ofInt b &&& 31) = Int32.ofInt (zshl a b) from (i32_self _).symm]
  exact kk

theorem z_ishr {a b : Int} (hd : decode M.2.1 pc = .ok (.ishr, 1)) (k : zG E M d (pc + 1) L (zI (zshr a b) :: st) h Q) : zG E M d pc L (zI b :: zI a :: st) h Q := by
  intro oL oS oH p e s m args below meth c H ls locs C P S V
  have o1 := zokS_cons.mp oS
  have o2 := zokS_cons.mp o1.2
  have ra : r32 a := o2.1.1 rfl
  have rb : r32 b := o1.1.1 rfl
  have kk := k oL (zokS_cons.mpr ⟨zok_i (i32_r _), o2.2⟩) oH p e s m args below meth c H ls locs C P S V
  refine lv_ishr (x := Int32.ofInt a) (y := Int32.ofInt b) C.1 C.2.1 hd ?_
  rw [show Int32.ofInt a >>> (Int32.ofInt b &&& 31) = Int32.ofInt (zshr a b) from (i32_self _).symm]
  exact kk

theorem z_ladd {a b : Int} (hd : decode M.2.1 pc = .ok (.ladd, 1)) (k : zG E M d (pc + 1) L (zJ (w64 (a + b)) :: st) h Q) : zG E M d pc L (zJ b :: zJ a :: st) h Q := by
  intro oL oS oH p e s m args below meth c H ls locs C P S V
  have o1 := zokS_cons.mp oS
  have o2 := zokS_cons.mp o1.2
  have ra : r64 a := o2.1.2 rfl
  have rb : r64 b := o1.1.2 rfl
  have kk := k oL (zokS_cons.mpr ⟨zok_j (w64_r _), o2.2⟩) oH p e s m args below meth c H ls locs C P S V
  refine lv_ladd (x := Int64.ofInt a) (y := Int64.ofInt b) C.1 C.2.1 hd ?_
  rw [i64_add]
  exact kk

theorem z_lsub {a b : Int} (hd : decode M.2.1 pc = .ok (.lsub, 1)) (k : zG E M d (pc + 1) L (zJ (w64 (a - b)) :: st) h Q) : zG E M d pc L (zJ b :: zJ a :: st) h Q := by
  intro oL oS oH p e s m args below meth c H ls locs C P S V
  have o1 := zokS_cons.mp oS
  have o2 := zokS_cons.mp o1.2
  have ra : r64 a := o2.1.2 rfl
  have rb : r64 b := o1.1.2 rfl
  have kk := k oL (zokS_cons.mpr ⟨zok_j (w64_r _), o2.2⟩) oH p e s m args below meth c H ls locs C P S V
  refine lv_lsub (x := Int64.ofInt a) (y := Int64.ofInt b) C.1 C.2.1 hd ?_
  rw [i64_sub]
  exact kk

theorem z_lmul {a b : Int} (hd : decode M.2.1 pc = .ok (.lmul, 1)) (k : zG E M d (pc + 1) L (zJ (w64 (a * b)) :: st) h Q) : zG E M d pc L (zJ b :: zJ a :: st) h Q := by
  intro oL oS oH p e s m args below meth c H ls locs C P S V
  have o1 := zokS_cons.mp oS
  have o2 := zokS_cons.mp o1.2
  have ra : r64 a := o2.1.2 rfl
  have rb : r64 b := o1.1.2 rfl
  have kk := k oL (zokS_cons.mpr ⟨zok_j (w64_r _), o2.2⟩) oH p e s m args below meth c H ls locs C P S V
  refine lv_lmul (x := Int64.ofInt a) (y := Int64.ofInt b) C.1 C.2.1 hd ?_
  rw [i64_mul]
  exact kk

theorem z_ldiv {a b : Int} (hb0 : ¬ b = 0) (hd : decode M.2.1 pc = .ok (.ldiv, 1)) (k : zG E M d (pc + 1) L (zJ (w64 (a.tdiv b)) :: st) h Q) : zG E M d pc L (zJ b :: zJ a :: st) h Q := by
  intro oL oS oH p e s m args below meth c H ls locs C P S V
  have o1 := zokS_cons.mp oS
  have o2 := zokS_cons.mp o1.2
  have ra : r64 a := o2.1.2 rfl
  have rb : r64 b := o1.1.2 rfl
  have kk := k oL (zokS_cons.mpr ⟨zok_j (w64_r _), o2.2⟩) oH p e s m args below meth c H ls locs C P S V
  refine lv_ldiv (x := Int64.ofInt a) (y := Int64.ofInt b) C.1 C.2.1 hd (fun q => hb0 ((i64_eq rb (by unfold r64; omega)).mp q)) ?_
  rw [i64_div ra rb]
  exact kk

theorem z_lrem {a b : Int} (hb0 : ¬ b = 0) (hd : decode M.2.1 pc = .ok (.lrem, 1)) (k : zG E M d (pc + 1) L (zJ (w64 (a.tmod b)) :: st) h Q) : zG E M d pc L (zJ b :: zJ a :: st) h Q := by
  intro oL oS oH p e s m args below meth c H ls locs C P S V
  have o1 := zokS_cons.mp oS
  have o2 := zokS_cons.mp o1.2
  have ra : r64 a := o2.1.2 rfl
  have rb : r64 b := o1.1.2 rfl
  have kk := k oL (zokS_cons.mpr ⟨zok_j (w64_r _), o2.2⟩) oH p e s m args below meth c H ls locs C P S V
  refine lv_lrem (x := Int64.ofInt a) (y := Int64.ofInt b) C.1 C.2.1 hd (fun q => hb0 ((i64_eq rb (by unfold r64; omega)).mp q)) ?_
  rw [i64_rem ra rb]
  exact kk

theorem z_land {a b : Int} (hd : decode M.2.1 pc = .ok (.land, 1)) (k : zG E M d (pc + 1) L (zJ (zandJ a b) :: st) h Q) : zG E M d pc L (zJ b :: zJ a :: st) h Q := by
  intro oL oS oH p e s m args below meth c H ls locs C P S V
  have o1 := zokS_cons.mp oS
  have o2 := zokS_cons.mp o1.2
  have ra : r64 a := o2.1.2 rfl
  have rb : r64 b := o1.1.2 rfl
  have kk := k oL (zokS_cons.mpr ⟨zok_j (i64_r _), o2.2⟩) oH p e s m args below meth c H ls locs C P S V
  refine lv_land (x := Int64.ofInt a) (y := Int64.ofInt b) C.1 C.2.1 hd ?_
  rw [show Int64.ofInt a &&& Int64.ofInt b = Int64.ofInt (zandJ a b) from (i64_self _).symm]
  exact kk

theorem z_iushr {a b : Int} (hd : decode M.2.1 pc = .ok (.iushr, 1)) (k : zG E M d (pc + 1) L (zI (zushr a b) :: st) h Q) : zG E M d pc L (zI b :: zI a :: st) h Q := by
  intro oL oS oH p e s m args below meth c H ls locs C P S V
  have o2 := zokS_cons.mp (zokS_cons.mp oS).2
  have kk := k oL (zokS_cons.mpr ⟨zok_i (i32_r _), o2.2⟩) oH p e s m args below meth c H ls locs C P S V
  exact lv_iushr (x := Int32.ofInt a) (y := Int32.ofInt b) (v := Int32.ofInt (zushr a b)) C.1 C.2.1 hd (i32_self _).symm kk
theorem z_ineg {a : Int} (hd : decode M.2.1 pc = .ok (.ineg, 1)) (k : zG E M d (pc + 1) L (zI (w32 (-a)) :: st) h Q) : zG E M d pc L (zI a :: st) h Q := by
  intro oL oS oH p e s m args below meth c H ls locs C P S V
  have o1 := zokS_cons.mp oS
  have kk := k oL (zokS_cons.mpr ⟨zok_i (w32_r _), o1.2⟩) oH p e s m args below meth c H ls locs C P S V
  refine lv_ineg (x := Int32.ofInt a) C.1 C.2.1 hd ?_
  rw [i32_neg]
  exact kk
theorem z_lneg {a : Int} (hd : decode M.2.1 pc = .ok (.lneg, 1)) (k : zG E M d (pc + 1) L (zJ (w64 (-a)) :: st) h Q) : zG E M d pc L (zJ a :: st) h Q := by
  intro oL oS oH p e s m args below meth c H ls locs C P S V
  have o1 := zokS_cons.mp oS
  have kk := k oL (zokS_cons.mpr ⟨zok_j (w64_r _), o1.2⟩) oH p e s m args below meth c H ls locs C P S V
  refine lv_lneg (x := Int64.ofInt a) C.1 C.2.1 hd ?_
  rw [i64_neg]
  exact kk
theorem z_i2l {a : Int} (hd : decode M.2.1 pc = .ok (.i2l, 1)) (k : zG E M d (pc + 1) L (zJ a :: st) h Q) : zG E M d pc L (zI a :: st) h Q := by
  intro oL oS oH p e s m args below meth c H ls locs C P S V
  have o1 := zokS_cons.mp oS
  have ra : r32 a := o1.1.1 rfl
  have kk := k oL (zokS_cons.mpr ⟨zok_j (r32_64 ra), o1.2⟩) oH p e s m args below meth c H ls locs C P S V
  exact lv_i2l (x := Int32.ofInt a) (v := Int64.ofInt a) C.1 C.2.1 hd (Int64.toInt_inj.mp (by rw [Int32.toInt_toInt64, i32_to, i64_to, w32_id ra, w64_id (r32_64 ra)])) kk
theorem z_l2i {a : Int} (hd : decode M.2.1 pc = .ok (.l2i, 1)) (k : zG E M d (pc + 1) L (zI (w32 a) :: st) h Q) : zG E M d pc L (zJ a :: st) h Q := by
  intro oL oS oH p e s m args below meth c H ls locs C P S V
  have o1 := zokS_cons.mp oS
  have ra : r64 a := o1.1.2 rfl
  have kk := k oL (zokS_cons.mpr ⟨zok_i (w32_r _), o1.2⟩) oH p e s m args below meth c H ls locs C P S V
  exact lv_l2i (x := Int64.ofInt a) (v := Int32.ofInt (w32 a)) C.1 C.2.1 hd (Int32.toInt_inj.mp (by rw [Int64.toInt_toInt32, i32_to, i64_to, w64_id ra, w32_bmod, w32_id (w32_r _)])) kk
def zi2c (a : Int) : Int := ((Int32.ofInt a).toUInt32 % 65536).toInt32.toInt
theorem z_i2c {a : Int} (hd : decode M.2.1 pc = .ok (.i2c, 1)) (k : zG E M d (pc + 1) L (zI (zi2c a) :: st) h Q) : zG E M d pc L (zI a :: st) h Q := by
  intro oL oS oH p e s m args below meth c H ls locs C P S V
  have o1 := zokS_cons.mp oS
  have kk := k oL (zokS_cons.mpr ⟨zok_i (i32_r _), o1.2⟩) oH p e s m args below meth c H ls locs C P S V
  exact lv_i2c (x := Int32.ofInt a) (v := Int32.ofInt (zi2c a)) C.1 C.2.1 hd (i32_self _).symm kk
theorem z_lcmp {a b : Int} (hd : decode M.2.1 pc = .ok (.lcmp, 1)) (k : zG E M d (pc + 1) L (zI (zcmp a b) :: st) h Q) : zG E M d pc L (zJ b :: zJ a :: st) h Q := by
  intro oL oS oH p e s m args below meth c H ls locs C P S V
  have o1 := zokS_cons.mp oS
  have o2 := zokS_cons.mp o1.2
  have ra : r64 a := o2.1.2 rfl
  have rb : r64 b := o1.1.2 rfl
  have kk := k oL (zokS_cons.mpr ⟨zok_i (by unfold zcmp r32; split <;> (try split) <;> omega), o2.2⟩) oH p e s m args below meth c H ls locs C P S V
  refine W.lcmp (x := Int64.ofInt a) (y := Int64.ofInt b) C.1 C.2.1 hd ?_
  have e1 : lg_cmp (Int64.ofInt a) (Int64.ofInt b) = Int32.ofInt (zcmp a b) := by
    unfold lg_cmp zcmp
    by_cases q : b < a
    · rw [if_pos ((i64_lt rb ra).mpr q), if_pos q]; rfl
    · rw [if_neg (fun z => q ((i64_lt rb ra).mp z)), if_neg q]
      by_cases q2 : a = b
      · rw [if_pos ((i64_eq ra rb).mpr q2), if_pos q2]; rfl
      · rw [if_neg (fun z => q2 ((i64_eq ra rb).mp z)), if_neg q2]; rfl
  rw [e1]
  exact kk
theorem z_iconst {n : Int} (hd : decode M.2.1 pc = .ok (.iconst n, 1)) (hr : r32 n) (k : zG E M d (pc + 1) L (zI n :: st) h Q) : zG E M d pc L st h Q := by
  intro oL oS oH p e s m args below meth c H ls locs C P S V
  exact lv_iconst (v := Int32.ofInt n) C.1 C.2.1 hd rfl (k oL (zokS_cons.mpr ⟨zok_i hr, oS⟩) oH p e s m args below meth c H ls locs C P S V)
theorem z_bipush {n : Int} (hd : decode M.2.1 pc = .ok (.bipush n, 2)) (hr : r32 n) (hv : (Int8.ofInt n).toInt32 = Int32.ofInt n) (k : zG E M d (pc + 2) L (zI n :: st) h Q) : zG E M d pc L st h Q := by
  intro oL oS oH p e s m args below meth c H ls locs C P S V
  exact lv_bipush (v := Int32.ofInt n) C.1 C.2.1 hd hv (k oL (zokS_cons.mpr ⟨zok_i hr, oS⟩) oH p e s m args below meth c H ls locs C P S V)
theorem z_sipush {n : Int} (hd : decode M.2.1 pc = .ok (.sipush n, 3)) (hr : r32 n) (hv : (Int16.ofInt n).toInt32 = Int32.ofInt n) (k : zG E M d (pc + 3) L (zI n :: st) h Q) : zG E M d pc L st h Q := by
  intro oL oS oH p e s m args below meth c H ls locs C P S V
  exact lv_sipush (v := Int32.ofInt n) C.1 C.2.1 hd hv (k oL (zokS_cons.mpr ⟨zok_i hr, oS⟩) oH p e s m args below meth c H ls locs C P S V)
theorem z_lconst {n : Fin 2} {x : Int} (hd : decode M.2.1 pc = .ok (.lconst n, 1)) (hx : Int64.ofNat (n : Nat) = Int64.ofInt x) (hr : r64 x) (k : zG E M d (pc + 1) L (zJ x :: st) h Q) : zG E M d pc L st h Q := by
  intro oL oS oH p e s m args below meth c H ls locs C P S V
  exact lv_lconst (v := Int64.ofInt x) C.1 C.2.1 hd hx (k oL (zokS_cons.mpr ⟨zok_j hr, oS⟩) oH p e s m args below meth c H ls locs C P S V)
theorem z_ldc {own : String} {ix : Nat} {v : Int32} {x : Int} (hd : decode M.2.1 pc = .ok (.ldc ix, 2)) (hM : M.1.cls = own) (hw : Cond.constant own ix v ∈ ztb) (hv : v = Int32.ofInt x) (hr : r32 x) (k : zG E M d (pc + 2) L (zI x :: st) h Q) : zG E M d pc L st h Q := by
  intro oL oS oH p e s m args below meth c H ls locs C P S V
  subst hM
  subst hv
  exact lv_ldc C.1 C.2.1 C.2.2.2.2.1 (C.2.2.2.2.2.1 _ (List.mem_cons_of_mem _ hw)) hd (k oL (zokS_cons.mpr ⟨zok_i hr, oS⟩) oH p e s m args below meth c H ls locs C P S V)
theorem z_ldc2 {own : String} {ix : Nat} {v : Int64} {x : Int} (hd : decode M.2.1 pc = .ok (.ldc2_w ix, 3)) (hM : M.1.cls = own) (hw : Cond.constantLong own ix v ∈ ztb) (hv : v = Int64.ofInt x) (hr : r64 x) (k : zG E M d (pc + 3) L (zJ x :: st) h Q) : zG E M d pc L st h Q := by
  intro oL oS oH p e s m args below meth c H ls locs C P S V
  subst hM
  subst hv
  exact lv_ldc2 C.1 C.2.1 C.2.2.2.2.1 (C.2.2.2.2.2.1 _ (List.mem_cons_of_mem _ hw)) hd (k oL (zokS_cons.mpr ⟨zok_j hr, oS⟩) oH p e s m args below meth c H ls locs C P S V)

theorem z_iload_n {kf : Fin 4} {x : Int} (hd : decode M.2.1 pc = .ok (.iload_n kf, 1)) (hL : L[(kf : Nat)]? = some (zI x)) (k : zG E M d (pc + 1) L (zI x :: st) h Q) : zG E M d pc L st h Q := by
  intro oL oS oH p e s m args below meth c H ls locs C P S V
  exact lv_iload_n C.1 C.2.1 hd rfl (zlv_at V hL (by simp)) (k oL (zokS_cons.mpr ⟨zokS_at oL hL, oS⟩) oH p e s m args below meth c H ls locs C P S V)
theorem z_iload {i : Nat} {x : Int} (hd : decode M.2.1 pc = .ok (.iload i, 2)) (hL : L[i]? = some (zI x)) (k : zG E M d (pc + 2) L (zI x :: st) h Q) : zG E M d pc L st h Q := by
  intro oL oS oH p e s m args below meth c H ls locs C P S V
  exact lv_iload C.1 C.2.1 hd (zlv_at V hL (by simp)) (k oL (zokS_cons.mpr ⟨zokS_at oL hL, oS⟩) oH p e s m args below meth c H ls locs C P S V)

theorem z_istore_n {kf : Fin 4} {i : Nat} {x : Int} {L' : List zV} (hd : decode M.2.1 pc = .ok (.istore_n kf, 1)) (hi : (kf : Nat) = i) (hn : i < M.2.2.1) (hL : zs1 L i (zI x) = L') (k : zG E M d (pc + 1) L' st h Q) : zG E M d pc L (zI x :: st) h Q := by
  intro oL oS oH p e s m args below meth c H ls locs C P S V
  have o1 := zokS_cons.mp oS
  subst hL
  exact lv_istore_n C.1 C.2.1 hd hi V hn rfl (fun ls' V' => k (zokS_s1 oL o1.1) o1.2 oH p e s m args below meth c H ls' locs C P S (zlv_st1 V'))
theorem z_istore {i : Nat} {x : Int} {L' : List zV} (hd : decode M.2.1 pc = .ok (.istore i, 2)) (hn : i < M.2.2.1) (hL : zs1 L i (zI x) = L') (k : zG E M d (pc + 2) L' st h Q) : zG E M d pc L (zI x :: st) h Q := by
  intro oL oS oH p e s m args below meth c H ls locs C P S V
  have o1 := zokS_cons.mp oS
  subst hL
  exact lv_istore C.1 C.2.1 hd V hn rfl (fun ls' V' => k (zokS_s1 oL o1.1) o1.2 oH p e s m args below meth c H ls' locs C P S (zlv_st1 V'))

theorem z_lload_n {kf : Fin 4} {x : Int} (hd : decode M.2.1 pc = .ok (.lload_n kf, 1)) (hL : L[(kf : Nat)]? = some (zJ x)) (k : zG E M d (pc + 1) L (zJ x :: st) h Q) : zG E M d pc L st h Q := by
  intro oL oS oH p e s m args below meth c H ls locs C P S V
  exact lv_lload_n C.1 C.2.1 hd rfl (zlv_at V hL (by simp)) (k oL (zokS_cons.mpr ⟨zokS_at oL hL, oS⟩) oH p e s m args below meth c H ls locs C P S V)
theorem z_lload {i : Nat} {x : Int} (hd : decode M.2.1 pc = .ok (.lload i, 2)) (hL : L[i]? = some (zJ x)) (k : zG E M d (pc + 2) L (zJ x :: st) h Q) : zG E M d pc L st h Q := by
  intro oL oS oH p e s m args below meth c H ls locs C P S V
  exact lv_lload C.1 C.2.1 hd (zlv_at V hL (by simp)) (k oL (zokS_cons.mpr ⟨zokS_at oL hL, oS⟩) oH p e s m args below meth c H ls locs C P S V)

theorem z_lstore_n {kf : Fin 4} {i : Nat} {x : Int} {L' : List zV} (hd : decode M.2.1 pc = .ok (.lstore_n kf, 1)) (hi : (kf : Nat) = i) (hn : i + 1 < M.2.2.1) (hL : zs2 L i (zJ x) = L') (k : zG E M d (pc + 1) L' st h Q) : zG E M d pc L (zJ x :: st) h Q := by
  intro oL oS oH p e s m args below meth c H ls locs C P S V
  have o1 := zokS_cons.mp oS
  subst hL
  exact lv_lstore_n C.1 C.2.1 hd hi V hn rfl (fun ls' V' => k (zokS_s2 oL o1.1) o1.2 oH p e s m args below meth c H ls' locs C P S (zlv_st2 V'))
theorem z_lstore {i : Nat} {x : Int} {L' : List zV} (hd : decode M.2.1 pc = .ok (.lstore i, 2)) (hn : i + 1 < M.2.2.1) (hL : zs2 L i (zJ x) = L') (k : zG E M d (pc + 2) L' st h Q) : zG E M d pc L (zJ x :: st) h Q := by
  intro oL oS oH p e s m args below meth c H ls locs C P S V
  have o1 := zokS_cons.mp oS
  subst hL
  exact lv_lstore C.1 C.2.1 hd V hn rfl (fun ls' V' => k (zokS_s2 oL o1.1) o1.2 oH p e s m args below meth c H ls' locs C P S (zlv_st2 V'))

theorem z_aload_n {kf : Fin 4} {x : Nat} (hd : decode M.2.1 pc = .ok (.aload_n kf, 1)) (hL : L[(kf : Nat)]? = some (zR x)) (k : zG E M d (pc + 1) L (zR x :: st) h Q) : zG E M d pc L st h Q := by
  intro oL oS oH p e s m args below meth c H ls locs C P S V
  exact lv_aload_n C.1 C.2.1 hd rfl (zlv_at V hL (by simp)) (k oL (zokS_cons.mpr ⟨zokS_at oL hL, oS⟩) oH p e s m args below meth c H ls locs C P S V)
theorem z_aload {i : Nat} {x : Nat} (hd : decode M.2.1 pc = .ok (.aload i, 2)) (hL : L[i]? = some (zR x)) (k : zG E M d (pc + 2) L (zR x :: st) h Q) : zG E M d pc L st h Q := by
  intro oL oS oH p e s m args below meth c H ls locs C P S V
  exact lv_aload C.1 C.2.1 hd (zlv_at V hL (by simp)) (k oL (zokS_cons.mpr ⟨zokS_at oL hL, oS⟩) oH p e s m args below meth c H ls locs C P S V)

theorem z_astore_n {kf : Fin 4} {i : Nat} {x : Nat} {L' : List zV} (hd : decode M.2.1 pc = .ok (.astore_n kf, 1)) (hi : (kf : Nat) = i) (hn : i < M.2.2.1) (hL : zs1 L i (zR x) = L') (k : zG E M d (pc + 1) L' st h Q) : zG E M d pc L (zR x :: st) h Q := by
  intro oL oS oH p e s m args below meth c H ls locs C P S V
  have o1 := zokS_cons.mp oS
  subst hL
  exact lv_astore_n C.1 C.2.1 hd hi V hn rfl (fun ls' V' => k (zokS_s1 oL o1.1) o1.2 oH p e s m args below meth c H ls' locs C P S (zlv_st1 V'))
theorem z_astore {i : Nat} {x : Nat} {L' : List zV} (hd : decode M.2.1 pc = .ok (.astore i, 2)) (hn : i < M.2.2.1) (hL : zs1 L i (zR x) = L') (k : zG E M d (pc + 2) L' st h Q) : zG E M d pc L (zR x :: st) h Q := by
  intro oL oS oH p e s m args below meth c H ls locs C P S V
  have o1 := zokS_cons.mp oS
  subst hL
  exact lv_astore C.1 C.2.1 hd V hn rfl (fun ls' V' => k (zokS_s1 oL o1.1) o1.2 oH p e s m args below meth c H ls' locs C P S (zlv_st1 V'))

theorem z_iinc {i : Nat} {n x : Int} {L' : List zV} (hd : decode M.2.1 pc = .ok (.iinc i n, 3)) (hx : L[i]? = some (zI x)) (hn : i < M.2.2.1) (hL : zs1 L i (zI (w32 (x + n))) = L') (k : zG E M d (pc + 3) L' st h Q) : zG E M d pc L st h Q := by
  intro oL oS oH p e s m args below meth c H ls locs C P S V
  subst hL
  obtain ⟨kk, hkk⟩ := List.getElem?_of_mem (zlv_mem (E := E).mpr ⟨zI x, hx, by simp, rfl⟩ : (i, zrv E (zI x)) ∈ zlv E L)
  exact lv_iinc (x := Int32.ofInt x) (v := Int32.ofInt (w32 (x + n))) C.1 C.2.1 hd V hkk (i32_add x n) hn rfl (fun ls' V' => k (zokS_s1 oL (zok_i (w32_r _))) oS oH p e s m args below meth c H ls' locs C P S (zlv_st1 (v := zI (w32 (x + n))) V'))
theorem z_dup {v : zV} (hd : decode M.2.1 pc = .ok (.dup, 1)) (hv : (v.1 == 1) = false) (k : zG E M d (pc + 1) L (v :: v :: st) h Q) : zG E M d pc L (v :: st) h Q := by
  intro oL oS oH p e s m args below meth c H ls locs C P S V
  have o1 := zokS_cons.mp oS
  refine lv_dup C.1 C.2.1 hd ?_ (k oL (zokS_cons.mpr ⟨o1.1, oS⟩) oH p e s m args below meth c H ls locs C P S V)
  rcases lv_cat (zrv E v) with q | q
  · exact q
  · have := zrv_cat2 q
    simp [this] at hv
theorem z_pop {v : zV} (hd : decode M.2.1 pc = .ok (.pop, 1)) (hv : (v.1 == 1) = false) (k : zG E M d (pc + 1) L st h Q) : zG E M d pc L (v :: st) h Q := by
  intro oL oS oH p e s m args below meth c H ls locs C P S V
  have o1 := zokS_cons.mp oS
  refine lv_pop C.1 C.2.1 hd ?_ (k oL o1.2 oH p e s m args below meth c H ls locs C P S V)
  rcases lv_cat (zrv E v) with q | q
  · exact q
  · have := zrv_cat2 q
    simp [this] at hv
theorem z_dup2 {v w : zV} (hd : decode M.2.1 pc = .ok (.dup2, 1)) (hv : (v.1 == 1) = false) (hw : (w.1 == 1) = false) (k : zG E M d (pc + 1) L (v :: w :: v :: w :: st) h Q) : zG E M d pc L (v :: w :: st) h Q := by
  intro oL oS oH p e s m args below meth c H ls locs C P S V
  have o1 := zokS_cons.mp oS
  have o2 := zokS_cons.mp o1.2
  refine lv_dup2_11 C.1 C.2.1 hd ?_ ?_ (k oL (zokS_cons.mpr ⟨o1.1, zokS_cons.mpr ⟨o2.1, oS⟩⟩) oH p e s m args below meth c H ls locs C P S V)
  · rcases lv_cat (zrv E v) with q | q
    · exact q
    · have := zrv_cat2 q
      simp [this] at hv
  · rcases lv_cat (zrv E w) with q | q
    · exact q
    · have := zrv_cat2 q
      simp [this] at hw
theorem z_goto {off : Int} {tgt : Nat} (hd : decode M.2.1 pc = .ok (.goto off, 3)) (ht : (pc : Int) + off = (tgt : Int)) (k : zG E M d tgt L st h Q) : zG E M d pc L st h Q := by
  intro oL oS oH p e s m args below meth c H ls locs C P S V
  exact lv_goto C.1 C.2.1 hd ht (k oL oS oH p e s m args below meth c H ls locs C P S V)

theorem i32_ne {a b : Int} (ha : r32 a) (hb : r32 b) : Int32.ofInt a ≠ Int32.ofInt b ↔ a ≠ b := not_congr (i32_eq ha hb)

theorem z_icmp_eq {a b : Int} {off : Int} {tgt : Nat} (hd : decode M.2.1 pc = .ok (.if_icmp .eq off, 3)) (ht : (pc : Int) + off = (tgt : Int)) (k : a = b → zG E M d tgt L st h Q) (k2 : ¬ (a = b) → zG E M d (pc + 3) L st h Q) : zG E M d pc L (zI b :: zI a :: st) h Q := by
  intro oL oS oH p e s m args below meth c H ls locs C P S V
  have o1 := zokS_cons.mp oS
  have o2 := zokS_cons.mp o1.2
  have ra : r32 a := o2.1.1 rfl
  have rb : r32 b := o1.1.1 rfl
  exact lv_icmp_eq (x := Int32.ofInt a) (y := Int32.ofInt b) C.1 C.2.1 hd ht (fun q => k ((i32_eq ra rb).mp q) oL o2.2 oH p e s m args below meth c H ls locs C P S V) (fun q => k2 (fun z => q ((i32_eq ra rb).mpr z)) oL o2.2 oH p e s m args below meth c H ls locs C P S V)
theorem z_if_eq {a : Int} {off : Int} {tgt : Nat} (hd : decode M.2.1 pc = .ok (.ifCond .eq off, 3)) (ht : (pc : Int) + off = (tgt : Int)) (k : a = 0 → zG E M d tgt L st h Q) (k2 : ¬ (a = 0) → zG E M d (pc + 3) L st h Q) : zG E M d pc L (zI a :: st) h Q := by
  intro oL oS oH p e s m args below meth c H ls locs C P S V
  have o1 := zokS_cons.mp oS
  have ra : r32 a := o1.1.1 rfl
  have rb : r32 0 := by unfold r32; omega
  exact lv_if_eq (x := Int32.ofInt a) C.1 C.2.1 hd ht (fun q => k ((i32_eq ra rb).mp q) oL o1.2 oH p e s m args below meth c H ls locs C P S V) (fun q => k2 (fun z => q ((i32_eq ra rb).mpr z)) oL o1.2 oH p e s m args below meth c H ls locs C P S V)

theorem z_icmp_ne {a b : Int} {off : Int} {tgt : Nat} (hd : decode M.2.1 pc = .ok (.if_icmp .ne off, 3)) (ht : (pc : Int) + off = (tgt : Int)) (k : a ≠ b → zG E M d tgt L st h Q) (k2 : ¬ (a ≠ b) → zG E M d (pc + 3) L st h Q) : zG E M d pc L (zI b :: zI a :: st) h Q := by
  intro oL oS oH p e s m args below meth c H ls locs C P S V
  have o1 := zokS_cons.mp oS
  have o2 := zokS_cons.mp o1.2
  have ra : r32 a := o2.1.1 rfl
  have rb : r32 b := o1.1.1 rfl
  exact lv_icmp_ne (x := Int32.ofInt a) (y := Int32.ofInt b) C.1 C.2.1 hd ht (fun q => k ((i32_ne ra rb).mp q) oL o2.2 oH p e s m args below meth c H ls locs C P S V) (fun q => k2 (fun z => z ((i32_eq ra rb).mp q)) oL o2.2 oH p e s m args below meth c H ls locs C P S V)
theorem z_if_ne {a : Int} {off : Int} {tgt : Nat} (hd : decode M.2.1 pc = .ok (.ifCond .ne off, 3)) (ht : (pc : Int) + off = (tgt : Int)) (k : a ≠ 0 → zG E M d tgt L st h Q) (k2 : ¬ (a ≠ 0) → zG E M d (pc + 3) L st h Q) : zG E M d pc L (zI a :: st) h Q := by
  intro oL oS oH p e s m args below meth c H ls locs C P S V
  have o1 := zokS_cons.mp oS
  have ra : r32 a := o1.1.1 rfl
  have rb : r32 0 := by unfold r32; omega
  exact lv_if_ne (x := Int32.ofInt a) C.1 C.2.1 hd ht (fun q => k ((i32_ne ra rb).mp q) oL o1.2 oH p e s m args below meth c H ls locs C P S V) (fun q => k2 (fun z => z ((i32_eq ra rb).mp q)) oL o1.2 oH p e s m args below meth c H ls locs C P S V)

theorem z_icmp_lt {a b : Int} {off : Int} {tgt : Nat} (hd : decode M.2.1 pc = .ok (.if_icmp .lt off, 3)) (ht : (pc : Int) + off = (tgt : Int)) (k : a < b → zG E M d tgt L st h Q) (k2 : ¬ (a < b) → zG E M d (pc + 3) L st h Q) : zG E M d pc L (zI b :: zI a :: st) h Q := by
  intro oL oS oH p e s m args below meth c H ls locs C P S V
  have o1 := zokS_cons.mp oS
  have o2 := zokS_cons.mp o1.2
  have ra : r32 a := o2.1.1 rfl
  have rb : r32 b := o1.1.1 rfl
  exact lv_icmp_lt (x := Int32.ofInt a) (y := Int32.ofInt b) C.1 C.2.1 hd ht (fun q => k ((i32_lt ra rb).mp q) oL o2.2 oH p e s m args below meth c H ls locs C P S V) (fun q => k2 (fun z => q ((i32_lt ra rb).mpr z)) oL o2.2 oH p e s m args below meth c H ls locs C P S V)
theorem z_if_lt {a : Int} {off : Int} {tgt : Nat} (hd : decode M.2.1 pc = .ok (.ifCond .lt off, 3)) (ht : (pc : Int) + off = (tgt : Int)) (k : a < 0 → zG E M d tgt L st h Q) (k2 : ¬ (a < 0) → zG E M d (pc + 3) L st h Q) : zG E M d pc L (zI a :: st) h Q := by
  intro oL oS oH p e s m args below meth c H ls locs C P S V
  have o1 := zokS_cons.mp oS
  have ra : r32 a := o1.1.1 rfl
  have rb : r32 0 := by unfold r32; omega
  exact lv_if_lt (x := Int32.ofInt a) C.1 C.2.1 hd ht (fun q => k ((i32_lt ra rb).mp q) oL o1.2 oH p e s m args below meth c H ls locs C P S V) (fun q => k2 (fun z => q ((i32_lt ra rb).mpr z)) oL o1.2 oH p e s m args below meth c H ls locs C P S V)

theorem z_icmp_ge {a b : Int} {off : Int} {tgt : Nat} (hd : decode M.2.1 pc = .ok (.if_icmp .ge off, 3)) (ht : (pc : Int) + off = (tgt : Int)) (k : b ≤ a → zG E M d tgt L st h Q) (k2 : ¬ (b ≤ a) → zG E M d (pc + 3) L st h Q) : zG E M d pc L (zI b :: zI a :: st) h Q := by
  intro oL oS oH p e s m args below meth c H ls locs C P S V
  have o1 := zokS_cons.mp oS
  have o2 := zokS_cons.mp o1.2
  have ra : r32 a := o2.1.1 rfl
  have rb : r32 b := o1.1.1 rfl
  exact lv_icmp_ge (x := Int32.ofInt a) (y := Int32.ofInt b) C.1 C.2.1 hd ht (fun q => k ((i32_le rb ra).mp q) oL o2.2 oH p e s m args below meth c H ls locs C P S V) (fun q => k2 (fun z => q ((i32_le rb ra).mpr z)) oL o2.2 oH p e s m args below meth c H ls locs C P S V)
theorem z_if_ge {a : Int} {off : Int} {tgt : Nat} (hd : decode M.2.1 pc = .ok (.ifCond .ge off, 3)) (ht : (pc : Int) + off = (tgt : Int)) (k : 0 ≤ a → zG E M d tgt L st h Q) (k2 : ¬ (0 ≤ a) → zG E M d (pc + 3) L st h Q) : zG E M d pc L (zI a :: st) h Q := by
  intro oL oS oH p e s m args below meth c H ls locs C P S V
  have o1 := zokS_cons.mp oS
  have ra : r32 a := o1.1.1 rfl
  have rb : r32 0 := by unfold r32; omega
  exact lv_if_ge (x := Int32.ofInt a) C.1 C.2.1 hd ht (fun q => k ((i32_le rb ra).mp q) oL o1.2 oH p e s m args below meth c H ls locs C P S V) (fun q => k2 (fun z => q ((i32_le rb ra).mpr z)) oL o1.2 oH p e s m args below meth c H ls locs C P S V)

theorem z_icmp_gt {a b : Int} {off : Int} {tgt : Nat} (hd : decode M.2.1 pc = .ok (.if_icmp .gt off, 3)) (ht : (pc : Int) + off = (tgt : Int)) (k : b < a → zG E M d tgt L st h Q) (k2 : ¬ (b < a) → zG E M d (pc + 3) L st h Q) : zG E M d pc L (zI b :: zI a :: st) h Q := by
  intro oL oS oH p e s m args below meth c H ls locs C P S V
  have o1 := zokS_cons.mp oS
  have o2 := zokS_cons.mp o1.2
  have ra : r32 a := o2.1.1 rfl
  have rb : r32 b := o1.1.1 rfl
  exact lv_icmp_gt (x := Int32.ofInt a) (y := Int32.ofInt b) C.1 C.2.1 hd ht (fun q => k ((i32_lt rb ra).mp q) oL o2.2 oH p e s m args below meth c H ls locs C P S V) (fun q => k2 (fun z => q ((i32_lt rb ra).mpr z)) oL o2.2 oH p e s m args below meth c H ls locs C P S V)
theorem z_if_gt {a : Int} {off : Int} {tgt : Nat} (hd : decode M.2.1 pc = .ok (.ifCond .gt off, 3)) (ht : (pc : Int) + off = (tgt : Int)) (k : 0 < a → zG E M d tgt L st h Q) (k2 : ¬ (0 < a) → zG E M d (pc + 3) L st h Q) : zG E M d pc L (zI a :: st) h Q := by
  intro oL oS oH p e s m args below meth c H ls locs C P S V
  have o1 := zokS_cons.mp oS
  have ra : r32 a := o1.1.1 rfl
  have rb : r32 0 := by unfold r32; omega
  exact lv_if_gt (x := Int32.ofInt a) C.1 C.2.1 hd ht (fun q => k ((i32_lt rb ra).mp q) oL o1.2 oH p e s m args below meth c H ls locs C P S V) (fun q => k2 (fun z => q ((i32_lt rb ra).mpr z)) oL o1.2 oH p e s m args below meth c H ls locs C P S V)

theorem z_icmp_le {a b : Int} {off : Int} {tgt : Nat} (hd : decode M.2.1 pc = .ok (.if_icmp .le off, 3)) (ht : (pc : Int) + off = (tgt : Int)) (k : a ≤ b → zG E M d tgt L st h Q) (k2 : ¬ (a ≤ b) → zG E M d (pc + 3) L st h Q) : zG E M d pc L (zI b :: zI a :: st) h Q := by
  intro oL oS oH p e s m args below meth c H ls locs C P S V
  have o1 := zokS_cons.mp oS
  have o2 := zokS_cons.mp o1.2
  have ra : r32 a := o2.1.1 rfl
  have rb : r32 b := o1.1.1 rfl
  exact lv_icmp_le (x := Int32.ofInt a) (y := Int32.ofInt b) C.1 C.2.1 hd ht (fun q => k ((i32_le ra rb).mp q) oL o2.2 oH p e s m args below meth c H ls locs C P S V) (fun q => k2 (fun z => q ((i32_le ra rb).mpr z)) oL o2.2 oH p e s m args below meth c H ls locs C P S V)
theorem z_if_le {a : Int} {off : Int} {tgt : Nat} (hd : decode M.2.1 pc = .ok (.ifCond .le off, 3)) (ht : (pc : Int) + off = (tgt : Int)) (k : a ≤ 0 → zG E M d tgt L st h Q) (k2 : ¬ (a ≤ 0) → zG E M d (pc + 3) L st h Q) : zG E M d pc L (zI a :: st) h Q := by
  intro oL oS oH p e s m args below meth c H ls locs C P S V
  have o1 := zokS_cons.mp oS
  have ra : r32 a := o1.1.1 rfl
  have rb : r32 0 := by unfold r32; omega
  exact lv_if_le (x := Int32.ofInt a) C.1 C.2.1 hd ht (fun q => k ((i32_le ra rb).mp q) oL o1.2 oH p e s m args below meth c H ls locs C P S V) (fun q => k2 (fun z => q ((i32_le ra rb).mpr z)) oL o1.2 oH p e s m args below meth c H ls locs C P S V)

theorem z_iaload {c n : Nat} {i : Int} (hd : decode M.2.1 pc = .ok (.iaload, 1)) (hs : zsh E c = (20, n)) (hc : c < zN E) (h0 : 0 ≤ i) (h1 : i < n) (k : zG E M d (pc + 1) L (zI (h c i.toNat) :: st) h Q) : zG E M d pc L (zI i :: zR c :: st) h Q := by
  intro oL oS oH p e s m args below meth c0 H ls locs C P S V
  have o1 := zokS_cons.mp oS
  have o2 := zokS_cons.mp o1.2
  have ri : r32 i := o1.1.1 rfl
  have kk := k oL (zokS_cons.mpr ⟨zok_i ((oH c i.toNat).2 (by rw [hs]; simp)), o2.2⟩) oH p e s m args below meth c0 H ls locs C P S V
  have hw := zw_at (E := E) (h := h) hc
  have hre : zre E c (h c) = .inl (zcA E 0, n, .inl (fun j => Int32.ofInt (h c j))) := by simp [zre, hs]
  rw [hre] at hw
  refine va_iald (i := Int32.ofInt i) C.1 C.2.1 C.2.2.2.2.2.2.2.1 P c 0 hw rfl (i32_in h0 h1 ri) hd ?_
  rw [i32_clamp h0 ri]
  exact kk

theorem z_caload {c n : Nat} {i : Int} (hd : decode M.2.1 pc = .ok (.caload, 1)) (hs : zsh E c = (21, n)) (hc : c < zN E) (h0 : 0 ≤ i) (h1 : i < n) (k : zG E M d (pc + 1) L (zI (h c i.toNat) :: st) h Q) : zG E M d pc L (zI i :: zR c :: st) h Q := by
  intro oL oS oH p e s m args below meth c0 H ls locs C P S V
  have o1 := zokS_cons.mp oS
  have o2 := zokS_cons.mp o1.2
  have ri : r32 i := o1.1.1 rfl
  have kk := k oL (zokS_cons.mpr ⟨zok_i ((oH c i.toNat).2 (by rw [hs]; simp)), o2.2⟩) oH p e s m args below meth c0 H ls locs C P S V
  have hw := zw_at (E := E) (h := h) hc
  have hre : zre E c (h c) = .inl (zcA E 1, n, .inl (fun j => Int32.ofInt (h c j))) := by simp [zre, hs]
  rw [hre] at hw
  refine va_cald (i := Int32.ofInt i) C.1 C.2.1 C.2.2.2.2.2.2.2.1 P c 1 hw rfl (i32_in h0 h1 ri) hd ?_
  rw [i32_clamp h0 ri]
  exact kk

theorem z_baload {c n : Nat} {i : Int} (hd : decode M.2.1 pc = .ok (.baload, 1)) (hs : zsh E c = (22, n)) (hc : c < zN E) (h0 : 0 ≤ i) (h1 : i < n) (k : zG E M d (pc + 1) L (zI (h c i.toNat) :: st) h Q) : zG E M d pc L (zI i :: zR c :: st) h Q := by
  intro oL oS oH p e s m args below meth c0 H ls locs C P S V
  have o1 := zokS_cons.mp oS
  have o2 := zokS_cons.mp o1.2
  have ri : r32 i := o1.1.1 rfl
  have kk := k oL (zokS_cons.mpr ⟨zok_i ((oH c i.toNat).2 (by rw [hs]; simp)), o2.2⟩) oH p e s m args below meth c0 H ls locs C P S V
  have hw := zw_at (E := E) (h := h) hc
  have hre : zre E c (h c) = .inl (zcA E 2, n, .inl (fun j => Int32.ofInt (h c j))) := by simp [zre, hs]
  rw [hre] at hw
  refine va_zald (i := Int32.ofInt i) C.1 C.2.1 C.2.2.2.2.2.2.2.1 P c 2 hw rfl (i32_in h0 h1 ri) hd ?_
  rw [i32_clamp h0 ri]
  exact kk

theorem z_laload {c n : Nat} {i : Int} (hd : decode M.2.1 pc = .ok (.laload, 1)) (hs : zsh E c = (23, n)) (hc : c < zN E) (h0 : 0 ≤ i) (h1 : i < n) (k : zG E M d (pc + 1) L (zJ (h c i.toNat) :: st) h Q) : zG E M d pc L (zI i :: zR c :: st) h Q := by
  intro oL oS oH p e s m args below meth c0 H ls locs C P S V
  have o1 := zokS_cons.mp oS
  have o2 := zokS_cons.mp o1.2
  have ri : r32 i := o1.1.1 rfl
  have kk := k oL (zokS_cons.mpr ⟨zok_j (oH c i.toNat).1, o2.2⟩) oH p e s m args below meth c0 H ls locs C P S V
  have hw := zw_at (E := E) (h := h) hc
  have hre : zre E c (h c) = .inl (zcA E 3, n, .inr (.inl (fun j => Int64.ofInt (h c j)))) := by simp [zre, hs]
  rw [hre] at hw
  refine va_lald (i := Int32.ofInt i) C.1 C.2.1 C.2.2.2.2.2.2.2.1 P c 3 hw rfl (i32_in h0 h1 ri) hd ?_
  rw [i32_clamp h0 ri]
  exact kk

theorem z_iastore {c n : Nat} {i x : Int} (hd : decode M.2.1 pc = .ok (.iastore, 1)) (hs : zsh E c = (20, n)) (hc : c < zN E) (h0 : 0 ≤ i) (h1 : i < n) (k : zG E M d (pc + 1) L st (hset h c i.toNat x) Q) : zG E M d pc L (zI x :: zI i :: zR c :: st) h Q := by
  intro oL oS oH p e s m args below meth c0 H ls locs C P S V
  have o1 := zokS_cons.mp oS
  have o2 := zokS_cons.mp o1.2
  have o3 := zokS_cons.mp o2.2
  have ri : r32 i := o2.1.1 rfl
  have hw := zw_at (E := E) (h := h) hc
  have hre : zre E c (h c) = .inl (zcA E 0, n, .inl (fun j => Int32.ofInt (h c j))) := by simp [zre, hs]
  rw [hre] at hw
  refine va_iast (i := Int32.ofInt i) (x := Int32.ofInt x) C.1 C.2.1 C.2.2.2.2.2.2.2.1 P (zD_of C.2.2.2.2.2.2.2) S c 0 hw rfl (i32_in h0 h1 ri) hd (fun H1 locs1 P1 D1 S1 => ?_)
  refine k oL o3.2 (zokH_set oH (r32_64 (o1.1.1 rfl)) (fun q => o1.1.1 rfl)) p e s m args below meth c0 H1 ls locs1 C ?_ S1 V
  rw [← zw_set hc]
  have e1 : zre E c (fun j' => if j' = i.toNat then x else h c j') = .inl (zcA E 0, n, .inl (upd (fun j => Int32.ofInt (h c j)) (Int32.ofInt i).toNatClampNeg (Int32.ofInt x))) := by
    rw [i32_clamp h0 ri]
    simp only [zre, hs]
    simp
    funext j'
    unfold upd
    split <;> rfl
  rw [e1]

  exact P1

theorem z_castore {c n : Nat} {i x : Int} (hd : decode M.2.1 pc = .ok (.castore, 1)) (hs : zsh E c = (21, n)) (hc : c < zN E) (h0 : 0 ≤ i) (h1 : i < n) (hx0 : 0 ≤ x) (hx1 : x < 65536) (k : zG E M d (pc + 1) L st (hset h c i.toNat x) Q) : zG E M d pc L (zI x :: zI i :: zR c :: st) h Q := by
  intro oL oS oH p e s m args below meth c0 H ls locs C P S V
  have o1 := zokS_cons.mp oS
  have o2 := zokS_cons.mp o1.2
  have o3 := zokS_cons.mp o2.2
  have ri : r32 i := o2.1.1 rfl
  have hw := zw_at (E := E) (h := h) hc
  have hre : zre E c (h c) = .inl (zcA E 1, n, .inl (fun j => Int32.ofInt (h c j))) := by simp [zre, hs]
  rw [hre] at hw
  have hnar : vp_nar .char (Int32.ofInt x) = Int32.ofInt x := by
    obtain ⟨n, rfl⟩ := Int.eq_ofNat_of_zero_le hx0
    have hn : n < 65536 := by omega
    have e1 : Int32.ofInt (n : Int) = nI n := Int32.ofInt_eq_ofNat
    rw [e1]
    unfold vp_nar
    rw [(pk_charN hn).1]
  refine va_cast (i := Int32.ofInt i) (x := Int32.ofInt x) C.1 C.2.1 C.2.2.2.2.2.2.2.1 P (zD_of C.2.2.2.2.2.2.2) S c 1 hw rfl (i32_in h0 h1 ri) hd (fun H1 locs1 P1 D1 S1 => ?_)
  refine k oL o3.2 (zokH_set oH (r32_64 (o1.1.1 rfl)) (fun q => o1.1.1 rfl)) p e s m args below meth c0 H1 ls locs1 C ?_ S1 V
  rw [← zw_set hc]
  have e1 : zre E c (fun j' => if j' = i.toNat then x else h c j') = .inl (zcA E 1, n, .inl (upd (fun j => Int32.ofInt (h c j)) (Int32.ofInt i).toNatClampNeg (Int32.ofInt x))) := by
    rw [i32_clamp h0 ri]
    simp only [zre, hs]
    simp
    funext j'
    unfold upd
    split <;> rfl
  rw [e1]
  rw [hnar] at P1
  exact P1

theorem z_bastore {c n : Nat} {i x : Int} (hd : decode M.2.1 pc = .ok (.bastore, 1)) (hs : zsh E c = (22, n)) (hc : c < zN E) (h0 : 0 ≤ i) (h1 : i < n) (hx0 : x = 0 ∨ x = 1) (k : zG E M d (pc + 1) L st (hset h c i.toNat x) Q) : zG E M d pc L (zI x :: zI i :: zR c :: st) h Q := by
  intro oL oS oH p e s m args below meth c0 H ls locs C P S V
  have o1 := zokS_cons.mp oS
  have o2 := zokS_cons.mp o1.2
  have o3 := zokS_cons.mp o2.2
  have ri : r32 i := o2.1.1 rfl
  have hw := zw_at (E := E) (h := h) hc
  have hre : zre E c (h c) = .inl (zcA E 2, n, .inl (fun j => Int32.ofInt (h c j))) := by simp [zre, hs]
  rw [hre] at hw
  have hnar : vp_nar .boolean (Int32.ofInt x) = Int32.ofInt x := by
    rcases hx0 with rfl | rfl <;> decide +kernel
  refine va_zast (i := Int32.ofInt i) (x := Int32.ofInt x) C.1 C.2.1 C.2.2.2.2.2.2.2.1 P (zD_of C.2.2.2.2.2.2.2) S c 2 hw rfl (i32_in h0 h1 ri) hd (fun H1 locs1 P1 D1 S1 => ?_)
  refine k oL o3.2 (zokH_set oH (r32_64 (o1.1.1 rfl)) (fun q => o1.1.1 rfl)) p e s m args below meth c0 H1 ls locs1 C ?_ S1 V
  rw [← zw_set hc]
  have e1 : zre E c (fun j' => if j' = i.toNat then x else h c j') = .inl (zcA E 2, n, .inl (upd (fun j => Int32.ofInt (h c j)) (Int32.ofInt i).toNatClampNeg (Int32.ofInt x))) := by
    rw [i32_clamp h0 ri]
    simp only [zre, hs]
    simp
    funext j'
    unfold upd
    split <;> rfl
  rw [e1]
  rw [hnar] at P1
  exact P1

theorem z_lastore {c n : Nat} {i x : Int} (hd : decode M.2.1 pc = .ok (.lastore, 1)) (hs : zsh E c = (23, n)) (hc : c < zN E) (h0 : 0 ≤ i) (h1 : i < n) (k : zG E M d (pc + 1) L st (hset h c i.toNat x) Q) : zG E M d pc L (zJ x :: zI i :: zR c :: st) h Q := by
  intro oL oS oH p e s m args below meth c0 H ls locs C P S V
  have o1 := zokS_cons.mp oS
  have o2 := zokS_cons.mp o1.2
  have o3 := zokS_cons.mp o2.2
  have ri : r32 i := o2.1.1 rfl
  have hw := zw_at (E := E) (h := h) hc
  have hre : zre E c (h c) = .inl (zcA E 3, n, .inr (.inl (fun j => Int64.ofInt (h c j)))) := by simp [zre, hs]
  rw [hre] at hw
  refine va_last (i := Int32.ofInt i) (x := Int64.ofInt x) C.1 C.2.1 C.2.2.2.2.2.2.2.1 P (zD_of C.2.2.2.2.2.2.2) S c 3 hw rfl (i32_in h0 h1 ri) hd (fun H1 locs1 P1 D1 S1 => ?_)
  refine k oL o3.2 (zokH_set oH (o1.1.2 rfl) (fun q => absurd (by rw [hs]) q)) p e s m args below meth c0 H1 ls locs1 C ?_ S1 V
  rw [← zw_set hc]
  have e1 : zre E c (fun j' => if j' = i.toNat then x else h c j') = .inl (zcA E 3, n, .inr (.inl (vp_updL (fun j => Int64.ofInt (h c j)) (Int32.ofInt i).toNatClampNeg (Int64.ofInt x)))) := by
    rw [i32_clamp h0 ri]
    simp only [zre, hs]
    simp
    funext j'
    unfold vp_updL
    split <;> rfl
  rw [e1]

  exact P1

theorem z_alen {c kd n : Nat} (hd : decode M.2.1 pc = .ok (.arraylength, 1)) (hs : zsh E c = (kd, n)) (hkd : 20 ≤ kd) (hk2 : kd ≤ 23) (hn : n < 2147483648) (hc : c < zN E) (k : zG E M d (pc + 1) L (zI n :: st) h Q) : zG E M d pc L (zR c :: st) h Q := by
  intro oL oS oH p e s m args below meth c0 H ls locs C P S V
  have o1 := zokS_cons.mp oS
  have kk := k oL (zokS_cons.mpr ⟨zok_i ⟨by omega, by omega⟩, o1.2⟩) oH p e s m args below meth c0 H ls locs C P S V
  have hw := zw_at (E := E) (h := h) hc
  have key : ∃ (t0 : Nat) (x : vp_A) (ty : FieldType), zre E c (h c) = .inl (zcA E t0, x) ∧ x.1 = n ∧ (ztys E)[t0]? = some (zcA E t0, ty) := by
    by_cases q : kd = 23
    · exact ⟨3, _, .long, by simp only [zre, hs]; rw [if_pos q], rfl, rfl⟩
    · rcases (show kd = 20 ∨ kd = 21 ∨ kd = 22 by omega) with rfl | rfl | rfl
      · exact ⟨0, (n, .inl (fun j => Int32.ofInt (h c j))), .int, by simp [zre, hs], rfl, rfl⟩
      · exact ⟨1, (n, .inl (fun j => Int32.ofInt (h c j))), .char, by simp [zre, hs], rfl, rfl⟩
      · exact ⟨2, (n, .inl (fun j => Int32.ofInt (h c j))), .boolean, by simp [zre, hs], rfl, rfl⟩
  obtain ⟨t0, x, ty, e1, e2, e3⟩ := key
  rw [e1] at hw
  exact va_alen C.1 C.2.1 C.2.2.2.2.2.2.2.1 P c t0 hw e3 (v := Int32.ofInt (n : Int)) (by rw [e2]; exact Int32.ofInt_eq_ofNat.symm) hd kk

theorem zre_obj {c ci N : Nat} (hs : zsh E c = (ci, N)) (h20 : ci < 20) (f : Nat → Int) : zre E c f = .inr (ci, (List.range N).map (fun j => zfv E c (zfk ci j) (f j))) := by
  simp only [zre, hs]
  rw [if_neg (by omega), if_neg (by omega)]
theorem z_get {c ci N k ix : Nat} {C0 : String} {T : u_T} {v : zV} (hd : decode M.2.1 pc = .ok (.getfield ix, 3)) (hs : zsh E c = (ci, N)) (hc : c < zN E) (h20 : ci < 20) (hcl : vwCl[ci]? = some (C0, T, N)) (hin : ∀ w ∈ u_ws C0 T N, w ∈ ztb) (hk : k < N) (hlk : Cond.fieldLink M.1.cls ix (T k).1 (T k).2.1 (T k).2.2.1 ∈ ztb) (hv : zfv E c (zfk ci k) (h c k) = zrv E v) (hov : zokH E h → zok v) (kk : zG E M d (pc + 3) L (v :: st) h Q) : zG E M d pc L (zR c :: st) h Q := by
  intro oL oS oH p e s m args below meth c0 H ls locs C P S V
  have o1 := zokS_cons.mp oS
  have k2 := kk oL (zokS_cons.mpr ⟨hov oH, o1.2⟩) oH p e s m args below meth c0 H ls locs C P S V
  have hw := zw_at (E := E) (h := h) hc
  rw [zre_obj hs h20] at hw
  exact va_get (C := C0) (T := T) (N := N) C.1 C.2.1 (fun w hw' => C.2.2.2.2.2.1 w (List.mem_cons_of_mem _ hw')) hin C.2.2.2.2.1 C.2.2.2.2.2.2.2.1 P c hw hcl k hk (C.2.2.2.2.2.1 _ (List.mem_cons_of_mem _ hlk)) (fun _ q => q) (v := zrv E v) (by rw [← hv]; simp [hk]) hd k2
theorem z_put {c ci N k ix : Nat} {C0 : String} {T : u_T} {v : zV} {x : Int} {ty : FieldType} (ty0 : Nat → FieldType) (hty : ∀ k, k < N → parseFieldDescriptor (T k).2.2.1 = some (ty0 k)) (hnm : ∀ a, a < N → ∀ b, b < N → a ≠ b → (T a).2.1 ≠ (T b).2.1) (hd : decode M.2.1 pc = .ok (.putfield ix, 3)) (hs : zsh E c = (ci, N)) (hc : c < zN E) (h20 : ci < 20) (hcl : vwCl[ci]? = some (C0, T, N)) (hin : ∀ w ∈ u_ws C0 T N, w ∈ ztb) (hk : k < N) (hlk : Cond.fieldLink M.1.cls ix (T k).1 (T k).2.1 (T k).2.2.1 ∈ ztb) (hfin : (T k).2.2.2 = false) (hdd : parseFieldDescriptor (T k).2.2.1 = some ty) (hn : narrow ty (zrv E v) = zrv E v) (hfit : fits ty (zrv E v) = true) (hv : zfv E c (zfk ci k) x = zrv E v) (hx : zok v → r32 x) (kk : zG E M d (pc + 3) L st (hset h c k x) Q) : zG E M d pc L (v :: zR c :: st) h Q := by
  intro oL oS oH p e s m args below meth c0 H ls locs C P S V
  have o1 := zokS_cons.mp oS
  have o2 := zokS_cons.mp o1.2
  have hw := zw_at (E := E) (h := h) hc
  rw [zre_obj hs h20] at hw
  refine va_put (C := C0) (T := T) (N := N) C.1 C.2.1 (fun w hw' => C.2.2.2.2.2.1 w (List.mem_cons_of_mem _ hw')) hin ty0 hty hnm C.2.2.2.2.1 C.2.2.2.2.2.2.2.1 P (zD_of C.2.2.2.2.2.2.2) S c hw hcl k hk (C.2.2.2.2.2.1 _ (List.mem_cons_of_mem _ hlk)) (fun _ q => q) hfin hdd hn hfit (by simp [hk]) hd (fun H1 locs1 P1 D1 S1 => ?_)
  refine kk oL o2.2 (zokH_set oH (r32_64 (hx o1.1)) (fun _ => hx o1.1)) p e s m args below meth c0 H1 ls locs1 C ?_ S1 V
  rw [← zw_set hc, zre_obj hs h20]
  have e1 : (List.range N).map (fun j => zfv E c (zfk ci j) (if j = k then x else h c j)) = ((List.range N).map (fun j => zfv E c (zfk ci j) (h c j))).set k (zrv E v) := by
    refine List.ext_getElem? fun i => ?_
    by_cases hi : i = k
    · subst hi
      rw [List.getElem?_set_self (by simp [hk]), ← hv]
      simp [hk]
    · rw [List.getElem?_set_ne (Ne.symm hi)]
      by_cases hn : i < N <;> simp [hi, hn]
  rw [e1]
  exact P1
theorem r_bool {x : Int} (hx : x = 0 ∨ x = 1) : narrow .boolean (Value.int (Int32.ofInt x)) = .int (Int32.ofInt x) ∧ fits .boolean (Value.int (Int32.ofInt x)) = true := by
  rcases hx with rfl | rfl <;> exact ⟨by decide +kernel, by decide +kernel⟩

theorem zQ_end {s t : State} {H : Heap} {locs : List Loc} {args : Array Value} {r : List zV} (hr : r.length ≤ 1) (ho : zokS r) (oH : zokH E h) (P : va_P (zD E) vwCl (zw E h) H) (S : va_S (zA E) s.heap H locs) (ht : t.heap = H) (hq : Q r h) : zQ E Q args s (.returned ((r.map (zrv E)).head?)) t :=
  ⟨⟨r, h, rfl, hr, ho, oH, by rw [ht]; exact P, hq⟩, S.F ht⟩
theorem z_iret {x : Int} (hd : decode M.2.1 pc = .ok (.ireturn, 1)) (hr : M.2.2.2 = some .int) (hq : Q [zI x] h) : zG E M d pc L [zI x] h Q := by
  intro oL oS oH p e s m args below meth c H ls locs C P S V
  exact W.iret (v := Int32.ofInt x) C.1 C.2.1 (C.2.2.1.trans hr) (fun t ht _ => zQ_end (r := [zI x]) (by simp) oS oH P S ht hq) S.2.2 hd C.2.2.2.2.2.2.1
theorem z_zret {x : Int} (hd : decode M.2.1 pc = .ok (.ireturn, 1)) (hr : M.2.2.2 = some .boolean) (hx : x = 0 ∨ x = 1) (hq : Q [zI x] h) : zG E M d pc L [zI x] h Q := by
  intro oL oS oH p e s m args below meth c H ls locs C P S V
  exact W.zret (v := Int32.ofInt x) C.1 C.2.1 (C.2.2.1.trans hr) (r_bool hx).1 (fun t ht _ => zQ_end (r := [zI x]) (by simp) oS oH P S ht hq) S.2.2 hd C.2.2.2.2.2.2.1
theorem z_lret {x : Int} (hd : decode M.2.1 pc = .ok (.lreturn, 1)) (hr : M.2.2.2 = some .long) (hq : Q [zJ x] h) : zG E M d pc L [zJ x] h Q := by
  intro oL oS oH p e s m args below meth c H ls locs C P S V
  exact W.lret (v := Int64.ofInt x) C.1 C.2.1 (C.2.2.1.trans hr) (fun t ht _ => zQ_end (r := [zJ x]) (by simp) oS oH P S ht hq) S.2.2 hd C.2.2.2.2.2.2.1
theorem z_vret (hd : decode M.2.1 pc = .ok (.return_, 1)) (hr : M.2.2.2 = none) (hq : Q [] h) : zG E M d pc L [] h Q := by
  intro oL oS oH p e s m args below meth c H ls locs C P S V
  exact W.vret C.1 C.2.1 (C.2.2.1.trans hr) (fun t ht _ => zQ_end (r := []) (by simp) oS oH P S ht hq) S.2.2 hd C.2.2.2.2.2.2.1

end ZWp
