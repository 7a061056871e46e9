/-! ===== making: a world that grows, in the order of its cells ===== -/
section ZMade
abbrev zU2 : Type := Nat → Nat → Bool
def uset (u : zU2) (c j : Nat) : zU2 := fun c' j' => if c' = c ∧ j' = j then true else u c' j'
def zfB (E : zE) (c : Nat) (fk : Nat × Nat) (x : Int) (b : Bool) : Value := match fk.1 with
  | 1 => if b then .ref (zad E (c + fk.2)) else .null
  | 2 => if b then .ref (zad E x.toNat) else .null
  | _ => .int (Int32.ofInt x)
def zreB (E : zE) (u : zU2) (c : Nat) (f : Nat → Int) : va_E :=
  if (zsh E c).1 = 23 then .inl (zcA E 3, (zsh E c).2, .inr (.inl (fun j => Int64.ofInt (f j))))
  else if 20 ≤ (zsh E c).1 then .inl (zcA E ((zsh E c).1 - 20), (zsh E c).2, .inl (fun j => Int32.ofInt (f j)))
  else .inr ((zsh E c).1, (List.range (zsh E c).2).map (fun j => zfB E c (zfk (zsh E c).1 j) (f j) (u c j)))
def zwB (E : zE) (h : zH) (u : zU2) (n : Nat) : va_W := (List.range n).map (fun c => (zad E c, zreB E u c (h c)))
def zslF (f : Nat → Nat × Nat) : Nat → Nat
  | 0 => 0
  | n + 1 => zslF f n + (f n).2
abbrev zsl (E : zE) (n : Nat) : Nat := zslF (zsh E) n
def rmB (E : zE) (d m0 m1 : Nat) : Room := { frames := d + 6, cells := m1 - m0, slots := zsl E m1 - zsl E m0, locals := 64 * (d + 6) }
def zAf (E : zE) : Nat → Prop := fun q => zad E 0 ≤ q
def sTf (E : zE) (U : State) (H : Heap) : Prop := vk_S 2 zTlen zTbyt (zTK E) (zTV E) (zAf E) U H ∧ va_Z RJ0 "COMPACT_STRINGS" "Z" (.int 1) (zAf E) U H ∧ va_Z RJ3 "SIOOBE_FORMATTER" "Ljava/util/function/BiFunction;" (zrv E zFm) (zAf E) U H
def zStB (E : zE) (U : State) (H : Heap) : Prop := va_K (zD E) vwCl (ztys E) U ∧ (∀ c, zad E c = zad E 0 + c) ∧ (∀ w ∈ znw, va_Nw w U) ∧ sTf E U H ∧ vk_R RX10 zTix zTtx (zTK E 0) U ∧ vk_R RX1 zTix1 zTtx1 (zTK E 1) U
def zQB (E : zE) (m1 : Nat) (Q : List zV → zH → zU2 → Prop) : Array Value → State → Outcome → State → Prop := fun _ st oc t =>
  (∃ (r : List zV) (h' : zH) (u' : zU2), oc = .returned ((r.map (zrv E)).head?) ∧ r.length ≤ 1 ∧ zokS r ∧ zokH E h' ∧ va_P (zD E) vwCl (zwB E h' u' m1) t.heap ∧ t.heap.size = zad E 0 + m1 ∧ Q r h' u') ∧ va_F (zAf E) st t
def zAtB (E : zE) (M : zM) (p : Program) (s : State) (m : MethodId) (args : Array Value) (meth : Method) (c : Code) : Prop :=
  p.tables.exec = Jvm.exec ∧ c.code = M.2.1 ∧ meth.sig.returnType = M.2.2.2 ∧ c.maxLocals = M.2.2.1 ∧ s.vm.findClass M.1.cls = some m.cls ∧ (∀ w ∈ zws M, w.before args s = true) ∧ meth.locks = false ∧ zStB E s s.heap ∧ meth.name = M.1.name
def zB (E : zE) (M : zM) (d m0 m1 pc : Nat) (L st : List zV) (h : zH) (u : zU2) (nn : Nat) (Q : List zV → zH → zU2 → Prop) : Prop :=
  zokS L → zokS st → zokH E h → ∀ (p : Program) (e : Env) (s : State) (m : MethodId) (args : Array Value) (below : List Frame) (meth : Method) (c : Code) (H : Heap) (ls : Array Slot) (locs : List Loc),
    zAtB E M p s m args meth c → va_P (zD E) vwCl (zwB E h u nn) H → va_S (zAf E) s.heap H locs → lv_has ls M.2.2.1 (zlv E L) → (H.size = zad E 0 + nn ∧ s.heap.size = zad E 0 + m0 ∧ m0 ≤ nn ∧ nn ≤ m1) →
    W p (zl E) e (rmB E d m0 m1) s m args below meth c H locs (nn - m0) (zsl E nn - zsl E m0) (MQ below (zQB E m1 Q) args s (m1 - m0) (zsl E m1 - zsl E m0) (zAf E)) (F0 m pc ls (st.map (zrv E)))
def zCB (E : zE) (M : zM) (d m0 m1 : Nat) (as : List zV) (h : zH) (u : zU2) (Q : List zV → zH → zU2 → Prop) : Prop :=
  zokS as → zokH E h → Met (zl E) M.1 (zws M) (rmB E d m0 m1) (va_Pc (as.map (zrv E)) (fun U => va_P (zD E) vwCl (zwB E h u m0) U.heap ∧ U.heap.size = zad E 0 + m0 ∧ zStB E U U.heap)) (zQB E m1 Q) (m1 - m0) (zsl E m1 - zsl E m0) (zAf E)
variable {E : zE} {M : zM} {d m0 m1 pc : Nat} {L st : List zV} {h : zH} {u : zU2} {nn : Nat} {Q : List zV → zH → zU2 → Prop}
theorem zsl_mono {f : Nat → Nat × Nat} {a b : Nat} (hab : a ≤ b) : zslF f a ≤ zslF f b := by
  induction b with
  | zero => rw [Nat.le_zero.mp hab]; exact Nat.le_refl _
  | succ b ih =>
    by_cases q : a = b + 1
    · rw [q]; exact Nat.le_refl _
    · have := ih (by omega)
      show zslF f a ≤ zslF f b + (f b).2
      omega
theorem zslE_mono {a b : Nat} (hab : a ≤ b) : zsl E a ≤ zsl E b := zsl_mono hab
theorem zwB_at {c : Nat} (hc : c < nn) : (zwB E h u nn)[c]? = some (zad E c, zreB E u c (h c)) := by
  simp [zwB, hc]
theorem sTf.tx {U : State} {H : Heap} (ha : ∀ c, zad E c = zad E 0 + c) (t : sTf E U H) : sTx E U H := by
  have hAB : ∀ q, zA E q → zAf E q := fun q ⟨c, _, e⟩ => by
    unfold zAf
    rw [e, ha c]
    exact Nat.le_add_right _ _
  exact ⟨t.1.narrow hAB, t.2.1.narrow hAB, t.2.2.narrow hAB⟩
theorem sTf.use {s U : State} {H : Heap} {locs : List Loc} (t : sTf E s s.heap) (hS : va_S (zAf E) s.heap H locs) (hW : s.WarmedH U.vm) (hU : U.heap = H) : sTf E U U.heap := by
  rw [hU]
  exact ⟨vk_S.moved hW.alike (t.1.kept (fun a ha hn => hS.2.1 a ha hn)), va_Z.moved hW.alike (t.2.1.kept (fun a ha hn => hS.2.1 a ha hn)), va_Z.moved hW.alike (t.2.2.kept (fun a ha hn => hS.2.1 a ha hn))⟩
theorem zStB.use {s U : State} {H : Heap} {locs : List Loc} (hs : zStB E s s.heap) (hS : va_S (zAf E) s.heap H locs) (hW : s.WarmedH U.vm) (hU : U.heap = H) : zStB E U U.heap := by
  obtain ⟨h1, h2, h3, h4, h5, h6⟩ := hs
  exact ⟨va_K.moved hW.alike h1, h2, fun w hw => znw_warm hW w hw (h3 w hw), h4.use hS hW hU, vk_R.warm hW h5, vk_R.warm hW h6⟩
theorem zStB.blind {U : State} {g : JFrame} {mk : MethodId} {a : Array Value} (hs : zStB E U U.heap) : zStB E (U.calling g mk a) (U.calling g mk a).heap := by
  obtain ⟨h1, h2, h3, h4, h5, h6⟩ := hs
  exact ⟨va_K.moved (u := U) (U := U.calling g mk a) (Vm.Alike.refl U.vm) h1, h2, fun w hw => va_Nw.same (znw_on w hw) (u := U) (U := U.calling g mk a) rfl (h3 w hw), ⟨vk_S.moved (u := U) (U := U.calling g mk a) (Vm.Alike.refl U.vm) h4.1, va_Z.moved (u := U) (U := U.calling g mk a) (Vm.Alike.refl U.vm) h4.2.1, va_Z.moved (u := U) (U := U.calling g mk a) (Vm.Alike.refl U.vm) h4.2.2⟩, vk_R.same (u := U) (U := U.calling g mk a) rfl h5, vk_R.same (u := U) (U := U.calling g mk a) rfl h6⟩
theorem zDB_of {s : State} {H : Heap} (hs : zStB E s H) : va_D (zAf E) (zwB E h u nn) := by
  have key : ∀ (k : Nat) (q : Nat × va_E), (zwB E h u nn)[k]? = some q → k < nn ∧ q.1 = zad E k := by
    intro k q hk
    have hl : k < nn := by
      have := (List.getElem?_eq_some_iff.mp hk).1
      simpa [zwB] using this
    rw [zwB_at hl] at hk
    cases hk
    exact ⟨hl, rfl⟩
  have ha := hs.2.1
  refine ⟨fun i j x y hx hy hxy => ?_, fun k q hk => ?_⟩
  · obtain ⟨a1, a2⟩ := key i x hx
    obtain ⟨b1, b2⟩ := key j y hy
    have e1 := ha i
    have e2 := ha j
    omega
  · obtain ⟨a1, a2⟩ := key k q hk
    unfold zAf
    rw [a2, ha k]
    exact Nat.le_add_right _ _
theorem zPB_kept {H H1 : Heap} (P : va_P (zD E) vwCl (zwB E h u nn) H) (hk : ∀ q : Nat, q < H.size → ¬ nA q → H1[q]? = H[q]?) : va_P (zD E) vwCl (zwB E h u nn) H1 :=
  P.kept (fun k q hq => hk _ (P k q hq).lt (fun z => z))
theorem W_sz {p : Program} {l : Launch} {e : Env} {R : Room} {s : State} {m : MethodId} {args : Array Value} {below : List Frame} {meth : Method} {c : Code} {H : Heap} {locs : List Loc} {cells slots : Nat} {QQ : State → Prop} {g : JFrame} (k : H.size ≤ s.heap.size + cells → W p l e R s m args below meth c H locs cells slots QQ g) : W p l e R s m args below meth c H locs cells slots QQ g := fun T hT X => k (by
  have := X.same.2.2.1
  rw [← hT]
  exact this) T hT X
theorem zB_lo {H : Heap} (ha : ∀ c, zad E c = zad E 0 + c) (P : va_P (zD E) vwCl (zwB E h u nn) H) (hn : 0 < nn) : zad E 0 + nn ≤ H.size := by
  have := (P (nn - 1) _ (zwB_at (by omega))).lt
  have e := ha (nn - 1)
  dsimp only at this
  omega
theorem y_iadd {a b : Int} (hd : decode M.2.1 pc = .ok (.iadd, 1)) (k : zB E M d m0 m1 (pc + 1) L (zI (w32 (a + b)) :: st) h u nn Q) : zB E M d m0 m1 pc L (zI b :: zI a :: st) h u nn Q := by
  intro oL oS oH p e s m args below meth c H ls locs C P S V Z
  have o1 := zokS_cons.mp oS
  have o2 := zokS_cons.mp o1.2
  have ra : r32 a := o2.1.1 rfl
  have rb : r32 b := o1.1.1 rfl
  have kk := k oL (zokS_cons.mpr ⟨zok_i (w32_r _), o2.2⟩) oH p e s m args below meth c H ls locs C P S V Z
  refine lv_iadd (x := Int32.ofInt a) (y := Int32.ofInt b) C.1 C.2.1 hd ?_
  rw [i32_add]
  exact kk
theorem y_isub {a b : Int} (hd : decode M.2.1 pc = .ok (.isub, 1)) (k : zB E M d m0 m1 (pc + 1) L (zI (w32 (a - b)) :: st) h u nn Q) : zB E M d m0 m1 pc L (zI b :: zI a :: st) h u nn Q := by
  intro oL oS oH p e s m args below meth c H ls locs C P S V Z
  have o1 := zokS_cons.mp oS
  have o2 := zokS_cons.mp o1.2
  have ra : r32 a := o2.1.1 rfl
  have rb : r32 b := o1.1.1 rfl
  have kk := k oL (zokS_cons.mpr ⟨zok_i (w32_r _), o2.2⟩) oH p e s m args below meth c H ls locs C P S V Z
  refine lv_isub (x := Int32.ofInt a) (y := Int32.ofInt b) C.1 C.2.1 hd ?_
  rw [i32_sub]
  exact kk
theorem y_ior {a b : Int} (hd : decode M.2.1 pc = .ok (.ior, 1)) (k : zB E M d m0 m1 (pc + 1) L (zI (zor a b) :: st) h u nn Q) : zB E M d m0 m1 pc L (zI b :: zI a :: st) h u nn Q := by
  intro oL oS oH p e s m args below meth c H ls locs C P S V Z
  have o1 := zokS_cons.mp oS
  have o2 := zokS_cons.mp o1.2
  have ra : r32 a := o2.1.1 rfl
  have rb : r32 b := o1.1.1 rfl
  have kk := k oL (zokS_cons.mpr ⟨zok_i (i32_r _), o2.2⟩) oH p e s m args below meth c H ls locs C P S V Z
  refine lv_ior (x := Int32.ofInt a) (y := Int32.ofInt b) C.1 C.2.1 hd ?_
  rw [show Int32.ofInt a ||| Int32.ofInt b = Int32.ofInt (zor a b) from (i32_self _).symm]
  exact kk
theorem y_ishl {a b : Int} (hd : decode M.2.1 pc = .ok (.ishl, 1)) (k : zB E M d m0 m1 (pc + 1) L (zI (zshl a b) :: st) h u nn Q) : zB E M d m0 m1 pc L (zI b :: zI a :: st) h u nn Q := by
  intro oL oS oH p e s m args below meth c H ls locs C P S V Z
  have o1 := zokS_cons.mp oS
  have o2 := zokS_cons.mp o1.2
  have ra : r32 a := o2.1.1 rfl
  have rb : r32 b := o1.1.1 rfl
  have kk := k oL (zokS_cons.mpr ⟨zok_i (i32_r _), o2.2⟩) oH p e s m args below meth c H ls locs C P S V Z
  refine lv_ishl (x := Int32.ofInt a) (y := Int32.ofInt b) C.1 C.2.1 hd ?_
  rw [show Int32.ofInt a <<< (Int32.ofInt b &&& 31) = Int32.ofInt (zshl a b) from (i32_self _).symm]
  exact kk
theorem y_iconst {n : Int} (hd : decode M.2.1 pc = .ok (.iconst n, 1)) (hr : r32 n) (k : zB E M d m0 m1 (pc + 1) L (zI n :: st) h u nn Q) : zB E M d m0 m1 pc L st h u nn Q := by
  intro oL oS oH p e s m args below meth c H ls locs C P S V Z
  exact lv_iconst (v := Int32.ofInt n) C.1 C.2.1 hd rfl (k oL (zokS_cons.mpr ⟨zok_i hr, oS⟩) oH p e s m args below meth c H ls locs C P S V Z)
theorem y_bipush {n : Int} (hd : decode M.2.1 pc = .ok (.bipush n, 2)) (hr : r32 n) (hv : (Int8.ofInt n).toInt32 = Int32.ofInt n) (k : zB E M d m0 m1 (pc + 2) L (zI n :: st) h u nn Q) : zB E M d m0 m1 pc L st h u nn Q := by
  intro oL oS oH p e s m args below meth c H ls locs C P S V Z
  exact lv_bipush (v := Int32.ofInt n) C.1 C.2.1 hd hv (k oL (zokS_cons.mpr ⟨zok_i hr, oS⟩) oH p e s m args below meth c H ls locs C P S V Z)
theorem y_sipush {n : Int} (hd : decode M.2.1 pc = .ok (.sipush n, 3)) (hr : r32 n) (hv : (Int16.ofInt n).toInt32 = Int32.ofInt n) (k : zB E M d m0 m1 (pc + 3) L (zI n :: st) h u nn Q) : zB E M d m0 m1 pc L st h u nn Q := by
  intro oL oS oH p e s m args below meth c H ls locs C P S V Z
  exact lv_sipush (v := Int32.ofInt n) C.1 C.2.1 hd hv (k oL (zokS_cons.mpr ⟨zok_i hr, oS⟩) oH p e s m args below meth c H ls locs C P S V Z)
theorem y_iload_n {kf : Fin 4} {x : Int} (hd : decode M.2.1 pc = .ok (.iload_n kf, 1)) (hL : L[(kf : Nat)]? = some (zI x)) (k : zB E M d m0 m1 (pc + 1) L (zI x :: st) h u nn Q) : zB E M d m0 m1 pc L st h u nn Q := by
  intro oL oS oH p e s m args below meth c H ls locs C P S V Z
  exact lv_iload_n C.1 C.2.1 hd rfl (zlv_at V hL (by simp)) (k oL (zokS_cons.mpr ⟨zokS_at oL hL, oS⟩) oH p e s m args below meth c H ls locs C P S V Z)
theorem y_iload {i : Nat} {x : Int} (hd : decode M.2.1 pc = .ok (.iload i, 2)) (hL : L[i]? = some (zI x)) (k : zB E M d m0 m1 (pc + 2) L (zI x :: st) h u nn Q) : zB E M d m0 m1 pc L st h u nn Q := by
  intro oL oS oH p e s m args below meth c H ls locs C P S V Z
  exact lv_iload C.1 C.2.1 hd (zlv_at V hL (by simp)) (k oL (zokS_cons.mpr ⟨zokS_at oL hL, oS⟩) oH p e s m args below meth c H ls locs C P S V Z)
theorem y_istore_n {kf : Fin 4} {i : Nat} {x : Int} {L' : List zV} (hd : decode M.2.1 pc = .ok (.istore_n kf, 1)) (hi : (kf : Nat) = i) (hn : i < M.2.2.1) (hL : zs1 L i (zI x) = L') (k : zB E M d m0 m1 (pc + 1) L' st h u nn Q) : zB E M d m0 m1 pc L (zI x :: st) h u nn Q := by
  intro oL oS oH p e s m args below meth c H ls locs C P S V Z
  have o1 := zokS_cons.mp oS
  subst hL
  exact lv_istore_n C.1 C.2.1 hd hi V hn rfl (fun ls' V' => k (zokS_s1 oL o1.1) o1.2 oH p e s m args below meth c H ls' locs C P S (zlv_st1 V') Z)
theorem y_istore {i : Nat} {x : Int} {L' : List zV} (hd : decode M.2.1 pc = .ok (.istore i, 2)) (hn : i < M.2.2.1) (hL : zs1 L i (zI x) = L') (k : zB E M d m0 m1 (pc + 2) L' st h u nn Q) : zB E M d m0 m1 pc L (zI x :: st) h u nn Q := by
  intro oL oS oH p e s m args below meth c H ls locs C P S V Z
  have o1 := zokS_cons.mp oS
  subst hL
  exact lv_istore C.1 C.2.1 hd V hn rfl (fun ls' V' => k (zokS_s1 oL o1.1) o1.2 oH p e s m args below meth c H ls' locs C P S (zlv_st1 V') Z)
theorem y_aload_n {kf : Fin 4} {x : Nat} (hd : decode M.2.1 pc = .ok (.aload_n kf, 1)) (hL : L[(kf : Nat)]? = some (zR x)) (k : zB E M d m0 m1 (pc + 1) L (zR x :: st) h u nn Q) : zB E M d m0 m1 pc L st h u nn Q := by
  intro oL oS oH p e s m args below meth c H ls locs C P S V Z
  exact lv_aload_n C.1 C.2.1 hd rfl (zlv_at V hL (by simp)) (k oL (zokS_cons.mpr ⟨zokS_at oL hL, oS⟩) oH p e s m args below meth c H ls locs C P S V Z)
theorem y_astore_n {kf : Fin 4} {i : Nat} {x : Nat} {L' : List zV} (hd : decode M.2.1 pc = .ok (.astore_n kf, 1)) (hi : (kf : Nat) = i) (hn : i < M.2.2.1) (hL : zs1 L i (zR x) = L') (k : zB E M d m0 m1 (pc + 1) L' st h u nn Q) : zB E M d m0 m1 pc L (zR x :: st) h u nn Q := by
  intro oL oS oH p e s m args below meth c H ls locs C P S V Z
  have o1 := zokS_cons.mp oS
  subst hL
  exact lv_astore_n C.1 C.2.1 hd hi V hn rfl (fun ls' V' => k (zokS_s1 oL o1.1) o1.2 oH p e s m args below meth c H ls' locs C P S (zlv_st1 V') Z)
theorem y_iinc {i : Nat} {n x : Int} {L' : List zV} (hd : decode M.2.1 pc = .ok (.iinc i n, 3)) (hx : L[i]? = some (zI x)) (hn : i < M.2.2.1) (hL : zs1 L i (zI (w32 (x + n))) = L') (k : zB E M d m0 m1 (pc + 3) L' st h u nn Q) : zB E M d m0 m1 pc L st h u nn Q := by
  intro oL oS oH p e s m args below meth c H ls locs C P S V Z
  subst hL
  obtain ⟨kk, hkk⟩ := List.getElem?_of_mem (zlv_mem (E := E).mpr ⟨zI x, hx, by simp, rfl⟩ : (i, zrv E (zI x)) ∈ zlv E L)
  exact lv_iinc (x := Int32.ofInt x) (v := Int32.ofInt (w32 (x + n))) C.1 C.2.1 hd V hkk (i32_add x n) hn rfl (fun ls' V' => k (zokS_s1 oL (zok_i (w32_r _))) oS oH p e s m args below meth c H ls' locs C P S (zlv_st1 (v := zI (w32 (x + n))) V') Z)
theorem y_dup {v : zV} (hd : decode M.2.1 pc = .ok (.dup, 1)) (hv : (v.1 == 1) = false) (k : zB E M d m0 m1 (pc + 1) L (v :: v :: st) h u nn Q) : zB E M d m0 m1 pc L (v :: st) h u nn Q := by
  intro oL oS oH p e s m args below meth c H ls locs C P S V Z
  have o1 := zokS_cons.mp oS
  refine lv_dup C.1 C.2.1 hd ?_ (k oL (zokS_cons.mpr ⟨o1.1, oS⟩) oH p e s m args below meth c H ls locs C P S V Z)
  rcases lv_cat (zrv E v) with q | q
  · exact q
  · have := zrv_cat2 q
    simp [this] at hv
theorem y_dup2 {v w : zV} (hd : decode M.2.1 pc = .ok (.dup2, 1)) (hv : (v.1 == 1) = false) (hw : (w.1 == 1) = false) (k : zB E M d m0 m1 (pc + 1) L (v :: w :: v :: w :: st) h u nn Q) : zB E M d m0 m1 pc L (v :: w :: st) h u nn Q := by
  intro oL oS oH p e s m args below meth c H ls locs C P S V Z
  have o1 := zokS_cons.mp oS
  have o2 := zokS_cons.mp o1.2
  refine lv_dup2_11 C.1 C.2.1 hd ?_ ?_ (k oL (zokS_cons.mpr ⟨o1.1, zokS_cons.mpr ⟨o2.1, oS⟩⟩) oH p e s m args below meth c H ls locs C P S V Z)
  · rcases lv_cat (zrv E v) with q | q
    · exact q
    · have := zrv_cat2 q
      simp [this] at hv
  · rcases lv_cat (zrv E w) with q | q
    · exact q
    · have := zrv_cat2 q
      simp [this] at hw
theorem y_goto {off : Int} {tgt : Nat} (hd : decode M.2.1 pc = .ok (.goto off, 3)) (ht : (pc : Int) + off = (tgt : Int)) (k : zB E M d m0 m1 tgt L st h u nn Q) : zB E M d m0 m1 pc L st h u nn Q := by
  intro oL oS oH p e s m args below meth c H ls locs C P S V Z
  exact lv_goto C.1 C.2.1 hd ht (k oL oS oH p e s m args below meth c H ls locs C P S V Z)
theorem y_icmp_ge {a b : Int} {off : Int} {tgt : Nat} (hd : decode M.2.1 pc = .ok (.if_icmp .ge off, 3)) (ht : (pc : Int) + off = (tgt : Int)) (k : b ≤ a → zB E M d m0 m1 tgt L st h u nn Q) (k2 : ¬ (b ≤ a) → zB E M d m0 m1 (pc + 3) L st h u nn Q) : zB E M d m0 m1 pc L (zI b :: zI a :: st) h u nn Q := by
  intro oL oS oH p e s m args below meth c H ls locs C P S V Z
  have o1 := zokS_cons.mp oS
  have o2 := zokS_cons.mp o1.2
  have ra : r32 a := o2.1.1 rfl
  have rb : r32 b := o1.1.1 rfl
  exact lv_icmp_ge (x := Int32.ofInt a) (y := Int32.ofInt b) C.1 C.2.1 hd ht (fun q => k ((i32_le rb ra).mp q) oL o2.2 oH p e s m args below meth c H ls locs C P S V Z) (fun q => k2 (fun z => q ((i32_le rb ra).mpr z)) oL o2.2 oH p e s m args below meth c H ls locs C P S V Z)
theorem y_icmp_ne {a b : Int} {off : Int} {tgt : Nat} (hd : decode M.2.1 pc = .ok (.if_icmp .ne off, 3)) (ht : (pc : Int) + off = (tgt : Int)) (k : a ≠ b → zB E M d m0 m1 tgt L st h u nn Q) (k2 : ¬ (a ≠ b) → zB E M d m0 m1 (pc + 3) L st h u nn Q) : zB E M d m0 m1 pc L (zI b :: zI a :: st) h u nn Q := by
  intro oL oS oH p e s m args below meth c H ls locs C P S V Z
  have o1 := zokS_cons.mp oS
  have o2 := zokS_cons.mp o1.2
  have ra : r32 a := o2.1.1 rfl
  have rb : r32 b := o1.1.1 rfl
  exact lv_icmp_ne (x := Int32.ofInt a) (y := Int32.ofInt b) C.1 C.2.1 hd ht (fun q => k ((i32_ne ra rb).mp q) oL o2.2 oH p e s m args below meth c H ls locs C P S V Z) (fun q => k2 (fun z => z ((i32_eq ra rb).mp q)) oL o2.2 oH p e s m args below meth c H ls locs C P S V Z)
theorem zB_end {s t : State} {H : Heap} {locs : List Loc} {args : Array Value} {r : List zV} (hr : r.length ≤ 1) (ho : zokS r) (oH : zokH E h) (P : va_P (zD E) vwCl (zwB E h u m1) H) (hz : H.size = zad E 0 + m1) (S : va_S (zAf E) s.heap H locs) (ht : t.heap = H) (hq : Q r h u) : zQB E m1 Q args s (.returned ((r.map (zrv E)).head?)) t :=
  ⟨⟨r, h, u, rfl, hr, ho, oH, by rw [ht]; exact P, by rw [ht]; exact hz, hq⟩, S.F ht⟩
theorem y_vret (hd : decode M.2.1 pc = .ok (.return_, 1)) (hr : M.2.2.2 = none) (hn : nn = m1) (hq : Q [] h u) : zB E M d m0 m1 pc L [] h u nn Q := by
  intro oL oS oH p e s m args below meth c H ls locs C P S V Z
  subst hn
  exact W.vret C.1 C.2.1 (C.2.2.1.trans hr) (fun t ht _ => zB_end (r := []) (by simp) oS oH P Z.1 S ht hq) S.2.2 hd C.2.2.2.2.2.2.1
theorem y_aret {x : Nat} {rt : FieldType} (hd : decode M.2.1 pc = .ok (.areturn, 1)) (hr : M.2.2.2 = some rt) (hrt : (∃ n, rt = FieldType.object n) ∨ ∃ t, rt = FieldType.array t) (hn : nn = m1) (hq : Q [zR x] h u) : zB E M d m0 m1 pc L [zR x] h u nn Q := by
  intro oL oS oH p e s m args below meth c H ls locs C P S V Z
  subst hn
  exact W.aret C.1 C.2.1 (C.2.2.1.trans hr) hrt (Or.inr ⟨_, rfl⟩) (fun t ht _ => zB_end (r := [zR x]) (by simp) oS oH P Z.1 S ht hq) S.2.2 hd C.2.2.2.2.2.2.1
theorem y_in {as L0 : List zV} (hy : plainName M.1.cls = true) (hL : zent M.2.2.1 as = L0) (hlen : (lg_sl (as.map (zrv E))).length ≤ M.2.2.1) (hm : m0 ≤ m1) (k : zB E M d m0 m1 0 L0 [] h u m0 Q) : zCB E M d m0 m1 as h u Q := by
  intro oas oH
  refine Met.ofW (cc := M.2.1) (maxL := M.2.2.1) (ret := M.2.2.2) hy rfl ?_
  intro p e s m args below meth c s₁ B hml hv
  obtain ⟨rfl, hP, hz, hS⟩ := hv
  have hts := atoms_spec (ws := zws M) B.pre
  rw [lg_entry_eq]
  have hl := lv_entry (as.map (zrv E)) (n := M.2.2.1) hlen
  have oL0 : zokS L0 := by
    rw [← hL]
    intro v hv
    rcases List.mem_append.mp hv with q | q
    · exact zokS_ent oas v q
    · rw [(List.mem_replicate.mp q).2]; exact zok_u
  have kk := k oL0 zokS_nil oH p e s m _ below meth c s.heap _ [] ⟨B.exec, B.bytes, B.returns, hml, findClass_of_methodNamed B.named, hts, B.notSynchronized, hS, (name_of_methodNamed B.named B.method).1⟩ hP va_S.rf ⟨hl.1, hl.2.1, fun q hq => hl.2.2 q (by rw [← hL] at hq; exact zent_sub as _ 0 q hq)⟩ ⟨hz, hz, Nat.le_refl _, hm⟩
  rw [Nat.sub_self, Nat.sub_self] at kk
  exact kk
/-- the object's own beginning -/
theorem y_obj {ix c0 : Nat} (hd : decode M.2.1 pc = .ok (.invokespecial ix, 3)) (hlk : Cond.methodLink M.1.cls ix Lib.objectInit ∈ ztb) (hi : Cond.instanceMethod Lib.objectInit ∈ ztb) (hcd : Cond.code Lib.objectInit ⟨#[0xb1]⟩ 1 none ∈ ztb) (h8 : ((st.map (zrv E)).map fun v => v.category).sum ≤ 8) (k : zB E M d m0 m1 (pc + 3) L st h u nn Q) : zB E M d m0 m1 pc L (zR c0 :: st) h u nn Q := by
  intro oL oS oH p e s m args below meth c H ls locs C P S V Z
  have o1 := zokS_cons.mp oS
  have tb : ∀ w ∈ ztb, w.before args s = true := fun w hw => C.2.2.2.2.2.1 w (List.mem_cons_of_mem _ hw)
  exact W.objInit C.1 C.2.1 C.2.2.2.2.1 (tb _ hlk) (tb _ hi) (tb _ hcd) (g := F0 m pc ls ((zR c0 :: st).map (zrv E))) rfl (V.1.trans C.2.2.2.1.symm) rfl hd (by simp [rmB]) (by show 2 * 0 + _ + 12 ≤ _; simp only [rmB]; omega) (k oL o1.2 oH p e s m args below meth c H ls locs C P S V Z)
theorem zwB_suc : zwB E h u (nn + 1) = zwB E h u nn ++ [(zad E nn, zreB E u nn (h nn))] := by
  simp [zwB, List.range_succ]
theorem cnt {a b c : Nat} (h1 : a ≤ b) : b - a + 1 = b + 1 - a := by omega
theorem y_new {ci N ix : Nat} {C0 : String} {T : u_T} (ty : Nat → FieldType) (hty : ∀ k, k < N → parseFieldDescriptor (T k).2.2.1 = some (ty k)) (hd : decode M.2.1 pc = .ok (.new ix, 3)) (hs : zsh E nn = (ci, N)) (h20 : ci < 20) (hcl : vwCl[ci]? = some (C0, T, N)) (hin : ∀ w ∈ u_ws C0 T N, w ∈ ztb) (hlk : Cond.classLink M.1.cls ix C0 ∈ ztb) (hins : Cond.instantiable C0 N ∈ ztb) (hini : Cond.initialized C0 ∈ ztb) (hn : nn < m1) (h0 : ∀ j, j < N → defaultValue (ty j) = zfB E nn (zfk ci j) (h nn j) (u nn j)) (k : zB E M d m0 m1 (pc + 3) L (zR nn :: st) h u (nn + 1) Q) : zB E M d m0 m1 pc L st h u nn Q := by
  intro oL oS oH p e s m args below meth c H ls locs C P S V Z
  have tb : ∀ w ∈ ztb, w.before args s = true := fun w hw => C.2.2.2.2.2.1 w (List.mem_cons_of_mem _ hw)
  have hK := C.2.2.2.2.2.2.2.1.1
  have ha := C.2.2.2.2.2.2.2.1.2.1
  have hKn := hK.1 ci _ hcl
  have mo := zslE_mono (E := E) (show nn + 1 ≤ m1 by omega)
  have mo0 := zslE_mono (E := E) (show m0 ≤ nn by omega)
  have st1 : zsl E (nn + 1) = zsl E nn + N := by
    show zsl E nn + (zsh E nn).2 = _
    rw [hs]
  refine W.newcK (g := F0 m pc ls (st.map (zrv E))) C.1 C.2.1 C.2.2.2.2.1 (tb _ hlk) (tb _ hins) (tb _ hini) rfl hd (by simp only [rmB]; omega) (by simp only [rmB]; omega) hKn.2.1 Z.1 (fun H1 kC hkC e1 z1 o1 => ?_)
  have hk : ∀ (q : Nat) (x : Nat × va_E), (zwB E h u nn)[q]? = some x → H1[x.1]? = H[x.1]? := fun q x hx => o1 x.1 (by rw [← Z.1]; exact (P q x hx).lt)
  have P1 : va_P (zD E) vwCl (zwB E h u (nn + 1)) H1 := by
    rw [zwB_suc]
    refine (P.kept hk).app (fun q x hx => ?_)
    have hz : q < 1 := (List.getElem?_eq_some_iff.mp hx).1
    rw [show q = 0 by omega] at hx
    cases hx
    have er : zreB E u nn (h nn) = .inr (ci, (List.range N).map (fun j => zfB E nn (zfk ci j) (h nn j) (u nn j))) := by
      simp only [zreB, hs]
      rw [if_neg (by omega), if_neg (by omega)]
    rw [er]
    refine ⟨_, hcl, ?_⟩
    rw [ha nn]
    refine (u_born ty tb hin hKn hkC e1 hty).to (fun j hj => ?_)
    rw [h0 j hj]
    simp [vp_V, hj]
  have S1 : va_S (zAf E) s.heap H1 locs := by
    refine ⟨Nat.le_trans S.1 (by omega), fun x q1 q2 => ?_, S.2.2⟩
    rw [o1 x (by have := Z.2.1; omega)]
    exact S.2.1 x q1 q2
  have kk := k oL (zokS_cons.mpr ⟨zok_r, oS⟩) oH p e s m args below meth c H1 ls locs C P1 S1 V ⟨by omega, Z.2.1, by omega, by omega⟩
  rw [show nn + 1 - m0 = nn - m0 + 1 by omega, show zsl E (nn + 1) - zsl E m0 = zsl E nn - zsl E m0 + N by omega] at kk
  have e2 : zad E 0 + nn = zad E nn := (ha nn).symm
  rw [e2]
  exact kk
theorem y_newaI {N : Nat} {at0 : ArrayType} {ty : FieldType} {t : Nat} {x : Int} (hd : decode M.2.1 pc = .ok (.newarray at0, 2)) (hty : newarray.typeOf at0 = ty) (hac : Cond.arrayClass ty ∈ ztb) (hs : zsh E nn = (20 + t, N)) (htt : (t = 0 ∧ ty = .int) ∨ (t = 1 ∧ ty = .char) ∨ (t = 2 ∧ ty = .boolean) ∨ (t = 3 ∧ ty = .long)) (hx : x = (N : Int)) (hN : N < 1000000) (hn : nn < m1) (h0 : ∀ j, h nn j = 0) (k : zB E M d m0 m1 (pc + 2) L (zR nn :: st) h u (nn + 1) Q) : zB E M d m0 m1 pc L (zI x :: st) h u nn Q := by
  intro oL oS oH p e s m args below meth c H ls locs C P S V Z
  subst hty
  subst hx
  have o1 := zokS_cons.mp oS
  have tb : ∀ w ∈ ztb, w.before args s = true := fun w hw => C.2.2.2.2.2.1 w (List.mem_cons_of_mem _ hw)
  have hK := C.2.2.2.2.2.2.2.1.1
  have ha := C.2.2.2.2.2.2.2.1.2.1
  have mo := zslE_mono (E := E) (show nn + 1 ≤ m1 by omega)
  have mo0 := zslE_mono (E := E) (show m0 ≤ nn by omega)
  have st1 : zsl E (nn + 1) = zsl E nn + N := by
    show zsl E nn + (zsh E nn).2 = _
    rw [hs]
  have rN : r32 (N : Int) := ⟨by omega, by omega⟩
  have r0 : r32 0 := by unfold r32; omega
  have cb : componentBytes (newarray.typeOf at0) ≤ 8 := by
    rcases htt with z | z | z | z <;> rw [z.2] <;> decide
  refine va_newaK (g := F0 m pc ls ((zI (N : Int) :: st).map (zrv E))) (n := Int32.ofInt (N : Int)) (N := N) C.1 C.2.1 (tb _ hac) rfl hd rfl (fun q => absurd ((i32_lt rN r0).mp q) (by omega)) (by rw [i32_clamp (by omega) rN]; simp) (Nat.le_trans (Nat.mul_le_mul_left N cb) (by omega)) (by simp only [rmB]; omega) (by simp only [rmB]; omega) Z.1 (fun H1 cA e1 z1 o2 hAr hNm => ?_)
  have hk : ∀ (q : Nat) (x : Nat × va_E), (zwB E h u nn)[q]? = some x → H1[x.1]? = H[x.1]? := fun q x hx => o2 x.1 (by rw [← Z.1]; exact (P q x hx).lt)
  have eA : zcA E t = cA := by
    rcases htt with z | z | z | z
    · have := (hK.2 0 _ rfl).2
      rw [z.2] at hNm
      rw [z.1]
      exact Option.some.inj ((show s.vm.findClass ("[" ++ FieldType.int.toString) = some (zcA E 0) from this).symm.trans hNm)
    · have := (hK.2 1 _ rfl).2
      rw [z.2] at hNm
      rw [z.1]
      exact Option.some.inj ((show s.vm.findClass ("[" ++ FieldType.char.toString) = some (zcA E 1) from this).symm.trans hNm)
    · have := (hK.2 2 _ rfl).2
      rw [z.2] at hNm
      rw [z.1]
      exact Option.some.inj ((show s.vm.findClass ("[" ++ FieldType.boolean.toString) = some (zcA E 2) from this).symm.trans hNm)
    · have := (hK.2 3 _ rfl).2
      rw [z.2] at hNm
      rw [z.1]
      exact Option.some.inj ((show s.vm.findClass ("[" ++ FieldType.long.toString) = some (zcA E 3) from this).symm.trans hNm)
  have P1 : va_P (zD E) vwCl (zwB E h u (nn + 1)) H1 := by
    rw [zwB_suc]
    refine (P.kept hk).app (fun q x hx => ?_)
    have hz : q < 1 := (List.getElem?_eq_some_iff.mp hx).1
    rw [show q = 0 by omega] at hx
    cases hx
    have hf : h nn = fun _ => 0 := funext h0
    rcases htt with z | z | z | z
    · have er : zreB E u nn (h nn) = .inl (cA, N, .inl (fun _ => (0 : Int32))) := by
        simp only [zreB, hs, hf, z.1]
        rw [if_neg (by omega), if_pos (by omega), ← eA, z.1]
        rfl
      rw [er]
      show H1[zad E nn]? = some _
      rw [ha nn, e1, z.2]
      rfl
    · have er : zreB E u nn (h nn) = .inl (cA, N, .inl (fun _ => (0 : Int32))) := by
        simp only [zreB, hs, hf, z.1]
        rw [if_neg (by omega), if_pos (by omega), ← eA, z.1]
        rfl
      rw [er]
      show H1[zad E nn]? = some _
      rw [ha nn, e1, z.2]
      rfl
    · have er : zreB E u nn (h nn) = .inl (cA, N, .inl (fun _ => (0 : Int32))) := by
        simp only [zreB, hs, hf, z.1]
        rw [if_neg (by omega), if_pos (by omega), ← eA, z.1]
        rfl
      rw [er]
      show H1[zad E nn]? = some _
      rw [ha nn, e1, z.2]
      rfl
    · have er : zreB E u nn (h nn) = .inl (cA, N, .inr (.inl (fun _ => (0 : Int64)))) := by
        unfold zreB
        rw [hs, hf, ← eA, z.1]
        rfl
      rw [er]
      show H1[zad E nn]? = some _
      rw [ha nn, e1, z.2]
      rfl
  have S1 : va_S (zAf E) s.heap H1 locs := by
    refine ⟨Nat.le_trans S.1 (by omega), fun x q1 q2 => ?_, S.2.2⟩
    rw [o2 x (by have := Z.2.1; omega)]
    exact S.2.1 x q1 q2
  have kk := k oL (zokS_cons.mpr ⟨zok_r, o1.2⟩) oH p e s m args below meth c H1 ls locs C P1 S1 V ⟨by omega, Z.2.1, by omega, by omega⟩
  rw [show nn + 1 - m0 = nn - m0 + 1 by omega, show zsl E (nn + 1) - zsl E m0 = zsl E nn - zsl E m0 + N by omega] at kk
  have e2 : zad E 0 + nn = zad E nn := (ha nn).symm
  rw [e2]
  exact kk
/-! stores -/
theorem zwB_set {c k : Nat} {x : Int} {ci N : Nat} {v : Value} {b : Bool} (hc : c < nn) (hs : zsh E c = (ci, N)) (h20 : ci < 20) (hk : k < N) (hv : zfB E c (zfk ci k) x (b || u c k) = v) : (zwB E h u nn).set c (zad E c, .inr (ci, ((List.range N).map (fun j => zfB E c (zfk ci j) (h c j) (u c j))).set k v)) = zwB E (hset h c k x) (if b then uset u c k else u) nn := by
  refine List.ext_getElem? fun i => ?_
  by_cases hi : i = c
  · subst hi
    rw [List.getElem?_set_self (by simp [zwB, hc]), zwB_at hc]
    congr 2
    simp only [zreB, hs]
    rw [if_neg (by omega), if_neg (by omega)]
    congr 2
    refine List.ext_getElem? fun j => ?_
    by_cases hj : j = k
    · subst hj
      rw [List.getElem?_set_self (by simp [hk]), ← hv]
      cases b <;> simp [hk, hset, uset]
    · rw [List.getElem?_set_ne (Ne.symm hj)]
      by_cases hjn : j < N <;> cases b <;> simp [hjn, hset, uset, hj]
  · rw [List.getElem?_set_ne (Ne.symm hi)]
    by_cases hn : i < nn
    · rw [zwB_at hn, zwB_at hn]
      congr 2
      have e1 : hset h c k x i = h i := by
        funext j'
        simp [hset, hi]
      have e2 : (if b then uset u c k else u) i = u i := by
        funext j'
        cases b <;> simp [uset, hi]
      unfold zreB
      rw [e1, e2]
    · simp [zwB, hn]
theorem y_put {c ci N k ix : Nat} {C0 : String} {T : u_T} {v : zV} {x : Int} {ty : FieldType} (b : Bool) (ty0 : Nat → FieldType) (hty : ∀ k, k < N → parseFieldDescriptor (T k).2.2.1 = some (ty0 k)) (hnm : ∀ a, a < N → ∀ b, b < N → a ≠ b → (T a).2.1 ≠ (T b).2.1) (hd : decode M.2.1 pc = .ok (.putfield ix, 3)) (hs : zsh E c = (ci, N)) (hc : c < nn) (h20 : ci < 20) (hcl : vwCl[ci]? = some (C0, T, N)) (hin : ∀ w ∈ u_ws C0 T N, w ∈ ztb) (hk : k < N) (hlk : Cond.fieldLink M.1.cls ix (T k).1 (T k).2.1 (T k).2.2.1 ∈ ztb) (hM : M.1.name = "<init>") (hdecl : (T k).1 = M.1.cls) (hdd : parseFieldDescriptor (T k).2.2.1 = some ty) (hn : narrow ty (zrv E v) = zrv E v) (hfit : fits ty (zrv E v) = true) (hv : zfB E c (zfk ci k) x (b || u c k) = zrv E v) (hx : zok v → r32 x) (kk : zB E M d m0 m1 (pc + 3) L st (hset h c k x) (if b then uset u c k else u) nn Q) : zB E M d m0 m1 pc L (v :: zR c :: st) h u nn Q := by
  intro oL oS oH p e s m args below meth c0 H ls locs C P S V Z
  have o1 := zokS_cons.mp oS
  have o2 := zokS_cons.mp o1.2
  have hw := zwB_at (E := E) (h := h) (u := u) hc
  have er : zreB E u c (h c) = .inr (ci, (List.range N).map (fun j => zfB E c (zfk ci j) (h c j) (u c j))) := by
    simp only [zreB, hs]
    rw [if_neg (by omega), if_neg (by omega)]
  rw [er] at hw
  have tb : ∀ w ∈ ztb, w.before args s = true := fun w hw => C.2.2.2.2.2.1 w (List.mem_cons_of_mem _ hw)
  have ha := C.2.2.2.2.2.2.2.1.2.1
  have fin : ∀ (H1 : Heap) (locs1 : List Loc), va_P (zD E) vwCl ((zwB E h u nn).set c (zad E c, .inr (ci, ((List.range N).map (fun j => zfB E c (zfk ci j) (h c j) (u c j))).set k (zrv E v)))) H1 → va_S (zAf E) s.heap H1 locs1 → W p (zl E) e (rmB E d m0 m1) s m args below meth c0 H1 locs1 (nn - m0) (zsl E nn - zsl E m0) (MQ below (zQB E m1 Q) args s (m1 - m0) (zsl E m1 - zsl E m0) (zAf E)) (F0 m (pc + 3) ls (st.map (zrv E))) := by
    intro H1 locs1 P1 S1
    rw [zwB_set hc hs h20 hk hv] at P1
    refine W_sz (fun hz => ?_)
    have lo := zB_lo ha P1 (by omega)
    exact kk oL o2.2 (zokH_set oH (r32_64 (hx o1.1)) (fun _ => hx o1.1)) p e s m args below meth c0 H1 ls locs1 C P1 S1 V ⟨by have := Z.2.1; omega, Z.2⟩
  cases hf : (T k).2.2.2 with
  | false => exact va_put (C := C0) (T := T) (N := N) C.1 C.2.1 tb hin ty0 hty hnm C.2.2.2.2.1 C.2.2.2.2.2.2.2.1.1 P (zDB_of C.2.2.2.2.2.2.2.1) S c hw hcl k hk (tb _ hlk) (fun _ q => q) hf hdd hn hfit (by simp [hk]) hd (fun H1 locs1 P1 D1 S1 => fin H1 locs1 P1 S1)
  | true => exact va_putF (C := C0) (T := T) (N := N) C.1 C.2.1 tb hin ty0 hty hnm C.2.2.2.2.1 C.2.2.2.2.2.2.2.1.1 P (zDB_of C.2.2.2.2.2.2.2.1) S c hw hcl k hk (tb _ hlk) (fun _ q => q) hf (C.2.2.2.2.2.2.2.2.trans hM) hdecl hdd hn hfit (by simp [hk]) hd (fun H1 locs1 P1 D1 S1 => fin H1 locs1 P1 S1)
theorem y_iaload {c n : Nat} {i : Int} (hd : decode M.2.1 pc = .ok (.iaload, 1)) (hs : zsh E c = (20, n)) (hc : c < nn) (h0 : 0 ≤ i) (h1 : i < n) (k : zB E M d m0 m1 (pc + 1) L (zI (h c i.toNat) :: st) h u nn Q) : zB E M d m0 m1 pc L (zI i :: zR c :: st) h u nn Q := by
  intro oL oS oH p e s m args below meth c0 H ls locs C P S V Z
  have o1 := zokS_cons.mp oS
  have o2 := zokS_cons.mp o1.2
  have ri : r32 i := o1.1.1 rfl
  have hw := zwB_at (E := E) (h := h) (u := u) hc
  have hre : zreB E u c (h c) = .inl (zcA E 0, n, .inl (fun j => Int32.ofInt (h c j))) := by simp [zreB, hs]
  rw [hre] at hw
  have kk := k oL (zokS_cons.mpr ⟨zok_i ((oH c i.toNat).2 (by rw [hs]; simp)), o2.2⟩) oH p e s m args below meth c0 H ls locs C P S V Z
  refine va_iald (i := Int32.ofInt i) C.1 C.2.1 C.2.2.2.2.2.2.2.1.1 P c 0 hw rfl (i32_in h0 h1 ri) hd ?_
  rw [i32_clamp h0 ri]
  exact kk
theorem zwB_row {c n : Nat} {k : Nat} {x : Int} (hc : c < nn) (hs : zsh E c = (20, n)) : (zwB E h u nn).set c (zad E c, .inl (zcA E 0, n, .inl (upd (fun j => Int32.ofInt (h c j)) k (Int32.ofInt x)))) = zwB E (hset h c k x) u nn := by
  refine List.ext_getElem? fun i => ?_
  by_cases hi : i = c
  · subst hi
    rw [List.getElem?_set_self (by simp [zwB, hc]), zwB_at hc]
    congr 2
    simp [zreB, hs]
    funext j
    unfold upd hset
    by_cases q : j = k <;> simp [q]
  · rw [List.getElem?_set_ne (Ne.symm hi)]
    by_cases hn : i < nn
    · rw [zwB_at hn, zwB_at hn]
      congr 2
      have e1 : hset h c k x i = h i := by
        funext j'
        simp [hset, hi]
      unfold zreB
      rw [e1]
    · simp [zwB, hn]
theorem y_iastore {c n : Nat} {i x : Int} (hd : decode M.2.1 pc = .ok (.iastore, 1)) (hs : zsh E c = (20, n)) (hc : c < nn) (h0 : 0 ≤ i) (h1 : i < n) (k : zB E M d m0 m1 (pc + 1) L st (hset h c i.toNat x) u nn Q) : zB E M d m0 m1 pc L (zI x :: zI i :: zR c :: st) h u nn Q := by
  intro oL oS oH p e s m args below meth c0 H ls locs C P S V Z
  have o1 := zokS_cons.mp oS
  have o2 := zokS_cons.mp o1.2
  have o3 := zokS_cons.mp o2.2
  have ri : r32 i := o2.1.1 rfl
  have ha := C.2.2.2.2.2.2.2.1.2.1
  have hw := zwB_at (E := E) (h := h) (u := u) hc
  have hre : zreB E u c (h c) = .inl (zcA E 0, n, .inl (fun j => Int32.ofInt (h c j))) := by simp [zreB, hs]
  rw [hre] at hw
  refine va_iast (i := Int32.ofInt i) (x := Int32.ofInt x) C.1 C.2.1 C.2.2.2.2.2.2.2.1.1 P (zDB_of C.2.2.2.2.2.2.2.1) S c 0 hw rfl (i32_in h0 h1 ri) hd (fun H1 locs1 P1 D1 S1 => ?_)
  rw [i32_clamp h0 ri, zwB_row hc hs] at P1
  refine W_sz (fun hz => ?_)
  have lo := zB_lo ha P1 (by omega)
  exact k oL o3.2 (zokH_set oH (r32_64 (o1.1.1 rfl)) (fun q => o1.1.1 rfl)) p e s m args below meth c0 H1 ls locs1 C P1 S1 V ⟨by have := Z.2.1; omega, Z.2⟩
/-! texts, Math -/
theorem y_ldcS {ix t : Nat} {tx : String} (hd : decode M.2.1 pc = .ok (.ldc ix, 2)) (hZ : ∀ U : State, zStB E U U.heap → vk_R M.1.cls ix tx (zTK E t) U) (k : zB E M d m0 m1 (pc + 2) L (zT t :: st) h u nn Q) : zB E M d m0 m1 pc L st h u nn Q := by
  intro oL oS oH p e s m args below meth c H ls locs C P S V Z
  exact va_ldcS (q := zTK E t) C.1 C.2.1 C.2.2.2.2.1 (hZ s C.2.2.2.2.2.2.2.1) hd (k oL (zokS_cons.mpr ⟨zok_t, oS⟩) oH p e s m args below meth c H ls locs C P S V Z)
theorem y_slen {ix t : Nat} (hd : decode M.2.1 pc = .ok (.invokevirtual ix, 3)) (ht : t < 2) (hlk : Cond.methodLink M.1.cls ix mJ0_length_8abf5.1 ∈ ztb) (h8 : ((st.map (zrv E)).map fun v => v.category).sum ≤ 8) (hm : 0 < nn) (k : zB E M d m0 m1 (pc + 3) L (zI (zTlen.getD t 0 : Nat) :: st) h u nn Q) : zB E M d m0 m1 pc L (zT t :: st) h u nn Q := by
  intro oL oS oH p e s m args below meth c H ls locs C P S V Z
  have o1 := zokS_cons.mp oS
  have hts := C.2.2.2.2.2.1
  have tb : ∀ w ∈ ztb, w.before args s = true := fun w hw => hts w (List.mem_cons_of_mem _ hw)
  have ha := C.2.2.2.2.2.2.2.1.2.1
  have hT := C.2.2.2.2.2.2.2.1.2.2.2.1
  have hlt := tlen_lt ht
  refine va_calli (H0 := s.heap) (A0 := zAf E) (va_runV (C := RJ0) (b := zTK E t) (As := []) (rest := st.map (zrv E)) (g := F0 m pc ls ((zT t :: st).map (zrv E))) ⟨C.1, C.2.1, C.2.2.2.1, C.2.2.2.2.1, hts⟩ (S_len (E := E) ht) ⟨callB_of 0 hts (zgood wc_J0_length_8abf5) rfl rfl rfl (tb _ wi_J0) (tb _ hlk) wy_J0_length_8abf5 ⟨by simp [rmS, rmB], by simp only [rmS, rmB]; omega⟩, tb _ wt49, tb _ wt50⟩ ⟨sT_blind, vk_recv hT.1 ht S, fun U hU hW => ⟨rfl, (hT.use S hW hU).tx ha⟩⟩ rfl rfl V.1 rfl (lv_room h8) hd ⟨by have := zslE_mono (E := E) (show nn ≤ m1 by omega); simp only [rmB]; omega, by have := zslE_mono (E := E) (show nn ≤ m1 by omega); simp only [rmB]; omega⟩) S (fun _ _ z => z.elim) (fun _ z => z.elim) (fun r u' tt H1 locs1 ht' hvm hw hB hz1 hk1 hS => ?_)
  subst hw
  have P1 := zPB_kept P hk1
  refine W_sz (fun hz => ?_)
  have lo := zB_lo ha P1 hm
  have kk := k oL (zokS_cons.mpr ⟨zok_i ⟨by omega, by omega⟩, o1.2⟩) oH p e s m args below meth c H1 ls locs1 C P1 hS V ⟨by have := Z.2.1; omega, Z.2⟩
  have e1 : Int32.ofNat (zTlen.getD t 0) = Int32.ofInt ((zTlen.getD t 0 : Nat) : Int) := Int32.ofInt_eq_ofNat.symm
  rw [e1]
  exact kk
theorem y_schr {ix t k : Nat} {x : Int} (hd : decode M.2.1 pc = .ok (.invokevirtual ix, 3)) (ht : t < 2) (hx : x = (k : Int)) (hk : k < zTlen.getD t 0) (hlk : Cond.methodLink M.1.cls ix mJ0_charAt_5068e.1 ∈ ztb) (h8 : ((st.map (zrv E)).map fun v => v.category).sum ≤ 8) (hm : 0 < nn) (kk : zB E M d m0 m1 (pc + 3) L (zI (tChZ t k) :: st) h u nn Q) : zB E M d m0 m1 pc L (zI x :: zT t :: st) h u nn Q := by
  intro oL oS oH p e s m args below meth c H ls locs C P S V Z
  have o1 := zokS_cons.mp (zokS_cons.mp oS).2
  have hts := C.2.2.2.2.2.1
  have tb : ∀ w ∈ ztb, w.before args s = true := fun w hw => hts w (List.mem_cons_of_mem _ hw)
  have ha := C.2.2.2.2.2.2.2.1.2.1
  have hT := C.2.2.2.2.2.2.2.1.2.2.2.1
  have e1 : Int32.ofInt x = Int32.ofNat k := by rw [hx]; exact Int32.ofInt_eq_ofNat
  refine va_calli (H0 := s.heap) (A0 := zAf E) (va_runV (C := RJ0) (b := zTK E t) (As := [.int (Int32.ofNat k)]) (rest := st.map (zrv E)) (g := F0 m pc ls ((zI x :: zT t :: st).map (zrv E))) ⟨C.1, C.2.1, C.2.2.2.1, C.2.2.2.2.1, hts⟩ (S_chr (E := E) ht hk) ⟨callB_of 1 hts (zgood wc_J0_charAt_5068e) rfl rfl rfl (tb _ wi_J0) (tb _ hlk) wy_J0_charAt_5068e ⟨by simp [rmS, rmB], by simp only [rmS, rmB]; omega⟩, tb _ wt59, tb _ wt60⟩ ⟨sT_blind, vk_recv hT.1 ht S, fun U hU hW => ⟨rfl, (hT.use S hW hU).tx ha⟩⟩ rfl rfl V.1 (by show Value.int (Int32.ofInt x) :: _ = _; rw [e1]; rfl) (lv_room h8) hd ⟨by have := zslE_mono (E := E) (show nn ≤ m1 by omega); simp only [rmB]; omega, by have := zslE_mono (E := E) (show nn ≤ m1 by omega); simp only [rmB]; omega⟩) S (fun _ _ z => z.elim) (fun _ z => z.elim) (fun r u' tt H1 locs1 ht' hvm hw hB hz1 hk1 hS => ?_)
  subst hw
  have P1 := zPB_kept P hk1
  refine W_sz (fun hz => ?_)
  have lo := zB_lo ha P1 hm
  have k2 := kk oL (zokS_cons.mpr ⟨zok_i (i32_r _), o1.2⟩) oH p e s m args below meth c H1 ls locs1 C P1 hS V ⟨by have := Z.2.1; omega, Z.2⟩
  have e2 : tCh t k = Int32.ofInt (tChZ t k) := (i32_self _).symm
  rw [e2]
  exact k2
theorem y_mmax {ix : Nat} {a b : Int} (hd : decode M.2.1 pc = .ok (.invokestatic ix, 3)) (hlk : Cond.methodLink M.1.cls ix Lib.Math.max.name ∈ ztb) (hst : Cond.static Lib.Math.max.name ∈ ztb) (hini : Cond.initialized "java/lang/Math" ∈ ztb) (hcd : Cond.code Lib.Math.max.name Lib.Math.max.code 2 (some .int) ∈ ztb) (h8 : ((st.map (zrv E)).map fun v => v.category).sum ≤ 8) (k : zB E M d m0 m1 (pc + 3) L (zI (max a b) :: st) h u nn Q) : zB E M d m0 m1 pc L (zI b :: zI a :: st) h u nn Q := by
  intro oL oS oH p e s m args below meth c H ls locs C P S V Z
  have o1 := zokS_cons.mp oS
  have o2 := zokS_cons.mp o1.2
  have ra : r32 a := o2.1.1 rfl
  have rb : r32 b := o1.1.1 rfl
  have mo := zslE_mono (E := E) (show nn ≤ m1 by omega)
  have tb : ∀ w ∈ ztb, w.before args s = true := fun w hw => C.2.2.2.2.2.1 w (List.mem_cons_of_mem _ hw)
  have kk := k oL (zokS_cons.mpr ⟨zok_i (by unfold r32 at ra rb ⊢; omega), o2.2⟩) oH p e s m args below meth c H ls locs C P S V Z
  refine va_mmax (x := Int32.ofInt a) (y := Int32.ofInt b) C.1 C.2.1 (C.2.2.2.1.trans V.1.symm) C.2.2.2.2.1 (tb _ hlk) (tb _ hst) (tb _ hini) (tb _ hcd) (by simp [rmB]) (by simp only [rmB]; omega) (by simp only [rmB]; omega) (by simp only [rmB]; omega) hd ?_
  have e1 : (if Int32.ofInt a < Int32.ofInt b then Int32.ofInt b else Int32.ofInt a) = Int32.ofInt (max a b) := by
    by_cases q : a < b
    · rw [if_pos ((i32_lt ra rb).mpr q), Int.max_eq_right (by omega)]
    · rw [if_neg (fun z => q ((i32_lt ra rb).mp z)), Int.max_eq_left (by omega)]
  rw [e1]
  exact kk
/-! calls of constructors -/
theorem y_cont {p : Program} {l : Launch} {e : Env} {R : Room} {s : State} {m : MethodId} {args a : Array Value} {below : List Frame} {meth : Method} {c : Code} {H : Heap} {locs : List Loc} {ls : Array Slot} {st0 rest : List Value} {K : List zV → zH → zU2 → Prop} {QQ : State → Prop} {m2 cs sl mc ms : Nat}
    (hr : va_Run p l e R s m args below meth c H locs cs sl mc ms (F0 m pc ls st0) rest (zQB E m2 K a) (zAf E)) (hS : va_S (zAf E) s.heap H locs)
    (kk : ∀ (r : List zV) (h1 : zH) (u1 : zU2) (H1 : Heap) (locs1 : List Loc), zokS r → zokH E h1 → va_P (zD E) vwCl (zwB E h1 u1 m2) H1 → H1.size = zad E 0 + m2 → K r h1 u1 → va_S (zAf E) s.heap H1 locs1 → W p l e R s m args below meth c H1 locs1 (cs + mc) (sl + ms) QQ (F0 m (pc + 3) ls (r.map (zrv E) ++ rest))) : W p l e R s m args below meth c H locs cs sl QQ (F0 m pc ls st0) := by
  intro T hT X
  obtain ⟨v, st₀, t, T', L, h0, X', hL, e1, e2, ⟨⟨r, h', u', hv, hlen, ho, hoH, hP, hsz, hq⟩, hz, hk⟩, st⟩ := hr T hT X
  cases hv
  rw [h0] at hz hk
  obtain ⟨t2, a1, b1⟩ := kk r h' u' T'.heap (locs ++ L) ho hoH (by rw [e1]; exact hP) (by rw [e1]; exact hsz) hq
    ⟨Nat.le_trans hS.1 (by rw [e1]; exact hz), fun q h1 h2 => by rw [e1, hk q (Nat.lt_of_lt_of_le h1 hS.1) h2]; exact hS.2.1 q h1 h2, fun q hq => by
      rcases List.mem_append.mp hq with h | h
      · exact hS.2.2 q h
      · exact hL q h⟩ T' rfl X'
  rw [head_toList (by simpa using hlen)] at st
  exact ⟨t2, st t2 a1, b1⟩
theorem yblind {as : List zV} : FrameBlind (va_Pc (as.map (zrv E)) (fun U => va_P (zD E) vwCl (zwB E h u nn) U.heap ∧ U.heap.size = zad E 0 + nn ∧ zStB E U U.heap)) := by
  intro a U g mk hq
  obtain ⟨q0, qP, qz, qS⟩ := hq
  exact ⟨q0, qP, qz, qS.blind⟩
theorem ysum {a b c : Nat} (h1 : a ≤ b) (h2 : b ≤ c) : b - a + (c - b) = c - a := by omega
theorem y_callS {M' : zM} {ix m2 : Nat} {as rest stk : List zV} (hd : decode M.2.1 pc = .ok (.invokestatic ix, 3)) (hstk : stk = as.reverse ++ rest)
    (hlk : Cond.methodLink M.1.cls ix M'.1 ∈ ztb) (hst : Cond.static M'.1 ∈ ztb) (hini : Cond.initialized M'.1.cls ∈ ztb) (hcd : Cond.code M'.1 M'.2.1 M'.2.2.1 M'.2.2.2 ∈ ztb)
    (hy : M'.1.cls ≠ "java/lang/invoke/MethodHandle" ∧ M'.1.cls ≠ "java/lang/invoke/VarHandle" ∧ (parseMethodDescriptor M'.1.desc).map (fun d => d.parameters.length) = some as.length)
    (hml : M'.2.2.1 ≤ 45) (h8 : ((rest.map (zrv E)).map fun v => v.category).sum ≤ 8) (h2 : nn ≤ m2) (h3 : m2 ≤ m1)
    (k : zCB E M' d nn m2 as h u (fun r h1 u1 => zB E M (d + 1) m0 m1 (pc + 3) L (r ++ rest) h1 u1 m2 Q)) : zB E M (d + 1) m0 m1 pc L stk h u nn Q := by
  subst hstk
  intro oL oS oH p e s m args below meth c H ls locs C P S V Z
  obtain ⟨oas, orest⟩ := zokS_app oS
  have hts := C.2.2.2.2.2.1
  have hM := k oas oH
  have mo1 := zslE_mono (E := E) h2
  have mo2 := zslE_mono (E := E) h3
  have mo0 := zslE_mono (E := E) Z.2.2.1
  have tb : ∀ w ∈ ztb, w.before args s = true := fun w hw => hts w (List.mem_cons_of_mem _ hw)
  have cw : CallB (rmB E (d + 1) m0 m1) s args M.1.cls ix M'.1 M'.2.1 M'.2.2.1 M'.2.2.2 (zws M') (rmB E d nn m2) (m2 - nn) (zsl E m2 - zsl E nn) as.length :=
    callB_of as.length hts (zgood hcd) rfl rfl rfl (tb _ hini) (tb _ hlk) hy ⟨by simp only [rmB]; omega, by simp only [rmB]; omega⟩
  have run := va_runS (As := as.map (zrv E)) (rest := rest.map (zrv E)) (g := F0 m pc ls ((as.reverse ++ rest).map (zrv E))) (locs := locs) (cells := nn - m0) (slots := zsl E nn - zsl E m0) (below := below) (meth := meth) (e := e) (H := H)
    ⟨C.1, C.2.1, C.2.2.2.1, C.2.2.2.2.1, hts⟩ hM ⟨cw, tb _ hst⟩ ⟨yblind, fun U hU hW => ⟨rfl, by rw [hU]; exact P, by rw [hU]; exact Z.1, C.2.2.2.2.2.2.2.1.use S hW hU⟩⟩ rfl (by simp) V.1 (by simp) (lv_room h8) hd ⟨by simp only [rmB]; omega, by simp only [rmB]; omega⟩
  refine y_cont run S (fun r h1 u1 H1 locs1 o1 o2 P1 z1 K1 S1 => ?_)
  have := K1 oL (fun v hv => (List.mem_append.mp hv).elim (o1 v) (orest v)) o2 p e s m args below meth c H1 ls locs1 C P1 S1 V ⟨z1, Z.2.1, by omega, h3⟩
  rw [ysum Z.2.2.1 h2, ysum mo0 mo1]
  rwa [List.map_append] at this
theorem y_callI {M' : zM} {ix c0 m2 : Nat} {as rest stk : List zV} (hd : decode M.2.1 pc = .ok (.invokespecial ix, 3)) (hstk : stk = as.reverse ++ zR c0 :: rest)
    (hlk : Cond.methodLink M.1.cls ix M'.1 ∈ ztb) (hnm : M'.1.name = "<init>") (hin : Cond.instanceMethod M'.1 ∈ ztb) (hini : Cond.initialized M'.1.cls ∈ ztb) (hcd : Cond.code M'.1 M'.2.1 M'.2.2.1 none ∈ ztb) (hr : M'.2.2.2 = none)
    (hy : M'.1.cls ≠ "java/lang/invoke/MethodHandle" ∧ M'.1.cls ≠ "java/lang/invoke/VarHandle" ∧ (parseMethodDescriptor M'.1.desc).map (fun d => d.parameters.length) = some as.length)
    (hml : M'.2.2.1 ≤ 45) (h8 : ((rest.map (zrv E)).map fun v => v.category).sum ≤ 8) (h2 : nn ≤ m2) (h3 : m2 ≤ m1)
    (k : zCB E M' d nn m2 (zR c0 :: as) h u (fun r h1 u1 => zB E M (d + 1) m0 m1 (pc + 3) L (r ++ rest) h1 u1 m2 Q)) : zB E M (d + 1) m0 m1 pc L stk h u nn Q := by
  subst hstk
  intro oL oS oH p e s m args below meth c H ls locs C P S V Z
  obtain ⟨oas, orest0⟩ := zokS_app oS
  have orest := (zokS_cons.mp orest0).2
  have hts := C.2.2.2.2.2.1
  have hM := k (zokS_cons.mpr ⟨zok_r, oas⟩) oH
  have mo1 := zslE_mono (E := E) h2
  have mo2 := zslE_mono (E := E) h3
  have mo0 := zslE_mono (E := E) Z.2.2.1
  have tb : ∀ w ∈ ztb, w.before args s = true := fun w hw => hts w (List.mem_cons_of_mem _ hw)
  have cw : CallB (rmB E (d + 1) m0 m1) s args M.1.cls ix M'.1 M'.2.1 M'.2.2.1 none (zws M') (rmB E d nn m2) (m2 - nn) (zsl E m2 - zsl E nn) as.length :=
    callB_of as.length hts (zgood (by rw [hr]; exact hcd)) (by unfold zws; rw [hr]) rfl rfl (tb _ hini) (tb _ hlk) hy ⟨by simp only [rmB]; omega, by simp only [rmB]; omega⟩
  have run := va_runI (b := zad E c0) (As := as.map (zrv E)) (rest := rest.map (zrv E)) (g := F0 m pc ls ((as.reverse ++ zR c0 :: rest).map (zrv E))) (locs := locs) (cells := nn - m0) (slots := zsl E nn - zsl E m0) (below := below) (meth := meth) (e := e) (H := H)
    ⟨C.1, C.2.1, C.2.2.2.1, C.2.2.2.2.1, hts⟩ hM ⟨cw, hnm, tb _ hin⟩ ⟨yblind, fun U hU hW => ⟨rfl, by rw [hU]; exact P, by rw [hU]; exact Z.1, C.2.2.2.2.2.2.2.1.use S hW hU⟩⟩ rfl (by simp) V.1 (by simp [zrv_R]) (lv_room h8) hd ⟨by simp only [rmB]; omega, by simp only [rmB]; omega⟩
  refine y_cont run S (fun r h1 u1 H1 locs1 o1 o2 P1 z1 K1 S1 => ?_)
  have := K1 oL (fun v hv => (List.mem_append.mp hv).elim (o1 v) (orest v)) o2 p e s m args below meth c H1 ls locs1 C P1 S1 V ⟨z1, Z.2.1, by omega, h3⟩
  rw [ysum Z.2.2.1 h2, ysum mo0 mo1]
  rwa [List.map_append] at this
theorem y_callIN {M' : zM} {ix c0 m2 : Nat} {host : String} {as rest stk : List zV} (hd : decode M.2.1 pc = .ok (.invokespecial ix, 3)) (hstk : stk = as.reverse ++ zR c0 :: rest)
    (hlk : Cond.methodLinkNest M.1.cls ix M'.1 host ∈ znw) (hnm : M'.1.name = "<init>") (hin : Cond.instanceMethod M'.1 ∈ ztb) (hini : Cond.initialized M'.1.cls ∈ ztb) (hcd : Cond.code M'.1 M'.2.1 M'.2.2.1 none ∈ ztb) (hr : M'.2.2.2 = none)
    (hy : M'.1.cls ≠ "java/lang/invoke/MethodHandle" ∧ M'.1.cls ≠ "java/lang/invoke/VarHandle" ∧ (parseMethodDescriptor M'.1.desc).map (fun d => d.parameters.length) = some as.length)
    (hml : M'.2.2.1 ≤ 45) (h8 : ((rest.map (zrv E)).map fun v => v.category).sum ≤ 8) (h2 : nn ≤ m2) (h3 : m2 ≤ m1)
    (k : zCB E M' d nn m2 (zR c0 :: as) h u (fun r h1 u1 => zB E M (d + 1) m0 m1 (pc + 3) L (r ++ rest) h1 u1 m2 Q)) : zB E M (d + 1) m0 m1 pc L stk h u nn Q := by
  subst hstk
  intro oL oS oH p e s m args below meth c H ls locs C P S V Z
  obtain ⟨oas, orest0⟩ := zokS_app oS
  have orest := (zokS_cons.mp orest0).2
  have hts := C.2.2.2.2.2.1
  have hM := k (zokS_cons.mpr ⟨zok_r, oas⟩) oH
  have mo1 := zslE_mono (E := E) h2
  have mo2 := zslE_mono (E := E) h3
  have mo0 := zslE_mono (E := E) Z.2.2.1
  have tb : ∀ w ∈ ztb, w.before args s = true := fun w hw => hts w (List.mem_cons_of_mem _ hw)
  have cw : va_CN (rmB E (d + 1) m0 m1) s args M.1.cls ix M'.1 host M'.2.1 M'.2.2.1 none (zws M') (rmB E d nn m2) (m2 - nn) (zsl E m2 - zsl E nn) as.length :=
    va_cnB as.length hts (zgood (by rw [hr]; exact hcd)) (by unfold zws; rw [hr]) rfl rfl (C.2.2.2.2.2.2.2.1.2.2.1 _ hlk) (tb _ hini) hy ⟨by simp only [rmB]; omega, by simp only [rmB]; omega⟩
  have run := va_runIN (b := zad E c0) (As := as.map (zrv E)) (rest := rest.map (zrv E)) (g := F0 m pc ls ((as.reverse ++ zR c0 :: rest).map (zrv E))) (locs := locs) (cells := nn - m0) (slots := zsl E nn - zsl E m0) (below := below) (meth := meth) (e := e) (H := H)
    ⟨C.1, C.2.1, C.2.2.2.1, C.2.2.2.2.1, hts⟩ hM ⟨cw, hnm, tb _ hin⟩ ⟨yblind, fun U hU hW => ⟨rfl, by rw [hU]; exact P, by rw [hU]; exact Z.1, C.2.2.2.2.2.2.2.1.use S hW hU⟩⟩ rfl (by simp) V.1 (by simp [zrv_R]) (lv_room h8) hd ⟨by simp only [rmB]; omega, by simp only [rmB]; omega⟩
  refine y_cont run S (fun r h1 u1 H1 locs1 o1 o2 P1 z1 K1 S1 => ?_)
  have := K1 oL (fun v hv => (List.mem_append.mp hv).elim (o1 v) (orest v)) o2 p e s m args below meth c H1 ls locs1 C P1 S1 V ⟨z1, Z.2.1, by omega, h3⟩
  rw [ysum Z.2.2.1 h2, ysum mo0 mo1]
  rwa [List.map_append] at this
theorem zCB_mono {as : List zV} {K K' : List zV → zH → zU2 → Prop} (hk : ∀ r h' u', K r h' u' → K' r h' u') (k : zCB E M d m0 m1 as h u K) : zCB E M d m0 m1 as h u K' := by
  intro o1 o2
  have key := k o1 o2
  intro p e ha hc hk' s m args below h1 h2 h3 h4
  obtain ⟨kk, o, b1, b2, b3, ⟨⟨r, h', u', c1, c2, c3, c4, c5, c6, c7⟩, c8⟩, b4⟩ := key p e ha hc hk' s m args below h1 h2 h3 h4
  exact ⟨kk, o, b1, b2, b3, ⟨⟨r, h', u', c1, c2, c3, c4, c5, c6, hk r h' u' c7⟩, c8⟩, b4⟩
end ZMade
