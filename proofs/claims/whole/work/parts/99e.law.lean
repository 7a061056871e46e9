/-! ===== the law: two worlds side by side, a rule a step, a rule a call ===== -/
section ZLaw
/-- the law's frame: program, environment, start, method, frames below, method, code, script's cell, cell of the long, its kind -/
abbrev lT : Type := Program × Env × State × MethodId × List Frame × Method × Code × Nat × Nat × ClassId
abbrev lp (X : lT) : Program := X.1
abbrev le (X : lT) : Env := X.2.1
abbrev lst (X : lT) : State := X.2.2.1
abbrev lm (X : lT) : MethodId := X.2.2.2.1
abbrev lbw (X : lT) : List Frame := X.2.2.2.2.1
abbrev lme (X : lT) : Method := X.2.2.2.2.2.1
abbrev lc (X : lT) : Code := X.2.2.2.2.2.2.1
abbrev lb (X : lT) : Nat := X.2.2.2.2.2.2.2.1
abbrev lbo (X : lT) : Nat := X.2.2.2.2.2.2.2.2.1
abbrev lcl (X : lT) : ClassId := X.2.2.2.2.2.2.2.2.2
abbrev lA (X : lT) : Nat → Prop := fun q => (lst X).heap.size ≤ q
def lwO (X : lT) (o : Int64) (H : Heap) : Prop := ∃ f : Nat → Int64, f 0 = o ∧ H[lbo X]? = some (vp_cell (lcl X) (1, .inr (.inl f)))
def lwC (X : lT) (Lx : Nat) (xs : Nat → Int32) (E1 E2 : zE) : Prop :=
  lw_At (lp X) (lst X) (lm X) (lme X) (lc X) (lb X) Lx xs ∧ Lx ≤ 3584 ∧ zSt E1 (lst X) (lst X).heap ∧ zSt E2 (lst X) (lst X).heap ∧ zl E1 = zl E2 ∧ (∀ q, zA E1 q → (lst X).heap.size ≤ q) ∧ (∀ q, zA E2 q → (lst X).heap.size ≤ q) ∧ (∀ q, zA E1 q → ¬ zA E2 q) ∧ ¬ zA E1 (lbo X) ∧ ¬ zA E2 (lbo X) ∧ (lst X).heap.size ≤ lbo X
def lG (X : lT) (i : Nat) (E1 E2 : zE) (pc : Nat) (lv : List (Nat × Value)) (st : List Value) (h1 h2 : zH) (o : Int64) : Prop :=
  zokH E1 h1 → zokH E2 h2 → ∀ (H : Heap) (ls : Array Slot) (locs : List Loc) (nc ns : Nat), va_P (zD E1) vwCl (zw E1 h1) H → va_P (zD E2) vwCl (zw E2 h2) H → lwO X o H → va_S (lA X) (lst X).heap H locs → lv_has ls 7 lv → nc ≤ 200 + i → ns ≤ 20000 + 6 * i →
    W (lp X) (zl E1) (le X) room_1 (lst X) (lm X) #[Value.ref (lb X)] (lbw X) (lme X) (lc X) H locs nc ns (lw_Z (lbw X) #[Value.ref (lb X)] (lst X)) (F0 (lm X) pc ls st)
variable {X : lT} {i j Lx pc d : Nat} {xs : Nat → Int32} {E1 E2 : zE} {lv : List (Nat × Value)} {st : List Value} {h1 h2 : zH} {o : Int64}
theorem lwC.swap (C : lwC X Lx xs E1 E2) : lwC X Lx xs E2 E1 :=
  ⟨C.1, C.2.1, C.2.2.2.1, C.2.2.1, C.2.2.2.2.1.symm, C.2.2.2.2.2.2.1, C.2.2.2.2.2.1, fun q a b => C.2.2.2.2.2.2.2.1 q b a, C.2.2.2.2.2.2.2.2.2.1, C.2.2.2.2.2.2.2.2.1, C.2.2.2.2.2.2.2.2.2.2⟩
theorem lG.swap (C : lwC X Lx xs E1 E2) (k : lG X j E2 E1 pc lv st h2 h1 o) : lG X j E1 E2 pc lv st h1 h2 o := by
  intro o1 o2 H ls locs nc ns P1 P2 O S V n1 n2
  rw [show zl E1 = zl E2 from C.2.2.2.2.1]
  exact k o2 o1 H ls locs nc ns P2 P1 O S V n1 n2
theorem lG.up {i2 : Nat} (hij : j ≤ i2) (k : lG X i2 E1 E2 pc lv st h1 h2 o) : lG X j E1 E2 pc lv st h1 h2 o :=
  fun o1 o2 H ls locs nc ns P1 P2 O S V n1 n2 => k o1 o2 H ls locs nc ns P1 P2 O S V (by omega) (by omega)
theorem l_aload {kf : Fin 4} {jx q x : Nat} (C : lwC X Lx xs E1 E2) (hj : (kf : Nat) = jx) (hq : lv[q]? = some (jx, .ref x)) (hd : decode cL_law pc = .ok (.aload_n kf, 1)) (k : lG X j E1 E2 (pc + 1) lv (.ref x :: st) h1 h2 o) : lG X j E1 E2 pc lv st h1 h2 o := by
  intro o1 o2 H ls locs nc ns P1 P2 O S V n1 n2
  exact lv_aload_n C.1.1 C.1.2.1 hd hj (lv_at V q hq) (k o1 o2 H ls locs nc ns P1 P2 O S V n1 n2)
theorem l_ldS (C : lwC X Lx xs E1 E2) {jx : Nat} (hj : jx < Lx) (hd : decode cL_law pc = .ok (.iaload, 1)) (k : lG X j E1 E2 (pc + 1) lv (.int (xs jx) :: st) h1 h2 o) : lG X j E1 E2 pc lv (.int (nI jx) :: .ref (lb X) :: st) h1 h2 o := by
  intro o1 o2 H ls locs nc ns P1 P2 O S V n1 n2
  obtain ⟨⟨hx, hb, hr, hml, hown, hts, hX, hbl, hlk, hgv⟩, hL, -⟩ := C
  refine va_sld hx hb hX hbl (A := lA X) (Nat.not_le.mpr hbl) S (vp_in_nI hj (by omega)) hd ?_
  rw [nI_clamp (by omega)]
  exact k o1 o2 H ls locs nc ns P1 P2 O S V n1 n2
theorem l_iload {q jx : Nat} {x : Int32} (C : lwC X Lx xs E1 E2) (hq : lv[q]? = some (jx, .int x)) (hd : decode cL_law pc = .ok (.iload jx, 2)) (k : lG X j E1 E2 (pc + 2) lv (.int x :: st) h1 h2 o) : lG X j E1 E2 pc lv st h1 h2 o := by
  intro o1 o2 H ls locs nc ns P1 P2 O S V n1 n2
  exact lv_iload C.1.1 C.1.2.1 hd (lv_at V q hq) (k o1 o2 H ls locs nc ns P1 P2 O S V n1 n2)
theorem l_iconst {n : Int} {v : Int32} (C : lwC X Lx xs E1 E2) (hv : Int32.ofInt n = v) (hd : decode cL_law pc = .ok (.iconst n, 1)) (k : lG X j E1 E2 (pc + 1) lv (.int v :: st) h1 h2 o) : lG X j E1 E2 pc lv st h1 h2 o := by
  intro o1 o2 H ls locs nc ns P1 P2 O S V n1 n2
  exact lv_iconst C.1.1 C.1.2.1 hd hv (k o1 o2 H ls locs nc ns P1 P2 O S V n1 n2)
theorem l_bipush {n : Int} {v : Int32} (C : lwC X Lx xs E1 E2) (hv : (Int8.ofInt n).toInt32 = v) (hd : decode cL_law pc = .ok (.bipush n, 2)) (k : lG X j E1 E2 (pc + 2) lv (.int v :: st) h1 h2 o) : lG X j E1 E2 pc lv st h1 h2 o := by
  intro o1 o2 H ls locs nc ns P1 P2 O S V n1 n2
  exact lv_bipush C.1.1 C.1.2.1 hd hv (k o1 o2 H ls locs nc ns P1 P2 O S V n1 n2)
theorem l_iadd {x y : Int32} (C : lwC X Lx xs E1 E2) (hd : decode cL_law pc = .ok (.iadd, 1)) (k : lG X j E1 E2 (pc + 1) lv (.int (x + y) :: st) h1 h2 o) : lG X j E1 E2 pc lv (.int y :: .int x :: st) h1 h2 o := by
  intro o1 o2 H ls locs nc ns P1 P2 O S V n1 n2
  exact lv_iadd C.1.1 C.1.2.1 hd (k o1 o2 H ls locs nc ns P1 P2 O S V n1 n2)
theorem nI_plus (a b : Nat) : nI a + nI b = nI (a + b) := by
  unfold nI
  rw [Int32.ofNat_add]
/-- script[i + k] -/
theorem l_arg {n : Int} {kn : Nat} (C : lwC X Lx xs E1 E2) (h0 : lv[0]? = some (0, .ref (lb X))) (h4 : lv[4]? = some (4, .int (nI i))) (hk : Int32.ofInt n = nI kn) (hj : i + kn < Lx)
    (d0 : decode cL_law pc = .ok (.aload_n 0, 1)) (d1 : decode cL_law (pc + 1) = .ok (.iload 4, 2)) (d2 : decode cL_law (pc + 3) = .ok (.iconst n, 1)) (d3 : decode cL_law (pc + 4) = .ok (.iadd, 1)) (d4 : decode cL_law (pc + 5) = .ok (.iaload, 1))
    (k : lG X j E1 E2 (pc + 6) lv (.int (Int32.ofInt (xs (i + kn)).toInt) :: st) h1 h2 o) : lG X j E1 E2 pc lv st h1 h2 o := by
  refine l_aload C rfl h0 d0 (l_iload C h4 d1 (l_iconst C hk d2 (l_iadd C d3 ?_)))
  rw [nI_plus]
  refine l_ldS C hj d4 ?_
  rw [i32_self] at k
  exact k
theorem l_argB {n : Int} {kn : Nat} (C : lwC X Lx xs E1 E2) (h0 : lv[0]? = some (0, .ref (lb X))) (h4 : lv[4]? = some (4, .int (nI i))) (hk : (Int8.ofInt n).toInt32 = nI kn) (hj : i + kn < Lx)
    (d0 : decode cL_law pc = .ok (.aload_n 0, 1)) (d1 : decode cL_law (pc + 1) = .ok (.iload 4, 2)) (d2 : decode cL_law (pc + 3) = .ok (.bipush n, 2)) (d3 : decode cL_law (pc + 5) = .ok (.iadd, 1)) (d4 : decode cL_law (pc + 6) = .ok (.iaload, 1))
    (k : lG X j E1 E2 (pc + 7) lv (.int (Int32.ofInt (xs (i + kn)).toInt) :: st) h1 h2 o) : lG X j E1 E2 pc lv st h1 h2 o := by
  refine l_aload C rfl h0 d0 (l_iload C h4 d1 (l_bipush C hk d2 (l_iadd C d3 ?_)))
  rw [nI_plus]
  refine l_ldS C hj d4 ?_
  rw [i32_self] at k
  exact k
def sBo (x : Int) : Int := if x = 0 then 0 else 1
theorem sBo_01 (x : Int) : sBo x = 0 ∨ sBo x = 1 := by unfold sBo; split <;> simp
/-- .. != 0 -/
theorem l_bool {x : Int} (C : lwC X Lx xs E1 E2) (rx : r32 x) (d0 : decode cL_law pc = .ok (.ifCond .eq 7, 3)) (d1 : decode cL_law (pc + 3) = .ok (.iconst 1, 1)) (d2 : decode cL_law (pc + 4) = .ok (.goto 4, 3)) (d3 : decode cL_law (pc + 7) = .ok (.iconst 0, 1))
    (k : lG X j E1 E2 (pc + 8) lv (.int (Int32.ofInt (sBo x)) :: st) h1 h2 o) : lG X j E1 E2 pc lv (.int (Int32.ofInt x) :: st) h1 h2 o := by
  intro o1 o2 H ls locs nc ns P1 P2 O S V n1 n2
  have kk := k o1 o2 H ls locs nc ns P1 P2 O S V n1 n2
  have r0 : r32 0 := by unfold r32; omega
  refine lv_if_eq (tgt := pc + 7) C.1.1 C.1.2.1 d0 (by omega) (fun q => ?_) (fun q => ?_)
  · have hx0 : x = 0 := (i32_eq rx r0).mp q
    rw [show sBo x = 0 by unfold sBo; rw [if_pos hx0]] at kk
    exact lv_iconst C.1.1 C.1.2.1 d3 rfl kk
  · have hx0 : ¬ x = 0 := fun z => q (by rw [z]; rfl)
    rw [show sBo x = 1 by unfold sBo; rw [if_neg hx0]] at kk
    exact lv_iconst C.1.1 C.1.2.1 d1 rfl (lv_goto (tgt := pc + 8) C.1.1 C.1.2.1 d2 (by omega) kk)
theorem l_same {x : Int32} {off : Int} {tgt : Nat} (C : lwC X Lx xs E1 E2) (hd : decode cL_law pc = .ok (.if_icmp .eq off, 3)) (ht : (pc : Int) + off = (tgt : Int)) (k : lG X j E1 E2 tgt lv st h1 h2 o) : lG X j E1 E2 pc lv (.int x :: .int x :: st) h1 h2 o := by
  intro o1 o2 H ls locs nc ns P1 P2 O S V n1 n2
  exact lv_icmp_eq (tgt := tgt) C.1.1 C.1.2.1 hd ht (fun _ => k o1 o2 H ls locs nc ns P1 P2 O S V n1 n2) (fun q => absurd rfl q)
theorem l_goto {off : Int} {tgt : Nat} (C : lwC X Lx xs E1 E2) (hd : decode cL_law pc = .ok (.goto off, 3)) (ht : (pc : Int) + off = (tgt : Int)) (k : lG X j E1 E2 tgt lv st h1 h2 o) : lG X j E1 E2 pc lv st h1 h2 o := by
  intro o1 o2 H ls locs nc ns P1 P2 O S V n1 n2
  exact lv_goto (tgt := tgt) C.1.1 C.1.2.1 hd ht (k o1 o2 H ls locs nc ns P1 P2 O S V n1 n2)
theorem lgood {M' : zM} (hcd : Cond.code M'.1 M'.2.1 M'.2.2.1 M'.2.2.2 ∈ ztb) : GoodIn lw_tbl (zws M') := by
  intro w hw
  rcases List.mem_cons.mp hw with rfl | hw
  · exact ⟨(List.mem_filter.mp hcd).1, good_of_word (List.mem_filter.mp hcd).2⟩
  · exact ⟨(List.mem_filter.mp hw).1, good_of_word (List.mem_filter.mp hw).2⟩
theorem lS_any (C : lwC X Lx xs E1 E2) {H : Heap} {locs : List Loc} (S : va_S (lA X) (lst X).heap H locs) : va_S (zA E1) (lst X).heap H [] :=
  ⟨S.1, fun q a b => S.2.1 q a (Nat.not_le.mpr a), fun _ h => by cases h⟩
theorem l_call {M' : zM} {ix ci N : Nat} {T : u_T} {as : List zV} {rest : List Value} {Q : List zV → zH → Prop} (C : lwC X Lx xs E1 E2) (hd : decode cL_law pc = .ok (.invokevirtual ix, 3)) (hst : st = as.reverse.map (zrv E1) ++ .ref (zad E1 0) :: rest)
    (hs : zsh E1 0 = (ci, N)) (hc : 0 < zN E1) (h20 : ci < 20) (hcl : vwCl[ci]? = some (M'.1.cls, T, N))
    (hlk : Cond.methodLink RL ix M'.1 ∈ ztb) (hin : Cond.instanceMethod M'.1 ∈ ztb) (hsel : Cond.selects M'.1.cls M'.1 M'.1 ∈ ztb) (hini : Cond.initialized M'.1.cls ∈ ztb) (hcd : Cond.code M'.1 M'.2.1 M'.2.2.1 M'.2.2.2 ∈ ztb)
    (hy : M'.1.cls ≠ "java/lang/invoke/MethodHandle" ∧ M'.1.cls ≠ "java/lang/invoke/VarHandle" ∧ (parseMethodDescriptor M'.1.desc).map (fun d => d.parameters.length) = some as.length)
    (hml : M'.2.2.1 ≤ 45) (h8 : (rest.map fun v => v.category).sum ≤ 8) (hdd : d ≤ 200) (hjj : j ≤ 100000) (oas : zokS as)
    (hM : zC E1 M' d (zR 0 :: as) h1 Q) (k : ∀ r h', r.length ≤ 1 → zokS r → Q r h' → lG X j E1 E2 (pc + 3) lv (r.map (zrv E1) ++ rest) h' h2 o) : lG X j E1 E2 pc lv st h1 h2 o := by
  subst hst
  intro o1 o2 H ls locs nc ns P1 P2 O S V n1 n2
  have C' := C
  obtain ⟨⟨hx, hb, hr, hmx, hown, hts, hX, hbl, hlks, hgv⟩, hL, s1, s2, el, a1, a2, ap, b1, b2, b3⟩ := C
  have tb : ∀ w ∈ ztb, w.before #[Value.ref (lb X)] (lst X) = true := fun w hw => hts w (List.mem_filter.mp hw).1
  have hMM := hM (zokS_cons.mpr ⟨zok_r, oas⟩) o1
  have cw : CallB room_1 (lst X) #[Value.ref (lb X)] RL ix M'.1 M'.2.1 M'.2.2.1 M'.2.2.2 (zws M') (zrm d) 0 0 as.length :=
    callB_of as.length hts (lgood hcd) rfl rfl rfl (tb _ hini) (tb _ hlk) hy ⟨by simp only [zrm, room_1]; omega, by simp only [zrm, room_1]; omega⟩
  have hw := zw_at (E := E1) (h := h1) hc
  rw [zre_obj hs h20] at hw
  have hc7 : (lc X).maxLocals = 7 := hmx
  have run := va_runV (p := lp X) (e := le X) (locs := locs) (cells := nc) (slots := ns) (below := lbw X) (meth := lme X) (H := H) (C := M'.1.cls) (b := zad E1 0) (As := as.map (zrv E1)) (rest := rest) (g := F0 (lm X) pc ls (as.reverse.map (zrv E1) ++ .ref (zad E1 0) :: rest))
    ⟨hx, hb, hc7, hown, hts⟩ hMM ⟨cw, tb _ hin, tb _ hsel⟩ ⟨zblind, va_recv s1.1 P1 hcl hw, fun U hU hW => ⟨rfl, by rw [hU]; exact P1, s1.use (lS_any C' S) hW hU⟩⟩ rfl (by simp) V.1 (by simp) (lv_room h8) hd ⟨by simp only [room_1]; omega, by simp only [room_1]; omega⟩
  intro TT hT XX
  obtain ⟨v, st₀, t, T', L, h0, X', hLf, e1, e2, ⟨⟨r, h', hv, hlen, ho, hoH, hP, hq⟩, hz, hk⟩, stp⟩ := run TT hT XX
  cases hv
  rw [h0] at hz hk
  have hkk : ∀ q : Nat, q < H.size → ¬ zA E1 q → T'.heap[q]? = H[q]? := fun q z1 z2 => by rw [e1]; exact hk q z1 z2
  have P2' : va_P (zD E2) vwCl (zw E2 h2) T'.heap := P2.kept (fun n q hn => hkk q.1 ((P2 n q hn).lt) (fun z => by
    have hl : n < zN E2 := by
      have := (List.getElem?_eq_some_iff.mp hn).1
      simpa [zw] using this
    rw [zw_at hl] at hn
    cases hn
    exact ap _ z ⟨n, hl, rfl⟩))
  obtain ⟨fO, fO1, fO2⟩ := O
  have hbo : lbo X < H.size := (Array.getElem?_eq_some_iff.mp fO2).1
  have O' : lwO X o T'.heap := ⟨fO, fO1, by rw [hkk _ hbo b1]; exact fO2⟩
  have S' : va_S (lA X) (lst X).heap T'.heap (locs ++ L) := ⟨Nat.le_trans S.1 (by rw [e1]; exact hz), fun q z1 z2 => by
      rw [hkk q (Nat.lt_of_lt_of_le z1 S.1) (fun z => z2 (a1 q z))]
      exact S.2.1 q z1 z2, fun q hq => by
      rcases List.mem_append.mp hq with z | z
      · exact S.2.2 q z
      · exact a1 _ (hLf q z)⟩
  obtain ⟨t2, u1, u2⟩ := k r h' hlen ho hq hoH o2 T'.heap ls (locs ++ L) nc ns (by rw [e1]; exact hP) P2' O' S' V n1 n2 T' rfl X'
  rw [head_toList (by simpa using hlen)] at stp
  exact ⟨t2, stp t2 u1, u2⟩
theorem l_callI {M' : zM} {ix ci N : Nat} {T : u_T} {as : List zV} {rest : List Value} {K : Int → zH → Prop} (C : lwC X Lx xs E1 E2) (hd : decode cL_law pc = .ok (.invokevirtual ix, 3)) (hst : st = as.reverse.map (zrv E1) ++ .ref (zad E1 0) :: rest)
    (hs : zsh E1 0 = (ci, N)) (hc : 0 < zN E1) (h20 : ci < 20) (hcl : vwCl[ci]? = some (M'.1.cls, T, N))
    (hlk : Cond.methodLink RL ix M'.1 ∈ ztb) (hin : Cond.instanceMethod M'.1 ∈ ztb) (hsel : Cond.selects M'.1.cls M'.1 M'.1 ∈ ztb) (hini : Cond.initialized M'.1.cls ∈ ztb) (hcd : Cond.code M'.1 M'.2.1 M'.2.2.1 M'.2.2.2 ∈ ztb)
    (hy : M'.1.cls ≠ "java/lang/invoke/MethodHandle" ∧ M'.1.cls ≠ "java/lang/invoke/VarHandle" ∧ (parseMethodDescriptor M'.1.desc).map (fun d => d.parameters.length) = some as.length)
    (hml : M'.2.2.1 ≤ 45) (h8 : (rest.map fun v => v.category).sum ≤ 8) (hdd : d ≤ 200) (hjj : j ≤ 100000) (oas : zokS as)
    (hM : zCI E1 M' d (zR 0 :: as) h1 K) (k : ∀ x h', r32 x → K x h' → lG X j E1 E2 (pc + 3) lv (.int (Int32.ofInt x) :: rest) h' h2 o) : lG X j E1 E2 pc lv st h1 h2 o :=
  l_call C hd hst hs hc h20 hcl hlk hin hsel hini hcd hy hml h8 hdd hjj oas hM (fun r h' _ ho hq => by
    obtain ⟨x, rfl, hx⟩ := hq
    exact k x h' ((zokS_cons.mp ho).1.1 rfl) hx)
theorem l_callJ {M' : zM} {ix ci N : Nat} {T : u_T} {as : List zV} {rest : List Value} {K : Int → zH → Prop} (C : lwC X Lx xs E1 E2) (hd : decode cL_law pc = .ok (.invokevirtual ix, 3)) (hst : st = as.reverse.map (zrv E1) ++ .ref (zad E1 0) :: rest)
    (hs : zsh E1 0 = (ci, N)) (hc : 0 < zN E1) (h20 : ci < 20) (hcl : vwCl[ci]? = some (M'.1.cls, T, N))
    (hlk : Cond.methodLink RL ix M'.1 ∈ ztb) (hin : Cond.instanceMethod M'.1 ∈ ztb) (hsel : Cond.selects M'.1.cls M'.1 M'.1 ∈ ztb) (hini : Cond.initialized M'.1.cls ∈ ztb) (hcd : Cond.code M'.1 M'.2.1 M'.2.2.1 M'.2.2.2 ∈ ztb)
    (hy : M'.1.cls ≠ "java/lang/invoke/MethodHandle" ∧ M'.1.cls ≠ "java/lang/invoke/VarHandle" ∧ (parseMethodDescriptor M'.1.desc).map (fun d => d.parameters.length) = some as.length)
    (hml : M'.2.2.1 ≤ 45) (h8 : (rest.map fun v => v.category).sum ≤ 8) (hdd : d ≤ 200) (hjj : j ≤ 100000) (oas : zokS as)
    (hM : zCJ E1 M' d (zR 0 :: as) h1 K) (k : ∀ x h', r64 x → K x h' → lG X j E1 E2 (pc + 3) lv (.long (Int64.ofInt x) :: rest) h' h2 o) : lG X j E1 E2 pc lv st h1 h2 o :=
  l_call C hd hst hs hc h20 hcl hlk hin hsel hini hcd hy hml h8 hdd hjj oas hM (fun r h' _ ho hq => by
    obtain ⟨x, rfl, hx⟩ := hq
    exact k x h' ((zokS_cons.mp ho).1.2 rfl) hx)
theorem l_sub {lv2 : List (Nat × Value)} (ks : List Nat) (hl : lv_pick lv ks = lv2) (k : lG X j E1 E2 pc lv2 st h1 h2 o) : lG X j E1 E2 pc lv st h1 h2 o :=
  fun o1 o2 H ls locs nc ns P1 P2 O S V n1 n2 => k o1 o2 H ls locs nc ns P1 P2 O S (lv_sub V ks hl) n1 n2
theorem l_istore {jx : Nat} {x : Int32} {lv2 : List (Nat × Value)} (C : lwC X Lx xs E1 E2) (hd : decode cL_law pc = .ok (.istore jx, 2)) (hn : jx < 7) (hl : (jx, Value.int x) :: lv.filter (fun q => !(q.1 == jx) && !(q.1 + 1 == jx && q.2.category == 2)) = lv2) (k : lG X j E1 E2 (pc + 2) lv2 st h1 h2 o) : lG X j E1 E2 pc lv (.int x :: st) h1 h2 o := by
  intro o1 o2 H ls locs nc ns P1 P2 O S V n1 n2
  exact lv_istore C.1.1 C.1.2.1 hd V hn hl (fun ls' V' => k o1 o2 H ls' locs nc ns P1 P2 O S V' n1 n2)
theorem l_i2l {x : Int} (C : lwC X Lx xs E1 E2) (rx : r32 x) (hd : decode cL_law pc = .ok (.i2l, 1)) (k : lG X j E1 E2 (pc + 1) lv (.long (Int64.ofInt x) :: st) h1 h2 o) : lG X j E1 E2 pc lv (.int (Int32.ofInt x) :: st) h1 h2 o := by
  intro o1 o2 H ls locs nc ns P1 P2 O S V n1 n2
  exact lv_i2l (x := Int32.ofInt x) (v := Int64.ofInt x) C.1.1 C.1.2.1 hd (Int64.toInt_inj.mp (by rw [Int32.toInt_toInt64, i32_to, i64_to, w32_id rx, w64_id (r32_64 rx)])) (k o1 o2 H ls locs nc ns P1 P2 O S V n1 n2)
theorem l_if_ne {x : Int32} {off : Int} {tgt : Nat} (C : lwC X Lx xs E1 E2) (hd : decode cL_law pc = .ok (.ifCond .ne off, 3)) (ht : (pc : Int) + off = (tgt : Int)) (k : ¬ x = 0 → lG X j E1 E2 tgt lv st h1 h2 o) (k2 : x = 0 → lG X j E1 E2 (pc + 3) lv st h1 h2 o) : lG X j E1 E2 pc lv (.int x :: st) h1 h2 o := by
  intro o1 o2 H ls locs nc ns P1 P2 O S V n1 n2
  exact lv_if_ne (tgt := tgt) C.1.1 C.1.2.1 hd ht (fun q => k q o1 o2 H ls locs nc ns P1 P2 O S V n1 n2) (fun q => k2 q o1 o2 H ls locs nc ns P1 P2 O S V n1 n2)
theorem l_laload (C : lwC X Lx xs E1 E2) (hcl : lcl X = zcA E1 3) (hd : decode cL_law pc = .ok (.laload, 1)) (k : lG X j E1 E2 (pc + 1) lv (.long o :: st) h1 h2 o) : lG X j E1 E2 pc lv (.int 0 :: .ref (lbo X) :: st) h1 h2 o := by
  intro o1 o2 H ls locs nc ns P1 P2 O S V n1 n2
  obtain ⟨f, rfl, hf⟩ := id O
  have PO : va_P (zD E1) vwCl [(lbo X, .inl (zcA E1 3, 1, .inr (.inl f)))] H := by
    intro n q hn
    match n, hn with
    | 0, hn => cases hn; rw [← hcl]; exact hf
    | n + 1, hn => simp at hn
  exact va_lald (a := lbo X) C.1.1 C.1.2.1 C.2.2.1.1 PO 0 3 rfl rfl (i := 0) (by rw [← nI_0]; exact vp_in_nI (by decide) (by decide)) hd (k o1 o2 H ls locs nc ns P1 P2 O S V n1 n2)
theorem l_tsIn {dflt lo hi : Int} {offs : Array Int} {len n : Nat} {x : Int32} {off : Int} {tgt : Nat} (C : lwC X Lx xs E1 E2) (hd : decode cL_law pc = .ok (.tableswitch dflt lo hi offs, len)) (hx : x.toInt = lo + n) (hh : lo + n ≤ hi) (ho : offs[n]? = some off) (ht : (pc : Int) + off = (tgt : Int)) (k : lG X j E1 E2 tgt lv st h1 h2 o) : lG X j E1 E2 pc lv (.int x :: st) h1 h2 o := by
  intro o1 o2 H ls locs nc ns P1 P2 O S V n1 n2
  exact lv_tableIn C.1.1 C.1.2.1 hd (by omega) (by omega) (by rw [hx, show (lo + (n : Int) - lo).toNat = n by omega]; exact ho) ht (k o1 o2 H ls locs nc ns P1 P2 O S V n1 n2)
theorem l_tsOut {dflt lo hi : Int} {offs : Array Int} {len : Nat} {x : Int32} {tgt : Nat} (C : lwC X Lx xs E1 E2) (hd : decode cL_law pc = .ok (.tableswitch dflt lo hi offs, len)) (hx : x.toInt < lo ∨ hi < x.toInt) (ht : (pc : Int) + dflt = (tgt : Int)) (k : lG X j E1 E2 tgt lv st h1 h2 o) : lG X j E1 E2 pc lv (.int x :: st) h1 h2 o := by
  intro o1 o2 H ls locs nc ns P1 P2 O S V n1 n2
  exact lv_tableOut C.1.1 C.1.2.1 hd hx ht (k o1 o2 H ls locs nc ns P1 P2 O S V n1 n2)
end ZLaw
