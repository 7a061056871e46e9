/-! ===== the law's start: the two objects are made ===== -/
section ZStart
theorem W_make {E : zE} {p : Program} {e : Env} {s : State} {m : MethodId} {below : List Frame} {meth : Method} {c : Code} {b Lx : Nat} {xs : Nat → Int32} {H : Heap} {locs : List Loc} {cells slots : Nat} {QQ : State → Prop} {ls : Array Slot} {rest : List Value} {pc ixn ix ci N m1 d : Nat} {T : u_T} {M' : zM} {h : zH} {u : zU2} {Q' : List zV → zH → zU2 → Prop} (C0 : lw_At p s m meth c b Lx xs)
    (ty : Nat → FieldType) (hty : ∀ k, k < N → parseFieldDescriptor (T k).2.2.1 = some (ty k)) (hst : zStB E s s.heap) (hz : s.heap.size ≤ zad E 0) (hH : H.size = zad E 0) (hS : va_S (fun q => s.heap.size ≤ q) s.heap H locs)
    (hs : zsh E 0 = (ci, N)) (h20 : ci < 20) (hcl : vwCl[ci]? = some (M'.1.cls, T, N)) (hin : ∀ w ∈ u_ws M'.1.cls T N, w ∈ ztb) (hlkC : Cond.classLink RL ixn M'.1.cls ∈ ztb) (hins : Cond.instantiable M'.1.cls N ∈ ztb) (hini : Cond.initialized M'.1.cls ∈ ztb) (h0 : ∀ j, j < N → defaultValue (ty j) = zfB E 0 (zfk ci j) (h 0 j) (u 0 j))
    (hlk : Cond.methodLink RL ix M'.1 ∈ ztb) (hnm : M'.1.name = "<init>") (hinM : Cond.instanceMethod M'.1 ∈ ztb) (hcd : Cond.code M'.1 M'.2.1 M'.2.2.1 none ∈ ztb) (hr : M'.2.2.2 = none)
    (hy : M'.1.cls ≠ "java/lang/invoke/MethodHandle" ∧ M'.1.cls ≠ "java/lang/invoke/VarHandle" ∧ (parseMethodDescriptor M'.1.desc).map (fun d => d.parameters.length) = some 0)
    (hml : M'.2.2.1 ≤ 45) (hV : ls.size = 7) (hrest : ((Value.ref (zad E 0) :: rest).map fun v => v.category).sum ≤ 8) (hd : d ≤ 200) (oH : zokH E h) (hm1 : 1 ≤ m1) (hcc : cells + m1 ≤ 600000) (hss : slots + zsl E m1 ≤ 7000000)
    (d0 : decode cL_law pc = .ok (.new ixn, 3)) (d1 : decode cL_law (pc + 3) = .ok (.dup, 1)) (d2 : decode cL_law (pc + 4) = .ok (.invokespecial ix, 3))
    (hM : zCB E M' d 1 m1 [zR 0] h u Q')
    (k : ∀ (r : List zV) (h' : zH) (u' : zU2) (H1 : Heap) (locs1 : List Loc), Q' r h' u' → zokH E h' → va_P (zD E) vwCl (zwB E h' u' m1) H1 → H1.size = zad E 0 + m1 → (∀ q, q < H.size → H1[q]? = H[q]?) → va_S (fun q => s.heap.size ≤ q) s.heap H1 locs1 →
      W p (zl E) e room_1 s m #[Value.ref b] below meth c H1 locs1 (cells + m1) (slots + zsl E m1) QQ (F0 m (pc + 7) ls (r.map (zrv E) ++ .ref (zad E 0) :: rest))) :
    W p (zl E) e room_1 s m #[Value.ref b] below meth c H locs cells slots QQ (F0 m pc ls rest) := by
  obtain ⟨hx, hb, -, hmx, hown, hts, -, -, -, -⟩ := C0
  have tb : ∀ w ∈ ztb, w.before #[Value.ref b] s = true := fun w hw => hts w (List.mem_filter.mp hw).1
  have hKn := hst.1.1 ci _ hcl
  have ha := hst.2.1
  have st1 : zsl E 1 = N := by
    show zsl E 0 + (zsh E 0).2 = N
    rw [hs]
    exact Nat.zero_add N
  have mo := zslE_mono (E := E) hm1
  refine W.newcK (g := F0 m pc ls rest) hx hb hown (tb _ hlkC) (tb _ hins) (tb _ hini) rfl d0 (by simp only [room_1]; omega) (by simp only [room_1]; omega) hKn.2.1 hH (fun H1 kC hkC e1 z1 o1 => ?_)
  have P1 : va_P (zD E) vwCl (zwB E h u 1) H1 := by
    intro q x hx
    have hz : q < 1 := by
      have := (List.getElem?_eq_some_iff.mp hx).1
      simpa [zwB] using this
    rw [show q = 0 by omega, zwB_at (by omega)] at hx
    cases hx
    have er : zreB E u 0 (h 0) = .inr (ci, (List.range N).map (fun j => zfB E 0 (zfk ci j) (h 0 j) (u 0 j))) := by
      simp only [zreB, hs]
      rw [if_neg (by omega), if_neg (by omega)]
    rw [er]
    refine ⟨_, hcl, ?_⟩
    refine (u_born ty tb hin hKn hkC e1 hty).to (fun j hj => ?_)
    rw [h0 j hj]
    simp [vp_V, hj]
  have S1 : va_S (zAf E) s.heap H1 [] := ⟨Nat.le_trans hS.1 (by omega), fun q q1 q2 => by
    rw [o1 q (by omega)]
    exact hS.2.1 q q1 (Nat.not_le.mpr q1), fun _ h => by cases h⟩
  refine W.eq (g2 := F0 m (pc + 3) ls (.ref (zad E 0) :: rest)) rfl ?_
  refine lv_dup hx hb d1 rfl ?_
  have hMM := hM (zokS_cons.mpr ⟨zok_r, zokS_nil⟩) oH
  have cw : CallB room_1 s #[Value.ref b] RL ix M'.1 M'.2.1 M'.2.2.1 none (zws M') (rmB E d 1 m1) (m1 - 1) (zsl E m1 - zsl E 1) 0 :=
    callB_of 0 hts (lgood (by rw [hr]; exact hcd)) (by unfold zws; rw [hr]) rfl rfl (tb _ hini) (tb _ hlk) hy ⟨by simp only [rmB, room_1]; omega, by simp only [rmB, room_1]; omega⟩
  have run := va_runI (p := p) (e := e) (below := below) (meth := meth) (H := H1) (locs := locs) (cells := cells + 1) (slots := slots + N) (b := zad E 0) (As := []) (rest := .ref (zad E 0) :: rest) (g := F0 m (pc + 4) ls (.ref (zad E 0) :: .ref (zad E 0) :: rest))
    ⟨hx, hb, hmx, hown, hts⟩ hMM ⟨cw, hnm, tb _ hinM⟩ ⟨yblind, fun U hU hW => ⟨rfl, by rw [hU]; exact P1, by rw [hU]; exact z1, hst.use S1 hW hU⟩⟩ rfl rfl hV rfl (lv_room hrest) d2 ⟨by simp only [room_1]; omega, by simp only [room_1]; omega⟩
  intro TT hT XX
  obtain ⟨v, st₀, t, T', L, h0', X', hLf, f1, f2, ⟨⟨r, h', u', hv, hlen, ho, hoH, hP, hsz, hq⟩, hFz, hFk⟩, stp⟩ := run TT hT XX
  cases hv
  rw [h0'] at hFz hFk
  have keep : ∀ q, q < H.size → T'.heap[q]? = H[q]? := fun q hq2 => by
    rw [f1, hFk q (by omega) (by unfold zAf; omega), o1 q (by omega)]
  rw [show cells + 1 + (m1 - 1) = cells + m1 by omega, show slots + N + (zsl E m1 - zsl E 1) = slots + zsl E m1 by omega] at X'
  obtain ⟨t2, u1, u2⟩ := k r h' u' T'.heap (locs ++ L) hq hoH (by rw [f1]; exact hP) (by rw [f1]; exact hsz) keep ⟨Nat.le_trans hS.1 (by rw [f1]; omega), fun q q1 q2 => by
      rw [keep q (Nat.lt_of_lt_of_le q1 hS.1)]
      exact hS.2.1 q q1 q2, fun q hq => by
      rcases List.mem_append.mp hq with z | z
      · exact hS.2.2 q z
      · exact Nat.le_trans hz (hLf q z)⟩ T' rfl X'
  rw [head_toList (by simpa using hlen)] at stp
  exact ⟨t2, stp t2 u1, u2⟩
/-! what the start gives -/
theorem st_arr {args : Array Value} {s : State} {ty : FieldType} (h : (Cond.arrayClass ty).before args s = true) : ∃ cA : ClassId, ArrOfT s cA ty ∧ s.vm.findClass ("[" ++ ty.toString) = some cA := by
  obtain ⟨cA, kA, comp, h1, h2, h3⟩ := Cond.arrayClass_spec h
  exact ⟨cA, fun n z => ⟨fun k h => (by cases h), kA, h2, comp, h3⟩, h1⟩
theorem st_K {args : Array Value} {s : State} (tb : ∀ w ∈ ztb, w.before args s = true) : ∃ (D : va_G) (cA : Nat → ClassId), va_K D vwCl [(cA 0, .int), (cA 1, .char), (cA 2, .boolean), (cA 3, .long)] s := by
  obtain ⟨a0, b0⟩ := st_arr (tb _ wa_int)
  obtain ⟨a1, b1⟩ := st_arr (tb _ wa_char)
  obtain ⟨a2, b2⟩ := st_arr (tb _ (by decide +kernel : Cond.arrayClass .boolean ∈ ztb))
  obtain ⟨a3, b3⟩ := st_arr (tb _ wa_long)
  have h0 : ∀ k : Nat, ∃ z : ClassId × (Nat → Nat), ∀ q : vw_C, vwCl[k]? = some q → u_Kn s q.1 q.2.1 q.2.2 z.1 z.2 := by
    intro k
    match k with
    | 0 => obtain ⟨x, y, z⟩ := u_known (C := RX0) (T := TX0) (N := 13) (n := 13) tb inz0 (tb _ wq335); exact ⟨(x, y), fun q hq => by cases hq; exact z⟩
    | 1 => obtain ⟨x, y, z⟩ := u_known (C := RX1) (T := TX1) (N := 7) (n := 7) tb inz1 (tb _ wq39); exact ⟨(x, y), fun q hq => by cases hq; exact z⟩
    | 2 => obtain ⟨x, y, z⟩ := u_known (C := RX2) (T := TX2) (N := 2) (n := 2) tb inz2 (tb _ wq180); exact ⟨(x, y), fun q hq => by cases hq; exact z⟩
    | 3 => obtain ⟨x, y, z⟩ := u_known (C := RX3) (T := TX3) (N := 6) (n := 6) tb inz3 (tb _ wq309); exact ⟨(x, y), fun q hq => by cases hq; exact z⟩
    | 4 => obtain ⟨x, y, z⟩ := u_known (C := RX4) (T := TX4) (N := 6) (n := 6) tb inz4 (tb _ wq33); exact ⟨(x, y), fun q hq => by cases hq; exact z⟩
    | 5 => obtain ⟨x, y, z⟩ := u_known (C := RX5) (T := TX5) (N := 5) (n := 5) tb inz5 (tb _ wq198); exact ⟨(x, y), fun q hq => by cases hq; exact z⟩
    | 6 => obtain ⟨x, y, z⟩ := u_known (C := RX6) (T := TX6) (N := 6) (n := 6) tb inz6 (tb _ wq127); exact ⟨(x, y), fun q hq => by cases hq; exact z⟩
    | 7 => obtain ⟨x, y, z⟩ := u_known (C := RX7) (T := TX7) (N := 2) (n := 2) tb inz7 (tb _ wq387); exact ⟨(x, y), fun q hq => by cases hq; exact z⟩
    | 8 => obtain ⟨x, y, z⟩ := u_known (C := RX8) (T := TX8) (N := 17) (n := 17) tb inz8 (tb _ wq174); exact ⟨(x, y), fun q hq => by cases hq; exact z⟩
    | 9 => obtain ⟨x, y, z⟩ := u_known (C := RX9) (T := TX9) (N := 14) (n := 14) tb inz9 (tb _ (by decide +kernel : Cond.instantiable RX9 14 ∈ ztb)); exact ⟨(x, y), fun q hq => by cases hq; exact z⟩
    | 10 => obtain ⟨x, y, z⟩ := u_known (C := RX10) (T := TX10) (N := 86) (n := 86) tb inz10 (tb _ (by decide +kernel : Cond.instantiable RX10 86 ∈ ztb)); exact ⟨(x, y), fun q hq => by cases hq; exact z⟩
    | k + 11 => exact ⟨(0, fun _ => 0), fun q hq => by simp at hq⟩
  obtain ⟨f, hf⟩ := Classical.axiomOfChoice h0
  refine ⟨(fun k => (f k).1, fun k => (f k).2), fun k => if k = 0 then a0 else if k = 1 then a1 else if k = 2 then a2 else a3, fun k q hq => hf k q hq, fun k q hq => ?_⟩
  match k, hq with
  | 0, hq => cases hq; exact b0
  | 1, hq => cases hq; exact b1
  | 2, hq => cases hq; exact b2
  | 3, hq => cases hq; exact b3
  | k + 4, hq => simp at hq
end ZStart
