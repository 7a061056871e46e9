/-! ===== the law: look, the loop ===== -/
section ZLoop
variable {X : lT} {i j Lx pc d : Nat} {xs : Nat → Int32} {E1 E2 : zE} {lv : List (Nat × Value)} {st : List Value} {h1 h2 hc hr : zH} {o : Int64} {S : zH} {r s0 w : Int}
theorem lk_m1 : Cond.methodLink RL 40 yL_look ∈ ztb := by decide +kernel
theorem lk_m2 : Cond.static yL_look ∈ ztb := by decide +kernel
theorem lk_m3 : Cond.initialized RL ∈ ztb := by decide +kernel
theorem lk_m4 : Cond.codeWith yL_look cL_look 6 (some .int) lkH ∈ ztb := by decide +kernel
theorem lk_gw : GoodIn lw_tbl (va_wsS RL 40 yL_look lkWs) := by
  intro w hw
  have hz : w ∈ ztb := by
    unfold va_wsS at hw
    rcases List.mem_append.mp hw with q | q
    · rcases List.mem_cons.mp q with rfl | q
      · exact lk_m1
      · rcases List.mem_cons.mp q with rfl | q
        · exact lk_m2
        · rcases List.mem_cons.mp q with rfl | q
          · exact lk_m3
          · cases q
    · rcases List.mem_cons.mp q with rfl | q
      · exact lk_m4
      · exact q
  exact ⟨(List.mem_filter.mp hz).1, good_of_word (List.mem_filter.mp hz).2⟩
theorem lk_y : yL_look.cls ≠ "java/lang/invoke/MethodHandle" ∧ yL_look.cls ≠ "java/lang/invoke/VarHandle" ∧ (parseMethodDescriptor yL_look.desc).map (fun d => d.parameters.length) = some 5 := by decide +kernel
def lwL (X : lT) (E1 : zE) : Prop := lkW (zA E1) (lst X) (lst X).heap ∧ (zl E1).stackTraces = false ∧ lcl X = zcA E1 3
theorem l_look (C : lwC X Lx xs E1 E2) (hE : isC E1) (iC : IC S h1) (Lk : lwL X E1) (rr : r32 r) (rs : r32 s0) (rw0 : r32 w) (hd : decode cL_law pc = .ok (.invokestatic 40, 3)) (h8 : (st.map fun v => v.category).sum ≤ 8) (hj : j ≤ 100000)
    (k : ∀ o', (lkT S r s0 w = 0 → o' = Int64.ofInt (lkV S r s0 w)) → lG X (j + 1) E1 E2 (pc + 3) lv (.int (Int32.ofInt (lkT S r s0 w)) :: st) h1 h2 o') :
    lG X j E1 E2 pc lv (.ref (lbo X) :: .int (Int32.ofInt w) :: .int (Int32.ofInt s0) :: .int (Int32.ofInt r) :: .ref (zad E1 0) :: st) h1 h2 o := by
  intro o1 o2 H ls locs nc ns P1 P2 O S9 V n1 n2
  have C' := C
  obtain ⟨⟨hx, hb, hr, hmx, hown, hts, hX, hbl, hlks, hgv⟩, hL, s1, s2, el, a1, a2, ap, b1, b2, b3⟩ := C
  obtain ⟨fO, fO1, fO2⟩ := O
  obtain ⟨lk1, lk2, lk3⟩ := Lk
  have fO3 : lkO E1 (lbo X) fO H := by
    unfold lkO
    rw [← lk3]
    exact fO2
  have hM := L_look (d := 5) (f := fO) hE iC o1 rr rs rw0 lk2 b1
  have cw : vx_CSW room_1 (lst X) #[Value.ref (lb X)] RL 40 yL_look cL_look 6 (some .int) lkH lkWs (rmU 5) 1 6 5 :=
    vx_cwSW 5 hts lk_gw rfl rfl rfl lk_y ⟨by simp only [rmU, room_1]; omega, by simp only [rmU, room_1]; omega⟩
  have hc7 : (lc X).maxLocals = 7 := hmx
  have run := vx_runSW (p := lp X) (e := le X) (locs := locs) (cells := nc) (slots := ns) (below := lbw X) (meth := lme X) (H := H) (As := [.ref (zad E1 0), .int (Int32.ofInt r), .int (Int32.ofInt s0), .int (Int32.ofInt w), .ref (lbo X)]) (rest := st) (g := F0 (lm X) pc ls (.ref (lbo X) :: .int (Int32.ofInt w) :: .int (Int32.ofInt s0) :: .int (Int32.ofInt r) :: .ref (zad E1 0) :: st))
    ⟨hx, hb, hc7, hown, hts⟩ hM cw ⟨lkblindL, fun U hU hW => ⟨rfl, by rw [hU]; exact P1, s1.use (lS_any C' S9) hW hU, lk1.use (lS_any C' S9) hW hU, by rw [hU]; exact fO3⟩⟩ rfl rfl V.1 rfl (lv_room h8) hd ⟨by simp only [room_1]; omega, by simp only [room_1]; omega⟩
  intro TT hT XX
  obtain ⟨v, st₀, t, T', L, h0, X', hLf, e1, e2, ⟨f', hv, hP, hO, hfo, hz, hk⟩, stp⟩ := run TT hT XX
  cases hv
  rw [h0] at hz hk
  have hkk : ∀ q : Nat, q < H.size → ¬ lkA E1 (lbo X) q → T'.heap[q]? = H[q]? := fun q z1 z2 => by rw [e1]; exact hk q z1 z2
  have P2' : va_P (zD E2) vwCl (zw E2 h2) T'.heap := P2.kept (fun n q hn => hkk q.1 ((P2 n q hn).lt) (fun z => by
    have hl : n < zN E2 := by
      have := (List.getElem?_eq_some_iff.mp hn).1
      simpa [zw] using this
    rw [zw_at hl] at hn
    cases hn
    rcases z with z | z
    · exact ap _ z ⟨n, hl, rfl⟩
    · exact b2 ⟨n, hl, z.symm⟩))
  have O' : lwO X (f' 0) T'.heap := ⟨f', rfl, by rw [e1, lk3]; exact hO⟩
  have S' : va_S (lA X) (lst X).heap T'.heap (locs ++ L) := ⟨Nat.le_trans S9.1 (by rw [e1]; exact hz), fun q z1 z2 => by
      rw [hkk q (Nat.lt_of_lt_of_le z1 S9.1) (fun z => by
        rcases z with z | z
        · exact z2 (a1 q z)
        · exact z2 (by rw [z]; exact b3))]
      exact S9.2.1 q z1 z2, fun q hq => by
      rcases List.mem_append.mp hq with z | z
      · exact S9.2.2 q z
      · rcases hLf q z with y | y
        · exact a1 _ y
        · show (lst X).heap.size ≤ q.base
          rw [y]; exact b3⟩
  obtain ⟨t2, u1, u2⟩ := k (f' 0) hfo o1 o2 T'.heap ls (locs ++ L) (nc + 1) (ns + 6) (by rw [e1]; exact hP) P2' O' S' V (by omega) (by omega) T' rfl X'
  exact ⟨t2, stp t2 u1, u2⟩
theorem lw_c4 (C : lwC X Lx xs E1 E2) (hE : isC E1) (hR : isR E2) (Lk : lwL X E1) (hi : i + 6 < Lx) (iC : IC S hc) (iR : IR S hr) (bS : BdR S) (k : ∀ S' hc' hr' o', IC S' hc' → IR S' hr' → BdR S' → lG X (i + 1) E1 E2 1643 (lwV X E1 E2 i) [] hc' hr' o') : lG X i E1 E2 348 (lwV X E1 E2 i) [] hc hr o := by
  have hL := C.2.1
  refine l_aload (q := 1) C rfl rfl dL_law_348 ?_
  refine l_arg (kn := 1) C rfl rfl (by decide) (by omega) dL_law_349 dL_law_350 dL_law_352 dL_law_353 dL_law_354 ?_
  refine l_arg (kn := 2) C rfl rfl (by decide) (by omega) dL_law_355 dL_law_356 dL_law_358 dL_law_359 dL_law_360 ?_
  refine l_arg (kn := 3) C rfl rfl (by decide) (by omega) dL_law_361 dL_law_362 dL_law_364 dL_law_365 dL_law_366 ?_
  refine l_aload (q := 3) C rfl rfl dL_law_367 ?_
  generalize e1 : (xs (i + 1)).toInt = y1
  generalize e2 : (xs (i + 2)).toInt = y2
  generalize e3 : (xs (i + 3)).toInt = y3
  have r1 : r32 y1 := by rw [← e1]; exact i32_r _
  have r2 : r32 y2 := by rw [← e2]; exact i32_r _
  have r3 : r32 y3 := by rw [← e3]; exact i32_r _
  have r0 : r32 0 := by unfold r32; omega
  refine l_look (S := S) C hE iC Lk r1 r2 r3 dL_law_368 (Nat.le_of_ble_eq_true rfl) (by omega) (fun o' ho' => ?_)
  refine l_istore C dL_law_371 (by decide) rfl ?_
  refine l_sub [1, 2, 3, 4, 5, 0] (lv2 := [(0, .ref (lb X)), (1, .ref (zad E1 0)), (2, .ref (zad E2 0)), (3, .ref (lbo X)), (4, .int (nI i)), (5, .int (Int32.ofInt (lkT S y1 y2 y3)))]) rfl ?_
  refine l_aload (q := 2) C rfl rfl dL_law_373 ?_
  refine l_arg (kn := 1) C rfl rfl (by decide) (by omega) dL_law_374 dL_law_375 dL_law_377 dL_law_378 dL_law_379 ?_
  refine l_arg (kn := 2) C rfl rfl (by decide) (by omega) dL_law_380 dL_law_381 dL_law_383 dL_law_384 dL_law_385 ?_
  refine l_arg (kn := 3) C rfl rfl (by decide) (by omega) dL_law_386 dL_law_387 dL_law_389 dL_law_390 dL_law_391 ?_
  rw [e1, e2, e3]
  refine lG.swap C (l_callI (d := 140) (as := [zI y1, zI y2, zI y3]) (K := fun x h' => IR S h' ∧ h' 0 0 = lkT S y1 y2 y3 ∧ (lkT S y1 y2 y3 = 0 → x = lkV S y1 y2 y3)) C.swap dL_law_392 rfl (shR0 hR) (rN0 hR) (by decide) rfl wm_L_45 wn_X10_look wl_X10_look wi_X10 wc_X10_look wy_X10_look (by decide) (Nat.le_of_ble_eq_true rfl) (by decide) (by omega) (zokS_cons.mpr ⟨zok_i r1, zokS_cons.mpr ⟨zok_i r2, zokS_cons.mpr ⟨zok_i r3, zokS_nil⟩⟩⟩) (R_look (d := 139) hR iR (fun h' x a b c => ⟨a, b, c⟩)) ?_)
  rintro x hr' rx ⟨jR, e00, ex⟩
  refine lG.swap C.swap ?_
  refine l_istore C dL_law_395 (by decide) rfl ?_
  refine l_sub [1, 2, 3, 4, 5, 6, 0] (lv2 := [(0, .ref (lb X)), (1, .ref (zad E1 0)), (2, .ref (zad E2 0)), (3, .ref (lbo X)), (4, .int (nI i)), (5, .int (Int32.ofInt (lkT S y1 y2 y3))), (6, .int (Int32.ofInt x))]) rfl ?_
  refine l_aload (q := 2) C rfl rfl dL_law_397 ?_
  refine lG.swap C (l_callI (d := 140) (as := []) (K := fun x2 h' => x2 = lkT S y1 y2 y3 ∧ h' = hr') C.swap dL_law_398 rfl (shR0 hR) (rN0 hR) (by decide) rfl wm_L_46 wn_X10_thrown wl_X10_thrown wi_X10 wc_X10_thrown wy_X10_thrown (by decide) (Nat.le_of_ble_eq_true rfl) (by decide) (by omega) zokS_nil (eX10_thrown hR ⟨e00, rfl⟩) ?_)
  rintro x2 hr2 rx2 ⟨ex2, eh2⟩
  rw [ex2] at rx2 ⊢
  rw [eh2]
  refine lG.swap C.swap ?_
  refine l_iload (q := 5) C rfl dL_law_401 ?_
  refine l_same C dL_law_403 (tgt := 408) (by decide) ?_
  refine l_iload (q := 5) C rfl dL_law_408 ?_
  have fin : lG X (i + 1) E1 E2 425 [(0, .ref (lb X)), (1, .ref (zad E1 0)), (2, .ref (zad E2 0)), (3, .ref (lbo X)), (4, .int (nI i)), (5, .int (Int32.ofInt (lkT S y1 y2 y3))), (6, .int (Int32.ofInt x))] [] hc hr' o' :=
    l_sub [0, 1, 2, 3, 4] (lv2 := lwV X E1 E2 i) rfl (l_goto C dL_law_425 (tgt := 1643) (by decide) (k _ _ _ _ iC jR bS))
  refine l_if_ne (tgt := 425) C dL_law_410 (by decide) (fun _ => fin) (fun z => ?_)
  have l0 : lkT S y1 y2 y3 = 0 := (i32_eq rx2 r0).mp z
  have f1 := ho' l0
  have f2 := ex l0
  refine l_aload (q := 3) C rfl rfl dL_law_413 ?_
  refine l_iconst (v := 0) C (by decide) dL_law_414 ?_
  refine l_laload C Lk.2.2 dL_law_415 ?_
  refine l_iload (q := 6) C rfl dL_law_416 ?_
  refine l_i2l C rx dL_law_418 ?_
  rw [show Int64.ofInt x = o' by rw [f1, f2]]
  exact l_sameJ C dL_law_419 dL_law_420 (tgt := 425) (by decide) fin
theorem nI_zo {n : Nat} (h : n < 2147483648) : Int32.ofNat n = Int32.ofInt (n : Int) := Int32.toInt_inj.mp (by rw [i32_to, w32_id ⟨by omega, by omega⟩]; exact nI_toInt (by omega))
theorem lw_head (C : lwC X Lx xs E1 E2) (hi : i ≤ Lx + 7) (k : i + 7 ≤ Lx → lG X i E1 E2 33 (lwV X E1 E2 i) [] hc hr o) : lG X i E1 E2 23 (lwV X E1 E2 i) [] hc hr o := by
  intro o1 o2 H ls locs nc ns P1 P2 O S9 V n1 n2
  have C' := C
  obtain ⟨⟨hx, hb, hr, hmx, hown, hts, hX, hbl, hlks, hgv⟩, hL, -⟩ := C
  refine lv_iload hx hb dL_law_23 (lv_at V 4 rfl) ?_
  refine lv_aload_n hx hb dL_law_25 rfl (lv_at V 0 rfl) ?_
  refine va_slen hx hb hX hbl (A := lA X) (Nat.not_le.mpr hbl) S9 dL_law_26 ?_
  refine lv_bipush (v := 7) hx hb dL_law_27 (by decide) ?_
  refine lv_isub hx hb dL_law_29 ?_
  have e7 : Int32.ofNat Lx - 7 = Int32.ofInt ((Lx : Int) - 7) := by
    rw [nI_zo (by omega), show (7 : Int32) = Int32.ofInt 7 from rfl, i32_sub, w32_id ⟨by omega, by omega⟩]
  rw [e7]
  refine lv_icmp_gt (tgt := 1649) hx hb dL_law_30 (by decide) (fun q => ?_) (fun q => ?_)
  · refine lv_iconst (v := 1) hx hb dL_law_1649 (by decide) ?_
    refine va_forget (fun q hq => S9.2.2 q hq) ?_
    refine W.widen (k := 601024) (n := 7293034) (by omega) (by omega) ?_
    exact lw_ret hx hb hr hlks dL_law_1650
  · have hlt : i + 7 ≤ Lx := by
      by_cases z : i + 7 ≤ Lx
      · exact z
      · refine absurd ?_ q
        show Int32.ofInt ((Lx : Int) - 7) < Int32.ofNat i
        rw [nI_zo (by omega)]
        exact (i32_lt ⟨by omega, by omega⟩ ⟨by omega, by omega⟩).mpr (by omega)
    exact k hlt o1 o2 H ls locs nc ns P1 P2 O S9 V n1 n2
theorem lw_next (C : lwC X Lx xs E1 E2) (k : lG X (i + 7) E1 E2 23 (lwV X E1 E2 (i + 7)) [] hc hr o) : lG X (i + 1) E1 E2 1643 (lwV X E1 E2 i) [] hc hr o := by
  intro o1 o2 H ls locs nc ns P1 P2 O S9 V n1 n2
  refine lv_iinc (v := nI (i + 7)) (lv' := (4, .int (nI (i + 7))) :: [(0, .ref (lb X)), (1, .ref (zad E1 0)), (2, .ref (zad E2 0)), (3, .ref (lbo X))]) C.1.1 C.1.2.1 dL_law_1643 V (k := 4) rfl (nI_plus i 7) (by decide) rfl (fun ls' V' => ?_)
  refine lv_goto (tgt := 23) C.1.1 C.1.2.1 dL_law_1646 (by decide) ?_
  exact k o1 o2 H ls' locs nc ns P1 P2 O S9 (lv_sub V' [1, 2, 3, 4, 0] rfl) (by omega) (by omega)
theorem l_iand {x y : Int32} (C : lwC X Lx xs E1 E2) (hd : decode cL_law pc = .ok (.iand, 1)) (k : lG X j E1 E2 (pc + 1) lv (.int (x &&& y) :: st) h1 h2 o) : lG X j E1 E2 pc lv (.int y :: .int x :: st) h1 h2 o := by
  intro o1 o2 H ls locs nc ns P1 P2 O S V n1 n2
  exact lv_iand C.1.1 C.1.2.1 hd (k o1 o2 H ls locs nc ns P1 P2 O S V n1 n2)
theorem lw_sw (C : lwC X Lx xs E1 E2) (hE : isC E1) (hR : isR E2) (Lk : lwL X E1) (hi : i + 6 < Lx) (iC : IC S hc) (iR : IR S hr) (bS : BdR S) (k : ∀ S' hc' hr' o', IC S' hc' → IR S' hr' → BdR S' → lG X (i + 1) E1 E2 1643 (lwV X E1 E2 i) [] hc' hr' o') : lG X i E1 E2 33 (lwV X E1 E2 i) [] hc hr o := by
  refine l_aload (q := 0) C rfl rfl dL_law_33 ?_
  refine l_iload (q := 4) C rfl dL_law_34 ?_
  refine l_ldS C (by omega) dL_law_36 ?_
  refine l_bipush (v := 63) C (by decide) dL_law_37 ?_
  refine l_iand C dL_law_39 ?_
  generalize xs i &&& 63 = v
  by_cases hv : 0 ≤ v.toInt ∧ v.toInt ≤ 32
  · obtain ⟨n, hn⟩ : ∃ n : Nat, v.toInt = (n : Int) := ⟨v.toInt.toNat, by omega⟩
    have hd : n = 0 ∨ n = 1 ∨ n = 2 ∨ n = 3 ∨ n = 4 ∨ n = 5 ∨ n = 6 ∨ n = 7 ∨ n = 8 ∨ n = 9 ∨ n = 10 ∨ n = 11 ∨ n = 12 ∨ n = 13 ∨ n = 14 ∨ n = 15 ∨ n = 16 ∨ n = 17 ∨ n = 18 ∨ n = 19 ∨ n = 20 ∨ n = 21 ∨ n = 22 ∨ n = 23 ∨ n = 24 ∨ n = 25 ∨ n = 26 ∨ n = 27 ∨ n = 28 ∨ n = 29 ∨ n = 30 ∨ n = 31 ∨ n = 32 := by omega
    rcases hd with e | e | e | e | e | e | e | e | e | e | e | e | e | e | e | e | e | e | e | e | e | e | e | e | e | e | e | e | e | e | e | e | e <;> subst e
    · exact l_tsIn (n := 0) (off := 148) (tgt := 188) C dL_law_40 (by rw [hn]; rfl) (by decide) rfl (by decide) (lw_c0 C hE hR hi iC iR bS k)
    · exact l_tsIn (n := 1) (off := 221) (tgt := 261) C dL_law_40 (by rw [hn]; rfl) (by decide) rfl (by decide) (lw_c1 C hE hR hi iC iR bS k)
    · exact l_tsIn (n := 2) (off := 246) (tgt := 286) C dL_law_40 (by rw [hn]; rfl) (by decide) rfl (by decide) (lw_c2 C hE hR hi iC iR bS k)
    · exact l_tsIn (n := 3) (off := 271) (tgt := 311) C dL_law_40 (by rw [hn]; rfl) (by decide) rfl (by decide) (lw_c3 C hE hR hi iC iR bS k)
    · exact l_tsIn (n := 4) (off := 308) (tgt := 348) C dL_law_40 (by rw [hn]; rfl) (by decide) rfl (by decide) (lw_c4 C hE hR Lk hi iC iR bS k)
    · exact l_tsIn (n := 5) (off := 388) (tgt := 428) C dL_law_40 (by rw [hn]; rfl) (by decide) rfl (by decide) (lw_c5 C hE hR hi iC iR bS k)
    · exact l_tsIn (n := 6) (off := 425) (tgt := 465) C dL_law_40 (by rw [hn]; rfl) (by decide) rfl (by decide) (lw_c6 C hE hR hi iC iR bS k)
    · exact l_tsIn (n := 7) (off := 486) (tgt := 526) C dL_law_40 (by rw [hn]; rfl) (by decide) rfl (by decide) (lw_c7 C hE hR hi iC iR bS k)
    · exact l_tsIn (n := 8) (off := 551) (tgt := 591) C dL_law_40 (by rw [hn]; rfl) (by decide) rfl (by decide) (lw_c8 C hE hR hi iC iR bS k)
    · exact l_tsIn (n := 9) (off := 576) (tgt := 616) C dL_law_40 (by rw [hn]; rfl) (by decide) rfl (by decide) (lw_c9 C hE hR hi iC iR bS k)
    · exact l_tsIn (n := 10) (off := 601) (tgt := 641) C dL_law_40 (by rw [hn]; rfl) (by decide) rfl (by decide) (lw_c10 C hE hR hi iC iR bS k)
    · exact l_tsIn (n := 11) (off := 654) (tgt := 694) C dL_law_40 (by rw [hn]; rfl) (by decide) rfl (by decide) (lw_c11 C hE hR hi iC iR bS k)
    · exact l_tsIn (n := 12) (off := 715) (tgt := 755) C dL_law_40 (by rw [hn]; rfl) (by decide) rfl (by decide) (lw_c12 C hE hR hi iC iR bS k)
    · exact l_tsIn (n := 13) (off := 752) (tgt := 792) C dL_law_40 (by rw [hn]; rfl) (by decide) rfl (by decide) (lw_c13 C hE hR hi iC iR bS k)
    · exact l_tsIn (n := 14) (off := 777) (tgt := 817) C dL_law_40 (by rw [hn]; rfl) (by decide) rfl (by decide) (lw_c14 C hE hR hi iC iR bS k)
    · exact l_tsIn (n := 15) (off := 814) (tgt := 854) C dL_law_40 (by rw [hn]; rfl) (by decide) rfl (by decide) (lw_c15 C hE hR hi iC iR bS k)
    · exact l_tsIn (n := 16) (off := 863) (tgt := 903) C dL_law_40 (by rw [hn]; rfl) (by decide) rfl (by decide) (lw_c16 C hE hR hi iC iR bS k)
    · exact l_tsIn (n := 17) (off := 888) (tgt := 928) C dL_law_40 (by rw [hn]; rfl) (by decide) rfl (by decide) (lw_c17 C hE hR hi iC iR bS k)
    · exact l_tsIn (n := 18) (off := 913) (tgt := 953) C dL_law_40 (by rw [hn]; rfl) (by decide) rfl (by decide) (lw_c18 C hE hR hi iC iR bS k)
    · exact l_tsIn (n := 19) (off := 974) (tgt := 1014) C dL_law_40 (by rw [hn]; rfl) (by decide) rfl (by decide) (lw_c19 C hE hR hi iC iR bS k)
    · exact l_tsIn (n := 20) (off := 1011) (tgt := 1051) C dL_law_40 (by rw [hn]; rfl) (by decide) rfl (by decide) (lw_c20 C hE hR hi iC iR bS k)
    · exact l_tsIn (n := 21) (off := 1098) (tgt := 1138) C dL_law_40 (by rw [hn]; rfl) (by decide) rfl (by decide) (lw_c21 C hE hR hi iC iR bS k)
    · exact l_tsIn (n := 22) (off := 1135) (tgt := 1175) C dL_law_40 (by rw [hn]; rfl) (by decide) rfl (by decide) (lw_c22 C hE hR hi iC iR bS k)
    · exact l_tsIn (n := 23) (off := 1185) (tgt := 1225) C dL_law_40 (by rw [hn]; rfl) (by decide) rfl (by decide) (lw_c23 C hE hR hi iC iR bS k)
    · exact l_tsIn (n := 24) (off := 1222) (tgt := 1262) C dL_law_40 (by rw [hn]; rfl) (by decide) rfl (by decide) (lw_c24 C hE hR hi iC iR bS k)
    · exact l_tsIn (n := 25) (off := 1259) (tgt := 1299) C dL_law_40 (by rw [hn]; rfl) (by decide) rfl (by decide) (lw_c25 C hE hR hi iC iR bS k)
    · exact l_tsIn (n := 26) (off := 1320) (tgt := 1360) C dL_law_40 (by rw [hn]; rfl) (by decide) rfl (by decide) (lw_c26 C hE hR hi iC iR bS k)
    · exact l_tsIn (n := 27) (off := 1369) (tgt := 1409) C dL_law_40 (by rw [hn]; rfl) (by decide) rfl (by decide) (lw_c27 C hE hR hi iC iR bS k)
    · exact l_tsIn (n := 28) (off := 1418) (tgt := 1458) C dL_law_40 (by rw [hn]; rfl) (by decide) rfl (by decide) (lw_c28 C hE hR hi iC iR bS k)
    · exact l_tsIn (n := 29) (off := 1455) (tgt := 1495) C dL_law_40 (by rw [hn]; rfl) (by decide) rfl (by decide) (lw_c29 C hE hR hi iC iR bS k)
    · exact l_tsIn (n := 30) (off := 1492) (tgt := 1532) C dL_law_40 (by rw [hn]; rfl) (by decide) rfl (by decide) (lw_c30 C hE hR hi iC iR bS k)
    · exact l_tsIn (n := 31) (off := 1565) (tgt := 1605) C dL_law_40 (by rw [hn]; rfl) (by decide) rfl (by decide) (lw_c31 C hE hR hi iC iR bS k)
    · exact l_tsIn (n := 32) (off := 1578) (tgt := 1618) C dL_law_40 (by rw [hn]; rfl) (by decide) rfl (by decide) (lw_c32 C hE hR hi iC iR bS k)
  · refine l_tsOut (tgt := 1643) C dL_law_40 (by omega) (by decide) ?_
    exact lG.up (by omega) (k _ _ _ _ iC iR bS)
theorem lw_loop (C : lwC X Lx xs E1 E2) (hE : isC E1) (hR : isR E2) (Lk : lwL X E1) : ∀ (n i : Nat) (S hc hr : zH) (o : Int64), i ≤ Lx + 7 → Lx + 1 ≤ i + n → IC S hc → IR S hr → BdR S → lG X i E1 E2 23 (lwV X E1 E2 i) [] hc hr o := by
  intro n
  induction n with
  | zero =>
    intro i S hc hr o hi hn iC iR bS
    exact lw_head C hi (fun z => absurd z (by omega))
  | succ n ih =>
    intro i S hc hr o hi hn iC iR bS
    refine lw_head C hi (fun z => lw_sw C hE hR Lk (by omega) iC iR bS (fun S' hc' hr' o' iC' iR' bS' => lw_next C (ih (i + 7) S' hc' hr' o' (by omega) (by omega) iC' iR' bS')))
end ZLoop
