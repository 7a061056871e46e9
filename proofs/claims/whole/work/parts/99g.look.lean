/-! ===== look: the class's, which throws, and the law's, which catches ===== -/
section ZLook
variable {E : zE} {d : Nat} {h S : zH} {r s0 w : Int} {K : Int → zH → Prop}
abbrev xIo : String := "java/lang/IndexOutOfBoundsException"
abbrev xNs : String := "java/util/NoSuchElementException"
abbrev xNm : List String := ["java/lang/RuntimeException", "java/lang/Exception"]
def lkB : List Cond := [.declares (Bundle.initS "java/lang/RuntimeException"), .declares (Bundle.initS "java/lang/Exception"), .declares (Bundle.initS "java/lang/Throwable"), .castable xIo xIo, .castable xNs xNs]
def lkW (A : Nat → Prop) (U : State) (H : Heap) : Prop :=
  (∀ w ∈ lkB, va_Nw w U) ∧ va_Nc xNs xIo U ∧ (∃ sa, vk_R RX9 123 "no such ring or stone" sa U) ∧ (∃ sa, vk_R RX9 130 "no such what" sa U) ∧ vx_Zq Bundle.tN "UNASSIGNED_STACK" Bundle.steD A U H ∧ vx_Zq Bundle.tN "SUPPRESSED_SENTINEL" Bundle.listD A U H
theorem lkB_on : ∀ w ∈ lkB, w.onTables = true := by decide +kernel
theorem lkB_warm {s U : State} (hW : s.WarmedH U.vm) (h : ∀ w ∈ lkB, va_Nw w s) : ∀ w ∈ lkB, va_Nw w U := by
  unfold lkB at h ⊢
  have q := List.forall_mem_cons.mp h
  have q2 := List.forall_mem_cons.mp q.2
  have q3 := List.forall_mem_cons.mp q2.2
  have q4 := List.forall_mem_cons.mp q3.2
  have q5 := List.forall_mem_cons.mp q4.2
  exact List.forall_mem_cons.mpr ⟨va_Nw.warmD hW q.1, List.forall_mem_cons.mpr ⟨va_Nw.warmD hW q2.1, List.forall_mem_cons.mpr ⟨va_Nw.warmD hW q3.1, List.forall_mem_cons.mpr ⟨va_Nw.warmC hW q4.1, List.forall_mem_cons.mpr ⟨va_Nw.warmC hW q5.1, fun _ z => by cases z⟩⟩⟩⟩⟩
theorem lkW.use {A : Nat → Prop} {s U : State} {H : Heap} {locs : List Loc} (q : lkW A s s.heap) (hS : va_S A s.heap H locs) (hW : s.WarmedH U.vm) (hU : U.heap = H) : lkW A U U.heap := by
  obtain ⟨a1, a2, ⟨x3, a3⟩, ⟨x4, a4⟩, a5, a6⟩ := q
  rw [hU]
  exact ⟨lkB_warm hW a1, va_Nc.moved hW.alike a2, ⟨x3, vk_R.warm hW a3⟩, ⟨x4, vk_R.warm hW a4⟩, vx_Zq.moved hW.alike (a5.kept (fun a ha hn => hS.2.1 a ha hn)), vx_Zq.moved hW.alike (a6.kept (fun a ha hn => hS.2.1 a ha hn))⟩
theorem lkW.blind {A : Nat → Prop} {U : State} {g : JFrame} {mk : MethodId} {a : Array Value} (q : lkW A U U.heap) : lkW A (U.calling g mk a) (U.calling g mk a).heap := by
  obtain ⟨a1, a2, ⟨x3, a3⟩, ⟨x4, a4⟩, a5, a6⟩ := q
  exact ⟨fun w hw => va_Nw.same (lkB_on w hw) (u := U) (U := U.calling g mk a) rfl (a1 w hw), va_Nc.moved (u := U) (U := U.calling g mk a) (Vm.Alike.refl U.vm) a2, ⟨x3, vk_R.same (u := U) (U := U.calling g mk a) rfl a3⟩, ⟨x4, vk_R.same (u := U) (U := U.calling g mk a) rfl a4⟩, vx_Zq.moved (u := U) (U := U.calling g mk a) (Vm.Alike.refl U.vm) a5, vx_Zq.moved (u := U) (U := U.calling g mk a) (Vm.Alike.refl U.vm) a6⟩
/-- it answers -/
theorem C_look (hE : isC E) (i : IC S h) (l0 : lkT S r s0 w = 0) (hK : K (lkV S r s0 w) h) : zCI E mX9_look (d + 2) [zR 0, zI r, zI s0, zI w] h K := by
  obtain ⟨b, i⟩ := i
  have su := su_b hE i.hb
  have hst : isSt S r s0 := by
    unfold lkT at l0
    by_cases z : isSt S r s0
    · exact z
    · rw [if_neg z] at l0
      omega
  have hw : okLk w := by
    unfold lkT at l0
    rw [if_pos hst] at l0
    by_cases z : okLk w
    · exact z
    · rw [if_neg z] at l0
      omega
  have st := st80 i.wf hst
  have nw := i.2.2.2.2.2.1 r.toNat s0.toNat (by omega) (by omega)
  refine zC_in (L0 := [zR 0, zI r, zI s0, zI w]) pn_X9 rfl (Nat.le_of_ble_eq_true rfl) ?_
  refine z_aload_n dX9_look_0 rfl ?_
  refine gf_X9_27 (c2 := b) dX9_look_1 rfl (sC_0 hE) (cC_0 hE) i.tld ?_
  refine z_iload_n dX9_look_4 rfl ?_
  refine z_iload_n dX9_look_5 rfl ?_
  refine cl_X9_117 dX9_look_6 rfl su.2.1 (Nat.lt_of_le_of_lt (Nat.le_add_right b 18) su.1) (Nat.le_of_ble_eq_true rfl) (C_hasStone hE i ?_)
  rw [bI_t hst]
  refine z_if_ne (tgt := 22) dX9_look_9 (by decide) (fun _ => ?_) (fun z => absurd z (by omega))
  refine z_iload_n dX9_look_22 rfl ?_
  refine z_if_lt (tgt := 32) dX9_look_23 (by decide) (fun z => absurd z (by omega)) (fun _ => ?_)
  refine z_iload_n dX9_look_26 rfl ?_
  refine z_bipush dX9_look_27 (by unfold r32; omega) (by decide) ?_
  refine z_icmp_lt (tgt := 42) dX9_look_29 (by decide) (fun _ => ?_) (fun z => absurd z (by omega))
  refine z_aload_n dX9_look_42 rfl ?_
  refine gf_X9_54 (c2 := 52) dX9_look_43 rfl (sC_0 hE) (cC_0 hE) rfl ?_
  refine gf_X9_133 (c2 := 53) dX9_look_46 rfl (sC_52 hE) (cC_52 hE) rfl ?_
  refine z_iload_n dX9_look_49 rfl ?_
  refine z_iload_n dX9_look_50 rfl ?_
  refine cl_X9_137 dX9_look_51 rfl (Nat.le_of_ble_eq_true rfl) (X9_stoneAt hE (by omega) (by omega) (by omega) (by omega) ?_)
  refine z_iload_n dX9_look_54 rfl ?_
  refine z_iadd dX9_look_55 ?_
  rw [w32i (x := (r * 10 + s0) * 6 + w) (by omega) (by omega)]
  refine z_iaload dX9_look_56 (sC_53 hE) (cC_53 hE) (by omega) (by omega) ?_
  refine z_iret dX9_look_57 rfl ⟨_, rfl, ?_⟩
  have ek : (10 * r + s0).toNat = 10 * r.toNat + s0.toNat := by omega
  have ei : ((r * 10 + s0) * 6 + w).toNat = (10 * r.toNat + s0.toNat) * 6 + w.toNat := by omega
  have ev : h 53 ((r * 10 + s0) * 6 + w).toNat = lkV S r s0 w := by
    unfold lkV
    rw [ei, ek]
    obtain ⟨n0, n1, n2, n3, n4, n5⟩ := nw
    have hc : w = 0 ∨ w = 1 ∨ w = 2 ∨ w = 3 ∨ w = 4 ∨ w = 5 := by omega
    rcases hc with e | e | e | e | e | e <;> subst e
    · rw [if_pos rfl]; exact n0
    · rw [if_neg (by omega), if_pos rfl]; exact n1
    · rw [if_neg (by omega), if_neg (by omega), if_pos rfl]; exact n2
    · rw [if_neg (by omega), if_neg (by omega), if_neg (by omega), if_pos rfl]; exact n3
    · rw [if_neg (by omega), if_neg (by omega), if_neg (by omega), if_neg (by omega), if_pos rfl]; exact n4
    · rw [if_neg (by omega), if_neg (by omega), if_neg (by omega), if_neg (by omega), if_neg (by omega)]; exact n5
  rw [ev]
  exact hK
/-! the same method where it throws -/
def rmT (d : Nat) : Room := { frames := d + 10, cells := 1, slots := 6, locals := 64 * (d + 10) }
def lkP (E : zE) (h : zH) (as : List zV) : Array Value → State → Prop := va_Pc (as.map (zrv E)) (fun U => va_P (zD E) vwCl (zw E h) U.heap ∧ zSt E U U.heap ∧ lkW (zA E) U U.heap)
def lkXC (E : zE) (h : zH) (C : String) : String → State → State → Prop := fun D st t => D = C ∧ va_P (zD E) vwCl (zw E h) t.heap ∧ va_F (zA E) st t
theorem lk_pre {p : Program} {e : Env} {s : State} {m : MethodId} {args : Array Value} {below : List Frame} {meth : Method} {c : Code} {ls : Array Slot} {QQ : State → Prop} {b : Nat} (hE : isC E) (i : ICb S h b) (oH : zokH E h) (rr : r32 r) (rs : r32 s0) (C : zAt E mX9_look p s m args meth c) (P : va_P (zD E) vwCl (zw E h) s.heap) (V : lv_has ls 4 (zlv E [zR 0, zI r, zI s0, zI w]))
    (k : ∀ (H1 : Heap) (locs1 : List Loc), va_P (zD E) vwCl (zw E h) H1 → va_S (zA E) s.heap H1 locs1 → W p (zl E) e (rmT d) s m args below meth c H1 locs1 0 0 QQ (F0 m 9 ls [.int (Int32.ofInt (bI (isSt S r s0)))])) :
    W p (zl E) e (rmT d) s m args below meth c s.heap [] 0 0 QQ (F0 m 0 ls []) := by
  obtain ⟨hx, hb, hr, hml, hown, hts, hlk, hst⟩ := C
  have tb : ∀ w ∈ ztb, w.before args s = true := fun w hw => hts w (List.mem_cons_of_mem _ hw)
  have su := su_b hE i.hb
  have hbN : b < zN E := Nat.lt_of_le_of_lt (Nat.le_add_right b 18) su.1
  have w0 := zw_at (E := E) (h := h) (c := 0) (cC_0 hE)
  rw [zre_obj (sC_0 hE) (by decide)] at w0
  have wb := zw_at (E := E) (h := h) hbN
  rw [zre_obj su.2.1 (by decide)] at wb
  have hv : zfv E 0 (zfk 9 3) (h 0 3) = .ref (zad E b) := by rw [i.tld]; rfl
  refine lv_aload_n hx hb dX9_look_0 rfl (zlv_at V (i := 0) (v := zR 0) rfl (by decide)) ?_
  refine va_get (C := RX9) (T := TX9) (N := 14) hx hb tb inz9 hown hst.1 P 0 w0 rfl 3 (by decide) (tb _ wf_X9_27) (fun _ q => q) (v := .ref (zad E b)) (by rw [← hv]; simp) dX9_look_1 ?_
  refine lv_iload_n hx hb dX9_look_4 rfl (zlv_at V (i := 1) (v := zI r) rfl (by show (0 : Nat) ≠ 9; decide)) ?_
  refine lv_iload_n hx hb dX9_look_5 rfl (zlv_at V (i := 2) (v := zI s0) rfl (by show (0 : Nat) ≠ 9; decide)) ?_
  have hM := C_hasStone (d := d) (K := fun x h' => x = bI (isSt S r s0) ∧ h' = h) hE i (r := r) (s := s0) ⟨rfl, rfl⟩ (zokS_cons.mpr ⟨zok_r, zokS_cons.mpr ⟨zok_i rr, zokS_cons.mpr ⟨zok_i rs, zokS_nil⟩⟩⟩) oH
  have cw : CallB (rmT d) s args RX9 117 mX8_hasStone.1 mX8_hasStone.2.1 mX8_hasStone.2.2.1 mX8_hasStone.2.2.2 (zws mX8_hasStone) (zrm (d + 1)) 0 0 2 :=
    callB_of 2 hts (zgood wc_X8_hasStone) rfl rfl rfl (tb _ wi_X8) (tb _ wm_X9_117) wy_X8_hasStone ⟨by simp only [zrm, rmT]; omega, by simp only [zrm, rmT]; show 8 + (3 + 11) + _ ≤ _; omega⟩
  have run := va_runV (C := RX8) (b := zad E b) (As := [.int (Int32.ofInt r), .int (Int32.ofInt s0)]) (rest := []) (g := F0 m 6 ls [.int (Int32.ofInt s0), .int (Int32.ofInt r), .ref (zad E b)]) (locs := []) (cells := 0) (slots := 0) (below := below) (meth := meth) (e := e) (H := s.heap)
    ⟨hx, hb, hml, hown, hts⟩ hM ⟨cw, tb _ wn_X8_hasStone, tb _ wl_X8_hasStone⟩ ⟨zblind, va_recv hst.1 P rfl wb, fun U hU hW => ⟨rfl, by rw [hU]; exact P, hst.use va_S.rf hW hU⟩⟩ rfl rfl V.1 rfl (lv_room (Nat.le_of_ble_eq_true rfl)) dX9_look_6 ⟨by simp only [rmT]; omega, by simp only [rmT]; omega⟩
  refine z_cont run va_S.rf (fun r9 h1 H1 locs1 o1 o2 P1 K1 S1 => ?_)
  obtain ⟨x, rfl, rfl, rfl⟩ := K1
  exact k H1 locs1 P1 S1
theorem lk_x {p : Program} {s t : State} {H1 : Heap} {locs1 : List Loc} {C : String} (P1 : va_P (zD E) vwCl (zw E h) H1) (S1 : va_S (zA E) s.heap H1 locs1) (hz : H1.size ≤ t.heap.size) (hs : ∀ q : Nat, q < H1.size → t.heap[q]? = H1[q]?) : lkXC E h C C s t :=
  ⟨rfl, P1.kept (fun k q hq => hs q.1 ((P1 k q hq).lt)), Nat.le_trans S1.1 hz, fun q h1 h2 => (hs q (Nat.lt_of_lt_of_le h1 S1.1)).trans (S1.2.1 q h1 h2)⟩
theorem lk_g1 : ∀ w ∈ (vx_atS RX9 125 xIo xNm).filter goodWord, w ∈ ztb := by decide +kernel
theorem lk_b1 : ∀ w ∈ (vx_atS RX9 125 xIo xNm).filter (fun w => !goodWord w), w ∈ lkB := by decide +kernel
theorem lk_o1 : ∀ w ∈ Cond.classLink RX9 121 xIo :: Cond.initialized xIo :: vx_atS RX9 125 xIo xNm, vx_ot w = true := by decide +kernel
theorem lk_k1 : Cond.classLink RX9 121 xIo ∈ ztb := by decide +kernel
theorem lk_i1 : Cond.initialized xIo ∈ ztb := by decide +kernel
theorem lk_n1 : Bundle.fit xIo = true := by decide +kernel
theorem lk_nn : ∀ n ∈ xNm, Bundle.fit n = true := by decide +kernel
theorem lk_g2 : ∀ w ∈ (vx_atX RX9 132 xNs 13 prog_28_method_4_code xNm).filter goodWord, w ∈ ztb := by decide +kernel
theorem lk_b2 : ∀ w ∈ (vx_atX RX9 132 xNs 13 prog_28_method_4_code xNm).filter (fun w => !goodWord w), w ∈ lkB := by decide +kernel
theorem lk_o2 : ∀ w ∈ Cond.classLink RX9 128 xNs :: Cond.initialized xNs :: vx_atX RX9 132 xNs 13 prog_28_method_4_code xNm, vx_ot w = true := by decide +kernel
theorem lk_k2 : Cond.classLink RX9 128 xNs ∈ ztb := by decide +kernel
theorem lk_i2 : Cond.initialized xNs ∈ ztb := by decide +kernel
theorem lk_n2 : Bundle.fit xNs = true := by decide +kernel
theorem lk_thr1 {b : Nat} (hE : isC E) (i : ICb S h b) (oH : zokH E h) (rr : r32 r) (rs : r32 s0) (hl : (zl E).stackTraces = false) (ns : ¬ isSt S r s0) : vx_Met (zl E) mX9_look.1 (zws mX9_look) (rmT d) (lkP E h [zR 0, zI r, zI s0, zI w]) (fun _ _ _ _ => False) (lkXC E h xIo) 1 6 (zA E) := by
  refine vx_ofW (cc := cX9_look) (maxL := 4) (ret := some .int) pn_X9 rfl ?_
  intro p e s m args below meth c s₁ B hml ht hv
  obtain ⟨rfl, P, hst, lw⟩ := hv
  have hts := atoms_spec (ws := zws mX9_look) B.pre
  have tb : ∀ w ∈ ztb, w.before _ s = true := fun w hw => hts w (List.mem_cons_of_mem _ hw)
  have C : zAt E mX9_look p s m _ meth c := ⟨B.exec, B.bytes, B.returns, hml, findClass_of_methodNamed B.named, hts, B.notSynchronized, hst⟩
  rw [lg_entry_eq]
  have hl0 := lv_entry ([zR 0, zI r, zI s0, zI w].map (zrv E)) (n := 4) (Nat.le_of_ble_eq_true rfl)
  generalize (lg_sl ([zR 0, zI r, zI s0, zI w].map (zrv E)) ++ List.replicate (4 - (lg_sl ([zR 0, zI r, zI s0, zI w].map (zrv E))).length) Slot.unset).toArray = ls at hl0 ⊢
  have V : lv_has ls 4 (zlv E [zR 0, zI r, zI s0, zI w]) := hl0
  refine lk_pre hE i oH rr rs C P V (fun H1 locs1 P1 S1 => ?_)
  rw [bI_f ns]
  refine lv_if_ne (tgt := 22) C.1 C.2.1 dX9_look_9 (by decide) (fun q => absurd rfl q) (fun _ => ?_)
  obtain ⟨lw1, lw2, ⟨sa, lw3⟩, lw4, lw5, lw6⟩ := lw
  exact vx_throwS (own := RX9) (cls := xIo) (text := "no such ring or stone") (names := xNm) (ik := 121) (is := 123) (ic := 125) (A := zA E) (sa := sa) C.1 C.2.1 hl C.2.2.2.2.1 lk_n1 lk_nn (tb _ lk_k1) (tb _ lk_i1) lw3
    (vx_hat (B := lkB) (fun w hw => tb w (lk_g1 w hw)) lk_b1 (fun w hw => (lw1 w hw).use (lkB_on w hw))) lk_o1 lw5 lw6 S1 (V.1.trans hml.symm) dX9_look_12 dX9_look_15 dX9_look_16 dX9_look_18 dX9_look_21 (fun x hx => (ht x hx).elim)
    (by show 2 + 3 < d + 10; omega) (by show 0 + (13 * (2 + 1) + 43) ≤ 64 * (d + 10); omega) (Nat.le_refl 1) (Nat.le_refl 6) B.notSynchronized (fun t _ hz hs => lk_x (p := p) P1 S1 hz hs) S1.2.2 (Nat.le_refl 1) (Nat.le_refl 6)
theorem lk_thr2 {b : Nat} (hE : isC E) (i : ICb S h b) (oH : zokH E h) (rr : r32 r) (rs : r32 s0) (rw0 : r32 w) (hl : (zl E).stackTraces = false) (ys : isSt S r s0) (nw : ¬ okLk w) : vx_Met (zl E) mX9_look.1 (zws mX9_look) (rmT d) (lkP E h [zR 0, zI r, zI s0, zI w]) (fun _ _ _ _ => False) (lkXC E h xNs) 1 6 (zA E) := by
  refine vx_ofW (cc := cX9_look) (maxL := 4) (ret := some .int) pn_X9 rfl ?_
  intro p e s m args below meth c s₁ B hml ht hv
  obtain ⟨rfl, P, hst, lw⟩ := hv
  have hts := atoms_spec (ws := zws mX9_look) B.pre
  have tb : ∀ w ∈ ztb, w.before _ s = true := fun w hw => hts w (List.mem_cons_of_mem _ hw)
  have C : zAt E mX9_look p s m _ meth c := ⟨B.exec, B.bytes, B.returns, hml, findClass_of_methodNamed B.named, hts, B.notSynchronized, hst⟩
  rw [lg_entry_eq]
  have hl0 := lv_entry ([zR 0, zI r, zI s0, zI w].map (zrv E)) (n := 4) (Nat.le_of_ble_eq_true rfl)
  generalize (lg_sl ([zR 0, zI r, zI s0, zI w].map (zrv E)) ++ List.replicate (4 - (lg_sl ([zR 0, zI r, zI s0, zI w].map (zrv E))).length) Slot.unset).toArray = ls at hl0 ⊢
  have V : lv_has ls 4 (zlv E [zR 0, zI r, zI s0, zI w]) := hl0
  refine lk_pre hE i oH rr rs C P V (fun H1 locs1 P1 S1 => ?_)
  rw [bI_t ys]
  refine lv_if_ne (tgt := 22) C.1 C.2.1 dX9_look_9 (by decide) (fun _ => ?_) (fun q => absurd q (by decide))
  obtain ⟨lw1, lw2, lw3, ⟨sa, lw4⟩, lw5, lw6⟩ := lw
  have thr : W p (zl E) e (rmT d) s m _ below meth c H1 locs1 0 0 (vx_MQ below (fun _ _ _ _ => False) (lkXC E h xNs) _ s 1 6 (zA E)) (F0 m 32 ls []) :=
    vx_throwX (own := RX9) (cls := xNs) (text := "no such what") (names := xNm) (ik := 128) (is := 130) (ic := 132) (ix := 13) (rx := prog_28_method_4_code) (A := zA E) (sa := sa) C.1 C.2.1 hl (by decide +kernel) (by decide +kernel) (by decide +kernel) (by decide +kernel) C.2.2.2.2.1 lk_n2 lk_nn (tb _ lk_k2) (tb _ lk_i2) lw4
      (vx_hat (B := lkB) (fun w hw => tb w (lk_g2 w hw)) lk_b2 (fun w hw => (lw1 w hw).use (lkB_on w hw))) lk_o2 lw5 lw6 S1 (V.1.trans hml.symm) dX9_look_32 dX9_look_35 dX9_look_36 dX9_look_38 dX9_look_41 (fun x hx => (ht x hx).elim)
      (by show 2 + 3 < d + 10; omega) (by show 0 + (13 * (2 + 1) + 43) ≤ 64 * (d + 10); omega) (Nat.le_refl 1) (Nat.le_refl 6) B.notSynchronized (fun t _ hz hs => lk_x (p := p) P1 S1 hz hs) S1.2.2 (Nat.le_refl 1) (Nat.le_refl 6)
  have r0 : r32 0 := by unfold r32; omega
  have r6 : r32 6 := by unfold r32; omega
  refine lv_iload_n C.1 C.2.1 dX9_look_22 rfl (zlv_at V (i := 3) (v := zI w) rfl (by show (0 : Nat) ≠ 9; decide)) ?_
  refine lv_if_lt (tgt := 32) C.1 C.2.1 dX9_look_23 (by decide) (fun _ => thr) (fun q => ?_)
  refine lv_iload_n C.1 C.2.1 dX9_look_26 rfl (zlv_at V (i := 3) (v := zI w) rfl (by show (0 : Nat) ≠ 9; decide)) ?_
  refine lv_bipush (v := Int32.ofInt 6) C.1 C.2.1 dX9_look_27 rfl ?_
  refine lv_icmp_lt (tgt := 42) C.1 C.2.1 dX9_look_29 (by decide) (fun q2 => ?_) (fun _ => thr)
  refine absurd ⟨?_, ?_⟩ nw
  · by_cases z : w < 0
    · exact absurd ((i32_lt rw0 r0).mpr z) q
    · omega
  · have := (i32_lt rw0 r6).mp q2
    omega
end ZLook
