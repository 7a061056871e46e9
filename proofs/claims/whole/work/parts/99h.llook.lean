/-! ===== the law's look ===== -/
section ZLawLook
theorem met_ofWH {l : Launch} {y : MethodName} {ws ws' : List Cond} {rm : Room} {Pc : Array Value → State → Prop} {Qc : Array Value → State → Outcome → State → Prop} {mc ms : Nat} {free : Addr → Prop} {cc : ByteArray} {maxL : Nat} {ret : Option FieldType} {hh : List (Nat × Nat × Nat × Nat)}
    (hy : plainName y.cls = true) (hw : ws = Cond.codeWith y cc maxL ret hh :: ws')
    (body : ∀ p e s m args below meth c s₁, BodyLoose p l y (headSpec ws rm) cc maxL ret e s m args below meth c s₁ → c.maxLocals = maxL → Pc args s →
      W p l e (headSpec ws rm).room s m args below meth c s.heap [] 0 0 (MQ below Qc args s mc ms free) (entryFrame m args maxL)) : Met l y ws rm Pc Qc mc ms free := by
  refine MetFree.of_bodyS (code := cc) (maxLocals := maxL) (ret := ret) hy ?_ ?_
  · intro args s m h hn
    obtain ⟨m9, meth, c, hn9, h1, h2, h3, h4, -, h5, h6, -⟩ := Cond.codeWith_spec (atoms_spec (ws := ws) h _ (by rw [hw]; exact List.mem_cons_self))
    cases hn.symm.trans hn9
    exact ⟨meth, c, h1, h2, h3, h4, h5, h6⟩
  · intro p e s m args below meth c s₁ B hml hP _
    have hh0 : s₁.heap = s.heap := by rw [B.state]; rfl
    obtain ⟨t, a1, o, b1, b2, b3⟩ := body p e s m args below meth c s₁ B hml hP s₁ hh0 (Stand.of_body B)
    exact ⟨t, o, a1, b1, b2, b3⟩
variable {E : zE} {d : Nat} {h S : zH} {r s0 w : Int} {bo : Nat} {f : Nat → Int64}
def lkH : List (Nat × Nat × Nat × Nat) := [(0, 12, 15, 13), (0, 12, 19, 15)]
def lkWs : List Cond := Cond.codeWith yL_look cL_look 6 (some .int) lkH :: ztb
def rmU (d : Nat) : Room := { frames := d + 12, cells := 1, slots := 6, locals := 64 * (d + 12) }
def lkA (E : zE) (bo : Nat) : Nat → Prop := fun q => zA E q ∨ q = bo
def lkO (E : zE) (bo : Nat) (f : Nat → Int64) (H : Heap) : Prop := H[bo]? = some (vp_cell (zcA E 3) (1, .inr (.inl f)))
def lkQ (E : zE) (h S : zH) (r s0 w : Int) (bo : Nat) : Array Value → State → Outcome → State → Prop := fun _ st oc t =>
  ∃ f' : Nat → Int64, oc = .returned (some (.int (Int32.ofInt (lkT S r s0 w)))) ∧ va_P (zD E) vwCl (zw E h) t.heap ∧ lkO E bo f' t.heap ∧ (lkT S r s0 w = 0 → f' 0 = Int64.ofInt (lkV S r s0 w)) ∧ va_F (lkA E bo) st t
def lkPc (E : zE) (h : zH) (as : List Value) (bo : Nat) (f : Nat → Int64) : Array Value → State → Prop := va_Pc as (fun U => va_P (zD E) vwCl (zw E h) U.heap ∧ zSt E U U.heap ∧ lkW (zA E) U U.heap ∧ lkO E bo f U.heap)
theorem lkgood {M' : zM} (hcd : Cond.code M'.1 M'.2.1 M'.2.2.1 M'.2.2.2 ∈ ztb) : GoodIn lkWs (zws M') := by
  intro w hw
  rcases List.mem_cons.mp hw with rfl | hw
  · exact ⟨List.mem_cons_of_mem _ hcd, good_of_word (List.mem_filter.mp hcd).2⟩
  · exact ⟨List.mem_cons_of_mem _ hw, good_of_word (List.mem_filter.mp hw).2⟩
theorem lkblind {as : List zV} : FrameBlind (lkP E h as) := by
  intro a U g mk hq
  obtain ⟨q0, qP, qS, qW⟩ := hq
  exact ⟨q0, qP, qS.blind, qW.blind⟩
theorem lkblindL {as : List Value} : FrameBlind (lkPc E h as bo f) := by
  intro a U g mk hq
  obtain ⟨q0, qP, qS, qW, qO⟩ := hq
  exact ⟨q0, qP, qS.blind, qW.blind, qO⟩
theorem lk_l13 : Cond.classLink RL 13 xIo ∈ ztb := by decide +kernel
theorem lk_l15 : Cond.classLink RL 15 xNs ∈ ztb := by decide +kernel
theorem lk_pn : plainName RL = true := by decide +kernel
theorem L_look (hE : isC E) (i : IC S h) (oH : zokH E h) (rr : r32 r) (rs : r32 s0) (rw0 : r32 w) (hl : (zl E).stackTraces = false) (hbo : ¬ zA E bo) :
    Met (zl E) yL_look lkWs (rmU d) (lkPc E h [.ref (zad E 0), .int (Int32.ofInt r), .int (Int32.ofInt s0), .int (Int32.ofInt w), .ref bo] bo f) (lkQ E h S r s0 w bo) 1 6 (lkA E bo) := by
  refine met_ofWH (cc := cL_look) (maxL := 6) (ret := some .int) (hh := lkH) lk_pn rfl ?_
  intro p e s m args below meth c s₁ B hml hv
  obtain ⟨rfl, P, hst, lw, O⟩ := hv
  obtain ⟨b, i⟩ := i
  have hts := atoms_spec (ws := lkWs) B.pre
  have tb : ∀ w ∈ ztb, w.before _ s = true := fun w hw => hts w (List.mem_cons_of_mem _ hw)
  have htab : c.exceptionTable.toList = tableOf lkH := vx_table (x := yL_look) B (hts _ List.mem_cons_self)
  have hx := B.exec
  have hb := B.bytes
  have hr := B.returns
  have hown : s.vm.findClass RL = some m.cls := findClass_of_methodNamed B.named
  have hlocks := B.notSynchronized
  have hbl : bo < s.heap.size := (Array.getElem?_eq_some_iff.mp O).1
  have w0 := zw_at (E := E) (h := h) (c := 0) (cC_0 hE)
  rw [zre_obj (sC_0 hE) (by decide)] at w0
  rw [lg_entry_eq]
  have hl0 := lv_entry ([.ref (zad E 0), .int (Int32.ofInt r), .int (Int32.ofInt s0), .int (Int32.ofInt w), .ref bo]) (n := 6) (Nat.le_of_ble_eq_true rfl)
  generalize (lg_sl ([.ref (zad E 0), .int (Int32.ofInt r), .int (Int32.ofInt s0), .int (Int32.ofInt w), .ref bo]) ++ List.replicate (6 - (lg_sl ([.ref (zad E 0), .int (Int32.ofInt r), .int (Int32.ofInt s0), .int (Int32.ofInt w), .ref bo])).length) Slot.unset).toArray = ls at hl0 ⊢
  have V : lv_has ls 6 [(0, .ref (zad E 0)), (1, .int (Int32.ofInt r)), (2, .int (Int32.ofInt s0)), (3, .int (Int32.ofInt w)), (4, .ref bo)] := hl0
  refine lv_aload hx hb dL_look_0 (lv_at V 4 rfl) ?_
  refine lv_iconst (v := 0) hx hb dL_look_2 (by decide) ?_
  refine lv_aload_n hx hb dL_look_3 rfl (lv_at V 0 rfl) ?_
  refine lv_iload_n hx hb dL_look_4 rfl (lv_at V 1 rfl) ?_
  refine lv_iload_n hx hb dL_look_5 rfl (lv_at V 2 rfl) ?_
  refine lv_iload_n hx hb dL_look_6 rfl (lv_at V 3 rfl) ?_
  have fin : ∀ (H1 : Heap) (locs1 : List Loc) (f' : Nat → Int64) (ls' : Array Slot) (pc' : Nat), va_P (zD E) vwCl (zw E h) H1 → va_S (lkA E bo) s.heap H1 locs1 → lkO E bo f' H1 → (lkT S r s0 w = 0 → f' 0 = Int64.ofInt (lkV S r s0 w)) → decode cL_look pc' = .ok (.ireturn, 1) →
      W p (zl E) e (rmU d) s m #[Value.ref (zad E 0), Value.int (Int32.ofInt r), Value.int (Int32.ofInt s0), Value.int (Int32.ofInt w), Value.ref bo] below meth c H1 locs1 1 6 (MQ below (lkQ E h S r s0 w bo) #[Value.ref (zad E 0), Value.int (Int32.ofInt r), Value.int (Int32.ofInt s0), Value.int (Int32.ofInt w), Value.ref bo] s 1 6 (lkA E bo)) (F0 m pc' ls' [.int (Int32.ofInt (lkT S r s0 w))]) := by
    intro H1 locs1 f' ls' pc' P1 S1 O1 hf hd
    exact W.iret hx hb hr (fun t ht hW => ⟨f', rfl, by rw [ht]; exact P1, by rw [ht]; exact O1, hf, S1.F ht⟩) S1.2.2 hd
  by_cases ys : isSt S r s0
  · by_cases yw : okLk w
    · have l0 : lkT S r s0 w = 0 := by unfold lkT; rw [if_pos ys, if_pos yw]
      rw [l0] at fin
      have hM := C_look (d := d) (K := fun x h' => x = lkV S r s0 w ∧ h' = h) hE ⟨b, i⟩ l0 ⟨rfl, rfl⟩ (zokS_cons.mpr ⟨zok_r, zokS_cons.mpr ⟨zok_i rr, zokS_cons.mpr ⟨zok_i rs, zokS_cons.mpr ⟨zok_i rw0, zokS_nil⟩⟩⟩⟩) oH
      have cw : CallB (rmU d) s #[Value.ref (zad E 0), Value.int (Int32.ofInt r), Value.int (Int32.ofInt s0), Value.int (Int32.ofInt w), Value.ref bo] RL 7 mX9_look.1 mX9_look.2.1 mX9_look.2.2.1 mX9_look.2.2.2 (zws mX9_look) (zrm (d + 2)) 0 0 3 :=
        callB_of 3 hts (lkgood wc_X9_look) rfl rfl rfl (tb _ wi_X9) (tb _ wm_L_7) wy_X9_look ⟨by simp only [zrm, rmU]; omega, by simp only [zrm, rmU]; show 8 + (4 + 11) + _ ≤ _; omega⟩
      have run := va_runV (C := RX9) (b := zad E 0) (As := [.int (Int32.ofInt r), .int (Int32.ofInt s0), .int (Int32.ofInt w)]) (rest := [.int 0, .ref bo]) (g := F0 m 7 ls [.int (Int32.ofInt w), .int (Int32.ofInt s0), .int (Int32.ofInt r), .ref (zad E 0), .int 0, .ref bo]) (locs := []) (cells := 0) (slots := 0) (below := below) (meth := meth) (e := e) (H := s.heap)
        ⟨hx, hb, hml, hown, hts⟩ hM ⟨cw, tb _ wn_X9_look, tb _ wl_X9_look⟩ ⟨zblind, va_recv hst.1 P rfl w0, fun U hU hW => ⟨rfl, by rw [hU]; exact P, hst.use va_S.rf hW hU⟩⟩ rfl rfl V.1 rfl (lv_room (Nat.le_of_ble_eq_true rfl)) dL_look_7 ⟨by simp only [rmU]; omega, by simp only [rmU]; omega⟩
      refine z_cont run va_S.rf (fun r9 h1 H1 locs1 o1 o2 P1 K1 S1 => ?_)
      obtain ⟨x, rfl, rfl, eh⟩ := K1
      rw [eh] at P1
      have rx : r32 (lkV S r s0 w) := (zokS_cons.mp o1).1.1 rfl
      refine lv_i2l (x := Int32.ofInt (lkV S r s0 w)) (v := Int64.ofInt (lkV S r s0 w)) hx hb dL_look_10 (Int64.toInt_inj.mp (by rw [Int32.toInt_toInt64, i32_to, i64_to, w32_id rx, w64_id (r32_64 rx)])) ?_
      have O1 : H1[bo]? = some (vp_cell (zcA E 3) (1, .inr (.inl f))) := by rw [S1.2.1 bo hbl hbo]; exact O
      refine W.last hx hb O1 ((hst.1.2 3 _ rfl).1 1 (fun j => .long (f j))) (fun q => by cases q) (by show ¬ ((0 : Int32) < 0 ∨ (arrV _ _ _).slots.size ≤ _); rw [arrV_size]; exact (show ¬ ((0 : Int32) < 0 ∨ 1 ≤ (0 : Int32).toNatClampNeg) by decide)) rfl rfl dL_look_11 fun H2 e2 z2 oq => ?_
      have O2 : lkO E bo (vp_updL f (0 : Int32).toNatClampNeg (Int64.ofInt (lkV S r s0 w))) H2 := by
        show H2[bo]? = some (vp_cell _ _)
        rw [e2]
        rw [vp_cell_l, vp_cell_l, arrV_store]
        congr 2
        funext q
        by_cases hq : q = (0 : Int32).toNatClampNeg
        · subst hq
          simp [updV, vp_updL]
        · unfold updV vp_updL
          rw [if_neg hq, if_neg hq]
      have P2 : va_P (zD E) vwCl (zw E h) H2 := P1.kept (fun n q hn => oq q.1 (fun z => hbo (by
        have hn' := hn
        have hlq : n < zN E := by
          have := (List.getElem?_eq_some_iff.mp hn).1
          simpa [zw] using this
        rw [zw_at hlq] at hn'
        cases hn'
        rw [← z]
        exact ⟨n, hlq, rfl⟩)))
      have S2 : va_S (lkA E bo) s.heap H2 (locs1 ++ [⟨bo, (0 : Int32).toNatClampNeg⟩]) := ⟨by rw [z2]; exact S1.1, fun q h1 h2 => by
          rw [oq q (fun z => h2 (Or.inr z))]
          exact S1.2.1 q h1 (fun z => h2 (Or.inl z)), fun q hq => by
          rcases List.mem_append.mp hq with z | z
          · exact Or.inl (S1.2.2 q z)
          · rw [List.mem_singleton.mp z]; exact Or.inr rfl⟩
      refine W.eq (g2 := F0 m 12 ls []) rfl ?_
      refine lv_goto (tgt := 23) hx hb dL_look_12 (by decide) ?_
      refine lv_iconst (v := 0) hx hb dL_look_23 (by decide) ?_
      refine W.widen (k := 1) (n := 6) (by omega) (by omega) ?_
      exact fin H2 _ _ ls 24 P2 S2 O2 (fun _ => if_pos rfl) dL_look_24
    · have l2 : lkT S r s0 w = 2 := by unfold lkT; rw [if_pos ys, if_neg yw]
      rw [l2] at fin
      have hM := lk_thr2 (d := d) hE i oH rr rs rw0 hl ys yw
      have cw : CallB (rmU d) s #[Value.ref (zad E 0), Value.int (Int32.ofInt r), Value.int (Int32.ofInt s0), Value.int (Int32.ofInt w), Value.ref bo] RL 7 mX9_look.1 mX9_look.2.1 mX9_look.2.2.1 mX9_look.2.2.2 (zws mX9_look) (rmT d) 1 6 3 :=
        callB_of 3 hts (lkgood wc_X9_look) rfl rfl rfl (tb _ wi_X9) (tb _ wm_L_7) wy_X9_look ⟨by simp only [rmT, rmU]; omega, by simp only [rmT, rmU]; show 8 + (4 + 11) + _ ≤ _; omega⟩
      have run := vx_runV (C := RX9) (b := zad E 0) (As := [.int (Int32.ofInt r), .int (Int32.ofInt s0), .int (Int32.ofInt w)]) (rest := [.int 0, .ref bo]) (g := F0 m 7 ls [.int (Int32.ofInt w), .int (Int32.ofInt s0), .int (Int32.ofInt r), .ref (zad E 0), .int 0, .ref bo]) (locs := []) (cells := 0) (slots := 0) (below := below) (meth := meth) (e := e) (H := s.heap)
        ⟨hx, hb, hml, hown, hts⟩ hM ⟨cw, tb _ wn_X9_look, tb _ wl_X9_look⟩ ⟨lkblind, va_recv hst.1 P rfl w0, fun U hU hW => ⟨rfl, by rw [hU]; exact P, hst.use va_S.rf hW hU, lw.use va_S.rf hW hU⟩⟩ rfl rfl V.1 rfl (lv_room (Nat.le_of_ble_eq_true rfl)) dL_look_7 ⟨by simp only [rmU]; omega, by simp only [rmU]; omega⟩
      intro T hT X
      rcases run T hT X with ⟨v, st₀, t, T', L, h0, X', hL, e1, e2, hq, st⟩ | ⟨q, st₀, t, T', L, Ex, ce, h0, X', hL, e1, e2, ⟨rfl, hP, hF⟩, hce, hcv, hcl, st⟩
      · exact hq.elim
      · have O1 : lkO E bo f T'.heap := by
          unfold lkO
          rw [e1, hF.2 bo (by rw [h0]; exact hbl) hbo, h0]
          exact O
        have S2 : va_S (lkA E bo) s.heap T'.heap L := ⟨by rw [e1, ← h0]; exact hF.1, fun z h1 h2 => by
          rw [e1, hF.2 z (by rw [h0]; exact h1) (fun y => h2 (Or.inl y)), h0], fun z hz => Or.inl (hL z hz)⟩
        have kk := vx_catch (p := p) (l := zl E) (e := e) (R := rmU d) (below := below) (meth := meth) (Q := MQ below (lkQ E h S r s0 w bo) #[Value.ref (zad E 0), Value.int (Int32.ofInt r), Value.int (Int32.ofInt s0), Value.int (Int32.ofInt w), Value.ref bo] s 1 6 (lkA E bo)) (own := RL) (name := xNs) (E := xNs) (ce := ce) (q := q) (pc := 7) (ls := ls) (rest := [.int 0, .ref bo]) (H := T'.heap) (locs := L) (cells := 1) (slots := 6) hown [⟨0, 12, 15, 13⟩] ⟨0, 12, 19, 15⟩ [] htab
          (fun z hz => by
            rw [List.mem_singleton.mp hz]
            exact Or.inr ⟨by decide, xIo, tb _ lk_l13, lw.2.1⟩) rfl (by decide) (tb _ lk_l15) ((lw.1 (.castable xNs xNs) (by decide +kernel)).use rfl) (by rw [e1]; exact hce) hcv hcl
          (by
            refine lv_astore (lv' := _) hx hb dL_look_19 V (by decide) rfl (fun ls2 _ => ?_)
            refine lv_iconst (v := 2) hx hb dL_look_21 (by decide) ?_
            exact fin T'.heap L f ls2 22 (by rw [e1]; exact hP) S2 O1 (fun z => absurd z (by decide)) dL_look_22)
        obtain ⟨t2, a1, b1⟩ := kk T' rfl X'
        exact ⟨t2, st.trans a1, b1⟩
  · have l1 : lkT S r s0 w = 1 := by unfold lkT; rw [if_neg ys]
    rw [l1] at fin
    have hM := lk_thr1 (d := d) (w := w) hE i oH rr rs hl ys
    have cw : CallB (rmU d) s #[Value.ref (zad E 0), Value.int (Int32.ofInt r), Value.int (Int32.ofInt s0), Value.int (Int32.ofInt w), Value.ref bo] RL 7 mX9_look.1 mX9_look.2.1 mX9_look.2.2.1 mX9_look.2.2.2 (zws mX9_look) (rmT d) 1 6 3 :=
      callB_of 3 hts (lkgood wc_X9_look) rfl rfl rfl (tb _ wi_X9) (tb _ wm_L_7) wy_X9_look ⟨by simp only [rmT, rmU]; omega, by simp only [rmT, rmU]; show 8 + (4 + 11) + _ ≤ _; omega⟩
    have run := vx_runV (C := RX9) (b := zad E 0) (As := [.int (Int32.ofInt r), .int (Int32.ofInt s0), .int (Int32.ofInt w)]) (rest := [.int 0, .ref bo]) (g := F0 m 7 ls [.int (Int32.ofInt w), .int (Int32.ofInt s0), .int (Int32.ofInt r), .ref (zad E 0), .int 0, .ref bo]) (locs := []) (cells := 0) (slots := 0) (below := below) (meth := meth) (e := e) (H := s.heap)
      ⟨hx, hb, hml, hown, hts⟩ hM ⟨cw, tb _ wn_X9_look, tb _ wl_X9_look⟩ ⟨lkblind, va_recv hst.1 P rfl w0, fun U hU hW => ⟨rfl, by rw [hU]; exact P, hst.use va_S.rf hW hU, lw.use va_S.rf hW hU⟩⟩ rfl rfl V.1 rfl (lv_room (Nat.le_of_ble_eq_true rfl)) dL_look_7 ⟨by simp only [rmU]; omega, by simp only [rmU]; omega⟩
    intro T hT X
    rcases run T hT X with ⟨v, st₀, t, T', L, h0, X', hL, e1, e2, hq, st⟩ | ⟨q, st₀, t, T', L, Ex, ce, h0, X', hL, e1, e2, ⟨rfl, hP, hF⟩, hce, hcv, hcl, st⟩
    · exact hq.elim
    · have O1 : lkO E bo f T'.heap := by
        unfold lkO
        rw [e1, hF.2 bo (by rw [h0]; exact hbl) hbo, h0]
        exact O
      have S2 : va_S (lkA E bo) s.heap T'.heap L := ⟨by rw [e1, ← h0]; exact hF.1, fun z h1 h2 => by
        rw [e1, hF.2 z (by rw [h0]; exact h1) (fun y => h2 (Or.inl y)), h0], fun z hz => Or.inl (hL z hz)⟩
      have kk := vx_catch (p := p) (l := zl E) (e := e) (R := rmU d) (below := below) (meth := meth) (Q := MQ below (lkQ E h S r s0 w bo) #[Value.ref (zad E 0), Value.int (Int32.ofInt r), Value.int (Int32.ofInt s0), Value.int (Int32.ofInt w), Value.ref bo] s 1 6 (lkA E bo)) (own := RL) (name := xIo) (E := xIo) (ce := ce) (q := q) (pc := 7) (ls := ls) (rest := [.int 0, .ref bo]) (H := T'.heap) (locs := L) (cells := 1) (slots := 6) hown [] ⟨0, 12, 15, 13⟩ [⟨0, 12, 19, 15⟩] htab
        (fun z hz => by cases hz) rfl (by decide) (tb _ lk_l13) ((lw.1 (.castable xIo xIo) (by decide +kernel)).use rfl) (by rw [e1]; exact hce) hcv hcl
        (by
          refine lv_astore (lv' := _) hx hb dL_look_15 V (by decide) rfl (fun ls2 _ => ?_)
          refine lv_iconst (v := 1) hx hb dL_look_17 (by decide) ?_
          exact fin T'.heap L f ls2 18 (by rw [e1]; exact hP) S2 O1 (fun z => absurd z (by decide)) dL_look_18)
      obtain ⟨t2, a1, b1⟩ := kk T' rfl X'
      exact ⟨t2, st.trans a1, b1⟩
end ZLawLook
