section ZWhole3
theorem z10_0 (E : zE) : ∀ j, j < 86 → defaultValue (tyX10 j) = zfB E 0 (zfk 10 j) (z00 0 j) (u00 0 j) := by
  intro j hj
  rcases (show j = 0 ∨ j = 1 ∨ j = 2 ∨ j = 3 ∨ j = 4 ∨ j = 5 ∨ j = 6 ∨ j = 7 ∨ j = 8 ∨ j = 9 ∨ j = 10 ∨ j = 11 ∨ j = 12 ∨ j = 13 ∨ j = 14 ∨ j = 15 ∨ j = 16 ∨ j = 17 ∨ j = 18 ∨ j = 19 ∨ j = 20 ∨ j = 21 ∨ j = 22 ∨ j = 23 ∨ j = 24 ∨ j = 25 ∨ j = 26 ∨ j = 27 ∨ j = 28 ∨ j = 29 ∨ j = 30 ∨ j = 31 ∨ j = 32 ∨ j = 33 ∨ j = 34 ∨ j = 35 ∨ j = 36 ∨ j = 37 ∨ j = 38 ∨ j = 39 ∨ j = 40 ∨ j = 41 ∨ j = 42 ∨ j = 43 ∨ j = 44 ∨ j = 45 ∨ j = 46 ∨ j = 47 ∨ j = 48 ∨ j = 49 ∨ j = 50 ∨ j = 51 ∨ j = 52 ∨ j = 53 ∨ j = 54 ∨ j = 55 ∨ j = 56 ∨ j = 57 ∨ j = 58 ∨ j = 59 ∨ j = 60 ∨ j = 61 ∨ j = 62 ∨ j = 63 ∨ j = 64 ∨ j = 65 ∨ j = 66 ∨ j = 67 ∨ j = 68 ∨ j = 69 ∨ j = 70 ∨ j = 71 ∨ j = 72 ∨ j = 73 ∨ j = 74 ∨ j = 75 ∨ j = 76 ∨ j = 77 ∨ j = 78 ∨ j = 79 ∨ j = 80 ∨ j = 81 ∨ j = 82 ∨ j = 83 ∨ j = 84 ∨ j = 85 by omega) with e | e | e | e | e | e | e | e | e | e | e | e | e | e | e | e | e | e | e | e | e | e | e | e | e | e | e | e | e | e | e | e | e | e | e | e | e | e | e | e | e | e | e | e | e | e | e | e | e | e | e | e | e | e | e | e | e | e | e | e | e | e | e | e | e | e | e | e | e | e | e | e | e | e | e | e | e | e | e | e | e | e | e | e | e | e <;> subst e <;> rfl
set_option maxHeartbeats 4000000 in
/-- THE LAW, from its entry: for every script of at most 3584 ints it comes to its end with true -/
theorem whole_start {p : Program} {e : Env} {s : State} {m : MethodId} {below : List Frame} {meth : Method} {c : Code} (l : Launch) (hfl : l.flags = flags0) {b L : Nat} {xs : Nat → Int32} (hL : L ≤ 3584) (C0 : lw_At p s m meth c b L xs) : W p l e room_1 s m #[Value.ref b] below meth c s.heap [] 0 0 (lw_Z below #[Value.ref b] s) (entryFrame m ([Value.ref b] : List Value).toArray 7) := by
  obtain ⟨hx, hb, hr, hml, hown, hts, hX, hbl, hlocks, hgv⟩ := id C0
  have tb : ∀ w ∈ ztb, w.before #[Value.ref b] s = true := fun w hw => hts w (List.mem_filter.mp hw).1
  obtain ⟨D, cA, hK⟩ := st_K tb
  obtain ⟨TK, TV, t1, t2, t3, t4, t5⟩ := st_T hts hgv
  have lk := st_L hts hgv
  obtain ⟨EC, hEC⟩ : ∃ E : zE, E = (l, D, fun q => s.heap.size + q, cA, zshC, 81, TK, TV) := ⟨_, rfl⟩
  obtain ⟨ER, hER⟩ : ∃ E : zE, E = (l, D, fun q => s.heap.size + 81 + q, cA, zshR, 42, TK, TV) := ⟨_, rfl⟩
  have c1 : isC EC := by rw [hEC]; exact ⟨rfl, rfl⟩
  have c2 : isR ER := by rw [hER]; exact ⟨rfl, rfl⟩
  have ac : ∀ q, zad EC q = s.heap.size + q := fun q => by rw [hEC]
  have ar : ∀ q, zad ER q = s.heap.size + 81 + q := fun q => by rw [hER]
  have lC : zl EC = l := by rw [hEC]
  have lR : zl ER = l := by rw [hER]
  have kC : zcA EC = cA := by rw [hEC]
  have bC := st_B (E := EC) hts (by rw [hEC]; exact hK) (fun q => by have := ac q; have := ac 0; omega) (by rw [ac]; omega) (by rw [hEC]; exact t1) (by rw [hEC]; exact t2) (by rw [hEC]; exact t3) t4 (by rw [hEC]; exact t5)
  have bR := st_B (E := ER) hts (by rw [hER]; exact hK) (fun q => by have := ar q; have := ar 0; omega) (by rw [ar]; omega) (by rw [hER]; exact t1) (by rw [hER]; exact t2) (by rw [hER]; exact t3) t4 (by rw [hER]; exact t5)
  have sC : zsl EC 81 = 5447 := by rw [hEC]; exact slC
  have sR : zsl ER 42 = 3383 := by rw [hER]; exact slR
  have AC : ∀ q, zA EC q → s.heap.size ≤ q ∧ q < s.heap.size + 81 := fun q ⟨n, hn, en⟩ => by
    rw [c1.2] at hn
    rw [en, ac]
    omega
  have AR : ∀ q, zA ER q → s.heap.size + 81 ≤ q ∧ q < s.heap.size + 123 := fun q ⟨n, hn, en⟩ => by
    rw [c2.2] at hn
    rw [en, ar]
    omega
  have C : lwC (p, e, s, m, below, meth, c, b, s.heap.size + 123, cA 3) L xs EC ER := ⟨C0, hL, bC.2, bR.2, lC.trans lR.symm, fun q h => (AC q h).1, fun q h => Nat.le_trans (Nat.le_add_right _ _) (AR q h).1, fun q h1 h2 => by
      have := AC q h1
      have := AR q h2
      omega, fun h => absurd (AC _ h).2 (by show ¬ (s.heap.size + 123 < s.heap.size + 81); omega), fun h => absurd (AR _ h).2 (by show ¬ (s.heap.size + 123 < s.heap.size + 123); omega), Nat.le_add_right _ _⟩
  have Lk : lwL (p, e, s, m, below, meth, c, b, s.heap.size + 123, cA 3) EC := ⟨lk.narrow (fun q h => (AC q h).1), by rw [lC]; exact fl_no hfl, by rw [kC]⟩
  have hl := lv_entry ([.ref b]) (n := 7) (Nat.le_of_ble_eq_true rfl)
  rw [lg_entry_eq]
  generalize (lg_sl ([.ref b]) ++ List.replicate (7 - (lg_sl ([.ref b])).length) Slot.unset).toArray = ls at hl ⊢
  have hl : lv_has ls 7 [(0, .ref b)] := hl
  rw [← lC]
  refine W_make (E := EC) (M' := mX9_init) (ixn := 8) (ix := 17) (ci := 9) (N := 14) (T := TX9) (m1 := 81) (d := 13) (h := z00) (u := u00) (Q' := fun r h' u' => r = [] ∧ h' = hC0 ∧ u' = euuX9 u00) C0 tyX9 tyX9_ok bC.1 (by rw [ac]; omega) (by rw [ac]; omega) va_S.rf (sC_0 c1) (by decide) rfl inz9 wL1 wL2 wi_X9 (z9_0 EC) wL3 rfl wL4 wc_X9_init rfl wy_X9_init (by decide) hl.1 (Nat.le_of_ble_eq_true rfl) (by decide) (z00_ok EC) (by decide) (by decide) (by rw [sC]; decide) dL_law_0 dL_law_3 dL_law_4 (N_X9 (d := 10) c1 (fun _ _ _ => rfl) (fun _ _ _ => rfl) ⟨rfl, rfl, rfl⟩) (fun r h' u' H1 locs1 hq oH1 P1 z1 keep1 S1 => ?_)
  obtain ⟨er, eh, eu⟩ := hq
  rw [er]
  rw [eh] at oH1 P1
  rw [eu, zwB_w c1.2 (by rw [c1.1]; exact uC_ok)] at P1
  refine lv_astore_n (x := zad EC 0) (lv' := [(1, .ref (zad EC 0)), (0, .ref b)]) hx hb dL_law_7 rfl hl (by decide) rfl (fun ls hl => ?_)
  rw [lC, ← lR]
  refine W_make (E := ER) (M' := mX10_init) (ixn := 18) (ix := 20) (ci := 10) (N := 86) (T := TX10) (m1 := 42) (d := 13) (h := z00) (u := u00) (Q' := fun r h' u' => r = [] ∧ h' = S0 ∧ u' = euuX10 u00) C0 tyX10 tyX10_ok bR.1 (by rw [ar]; omega) (by rw [z1, ar, ac]) S1 (sR_0 c2) (by decide) rfl inz10 wL5 wL6 wi_X10 (z10_0 ER) wL7 rfl wL8 wc_X10_init rfl wy_X10_init (by decide) hl.1 (Nat.le_of_ble_eq_true rfl) (by decide) (z00_ok ER) (by decide) (by decide) (by rw [sC, sR]; decide) dL_law_8 dL_law_11 dL_law_12 (N_X10 (d := 13) c2 (fun _ _ _ => rfl) (fun _ _ _ => rfl) ⟨rfl, rfl, rfl⟩) (fun r2 h2 u2 H2 locs2 hq2 oH2 P2 z2 keep2 S2 => ?_)
  obtain ⟨er2, eh2, eu2⟩ := hq2
  rw [er2]
  rw [eh2] at oH2 P2
  rw [eu2, zwB_w c2.2 (by rw [c2.1]; exact uR_ok)] at P2
  refine lv_astore_n (x := zad ER 0) (lv' := [(2, .ref (zad ER 0)), (1, .ref (zad EC 0)), (0, .ref b)]) hx hb dL_law_15 rfl hl (by decide) rfl (fun ls hl => ?_)
  refine lv_iconst (v := 1) hx hb dL_law_16 (by decide) ?_
  refine va_newaK (h := s.heap.size + 123) hx hb (atype := .long) (tb _ wa_long) (g := F0 m 17 ls [.int 1]) rfl dL_law_17 rfl (by decide) (N := 1) (by decide) (by decide) (by decide) (by rw [sC, sR]; decide) (by rw [z2, ar]) (fun H3 cN e3 z3 o3 hAr hNm => ?_)
  have ecN : cN = cA 3 := by
    have q := (hK.2 3 _ rfl).2
    have q2 : s.vm.findClass ("[" ++ FieldType.long.toString) = some (cA 3) := q
    have q3 : s.vm.findClass ("[" ++ FieldType.long.toString) = some cN := hNm
    rw [q2] at q3
    exact (Option.some.inj q3).symm
  refine W.eq (g2 := F0 m 19 ls [.ref (s.heap.size + 123)]) rfl ?_
  refine lv_astore_n (x := s.heap.size + 123) (lv' := [(3, .ref (s.heap.size + 123)), (2, .ref (zad ER 0)), (1, .ref (zad EC 0)), (0, .ref b)]) hx hb dL_law_19 rfl hl (by decide) rfl (fun ls hl => ?_)
  refine lv_iconst (v := 0) hx hb dL_law_20 (by decide) ?_
  refine lv_istore (x := 0) (lv' := [(4, .int 0), (3, .ref (s.heap.size + 123)), (2, .ref (zad ER 0)), (1, .ref (zad EC 0)), (0, .ref b)]) hx hb dL_law_21 hl (by decide) rfl (fun ls hl => ?_)
  have loop := lw_loop C c1 c2 Lk (L + 1) 0 S0 hC0 S0 0 (Nat.zero_le _) (by omega) ⟨8, hC0_ic⟩ S0_ir S0_bd
  have zH2 : H2.size = s.heap.size + 123 := by rw [z2, ar]
  have zH1 : H1.size = s.heap.size + 81 := by rw [z1, ac]
  have P1' : va_P (zD EC) vwCl (zw EC hC0) H3 := P1.kept (fun n q hn => by
    have := (P1 n q hn).lt
    rw [o3 q.1 (by omega), keep2 q.1 this])
  have P2' : va_P (zD ER) vwCl (zw ER S0) H3 := P2.kept (fun n q hn => by
    have := (P2 n q hn).lt
    rw [o3 q.1 (by omega)])
  have S3 : va_S (fun q => s.heap.size ≤ q) s.heap H3 locs2 := ⟨by omega, fun q q1 q2 => by
    rw [o3 q (by omega)]
    exact S2.2.1 q q1 q2, S2.2.2⟩
  have kk := loop oH1 oH2 H3 ls locs2 (0 + 81 + 42 + 1) (0 + zsl EC 81 + zsl ER 42 + 1) P1' P2' ⟨fun _ => 0, rfl, by rw [← ecN]; exact e3⟩ S3 (lv_sub hl [4, 3, 2, 1, 0] rfl) (by decide) (by rw [sC, sR]; decide)
  rw [lC] at kk
  rw [lR]
  exact kk
set_option maxHeartbeats 4000000 in
theorem lw_walk (l : Launch) (hfl : l.flags = flags0) (b : Addr) (xs : List Int32) : MetFree l x (headSpec (Jvm.Cond.code x code maxLocals ret :: tables_1) room_1) (lw_P b xs) (fun _ _ _ _ _ => True) lw_Q := by
  refine MetFree.of_bodyS (code := code) (maxLocals := maxLocals) (ret := ret) (by decide) ?_ ?_
  · intro args s m h hn
    obtain ⟨meth, c, h1, h2, h3, h4, h5, h6, -, -⟩ := Cond.code_spec hn (atoms_spec (ws := Jvm.Cond.code x code maxLocals ret :: tables_1) h _ List.mem_cons_self)
    exact ⟨meth, c, h1, h2, h3, h4, h5, h6⟩
  · intro p e s m args below meth c s₁ B hml0 hP _
    obtain ⟨rfl, hx, hbd, hgv⟩ := hP
    obtain ⟨scr, harrAt, hlist, hof, hsmall⟩ := hx
    obtain ⟨hcb, hkn, -, -⟩ := State.arrayAt?_spec harrAt
    have hown : s.vm.findClass R_law = some m.cls := findClass_of_methodNamed B.named
    have hts0 : ∀ c ∈ (Jvm.Cond.code x code maxLocals ret :: tables_1), c.before #[Value.ref b] s = true := atoms_spec (ws := Jvm.Cond.code x code maxLocals ret :: tables_1) B.pre
    have hts : ∀ w ∈ lw_tbl, w.before #[Value.ref b] s = true := k2_hts_sels lw_privs (fun w hw => hts0 w (List.mem_cons_of_mem _ hw)) lw_privs_ok
    have hml : c.maxLocals = 7 := B.maxLocals_eq (hts0 _ List.mem_cons_self)
    have X₀ : Stand p l e room_1 s m #[Value.ref b] below meth c s₁ [] 0 0 := Stand.of_body B
    have hh0 : s₁.heap = s.heap := by rw [B.state]; rfl
    have hsz : scr.slots.size = xs.length := by rw [← Array.length_toList, hlist, List.length_map]
    have hval : ∀ j : Nat, j < xs.length → scr.slots[j]? = some (.int (xs.getD j 0)) := fun j hj => by
      rw [← Array.getElem?_toList, hlist]
      simp [hj]
    have hbl : b < s.heap.size := (Array.getElem?_eq_some_iff.mp hcb).1
    have hX : va_X b xs.length (fun j => xs.getD j 0) s s.heap := ⟨scr, hcb, hof, hkn, hsz, hval⟩
    have K : W p l e room_1 s m #[Value.ref b] below meth c s₁.heap [] 0 0 (lw_Z below #[Value.ref b] s) (entryFrame m ([Value.ref b] : List Value).toArray 7) := by
      rw [hh0]
      exact whole_start l hfl hbd ⟨B.exec, B.bytes, B.returns, hml, hown, hts, hX, hbl, B.notSynchronized, hgv⟩
    obtain ⟨t, a1, o, b1, b2, b3⟩ := K s₁ rfl X₀
    exact ⟨t, o, a1, b1, b2, b3⟩
theorem lw_pre_spec {args : Array Value} {s : State} (h : (Jvm.Cond.and given_1 narrow_1).before args s = true) (hr : rest_1_c.before args s = true) : ∃ (b : Addr) (xs : List Int32), lw_P b xs args s := by
  have hs := flat_of_before _ h
  have hq := flat_of_before _ hr
  have hc : (Cond.count 1).before args s = true := hs _ (by decide +kernel)
  have harr : (Cond.arrayOf (.arg 0) .int).before args s = true := hs _ (by decide +kernel)
  have hle : (Cond.le (.length (.arg 0)) (.int 3584)).before args s = true := hs _ (by decide +kernel)
  have hlen : (Cond.isInt (.length (.arg 0))).before args s = true := hq _ (by decide +kernel)
  have hall : (Cond.all (.arg 0) (.isInt (.elem (.arg 0) (.index 0)))).before args s = true := hq _ (by decide +kernel)
  obtain ⟨b, xs, hb, hx⟩ := State.ints_of_pre rfl harr hlen hall
  have hsm : xs.length < 2 ^ 31 := hx.choose_spec.2.2.2
  have hev : (Term.length (.arg 0)).eval args s none [] s = some (.int xs.length.toInt32) := hx.length_eval hb
  have hv := Cond.le_ints hev (show (Term.int 3584).eval args s none [] s = some (.int 3584) from rfl)
  have hd : xs.length.toInt32 ≤ 3584 := by
    simpa [Cond.before, Cond.holds, hv] using hle
  have hN : xs.length ≤ 3584 := (Int32.ofNat_le_ofNat hsm (by decide)).mp (show Int32.ofNat xs.length ≤ Int32.ofNat 3584 from hd)
  exact ⟨b, xs, Cond.one_arg hc (show args[0]? = some (.ref b) from hb), hx, hN, h⟩
theorem lw_comes (l : Launch) (hfl : l.flags = flags0) : Comes l x (Jvm.Cond.code x code maxLocals ret :: tables_1) room_1 (fun tb e args s => Calls_1 tb e args s ∧ rest_1 tb e args s ∧ Pre_1 tb e args s)
    (fun _ _ args s o t => lw_Q args s o t) := by
  intro p e ha hc hk s m args below hf hfit hheap happ hpre
  obtain ⟨b, xs, hP⟩ := lw_pre_spec hpre.2.2 hpre.2.1
  obtain ⟨k, o, h1, h2, h3, hQ⟩ := lw_walk l hfl b xs p e ha hc hk s m args below hf ((Spec.applies_iff_loose hf).mp happ).1 hP trivial
  exact ⟨k, o, h1, h2, h3, hQ⟩
theorem lw_frame {s t : State} {o : Outcome} {args : Array Value} (h : Framed s o t [] 601024 7293034) :
    Framed s o t (fieldLocs frame_1_writes args s ++ arrayLocs frame_1_arrays args s ++ staticLocs frame_1_statics s) 601024 7293034 := h
theorem lw_limb (L : Cond) (hL : ∀ (args : Array Value) (s t : State), L.after args s (.returned (some (.int 1))) t = true) :
    ArmFor flags0 classFile x code maxLocals ret World_1 tables_1 room_1 Calls_1 rest_1 Pre_1
      (fun tb e a s o t => postC L tb e a s o t ∧ Framed s o t (fieldLocs frame_1_writes a s ++ arrayLocs frame_1_arrays a s ++ staticLocs frame_1_statics s) 601024 7293034) := by
  intro l hfl _ _ p e ha hc hk s m args below hf hfit hheap happ hpre
  obtain ⟨k, o, h1, h2, h3, rfl, hF⟩ := lw_comes l hfl p e ha hc hk s m args below hf hfit hheap happ hpre
  exact ⟨k, _, h1, h2, h3, hL args s _, lw_frame hF⟩
theorem i_vc : Claimed_1_1 ∧ Claimed_1_2 := ⟨lw_limb limb_1_1 (fun args s t => by simp [limb_1_1, Cond.after, Cond.holds, Cond.value]), lw_limb limb_1_2 (fun args s t => Cond.after_iff.mpr (by
  first | (rw [show limb_1_2 = Cond.eq .result (.int 1) from rfl, Cond.eq_ints (x := 1) (y := 1) rfl rfl]; simp; done) | (simp [limb_1_2, Cond.value, Term.eval]; done)))⟩
end ZWhole3
