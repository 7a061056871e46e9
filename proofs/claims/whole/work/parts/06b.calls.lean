/-! ===== calls, entries, switches ===== -/
section ZCalls
variable {E : zE} {M : zM} {d pc : Nat} {L st : List zV} {h : zH} {Q : List zV → zH → Prop}
theorem head_toList {α : Type} : ∀ {l : List α}, l.length ≤ 1 → l.head?.toList = l
  | [], _ => rfl
  | [_], _ => rfl
  | _ :: _ :: _, h => by simp at h
theorem z_cont {p : Program} {l : Launch} {e : Env} {R : Room} {s : State} {m : MethodId} {args a : Array Value} {below : List Frame} {meth : Method} {c : Code} {H : Heap} {locs : List Loc} {ls : Array Slot} {st0 rest : List Value} {K : List zV → zH → Prop} {QQ : State → Prop}
    (hr : va_Run p l e R s m args below meth c H locs 0 0 0 0 (F0 m pc ls st0) rest (zQ E K a) (zA E)) (hS : va_S (zA E) s.heap H locs)
    (kk : ∀ (r : List zV) (h1 : zH) (H1 : Heap) (locs1 : List Loc), zokS r → zokH E h1 → va_P (zD E) vwCl (zw E h1) H1 → K r h1 → va_S (zA E) s.heap H1 locs1 → W p l e R s m args below meth c H1 locs1 0 0 QQ (F0 m (pc + 3) ls (r.map (zrv E) ++ rest))) : W p l e R s m args below meth c H locs 0 0 QQ (F0 m pc ls st0) := by
  intro T hT X
  obtain ⟨v, st₀, t, T', L, h0, X', hL, e1, e2, ⟨⟨r, h', hv, hlen, ho, hoH, hP, hq⟩, hz, hk⟩, st⟩ := hr T hT X
  cases hv
  rw [h0] at hz hk
  obtain ⟨t2, a1, b1⟩ := kk r h' T'.heap (locs ++ L) ho hoH (by rw [e1]; exact hP) hq
    ⟨Nat.le_trans hS.1 (by rw [e1]; exact hz), fun q h1 h2 => by rw [e1, hk q (Nat.lt_of_lt_of_le h1 hS.1) h2]; exact hS.2.1 q h1 h2, fun q hq => by
      rcases List.mem_append.mp hq with h | h
      · exact hS.2.2 q h
      · exact hL q h⟩ T' rfl X'
  rw [head_toList (by simpa using hlen)] at st
  exact ⟨t2, st t2 a1, b1⟩
theorem zgood {M' : zM} (hcd : Cond.code M'.1 M'.2.1 M'.2.2.1 M'.2.2.2 ∈ ztb) : GoodIn (zws M) (zws M') := by
  intro w hw
  rcases List.mem_cons.mp hw with rfl | hw
  · exact ⟨List.mem_cons_of_mem _ hcd, good_of_word (List.mem_filter.mp hcd).2⟩
  · exact ⟨List.mem_cons_of_mem _ hw, good_of_word (List.mem_filter.mp hw).2⟩
theorem zokS_app {A B : List zV} (h : zokS (A.reverse ++ B)) : zokS A ∧ zokS B :=
  ⟨fun v hv => h v (List.mem_append.mpr (Or.inl (List.mem_reverse.mpr hv))), fun v hv => h v (List.mem_append.mpr (Or.inr hv))⟩
theorem zblind {as : List zV} : FrameBlind (va_Pc (as.map (zrv E)) (fun U => va_P (zD E) vwCl (zw E h) U.heap ∧ zSt E U U.heap)) := by
  intro a U g mk hq
  obtain ⟨q0, qP, qS⟩ := hq
  exact ⟨q0, qP, qS.blind⟩
theorem zrv_R (c : Nat) : zrv E (zR c) = .ref (zad E c) := rfl
theorem z_callS {M' : zM} {ix : Nat} {as rest stk : List zV} (hd : decode M.2.1 pc = .ok (.invokestatic ix, 3)) (hstk : stk = as.reverse ++ rest)
    (hlk : Cond.methodLink M.1.cls ix M'.1 ∈ ztb) (hst : Cond.static M'.1 ∈ ztb) (hini : Cond.initialized M'.1.cls ∈ ztb) (hcd : Cond.code M'.1 M'.2.1 M'.2.2.1 M'.2.2.2 ∈ ztb)
    (hy : M'.1.cls ≠ "java/lang/invoke/MethodHandle" ∧ M'.1.cls ≠ "java/lang/invoke/VarHandle" ∧ (parseMethodDescriptor M'.1.desc).map (fun d => d.parameters.length) = some as.length)
    (hml : M'.2.2.1 ≤ 45) (h8 : ((rest.map (zrv E)).map fun v => v.category).sum ≤ 8)
    (k : zC E M' d as h (fun r h1 => zG E M (d + 1) (pc + 3) L (r ++ rest) h1 Q)) : zG E M (d + 1) pc L stk h Q := by
  subst hstk
  intro oL oS oH p e s m args below meth c H ls locs C P S V
  obtain ⟨oas, orest⟩ := zokS_app oS
  have hts := C.2.2.2.2.2.1
  have hM := k oas oH
  have tb : ∀ w ∈ ztb, w.before args s = true := fun w hw => hts w (List.mem_cons_of_mem _ hw)
  have cw : CallB (zrm (d + 1)) s args M.1.cls ix M'.1 M'.2.1 M'.2.2.1 M'.2.2.2 (zws M') (zrm d) 0 0 as.length :=
    callB_of as.length hts (zgood hcd) rfl rfl rfl (tb _ hini) (tb _ hlk) hy ⟨by simp [zrm], by simp only [zrm]; omega⟩
  have run := va_runS (As := as.map (zrv E)) (rest := rest.map (zrv E)) (g := F0 m pc ls ((as.reverse ++ rest).map (zrv E))) (locs := locs) (cells := 0) (slots := 0) (below := below) (meth := meth) (e := e) (H := H)
    ⟨C.1, C.2.1, C.2.2.2.1, C.2.2.2.2.1, hts⟩ hM ⟨cw, tb _ hst⟩ ⟨zblind, fun U hU hW => ⟨rfl, by rw [hU]; exact P, C.2.2.2.2.2.2.2.use S hW hU⟩⟩ rfl (by simp) V.1 (by simp) (lv_room h8) hd ⟨by simp [zrm], by simp [zrm]⟩
  refine z_cont run S (fun r h1 H1 locs1 o1 o2 P1 K1 S1 => ?_)
  have := K1 oL (fun v hv => (List.mem_append.mp hv).elim (o1 v) (orest v)) o2 p e s m args below meth c H1 ls locs1 C P1 S1 V
  rwa [List.map_append] at this
theorem z_callSN {M' : zM} {ix : Nat} {host : String} {as rest stk : List zV} (hd : decode M.2.1 pc = .ok (.invokestatic ix, 3)) (hstk : stk = as.reverse ++ rest)
    (hlk : Cond.methodLinkNest M.1.cls ix M'.1 host ∈ znw) (hst : Cond.static M'.1 ∈ ztb) (hini : Cond.initialized M'.1.cls ∈ ztb) (hcd : Cond.code M'.1 M'.2.1 M'.2.2.1 M'.2.2.2 ∈ ztb)
    (hy : M'.1.cls ≠ "java/lang/invoke/MethodHandle" ∧ M'.1.cls ≠ "java/lang/invoke/VarHandle" ∧ (parseMethodDescriptor M'.1.desc).map (fun d => d.parameters.length) = some as.length)
    (hml : M'.2.2.1 ≤ 45) (h8 : ((rest.map (zrv E)).map fun v => v.category).sum ≤ 8)
    (k : zC E M' d as h (fun r h1 => zG E M (d + 1) (pc + 3) L (r ++ rest) h1 Q)) : zG E M (d + 1) pc L stk h Q := by
  subst hstk
  intro oL oS oH p e s m args below meth c H ls locs C P S V
  obtain ⟨oas, orest⟩ := zokS_app oS
  have hts := C.2.2.2.2.2.1
  have hM := k oas oH
  have tb : ∀ w ∈ ztb, w.before args s = true := fun w hw => hts w (List.mem_cons_of_mem _ hw)
  have cw : va_CN (zrm (d + 1)) s args M.1.cls ix M'.1 host M'.2.1 M'.2.2.1 M'.2.2.2 (zws M') (zrm d) 0 0 as.length :=
    va_cnB as.length hts (zgood hcd) rfl rfl rfl (C.2.2.2.2.2.2.2.2.2.1 _ hlk) (tb _ hini) hy ⟨by simp [zrm], by simp only [zrm]; omega⟩
  have run := va_runSN (As := as.map (zrv E)) (rest := rest.map (zrv E)) (g := F0 m pc ls ((as.reverse ++ rest).map (zrv E))) (locs := locs) (cells := 0) (slots := 0) (below := below) (meth := meth) (e := e) (H := H)
    ⟨C.1, C.2.1, C.2.2.2.1, C.2.2.2.2.1, hts⟩ hM ⟨cw, tb _ hst, trivial⟩ ⟨zblind, fun U hU hW => ⟨rfl, by rw [hU]; exact P, C.2.2.2.2.2.2.2.use S hW hU⟩⟩ rfl (by simp) V.1 (by simp) (lv_room h8) hd ⟨by simp [zrm], by simp [zrm]⟩
  refine z_cont run S (fun r h1 H1 locs1 o1 o2 P1 K1 S1 => ?_)
  have := K1 oL (fun v hv => (List.mem_append.mp hv).elim (o1 v) (orest v)) o2 p e s m args below meth c H1 ls locs1 C P1 S1 V
  rwa [List.map_append] at this
theorem z_callV {M' : zM} {ix c0 ci N : Nat} {T : u_T} {as rest stk : List zV} (hd : decode M.2.1 pc = .ok (.invokevirtual ix, 3)) (hstk : stk = as.reverse ++ zR c0 :: rest)
    (hs : zsh E c0 = (ci, N)) (hc : c0 < zN E) (h20 : ci < 20) (hcl : vwCl[ci]? = some (M'.1.cls, T, N))
    (hlk : Cond.methodLink M.1.cls ix M'.1 ∈ ztb) (hin : Cond.instanceMethod M'.1 ∈ ztb) (hsel : Cond.selects M'.1.cls M'.1 M'.1 ∈ ztb) (hini : Cond.initialized M'.1.cls ∈ ztb) (hcd : Cond.code M'.1 M'.2.1 M'.2.2.1 M'.2.2.2 ∈ ztb)
    (hy : M'.1.cls ≠ "java/lang/invoke/MethodHandle" ∧ M'.1.cls ≠ "java/lang/invoke/VarHandle" ∧ (parseMethodDescriptor M'.1.desc).map (fun d => d.parameters.length) = some as.length)
    (hml : M'.2.2.1 ≤ 45) (h8 : ((rest.map (zrv E)).map fun v => v.category).sum ≤ 8)
    (k : zC E M' d (zR c0 :: as) h (fun r h1 => zG E M (d + 1) (pc + 3) L (r ++ rest) h1 Q)) : zG E M (d + 1) pc L stk h Q := by
  subst hstk
  intro oL oS oH p e s m args below meth c H ls locs C P S V
  obtain ⟨oas, orest0⟩ := zokS_app oS
  have orest := (zokS_cons.mp orest0).2
  have hts := C.2.2.2.2.2.1
  have hM := k (zokS_cons.mpr ⟨zok_r, oas⟩) oH
  have tb : ∀ w ∈ ztb, w.before args s = true := fun w hw => hts w (List.mem_cons_of_mem _ hw)
  have cw : CallB (zrm (d + 1)) s args M.1.cls ix M'.1 M'.2.1 M'.2.2.1 M'.2.2.2 (zws M') (zrm d) 0 0 as.length :=
    callB_of as.length hts (zgood hcd) rfl rfl rfl (tb _ hini) (tb _ hlk) hy ⟨by simp [zrm], by simp only [zrm]; omega⟩
  have hw := zw_at (E := E) (h := h) hc
  rw [zre_obj hs h20] at hw
  have run := va_runV (C := M'.1.cls) (b := zad E c0) (As := as.map (zrv E)) (rest := rest.map (zrv E)) (g := F0 m pc ls ((as.reverse ++ zR c0 :: rest).map (zrv E))) (locs := locs) (cells := 0) (slots := 0) (below := below) (meth := meth) (e := e) (H := H)
    ⟨C.1, C.2.1, C.2.2.2.1, C.2.2.2.2.1, hts⟩ hM ⟨cw, tb _ hin, tb _ hsel⟩ ⟨zblind, va_recv C.2.2.2.2.2.2.2.1 P hcl hw, fun U hU hW => ⟨rfl, by rw [hU]; exact P, C.2.2.2.2.2.2.2.use S hW hU⟩⟩ rfl (by simp) V.1 (by simp [zrv_R]) (lv_room h8) hd ⟨by simp [zrm], by simp [zrm]⟩
  refine z_cont run S (fun r h1 H1 locs1 o1 o2 P1 K1 S1 => ?_)
  have := K1 oL (fun v hv => (List.mem_append.mp hv).elim (o1 v) (orest v)) o2 p e s m args below meth c H1 ls locs1 C P1 S1 V
  rwa [List.map_append] at this
theorem zC_mono {as : List zV} {K K' : List zV → zH → Prop} (hk : ∀ r h', K r h' → K' r h') (k : zC E M d as h K) : zC E M d as h K' := by
  intro o1 o2
  have key := k o1 o2
  intro p e ha hc hk' s m args below h1 h2 h3 h4
  obtain ⟨kk, o, b1, b2, b3, ⟨⟨r, h', c1, c2, c3, c4, c5, c6⟩, c7⟩, b4⟩ := key p e ha hc hk' s m args below h1 h2 h3 h4
  exact ⟨kk, o, b1, b2, b3, ⟨⟨r, h', c1, c2, c3, c4, c5, hk r h' c6⟩, c7⟩, b4⟩
/-! entry -/
def zentF : List zV → List zV
  | [] => []
  | v :: r => if v.1 = 1 then v :: zU :: zentF r else v :: zentF r
def zent (n : Nat) (as : List zV) : List zV := zentF as ++ List.replicate (n - (zentF as).length) zU
theorem zlvF_rep (k : Nat) : ∀ i, zlvF E i (List.replicate k zU) = [] := by
  induction k with
  | zero => intro i; rfl
  | succ k ih => intro i; simp [List.replicate_succ, zlvF, ih]
theorem zrv_c1 {v : zV} (hv : ¬ v.1 = 1) : (zrv E v).category = 1 := by
  rcases lv_cat (zrv E v) with q | q
  · exact q
  · exact absurd (zrv_cat2 q) hv
theorem zent_sub : ∀ (as : List zV) (k i : Nat) (q : Nat × Value), q ∈ zlvF E i (zentF as ++ List.replicate k zU) → q ∈ lv_args i (as.map (zrv E))
  | [], k, i, q => by
    intro hq
    rw [show zentF [] ++ List.replicate k zU = List.replicate k zU from rfl, zlvF_rep] at hq
    cases hq
  | v :: as, k, i, q => by
    intro hq
    have ih := zent_sub as k
    unfold zentF at hq
    by_cases h1 : v.1 = 1
    · rw [if_pos h1] at hq
      have hc : (zrv E v).category = 2 := by
        obtain ⟨t, x⟩ := v
        dsimp only at h1
        subst h1
        rfl
      have h9 : ¬ v.1 = 9 := by omega
      simp only [List.cons_append, zlvF] at hq
      rw [if_neg h9] at hq
      simp only [List.map_cons, lv_args, hc, if_true]
      rcases List.mem_cons.mp hq with rfl | hq
      · exact List.mem_cons_self
      · exact List.mem_cons_of_mem _ (ih _ _ (by simpa using hq))
    · rw [if_neg h1] at hq
      have hc : ¬ (zrv E v).category = 2 := by rw [zrv_c1 h1]; omega
      simp only [List.cons_append, zlvF] at hq
      simp only [List.map_cons, lv_args]
      rw [if_neg hc]
      by_cases h9 : v.1 = 9
      · rw [if_pos h9] at hq
        exact List.mem_cons_of_mem _ (ih _ _ hq)
      · rw [if_neg h9] at hq
        rcases List.mem_cons.mp hq with rfl | hq
        · exact List.mem_cons_self
        · exact List.mem_cons_of_mem _ (ih _ _ hq)
theorem zokS_ent : ∀ {as : List zV}, zokS as → zokS (zentF as)
  | [], _ => zokS_nil
  | v :: as, h => by
    have h1 := zokS_cons.mp h
    unfold zentF
    split
    · exact zokS_cons.mpr ⟨h1.1, zokS_cons.mpr ⟨zok_u, zokS_ent h1.2⟩⟩
    · exact zokS_cons.mpr ⟨h1.1, zokS_ent h1.2⟩
theorem zC_in {as L0 : List zV} (hy : plainName M.1.cls = true) (hL : zent M.2.2.1 as = L0) (hlen : (lg_sl (as.map (zrv E))).length ≤ M.2.2.1) (k : zG E M d 0 L0 [] h Q) : zC E M d as h Q := by
  intro oas oH
  refine Met.ofW (cc := M.2.1) (maxL := M.2.2.1) (ret := M.2.2.2) hy rfl ?_
  intro p e s m args below meth c s₁ B hml hv
  obtain ⟨rfl, hP, hS⟩ := hv
  have hts := atoms_spec (ws := zws M) B.pre
  rw [lg_entry_eq]
  have hl := lv_entry (as.map (zrv E)) (n := M.2.2.1) hlen
  have oL0 : zokS L0 := by
    rw [← hL]
    intro v hv
    rcases List.mem_append.mp hv with q | q
    · exact zokS_ent oas v q
    · rw [(List.mem_replicate.mp q).2]; exact zok_u
  refine k oL0 zokS_nil oH p e s m _ below meth c s.heap _ [] ⟨B.exec, B.bytes, B.returns, hml, findClass_of_methodNamed B.named, hts, B.notSynchronized, hS⟩ hP va_S.rf ⟨hl.1, hl.2.1, fun q hq => hl.2.2 q ?_⟩
  rw [← hL] at hq
  exact zent_sub as _ 0 q hq
/-! switches -/
theorem z_tsIn {dflt lo hi : Int} {offs : Array Int} {len : Nat} {x off : Int} {i tgt : Nat} (hd : decode M.2.1 pc = .ok (.tableswitch dflt lo hi offs, len)) (hx : x = lo + i) (hh : lo + i ≤ hi) (ho : offs[i]? = some off) (ht : (pc : Int) + off = (tgt : Int)) (k : zG E M d tgt L st h Q) : zG E M d pc L (zI x :: st) h Q := by
  intro oL oS oH p e s m args below meth c H ls locs C P S V
  have o1 := zokS_cons.mp oS
  have rx : r32 x := o1.1.1 rfl
  have e1 : (Int32.ofInt x).toInt = x := by rw [i32_to, w32_id rx]
  exact lv_tableIn (x := Int32.ofInt x) C.1 C.2.1 hd (by rw [e1]; omega) (by rw [e1]; omega) (by rw [e1, show (x - lo).toNat = i by omega]; exact ho) ht (k oL o1.2 oH p e s m args below meth c H ls locs C P S V)
theorem z_tsOut {dflt lo hi : Int} {offs : Array Int} {len : Nat} {x : Int} {tgt : Nat} (hd : decode M.2.1 pc = .ok (.tableswitch dflt lo hi offs, len)) (hx : x < lo ∨ hi < x) (ht : (pc : Int) + dflt = (tgt : Int)) (k : zG E M d tgt L st h Q) : zG E M d pc L (zI x :: st) h Q := by
  intro oL oS oH p e s m args below meth c H ls locs C P S V
  have o1 := zokS_cons.mp oS
  have rx : r32 x := o1.1.1 rfl
  have e1 : (Int32.ofInt x).toInt = x := by rw [i32_to, w32_id rx]
  exact lv_tableOut (x := Int32.ofInt x) C.1 C.2.1 hd (by rw [e1]; exact hx) ht (k oL o1.2 oH p e s m args below meth c H ls locs C P S V)
theorem z_lsw {dflt : Int} {ps : Array (Int × Int)} {len : Nat} {x off : Int} {tgt : Nat} (hd : decode M.2.1 pc = .ok (.lookupswitch dflt ps, len)) (hp : (ps.toList.zip (ps.toList.drop 1)).all (fun (a, next) => a.1 < next.1) = true) (ho : Op.lookupswitch.offset ps.toList dflt x = off) (ht : (pc : Int) + off = (tgt : Int)) (k : zG E M d tgt L st h Q) : zG E M d pc L (zI x :: st) h Q := by
  intro oL oS oH p e s m args below meth c H ls locs C P S V
  have o1 := zokS_cons.mp oS
  have rx : r32 x := o1.1.1 rfl
  have e1 : (Int32.ofInt x).toInt = x := by rw [i32_to, w32_id rx]
  exact lv_lookup (x := Int32.ofInt x) C.1 C.2.1 hd hp (by rw [e1]; exact ho) ht (k oL o1.2 oH p e s m args below meth c H ls locs C P S V)
end ZCalls
