section ZWhole2
theorem st_T {s : State} {b : Nat} (hts : ∀ w ∈ lw_tbl, w.before #[Value.ref b] s = true) (hgv : (Jvm.Cond.and given_1 narrow_1).before #[Value.ref b] s = true) :
    ∃ TK TV : Nat → Nat, vk_S 2 zTlen zTbyt TK TV (fun q => s.heap.size ≤ q) s s.heap ∧ vk_R RX10 zTix zTtx (TK 0) s ∧ vk_R RX1 zTix1 zTtx1 (TK 1) s ∧ va_Z RJ0 "COMPACT_STRINGS" "Z" (.int 1) (fun q => s.heap.size ≤ q) s s.heap ∧ va_Z RJ3 "SIOOBE_FORMATTER" "Ljava/util/function/BiFunction;" (if TK 9 = 0 then .null else .ref (TV 9)) (fun q => s.heap.size ≤ q) s s.heap := by
  have g : ∀ w ∈ flatC gv1, w.before #[Value.ref b] s = true := flat_of_before gv1 hgv
  have hA : ∀ a : Nat, a < s.heap.size → ¬ (fun q => s.heap.size ≤ q) a := fun a h => Nat.not_le.mpr h
  obtain ⟨K, V, h1, h2⟩ := vk_Sof (args := #[Value.ref b]) (s := s) (N := 2) (tm := tmS) (len := zTlen) (byt := zTbyt) (A := fun q => s.heap.size ≤ q) (fun i hi => by rcases (show i = 0 ∨ i = 1 by omega) with e | e <;> subst e <;> decide) (fun i hi => g _ (gx i hi)) (fun i hi => g _ (gc i hi)) (fun i hi => g _ (ga i hi)) (fun i hi => g _ (gl i hi))
    (fun i hi j hj => by
      rcases (show i = 0 ∨ i = 1 by omega) with e | e <;> subst e
      · exact g _ (ge0 j hj)
      · exact g _ (ge1 j hj))
    (fun i j hi hj hij => by
      have q : (Cond.not (Cond.eq (tmS 0) (tmS 1))).before #[Value.ref b] s = true ∨ (Cond.not (Cond.eq (tmS 1) (tmS 0))).before #[Value.ref b] s = true := gn.imp (g _) (g _)
      rcases (show (i = 0 ∧ j = 1) ∨ (i = 1 ∧ j = 0) by omega) with ⟨e1, e2⟩ | ⟨e1, e2⟩ <;> subst e1 <;> subst e2
      · exact q
      · exact q.symm) hA
  have r1 := vk_R.of (hts _ tr1) (h2 0 (by decide))
  have r2 := vk_R.of (hts _ tr2) (h2 1 (by decide))
  have z1 := va_Zof (A := fun q => s.heap.size ≤ q) (hts _ tl1) (hts _ ti1) (va_eqt (g _ gz1)) hA
  have z2 := va_Zqof (A := fun q => s.heap.size ≤ q) (hts _ tl2) (hts _ ti2) (g _ gz2) hA
  obtain ⟨k9, v9, h9⟩ : ∃ k9 v9 : Nat, va_Z RJ3 "SIOOBE_FORMATTER" "Ljava/util/function/BiFunction;" (if k9 = 0 then .null else .ref v9) (fun q => s.heap.size ≤ q) s s.heap := by
    rcases z2 with z | ⟨t, z⟩
    · exact ⟨0, 0, z⟩
    · exact ⟨1, t, z⟩
  refine ⟨fun i => if i = 9 then k9 else K i, fun i => if i = 9 then v9 else V i, ⟨fun i hi => ?_, fun i j hi hj e => ?_⟩, r1, r2, z1, h9⟩
  · have e9 : ¬ i = 9 := by omega
    simp only [if_neg e9]
    exact h1.1 i hi
  · have e9 : ¬ i = 9 := by omega
    have e8 : ¬ j = 9 := by omega
    simp only [if_neg e9, if_neg e8] at e
    exact h1.2 i j hi hj e
theorem st_L {s : State} {b : Nat} (hts : ∀ w ∈ lw_tbl, w.before #[Value.ref b] s = true) (hgv : (Jvm.Cond.and given_1 narrow_1).before #[Value.ref b] s = true) : lkW (fun q => s.heap.size ≤ q) s s.heap := by
  have g : ∀ w ∈ flatC gv1, w.before #[Value.ref b] s = true := flat_of_before gv1 hgv
  have hA : ∀ a : Nat, a < s.heap.size → ¬ (fun q => s.heap.size ≤ q) a := fun a h => Nat.not_le.mpr h
  obtain ⟨a1, c1, cA1, kA1, q1, -⟩ := Cond.exactly_spec (args := #[Value.ref b]) (first := s) (o := none) (s := s) (idx := []) (t := .string RX9 123) (cls := "java/lang/String") (g _ gs1)
  obtain ⟨a2, c2, cA2, kA2, q2, -⟩ := Cond.exactly_spec (args := #[Value.ref b]) (first := s) (o := none) (s := s) (idx := []) (t := .string RX9 130) (cls := "java/lang/String") (g _ gs2)
  exact ⟨fun w hw => va_Nw.of (lkB_on w hw) (hts w (tB w hw)), va_Nc.of (g _ gk1), ⟨a1, vk_R.of (hts _ tr3) q1⟩, ⟨a2, vk_R.of (hts _ tr4) q2⟩, vx_Zqof (hts _ tl3) (hts _ ti3) (g _ gz3) hA, vx_Zqof (hts _ tl4) (hts _ ti3) (g _ gz4) hA⟩
theorem lkW.narrow {A B : Nat → Prop} {U : State} {H : Heap} (q : lkW A U H) (hAB : ∀ x, B x → A x) : lkW B U H := ⟨q.1, q.2.1, q.2.2.1, q.2.2.2.1, q.2.2.2.2.1.narrow hAB, q.2.2.2.2.2.narrow hAB⟩
theorem fl_no {l : Launch} (h : l.flags = flags0) : l.stackTraces = false := by
  unfold Launch.stackTraces
  rw [h]
  decide +kernel
theorem st_B {E : zE} {s : State} {b : Nat} (hts : ∀ w ∈ lw_tbl, w.before #[Value.ref b] s = true) (hK : va_K (zD E) vwCl (ztys E) s) (ha : ∀ c, zad E c = zad E 0 + c) (hz : s.heap.size ≤ zad E 0)
    (t1 : vk_S 2 zTlen zTbyt (zTK E) (zTV E) (fun q => s.heap.size ≤ q) s s.heap) (t2 : vk_R RX10 zTix zTtx (zTK E 0) s) (t3 : vk_R RX1 zTix1 zTtx1 (zTK E 1) s) (t4 : va_Z RJ0 "COMPACT_STRINGS" "Z" (.int 1) (fun q => s.heap.size ≤ q) s s.heap) (t5 : va_Z RJ3 "SIOOBE_FORMATTER" "Ljava/util/function/BiFunction;" (zrv E zFm) (fun q => s.heap.size ≤ q) s s.heap) : zStB E s s.heap ∧ zSt E s s.heap := by
  have n1 : ∀ q, zAf E q → s.heap.size ≤ q := fun q h => Nat.le_trans hz h
  have n2 : ∀ q, zA E q → s.heap.size ≤ q := fun q ⟨c, _, e⟩ => by rw [e, ha c]; omega
  have hn : ∀ w ∈ znw, va_Nw w s := fun w hw => va_Nw.of (znw_on w hw) (hts w (List.mem_filter.mp hw).1)
  exact ⟨⟨hK, ha, hn, ⟨t1.narrow n1, t4.narrow n1, t5.narrow n1⟩, t2, t3⟩, ⟨hK, fun i j _ _ e => by have := ha i; have := ha j; omega, hn, t1.narrow n2, t2, t3, t4.narrow n2, t5.narrow n2⟩⟩
theorem z9_0 (E : zE) : ∀ j, j < 14 → defaultValue (tyX9 j) = zfB E 0 (zfk 9 j) (z00 0 j) (u00 0 j) := by
  intro j hj
  rcases (show j = 0 ∨ j = 1 ∨ j = 2 ∨ j = 3 ∨ j = 4 ∨ j = 5 ∨ j = 6 ∨ j = 7 ∨ j = 8 ∨ j = 9 ∨ j = 10 ∨ j = 11 ∨ j = 12 ∨ j = 13 by omega) with e | e | e | e | e | e | e | e | e | e | e | e | e | e <;> subst e <;> rfl
theorem z00_ok (E : zE) : zokH E z00 := fun c j => ⟨by unfold r64 z00; omega, fun _ => by unfold r32 z00; omega⟩
theorem slC : zslF zshC 81 = 5447 := by decide +kernel
theorem slR : zslF zshR 42 = 3383 := by decide +kernel
theorem wL1 : Cond.classLink RL 8 RX9 ∈ ztb := by decide +kernel
theorem wL2 : Cond.instantiable RX9 14 ∈ ztb := by decide +kernel
theorem wL3 : Cond.methodLink RL 17 mX9_init.1 ∈ ztb := by decide +kernel
theorem wL4 : Cond.instanceMethod mX9_init.1 ∈ ztb := by decide +kernel
theorem wL5 : Cond.classLink RL 18 RX10 ∈ ztb := by decide +kernel
theorem wL6 : Cond.instantiable RX10 86 ∈ ztb := by decide +kernel
theorem wL7 : Cond.methodLink RL 20 mX10_init.1 ∈ ztb := by decide +kernel
theorem wL8 : Cond.instanceMethod mX10_init.1 ∈ ztb := by decide +kernel
end ZWhole2
