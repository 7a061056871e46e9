/-! ===== wide constants, arraycopy ===== -/
section ZMore
variable {E : zE} {M : zM} {d pc : Nat} {L st : List zV} {h : zH} {Q : List zV → zH → Prop}
theorem z_ldcw {own : String} {ix : Nat} {v : Int32} {x : Int} (hd : decode M.2.1 pc = .ok (.ldc_w ix, 3)) (hM : M.1.cls = own) (hw : Cond.constant own ix v ∈ ztb) (hv : v = Int32.ofInt x) (hr : r32 x) (k : zG E M d (pc + 3) L (zI x :: st) h Q) : zG E M d pc L st h Q := by
  intro oL oS oH p e s m args below meth c H ls locs C P S V
  subst hM
  subst hv
  exact lv_ldcw C.1 C.2.1 C.2.2.2.2.1 (C.2.2.2.2.2.1 _ (List.mem_cons_of_mem _ hw)) hd (k oL (zokS_cons.mpr ⟨zok_i hr, oS⟩) oH p e s m args below meth c H ls locs C P S V)
def hcopy (h : zH) (s t n : Nat) : zH := fun c j => if c = t ∧ j < n then h s j else h c j
set_option maxRecDepth 100000 in
theorem wcp1 : Cond.methodLink RX0 64 arraycopyName ∈ ztb := List.mem_filter.mpr ⟨List.mem_append_right _ (List.mem_of_getElem? (i := 614) rfl), rfl⟩
set_option maxRecDepth 100000 in
theorem wcp2 : Cond.native arraycopyName ∈ ztb := List.mem_filter.mpr ⟨List.mem_append_right _ (List.mem_of_getElem? (i := 616) rfl), rfl⟩
set_option maxRecDepth 100000 in
theorem wcp3 : Cond.static arraycopyName ∈ ztb := List.mem_filter.mpr ⟨List.mem_append_right _ (List.mem_of_getElem? (i := 615) rfl), rfl⟩
set_option maxRecDepth 100000 in
theorem wcp4 : Cond.initialized "java/lang/System" ∈ ztb := List.mem_filter.mpr ⟨List.mem_append_right _ (List.mem_of_getElem? (i := 18) rfl), rfl⟩
theorem zw_copy {s t n : Nat} (ht : t < zN E) : (zw E h).set t (zad E t, zre E t (fun j => if j < n then h s j else h t j)) = zw E (hcopy h s t n) := by
  refine List.ext_getElem? fun i => ?_
  by_cases hi : i = t
  · subst hi
    rw [List.getElem?_set_self (by simp [zw, ht]), zw_at ht]
    congr 3
    funext j'
    simp [hcopy]
  · rw [List.getElem?_set_ne (Ne.symm hi)]
    by_cases hn : i < zN E
    · rw [zw_at hn, zw_at hn]
      congr 3
      funext j'
      simp [hcopy, hi]
    · simp [zw, hn]
theorem z_copyi {n c1 c2 n1 n2 : Nat} {x : Int} (hd : decode M.2.1 pc = .ok (.invokestatic 64, 3)) (hM : M.1.cls = RX0) (hs1 : zsh E c1 = (20, n1)) (hc1 : c1 < zN E) (hs2 : zsh E c2 = (20, n2)) (hc2 : c2 < zN E) (hx : x = (n : Int)) (hn1 : n ≤ n1) (hn2 : n ≤ n2) (hn : n < 2147483648) (h8 : ((st.map (zrv E)).map fun v => v.category).sum ≤ 8) (k : zG E M d (pc + 3) L st (hcopy h c1 c2 n) Q) : zG E M d pc L (zI x :: zI 0 :: zR c2 :: zI 0 :: zR c1 :: st) h Q := by
  intro oL oS oH p e s m args below meth c H ls locs C P S V
  have o1 := zokS_cons.mp (zokS_cons.mp (zokS_cons.mp (zokS_cons.mp (zokS_cons.mp oS).2).2).2).2
  subst hx
  have tb : ∀ w ∈ ztb, w.before args s = true := fun w hw => C.2.2.2.2.2.1 w (List.mem_cons_of_mem _ hw)
  have w1 := zw_at (E := E) (h := h) hc1
  have w2 := zw_at (E := E) (h := h) hc2
  have e1 : zre E c1 (h c1) = .inl (zcA E 0, n1, .inl (fun j => Int32.ofInt (h c1 j))) := by simp [zre, hs1]
  have e2 : zre E c2 (h c2) = .inl (zcA E 0, n2, .inl (fun j => Int32.ofInt (h c2 j))) := by simp [zre, hs2]
  rw [e1] at w1
  rw [e2] at w2
  have r0 : r32 0 := by unfold r32; omega
  have rn : r32 (n : Int) := ⟨by omega, by omega⟩
  have k0 : (Int32.ofInt 0).toNatClampNeg = 0 := by rw [i32_clamp (by omega) r0]; rfl
  have kn : (Int32.ofInt (n : Int)).toNatClampNeg = n := by rw [i32_clamp (by omega) rn]; simp
  have hfr : 1 ≤ (zrm d).frames := by simp [zrm]
  have hloc : ((st.map (zrv E)).map fun v => v.category).sum + (nativeFrameWords "java/lang/System" "arraycopy" 5 + 11) ≤ (zrm d).locals := by
    have : nativeFrameWords "java/lang/System" "arraycopy" 5 + 11 ≤ 40 := by decide +kernel
    simp only [zrm]
    omega
  refine va_copyi (n := Int32.ofInt (n : Int)) (sp := Int32.ofInt 0) (dp := Int32.ofInt 0) C.1 C.2.1 (C.2.2.2.1.trans V.1.symm) C.2.2.2.2.1 (by rw [hM]; exact tb _ wcp1) (tb _ wcp2) (tb _ wcp3) (tb _ wcp4) C.2.2.2.2.2.2.2.1 P (zD_of C.2.2.2.2.2.2.2) S c1 c2 0 0 w1 w2 rfl rfl rfl (by decide) (by decide) (fun q => absurd ((i32_lt rn r0).mp q) (by omega)) (by rw [k0, kn]; omega) (by rw [k0, kn]; omega) (fun i _ => rfl) hfr hloc hd (fun H1 locs1 P1 D1 S1 => ?_)
  refine k oL o1.2 (fun c' j' => ?_) p e s m args below meth c H1 ls locs1 C ?_ S1 V
  · unfold hcopy
    by_cases q : c' = c2 ∧ j' < n
    · rw [if_pos q]
      have := oH c1 j'
      exact ⟨this.1, fun _ => this.2 (by rw [hs1]; simp)⟩
    · rw [if_neg q]
      exact oH c' j'
  · rw [← zw_copy hc2]
    have e3 : zre E c2 (fun j => if j < n then h c1 j else h c2 j) = .inl (zcA E 0, n2, .inl (va_cpy (fun j => Int32.ofInt (h c1 j)) (fun j => Int32.ofInt (h c2 j)) (Int32.ofInt 0).toNatClampNeg (Int32.ofInt 0).toNatClampNeg (Int32.ofInt (n : Int)).toNatClampNeg)) := by
      rw [k0, kn]
      simp only [zre, hs2]
      simp
      funext j
      unfold va_cpy
      by_cases q : j < n
      · simp [q]
      · simp [q]
    rw [e3]
    exact P1
end ZMore
