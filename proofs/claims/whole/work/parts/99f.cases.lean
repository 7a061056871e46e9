/-! ===== the law's cases (printed by a program out of the law's code) ===== -/
section ZCases
variable {X : lT} {i j Lx pc d : Nat} {xs : Nat → Int32} {E1 E2 : zE} {lv : List (Nat × Value)} {st : List Value} {h1 h2 hc hr : zH} {o : Int64} {S : zH}
def lwV (X : lT) (E1 E2 : zE) (i : Nat) : List (Nat × Value) := [(0, .ref (lb X)), (1, .ref (zad E1 0)), (2, .ref (zad E2 0)), (3, .ref (lbo X)), (4, .int (nI i))]
theorem sBo_r (x : Int) : r32 (sBo x) := by unfold r32 sBo; split <;> omega
theorem shC0 (hE : isC E1) : zsh E1 0 = (9, 14) := by rw [hE.1]; rfl
theorem shR0 (hE : isR E1) : zsh E1 0 = (10, 86) := by rw [hE.1]; rfl
theorem cN0 (hE : isC E1) : 0 < zN E1 := by rw [hE.2]; decide
theorem rN0 (hE : isR E1) : 0 < zN E1 := by rw [hE.2]; decide
theorem bd_stN {k w a b : Int} (bS : BdR S) : BdR (stN S k w a b) := bS.mv (fun c j hc => stN_o (by omega) (by omega))
theorem bd_tape {r s x y : Int} (bS : BdR S) : BdR (uTape S r s x y) := by unfold uTape; split; exact bd_stN bS; exact bS
theorem bd_gone {r s g : Int} (bS : BdR S) : BdR (uGone S r s g) := by unfold uGone; split; exact bd_stN bS; exact bS
theorem bd_strike {n : Int} (bS : BdR S) : BdR (uStrike S n) := by unfold uStrike; split; exact bd_stN bS; exact bS
theorem bd_known {n : Int} (bS : BdR S) : BdR (uKnown S n) := by unfold uKnown; split; exact bS.so (by omega); exact bS
theorem bd_mode {m hv : Int} (bS : BdR S) : BdR (uMode S m hv) := by unfold uMode; split; exact (bS.so (by omega)).so (by omega); exact bS
theorem bd_feed {a b c e f : Int} (bS : BdR S) : BdR (uFeed S a b c e f) := by
  unfold uFeed
  split
  · exact bS.mv (fun c' j hc => by rw [hset_ne (by omega)]; exact stF_ne (by omega))
  · exact bS
theorem bd_text {x : Int} {S' : zH} (bS : BdR S) (r : RelT S x S') : BdR S' := by
  unfold RelT at r
  split at r
  · exact r.1.2.1
  · rw [r]; exact bS
theorem l_sameJ {x : Int64} {off : Int} {tgt : Nat} (C : lwC X Lx xs E1 E2) (hd : decode cL_law pc = .ok (.lcmp, 1)) (hd2 : decode cL_law (pc + 1) = .ok (.ifCond .eq off, 3)) (ht : ((pc + 1 : Nat) : Int) + off = (tgt : Int)) (k : lG X j E1 E2 tgt lv st h1 h2 o) : lG X j E1 E2 pc lv (.long x :: .long x :: st) h1 h2 o := by
  intro o1 o2 H ls locs nc ns P1 P2 O S V n1 n2
  refine W.lcmp (x := x) (y := x) C.1.1 C.1.2.1 hd ?_
  have e : lg_cmp x x = 0 := by unfold lg_cmp; simp
  rw [e]
  exact lv_if_eq (tgt := tgt) C.1.1 C.1.2.1 hd2 ht (fun _ => k o1 o2 H ls locs nc ns P1 P2 O S V n1 n2) (fun q => absurd rfl q)
theorem lw_c0 (C : lwC X Lx xs E1 E2) (hE : isC E1) (hR : isR E2) (hi : i + 6 < Lx) (iC : IC S hc) (iR : IR S hr) (bS : BdR S) (k : ∀ S' hc' hr' o', IC S' hc' → IR S' hr' → BdR S' → lG X (i + 1) E1 E2 1643 (lwV X E1 E2 i) [] hc' hr' o') : lG X i E1 E2 188 (lwV X E1 E2 i) [] hc hr o := by
  have hL := C.2.1
  refine l_aload (q := 1) C rfl rfl dL_law_188 ?_
  refine l_arg (kn := 1) C rfl rfl (by decide) (by omega) dL_law_189 dL_law_190 dL_law_192 dL_law_193 dL_law_194 ?_
  refine l_arg (kn := 2) C rfl rfl (by decide) (by omega) dL_law_195 dL_law_196 dL_law_198 dL_law_199 dL_law_200 ?_
  refine l_arg (kn := 3) C rfl rfl (by decide) (by omega) dL_law_201 dL_law_202 dL_law_204 dL_law_205 dL_law_206 ?_
  refine l_arg (kn := 4) C rfl rfl (by decide) (by omega) dL_law_207 dL_law_208 dL_law_210 dL_law_211 dL_law_212 ?_
  refine l_arg (kn := 5) C rfl rfl (by decide) (by omega) dL_law_213 dL_law_214 dL_law_216 dL_law_217 dL_law_218 ?_
  refine l_callI (d := 10) (as := [zI ((xs (i + 1)).toInt), zI ((xs (i + 2)).toInt), zI ((xs (i + 3)).toInt), zI ((xs (i + 4)).toInt), zI ((xs (i + 5)).toInt)]) (K := fun x h' => x = aFeed S ∧ IC (uFeed S ((xs (i + 1)).toInt) ((xs (i + 2)).toInt) ((xs (i + 3)).toInt) ((xs (i + 4)).toInt) ((xs (i + 5)).toInt)) h') C dL_law_219 rfl (shC0 hE) (cN0 hE) (by decide) rfl wm_L_21 wn_X9_feed wl_X9_feed wi_X9 wc_X9_feed wy_X9_feed (by decide) (Nat.le_of_ble_eq_true rfl) (by decide) (by omega) (zokS_cons.mpr ⟨zok_i (i32_r _), zokS_cons.mpr ⟨zok_i (i32_r _), zokS_cons.mpr ⟨zok_i (i32_r _), zokS_cons.mpr ⟨zok_i (i32_r _), zokS_cons.mpr ⟨zok_i (i32_r _), zokS_nil⟩⟩⟩⟩⟩) (C_feed (d := 9) hE iC (fun h' j => ⟨rfl, j⟩)) ?_
  rintro x hc' rx ⟨rfl, jC⟩
  refine l_aload (q := 2) C rfl rfl dL_law_222 ?_
  refine l_arg (kn := 1) C rfl rfl (by decide) (by omega) dL_law_223 dL_law_224 dL_law_226 dL_law_227 dL_law_228 ?_
  refine l_arg (kn := 2) C rfl rfl (by decide) (by omega) dL_law_229 dL_law_230 dL_law_232 dL_law_233 dL_law_234 ?_
  refine l_arg (kn := 3) C rfl rfl (by decide) (by omega) dL_law_235 dL_law_236 dL_law_238 dL_law_239 dL_law_240 ?_
  refine l_arg (kn := 4) C rfl rfl (by decide) (by omega) dL_law_241 dL_law_242 dL_law_244 dL_law_245 dL_law_246 ?_
  refine l_arg (kn := 5) C rfl rfl (by decide) (by omega) dL_law_247 dL_law_248 dL_law_250 dL_law_251 dL_law_252 ?_
  refine lG.swap C (l_callI (d := 140) (as := [zI ((xs (i + 1)).toInt), zI ((xs (i + 2)).toInt), zI ((xs (i + 3)).toInt), zI ((xs (i + 4)).toInt), zI ((xs (i + 5)).toInt)]) (K := fun x h' => x = aFeed S ∧ IR (uFeed S ((xs (i + 1)).toInt) ((xs (i + 2)).toInt) ((xs (i + 3)).toInt) ((xs (i + 4)).toInt) ((xs (i + 5)).toInt)) h') C.swap dL_law_253 rfl (shR0 hR) (rN0 hR) (by decide) rfl wm_L_25 wn_X10_feed wl_X10_feed wi_X10 wc_X10_feed wy_X10_feed (by decide) (Nat.le_of_ble_eq_true rfl) (by decide) (by omega) (zokS_cons.mpr ⟨zok_i (i32_r _), zokS_cons.mpr ⟨zok_i (i32_r _), zokS_cons.mpr ⟨zok_i (i32_r _), zokS_cons.mpr ⟨zok_i (i32_r _), zokS_cons.mpr ⟨zok_i (i32_r _), zokS_nil⟩⟩⟩⟩⟩) (R_feed (d := 140) hR iR (fun h' j => ⟨rfl, j⟩)) ?_)
  rintro x hr' rx2 ⟨rfl, jR⟩
  refine lG.swap C.swap ?_
  refine l_same C dL_law_256 (tgt := 1643) (by decide) ?_
  exact lG.up (by omega) (k _ _ _ _ jC jR (bd_feed bS))
theorem lw_c1 (C : lwC X Lx xs E1 E2) (hE : isC E1) (hR : isR E2) (hi : i + 6 < Lx) (iC : IC S hc) (iR : IR S hr) (bS : BdR S) (k : ∀ S' hc' hr' o', IC S' hc' → IR S' hr' → BdR S' → lG X (i + 1) E1 E2 1643 (lwV X E1 E2 i) [] hc' hr' o') : lG X i E1 E2 261 (lwV X E1 E2 i) [] hc hr o := by
  have hL := C.2.1
  refine l_aload (q := 1) C rfl rfl dL_law_261 ?_
  refine l_arg (kn := 1) C rfl rfl (by decide) (by omega) dL_law_262 dL_law_263 dL_law_265 dL_law_266 dL_law_267 ?_
  refine l_callI (d := 10) (as := [zI ((xs (i + 1)).toInt)]) (K := fun x h' => x = aText S ((xs (i + 1)).toInt) ∧ ∀ S', RelT S ((xs (i + 1)).toInt) S' → IC S' h') C dL_law_268 rfl (shC0 hE) (cN0 hE) (by decide) rfl wm_L_26 wn_X9_text wl_X9_text wi_X9 wc_X9_text wy_X9_text (by decide) (Nat.le_of_ble_eq_true rfl) (by decide) (by omega) (zokS_cons.mpr ⟨zok_i (i32_r _), zokS_nil⟩) (C_text (d := 3) hE iC bS (fun h' j => ⟨rfl, j⟩)) ?_
  rintro x hc' rx ⟨rfl, jC⟩
  refine l_aload (q := 2) C rfl rfl dL_law_271 ?_
  refine l_arg (kn := 1) C rfl rfl (by decide) (by omega) dL_law_272 dL_law_273 dL_law_275 dL_law_276 dL_law_277 ?_
  refine lG.swap C (l_callI (d := 140) (as := [zI ((xs (i + 1)).toInt)]) (K := fun x h' => x = aText S ((xs (i + 1)).toInt) ∧ ∃ S', RelT S ((xs (i + 1)).toInt) S' ∧ IR S' h') C.swap dL_law_278 rfl (shR0 hR) (rN0 hR) (by decide) rfl wm_L_30 wn_X10_text wl_X10_text wi_X10 wc_X10_text wy_X10_text (by decide) (Nat.le_of_ble_eq_true rfl) (by decide) (by omega) (zokS_cons.mpr ⟨zok_i (i32_r _), zokS_nil⟩) (R_text (d := 8) hR iR bS (fun h' S' r j => ⟨rfl, S', r, j⟩)) ?_)
  rintro x hr' rx2 ⟨rfl, S', rel, jR⟩
  refine lG.swap C.swap ?_
  refine l_same C dL_law_281 (tgt := 1643) (by decide) ?_
  exact lG.up (by omega) (k _ _ _ _ (jC _ rel) jR (bd_text bS rel))
theorem lw_c2 (C : lwC X Lx xs E1 E2) (hE : isC E1) (hR : isR E2) (hi : i + 6 < Lx) (iC : IC S hc) (iR : IR S hr) (bS : BdR S) (k : ∀ S' hc' hr' o', IC S' hc' → IR S' hr' → BdR S' → lG X (i + 1) E1 E2 1643 (lwV X E1 E2 i) [] hc' hr' o') : lG X i E1 E2 286 (lwV X E1 E2 i) [] hc hr o := by
  have hL := C.2.1
  refine l_aload (q := 1) C rfl rfl dL_law_286 ?_
  refine l_arg (kn := 1) C rfl rfl (by decide) (by omega) dL_law_287 dL_law_288 dL_law_290 dL_law_291 dL_law_292 ?_
  refine l_callI (d := 10) (as := [zI ((xs (i + 1)).toInt)]) (K := fun x h' => x = aFault S ((xs (i + 1)).toInt) ∧ IC S h') C dL_law_293 rfl (shC0 hE) (cN0 hE) (by decide) rfl wm_L_31 wn_X9_fault wl_X9_fault wi_X9 wc_X9_fault wy_X9_fault (by decide) (Nat.le_of_ble_eq_true rfl) (by decide) (by omega) (zokS_cons.mpr ⟨zok_i (i32_r _), zokS_nil⟩) (C_fault (d := 10) hE iC (fun h' j => ⟨rfl, j⟩)) ?_
  rintro x hc' rx ⟨rfl, jC⟩
  refine l_aload (q := 2) C rfl rfl dL_law_296 ?_
  refine l_arg (kn := 1) C rfl rfl (by decide) (by omega) dL_law_297 dL_law_298 dL_law_300 dL_law_301 dL_law_302 ?_
  refine lG.swap C (l_callI (d := 140) (as := [zI ((xs (i + 1)).toInt)]) (K := fun x h' => x = aFault S ((xs (i + 1)).toInt) ∧ IR S h') C.swap dL_law_303 rfl (shR0 hR) (rN0 hR) (by decide) rfl wm_L_34 wn_X10_fault wl_X10_fault wi_X10 wc_X10_fault wy_X10_fault (by decide) (Nat.le_of_ble_eq_true rfl) (by decide) (by omega) (zokS_cons.mpr ⟨zok_i (i32_r _), zokS_nil⟩) (R_fault (d := 140) hR iR (fun h' j => ⟨rfl, j⟩)) ?_)
  rintro x hr' rx2 ⟨rfl, jR⟩
  refine lG.swap C.swap ?_
  refine l_same C dL_law_306 (tgt := 1643) (by decide) ?_
  exact lG.up (by omega) (k _ _ _ _ jC jR bS)
theorem lw_c3 (C : lwC X Lx xs E1 E2) (hE : isC E1) (hR : isR E2) (hi : i + 6 < Lx) (iC : IC S hc) (iR : IR S hr) (bS : BdR S) (k : ∀ S' hc' hr' o', IC S' hc' → IR S' hr' → BdR S' → lG X (i + 1) E1 E2 1643 (lwV X E1 E2 i) [] hc' hr' o') : lG X i E1 E2 311 (lwV X E1 E2 i) [] hc hr o := by
  have hL := C.2.1
  refine l_aload (q := 1) C rfl rfl dL_law_311 ?_
  refine l_arg (kn := 1) C rfl rfl (by decide) (by omega) dL_law_312 dL_law_313 dL_law_315 dL_law_316 dL_law_317 ?_
  refine l_arg (kn := 2) C rfl rfl (by decide) (by omega) dL_law_318 dL_law_319 dL_law_321 dL_law_322 dL_law_323 ?_
  refine l_callI (d := 10) (as := [zI ((xs (i + 1)).toInt), zI ((xs (i + 2)).toInt)]) (K := fun x h' => x = aNamed S ((xs (i + 1)).toInt) ((xs (i + 2)).toInt) ∧ IC S h') C dL_law_324 rfl (shC0 hE) (cN0 hE) (by decide) rfl wm_L_35 wn_X9_named wl_X9_named wi_X9 wc_X9_named wy_X9_named (by decide) (Nat.le_of_ble_eq_true rfl) (by decide) (by omega) (zokS_cons.mpr ⟨zok_i (i32_r _), zokS_cons.mpr ⟨zok_i (i32_r _), zokS_nil⟩⟩) (C_named (d := 9) hE iC (fun h' j => ⟨rfl, j⟩)) ?_
  rintro x hc' rx ⟨rfl, jC⟩
  refine l_aload (q := 2) C rfl rfl dL_law_327 ?_
  refine l_arg (kn := 1) C rfl rfl (by decide) (by omega) dL_law_328 dL_law_329 dL_law_331 dL_law_332 dL_law_333 ?_
  refine l_arg (kn := 2) C rfl rfl (by decide) (by omega) dL_law_334 dL_law_335 dL_law_337 dL_law_338 dL_law_339 ?_
  refine lG.swap C (l_callI (d := 140) (as := [zI ((xs (i + 1)).toInt), zI ((xs (i + 2)).toInt)]) (K := fun x h' => x = aNamed S ((xs (i + 1)).toInt) ((xs (i + 2)).toInt) ∧ IR S h') C.swap dL_law_340 rfl (shR0 hR) (rN0 hR) (by decide) rfl wm_L_39 wn_X10_named wl_X10_named wi_X10 wc_X10_named wy_X10_named (by decide) (Nat.le_of_ble_eq_true rfl) (by decide) (by omega) (zokS_cons.mpr ⟨zok_i (i32_r _), zokS_cons.mpr ⟨zok_i (i32_r _), zokS_nil⟩⟩) (R_named (d := 139) hR iR (fun h' j => ⟨rfl, j⟩)) ?_)
  rintro x hr' rx2 ⟨rfl, jR⟩
  refine lG.swap C.swap ?_
  refine l_same C dL_law_343 (tgt := 1643) (by decide) ?_
  exact lG.up (by omega) (k _ _ _ _ jC jR bS)
theorem lw_c5 (C : lwC X Lx xs E1 E2) (hE : isC E1) (hR : isR E2) (hi : i + 6 < Lx) (iC : IC S hc) (iR : IR S hr) (bS : BdR S) (k : ∀ S' hc' hr' o', IC S' hc' → IR S' hr' → BdR S' → lG X (i + 1) E1 E2 1643 (lwV X E1 E2 i) [] hc' hr' o') : lG X i E1 E2 428 (lwV X E1 E2 i) [] hc hr o := by
  have hL := C.2.1
  refine l_aload (q := 1) C rfl rfl dL_law_428 ?_
  refine l_arg (kn := 1) C rfl rfl (by decide) (by omega) dL_law_429 dL_law_430 dL_law_432 dL_law_433 dL_law_434 ?_
  refine l_arg (kn := 2) C rfl rfl (by decide) (by omega) dL_law_435 dL_law_436 dL_law_438 dL_law_439 dL_law_440 ?_
  refine l_callI (d := 10) (as := [zI ((xs (i + 1)).toInt), zI ((xs (i + 2)).toInt)]) (K := fun x h' => x = aAbout S ((xs (i + 1)).toInt) ((xs (i + 2)).toInt) ∧ IC S h') C dL_law_441 rfl (shC0 hE) (cN0 hE) (by decide) rfl wm_L_50 wn_X9_about wl_X9_about wi_X9 wc_X9_about wy_X9_about (by decide) (Nat.le_of_ble_eq_true rfl) (by decide) (by omega) (zokS_cons.mpr ⟨zok_i (i32_r _), zokS_cons.mpr ⟨zok_i (i32_r _), zokS_nil⟩⟩) (C_about (d := 9) hE iC (fun h' j => ⟨rfl, j⟩)) ?_
  rintro x hc' rx ⟨rfl, jC⟩
  refine l_aload (q := 2) C rfl rfl dL_law_444 ?_
  refine l_arg (kn := 1) C rfl rfl (by decide) (by omega) dL_law_445 dL_law_446 dL_law_448 dL_law_449 dL_law_450 ?_
  refine l_arg (kn := 2) C rfl rfl (by decide) (by omega) dL_law_451 dL_law_452 dL_law_454 dL_law_455 dL_law_456 ?_
  refine lG.swap C (l_callI (d := 140) (as := [zI ((xs (i + 1)).toInt), zI ((xs (i + 2)).toInt)]) (K := fun x h' => x = aAbout S ((xs (i + 1)).toInt) ((xs (i + 2)).toInt) ∧ IR S h') C.swap dL_law_457 rfl (shR0 hR) (rN0 hR) (by decide) rfl wm_L_53 wn_X10_about wl_X10_about wi_X10 wc_X10_about wy_X10_about (by decide) (Nat.le_of_ble_eq_true rfl) (by decide) (by omega) (zokS_cons.mpr ⟨zok_i (i32_r _), zokS_cons.mpr ⟨zok_i (i32_r _), zokS_nil⟩⟩) (R_about (d := 139) hR iR (fun h' j => ⟨rfl, j⟩)) ?_)
  rintro x hr' rx2 ⟨rfl, jR⟩
  refine lG.swap C.swap ?_
  refine l_same C dL_law_460 (tgt := 1643) (by decide) ?_
  exact lG.up (by omega) (k _ _ _ _ jC jR bS)
theorem lw_c6 (C : lwC X Lx xs E1 E2) (hE : isC E1) (hR : isR E2) (hi : i + 6 < Lx) (iC : IC S hc) (iR : IR S hr) (bS : BdR S) (k : ∀ S' hc' hr' o', IC S' hc' → IR S' hr' → BdR S' → lG X (i + 1) E1 E2 1643 (lwV X E1 E2 i) [] hc' hr' o') : lG X i E1 E2 465 (lwV X E1 E2 i) [] hc hr o := by
  have hL := C.2.1
  refine l_aload (q := 1) C rfl rfl dL_law_465 ?_
  refine l_arg (kn := 1) C rfl rfl (by decide) (by omega) dL_law_466 dL_law_467 dL_law_469 dL_law_470 dL_law_471 ?_
  refine l_arg (kn := 2) C rfl rfl (by decide) (by omega) dL_law_472 dL_law_473 dL_law_475 dL_law_476 dL_law_477 ?_
  refine l_arg (kn := 3) C rfl rfl (by decide) (by omega) dL_law_478 dL_law_479 dL_law_481 dL_law_482 dL_law_483 ?_
  refine l_arg (kn := 4) C rfl rfl (by decide) (by omega) dL_law_484 dL_law_485 dL_law_487 dL_law_488 dL_law_489 ?_
  refine l_callI (d := 10) (as := [zI ((xs (i + 1)).toInt), zI ((xs (i + 2)).toInt), zI ((xs (i + 3)).toInt), zI ((xs (i + 4)).toInt)]) (K := fun x h' => x = aTape S ((xs (i + 1)).toInt) ((xs (i + 2)).toInt) ((xs (i + 3)).toInt) ((xs (i + 4)).toInt) ∧ IC (uTape S ((xs (i + 1)).toInt) ((xs (i + 2)).toInt) ((xs (i + 3)).toInt) ((xs (i + 4)).toInt)) h') C dL_law_490 rfl (shC0 hE) (cN0 hE) (by decide) rfl wm_L_54 wn_X9_tape wl_X9_tape wi_X9 wc_X9_tape wy_X9_tape (by decide) (Nat.le_of_ble_eq_true rfl) (by decide) (by omega) (zokS_cons.mpr ⟨zok_i (i32_r _), zokS_cons.mpr ⟨zok_i (i32_r _), zokS_cons.mpr ⟨zok_i (i32_r _), zokS_cons.mpr ⟨zok_i (i32_r _), zokS_nil⟩⟩⟩⟩) (C_tape (d := 3) hE iC (fun h' j => ⟨rfl, j⟩)) ?_
  rintro x hc' rx ⟨rfl, jC⟩
  refine l_aload (q := 2) C rfl rfl dL_law_493 ?_
  refine l_arg (kn := 1) C rfl rfl (by decide) (by omega) dL_law_494 dL_law_495 dL_law_497 dL_law_498 dL_law_499 ?_
  refine l_arg (kn := 2) C rfl rfl (by decide) (by omega) dL_law_500 dL_law_501 dL_law_503 dL_law_504 dL_law_505 ?_
  refine l_arg (kn := 3) C rfl rfl (by decide) (by omega) dL_law_506 dL_law_507 dL_law_509 dL_law_510 dL_law_511 ?_
  refine l_arg (kn := 4) C rfl rfl (by decide) (by omega) dL_law_512 dL_law_513 dL_law_515 dL_law_516 dL_law_517 ?_
  refine lG.swap C (l_callI (d := 140) (as := [zI ((xs (i + 1)).toInt), zI ((xs (i + 2)).toInt), zI ((xs (i + 3)).toInt), zI ((xs (i + 4)).toInt)]) (K := fun x h' => x = aTape S ((xs (i + 1)).toInt) ((xs (i + 2)).toInt) ((xs (i + 3)).toInt) ((xs (i + 4)).toInt) ∧ IR (uTape S ((xs (i + 1)).toInt) ((xs (i + 2)).toInt) ((xs (i + 3)).toInt) ((xs (i + 4)).toInt)) h') C.swap dL_law_518 rfl (shR0 hR) (rN0 hR) (by decide) rfl wm_L_58 wn_X10_tape wl_X10_tape wi_X10 wc_X10_tape wy_X10_tape (by decide) (Nat.le_of_ble_eq_true rfl) (by decide) (by omega) (zokS_cons.mpr ⟨zok_i (i32_r _), zokS_cons.mpr ⟨zok_i (i32_r _), zokS_cons.mpr ⟨zok_i (i32_r _), zokS_cons.mpr ⟨zok_i (i32_r _), zokS_nil⟩⟩⟩⟩) (R_tape (d := 139) hR iR (fun h' j => ⟨rfl, j⟩)) ?_)
  rintro x hr' rx2 ⟨rfl, jR⟩
  refine lG.swap C.swap ?_
  refine l_same C dL_law_521 (tgt := 1643) (by decide) ?_
  exact lG.up (by omega) (k _ _ _ _ jC jR (bd_tape bS))
theorem lw_c7 (C : lwC X Lx xs E1 E2) (hE : isC E1) (hR : isR E2) (hi : i + 6 < Lx) (iC : IC S hc) (iR : IR S hr) (bS : BdR S) (k : ∀ S' hc' hr' o', IC S' hc' → IR S' hr' → BdR S' → lG X (i + 1) E1 E2 1643 (lwV X E1 E2 i) [] hc' hr' o') : lG X i E1 E2 526 (lwV X E1 E2 i) [] hc hr o := by
  have hL := C.2.1
  refine l_aload (q := 1) C rfl rfl dL_law_526 ?_
  refine l_arg (kn := 1) C rfl rfl (by decide) (by omega) dL_law_527 dL_law_528 dL_law_530 dL_law_531 dL_law_532 ?_
  refine l_arg (kn := 2) C rfl rfl (by decide) (by omega) dL_law_533 dL_law_534 dL_law_536 dL_law_537 dL_law_538 ?_
  refine l_arg (kn := 3) C rfl rfl (by decide) (by omega) dL_law_539 dL_law_540 dL_law_542 dL_law_543 dL_law_544 ?_
  refine l_bool C (i32_r _) dL_law_545 dL_law_548 dL_law_549 dL_law_552 ?_
  refine l_callI (d := 10) (as := [zI ((xs (i + 1)).toInt), zI ((xs (i + 2)).toInt), zI (sBo (xs (i + 3)).toInt)]) (K := fun x h' => x = aGone S ((xs (i + 1)).toInt) ((xs (i + 2)).toInt) ∧ IC (uGone S ((xs (i + 1)).toInt) ((xs (i + 2)).toInt) (sBo (xs (i + 3)).toInt)) h') C dL_law_553 rfl (shC0 hE) (cN0 hE) (by decide) rfl wm_L_59 wn_X9_gone wl_X9_gone wi_X9 wc_X9_gone wy_X9_gone (by decide) (Nat.le_of_ble_eq_true rfl) (by decide) (by omega) (zokS_cons.mpr ⟨zok_i (i32_r _), zokS_cons.mpr ⟨zok_i (i32_r _), zokS_cons.mpr ⟨zok_i (sBo_r _), zokS_nil⟩⟩⟩) (C_gone (d := 3) hE iC (fun h' j => ⟨rfl, j⟩)) ?_
  rintro x hc' rx ⟨rfl, jC⟩
  refine l_aload (q := 2) C rfl rfl dL_law_556 ?_
  refine l_arg (kn := 1) C rfl rfl (by decide) (by omega) dL_law_557 dL_law_558 dL_law_560 dL_law_561 dL_law_562 ?_
  refine l_arg (kn := 2) C rfl rfl (by decide) (by omega) dL_law_563 dL_law_564 dL_law_566 dL_law_567 dL_law_568 ?_
  refine l_arg (kn := 3) C rfl rfl (by decide) (by omega) dL_law_569 dL_law_570 dL_law_572 dL_law_573 dL_law_574 ?_
  refine l_bool C (i32_r _) dL_law_575 dL_law_578 dL_law_579 dL_law_582 ?_
  refine lG.swap C (l_callI (d := 140) (as := [zI ((xs (i + 1)).toInt), zI ((xs (i + 2)).toInt), zI (sBo (xs (i + 3)).toInt)]) (K := fun x h' => x = aGone S ((xs (i + 1)).toInt) ((xs (i + 2)).toInt) ∧ IR (uGone S ((xs (i + 1)).toInt) ((xs (i + 2)).toInt) (sBo (xs (i + 3)).toInt)) h') C.swap dL_law_583 rfl (shR0 hR) (rN0 hR) (by decide) rfl wm_L_63 wn_X10_gone wl_X10_gone wi_X10 wc_X10_gone wy_X10_gone (by decide) (Nat.le_of_ble_eq_true rfl) (by decide) (by omega) (zokS_cons.mpr ⟨zok_i (i32_r _), zokS_cons.mpr ⟨zok_i (i32_r _), zokS_cons.mpr ⟨zok_i (sBo_r _), zokS_nil⟩⟩⟩) (R_gone (d := 139) hR iR (fun h' j => ⟨rfl, j⟩)) ?_)
  rintro x hr' rx2 ⟨rfl, jR⟩
  refine lG.swap C.swap ?_
  refine l_same C dL_law_586 (tgt := 1643) (by decide) ?_
  exact lG.up (by omega) (k _ _ _ _ jC jR (bd_gone bS))
theorem lw_c8 (C : lwC X Lx xs E1 E2) (hE : isC E1) (hR : isR E2) (hi : i + 6 < Lx) (iC : IC S hc) (iR : IR S hr) (bS : BdR S) (k : ∀ S' hc' hr' o', IC S' hc' → IR S' hr' → BdR S' → lG X (i + 1) E1 E2 1643 (lwV X E1 E2 i) [] hc' hr' o') : lG X i E1 E2 591 (lwV X E1 E2 i) [] hc hr o := by
  have hL := C.2.1
  refine l_aload (q := 1) C rfl rfl dL_law_591 ?_
  refine l_arg (kn := 1) C rfl rfl (by decide) (by omega) dL_law_592 dL_law_593 dL_law_595 dL_law_596 dL_law_597 ?_
  refine l_callI (d := 10) (as := [zI ((xs (i + 1)).toInt)]) (K := fun x h' => x = aStrike S ((xs (i + 1)).toInt) ∧ IC (uStrike S ((xs (i + 1)).toInt)) h') C dL_law_598 rfl (shC0 hE) (cN0 hE) (by decide) rfl wm_L_64 wn_X9_strike wl_X9_strike wi_X9 wc_X9_strike wy_X9_strike (by decide) (Nat.le_of_ble_eq_true rfl) (by decide) (by omega) (zokS_cons.mpr ⟨zok_i (i32_r _), zokS_nil⟩) (C_strike (d := 3) hE iC (fun h' j => ⟨rfl, j⟩)) ?_
  rintro x hc' rx ⟨rfl, jC⟩
  refine l_aload (q := 2) C rfl rfl dL_law_601 ?_
  refine l_arg (kn := 1) C rfl rfl (by decide) (by omega) dL_law_602 dL_law_603 dL_law_605 dL_law_606 dL_law_607 ?_
  refine lG.swap C (l_callI (d := 140) (as := [zI ((xs (i + 1)).toInt)]) (K := fun x h' => x = aStrike S ((xs (i + 1)).toInt) ∧ IR (uStrike S ((xs (i + 1)).toInt)) h') C.swap dL_law_608 rfl (shR0 hR) (rN0 hR) (by decide) rfl wm_L_67 wn_X10_strike wl_X10_strike wi_X10 wc_X10_strike wy_X10_strike (by decide) (Nat.le_of_ble_eq_true rfl) (by decide) (by omega) (zokS_cons.mpr ⟨zok_i (i32_r _), zokS_nil⟩) (R_strike (d := 139) hR iR (fun h' j => ⟨rfl, j⟩)) ?_)
  rintro x hr' rx2 ⟨rfl, jR⟩
  refine lG.swap C.swap ?_
  refine l_same C dL_law_611 (tgt := 1643) (by decide) ?_
  exact lG.up (by omega) (k _ _ _ _ jC jR (bd_strike bS))
theorem lw_c9 (C : lwC X Lx xs E1 E2) (hE : isC E1) (hR : isR E2) (hi : i + 6 < Lx) (iC : IC S hc) (iR : IR S hr) (bS : BdR S) (k : ∀ S' hc' hr' o', IC S' hc' → IR S' hr' → BdR S' → lG X (i + 1) E1 E2 1643 (lwV X E1 E2 i) [] hc' hr' o') : lG X i E1 E2 616 (lwV X E1 E2 i) [] hc hr o := by
  have hL := C.2.1
  refine l_aload (q := 1) C rfl rfl dL_law_616 ?_
  refine l_arg (kn := 1) C rfl rfl (by decide) (by omega) dL_law_617 dL_law_618 dL_law_620 dL_law_621 dL_law_622 ?_
  refine l_callI (d := 10) (as := [zI ((xs (i + 1)).toInt)]) (K := fun x h' => x = aKnown S ((xs (i + 1)).toInt) ∧ IC (uKnown S ((xs (i + 1)).toInt)) h') C dL_law_623 rfl (shC0 hE) (cN0 hE) (by decide) rfl wm_L_68 wn_X9_known wl_X9_known wi_X9 wc_X9_known wy_X9_known (by decide) (Nat.le_of_ble_eq_true rfl) (by decide) (by omega) (zokS_cons.mpr ⟨zok_i (i32_r _), zokS_nil⟩) (C_known (d := 4) hE iC (fun h' j => ⟨rfl, j⟩)) ?_
  rintro x hc' rx ⟨rfl, jC⟩
  refine l_aload (q := 2) C rfl rfl dL_law_626 ?_
  refine l_arg (kn := 1) C rfl rfl (by decide) (by omega) dL_law_627 dL_law_628 dL_law_630 dL_law_631 dL_law_632 ?_
  refine lG.swap C (l_callI (d := 140) (as := [zI ((xs (i + 1)).toInt)]) (K := fun x h' => x = aKnown S ((xs (i + 1)).toInt) ∧ IR (uKnown S ((xs (i + 1)).toInt)) h') C.swap dL_law_633 rfl (shR0 hR) (rN0 hR) (by decide) rfl wm_L_72 wn_X10_known wl_X10_known wi_X10 wc_X10_known wy_X10_known (by decide) (Nat.le_of_ble_eq_true rfl) (by decide) (by omega) (zokS_cons.mpr ⟨zok_i (i32_r _), zokS_nil⟩) (R_known (d := 140) hR iR (fun h' j => ⟨rfl, j⟩)) ?_)
  rintro x hr' rx2 ⟨rfl, jR⟩
  refine lG.swap C.swap ?_
  refine l_same C dL_law_636 (tgt := 1643) (by decide) ?_
  exact lG.up (by omega) (k _ _ _ _ jC jR (bd_known bS))
theorem lw_c10 (C : lwC X Lx xs E1 E2) (hE : isC E1) (hR : isR E2) (hi : i + 6 < Lx) (iC : IC S hc) (iR : IR S hr) (bS : BdR S) (k : ∀ S' hc' hr' o', IC S' hc' → IR S' hr' → BdR S' → lG X (i + 1) E1 E2 1643 (lwV X E1 E2 i) [] hc' hr' o') : lG X i E1 E2 641 (lwV X E1 E2 i) [] hc hr o := by
  have hL := C.2.1
  refine l_aload (q := 1) C rfl rfl dL_law_641 ?_
  refine l_arg (kn := 1) C rfl rfl (by decide) (by omega) dL_law_642 dL_law_643 dL_law_645 dL_law_646 dL_law_647 ?_
  refine l_arg (kn := 2) C rfl rfl (by decide) (by omega) dL_law_648 dL_law_649 dL_law_651 dL_law_652 dL_law_653 ?_
  refine l_bool C (i32_r _) dL_law_654 dL_law_657 dL_law_658 dL_law_661 ?_
  refine l_callI (d := 10) (as := [zI ((xs (i + 1)).toInt), zI (sBo (xs (i + 2)).toInt)]) (K := fun x h' => x = aMode ((xs (i + 1)).toInt) ∧ IC (uMode S ((xs (i + 1)).toInt) (sBo (xs (i + 2)).toInt)) h') C dL_law_662 rfl (shC0 hE) (cN0 hE) (by decide) rfl wm_L_73 wn_X9_mode wl_X9_mode wi_X9 wc_X9_mode wy_X9_mode (by decide) (Nat.le_of_ble_eq_true rfl) (by decide) (by omega) (zokS_cons.mpr ⟨zok_i (i32_r _), zokS_cons.mpr ⟨zok_i (sBo_r _), zokS_nil⟩⟩) (C_mode (d := 4) hE iC (sBo_01 _) (fun h' j => ⟨rfl, j⟩)) ?_
  rintro x hc' rx ⟨rfl, jC⟩
  refine l_aload (q := 2) C rfl rfl dL_law_665 ?_
  refine l_arg (kn := 1) C rfl rfl (by decide) (by omega) dL_law_666 dL_law_667 dL_law_669 dL_law_670 dL_law_671 ?_
  refine l_arg (kn := 2) C rfl rfl (by decide) (by omega) dL_law_672 dL_law_673 dL_law_675 dL_law_676 dL_law_677 ?_
  refine l_bool C (i32_r _) dL_law_678 dL_law_681 dL_law_682 dL_law_685 ?_
  refine lG.swap C (l_callI (d := 140) (as := [zI ((xs (i + 1)).toInt), zI (sBo (xs (i + 2)).toInt)]) (K := fun x h' => x = aMode ((xs (i + 1)).toInt) ∧ IR (uMode S ((xs (i + 1)).toInt) (sBo (xs (i + 2)).toInt)) h') C.swap dL_law_686 rfl (shR0 hR) (rN0 hR) (by decide) rfl wm_L_77 wn_X10_mode wl_X10_mode wi_X10 wc_X10_mode wy_X10_mode (by decide) (Nat.le_of_ble_eq_true rfl) (by decide) (by omega) (zokS_cons.mpr ⟨zok_i (i32_r _), zokS_cons.mpr ⟨zok_i (sBo_r _), zokS_nil⟩⟩) (R_mode (d := 140) hR iR (sBo_01 _) (fun h' j => ⟨rfl, j⟩)) ?_)
  rintro x hr' rx2 ⟨rfl, jR⟩
  refine lG.swap C.swap ?_
  refine l_same C dL_law_689 (tgt := 1643) (by decide) ?_
  exact lG.up (by omega) (k _ _ _ _ jC jR (bd_mode bS))
theorem lw_c11 (C : lwC X Lx xs E1 E2) (hE : isC E1) (hR : isR E2) (hi : i + 6 < Lx) (iC : IC S hc) (iR : IR S hr) (bS : BdR S) (k : ∀ S' hc' hr' o', IC S' hc' → IR S' hr' → BdR S' → lG X (i + 1) E1 E2 1643 (lwV X E1 E2 i) [] hc' hr' o') : lG X i E1 E2 694 (lwV X E1 E2 i) [] hc hr o := by
  have hL := C.2.1
  refine l_aload (q := 1) C rfl rfl dL_law_694 ?_
  refine l_arg (kn := 1) C rfl rfl (by decide) (by omega) dL_law_695 dL_law_696 dL_law_698 dL_law_699 dL_law_700 ?_
  refine l_arg (kn := 2) C rfl rfl (by decide) (by omega) dL_law_701 dL_law_702 dL_law_704 dL_law_705 dL_law_706 ?_
  refine l_arg (kn := 3) C rfl rfl (by decide) (by omega) dL_law_707 dL_law_708 dL_law_710 dL_law_711 dL_law_712 ?_
  refine l_arg (kn := 4) C rfl rfl (by decide) (by omega) dL_law_713 dL_law_714 dL_law_716 dL_law_717 dL_law_718 ?_
  refine l_callI (d := 10) (as := [zI ((xs (i + 1)).toInt), zI ((xs (i + 2)).toInt), zI ((xs (i + 3)).toInt), zI ((xs (i + 4)).toInt)]) (K := fun x h' => x = aFit S ((xs (i + 1)).toInt) ((xs (i + 2)).toInt) ((xs (i + 3)).toInt) ((xs (i + 4)).toInt) ∧ IC S h') C dL_law_719 rfl (shC0 hE) (cN0 hE) (by decide) rfl wm_L_78 wn_X9_fit wl_X9_fit wi_X9 wc_X9_fit wy_X9_fit (by decide) (Nat.le_of_ble_eq_true rfl) (by decide) (by omega) (zokS_cons.mpr ⟨zok_i (i32_r _), zokS_cons.mpr ⟨zok_i (i32_r _), zokS_cons.mpr ⟨zok_i (i32_r _), zokS_cons.mpr ⟨zok_i (i32_r _), zokS_nil⟩⟩⟩⟩) (C_fit (d := 5) hE iC (fun h' j => ⟨rfl, j⟩)) ?_
  rintro x hc' rx ⟨rfl, jC⟩
  refine l_aload (q := 2) C rfl rfl dL_law_722 ?_
  refine l_arg (kn := 1) C rfl rfl (by decide) (by omega) dL_law_723 dL_law_724 dL_law_726 dL_law_727 dL_law_728 ?_
  refine l_arg (kn := 2) C rfl rfl (by decide) (by omega) dL_law_729 dL_law_730 dL_law_732 dL_law_733 dL_law_734 ?_
  refine l_arg (kn := 3) C rfl rfl (by decide) (by omega) dL_law_735 dL_law_736 dL_law_738 dL_law_739 dL_law_740 ?_
  refine l_arg (kn := 4) C rfl rfl (by decide) (by omega) dL_law_741 dL_law_742 dL_law_744 dL_law_745 dL_law_746 ?_
  refine lG.swap C (l_callI (d := 140) (as := [zI ((xs (i + 1)).toInt), zI ((xs (i + 2)).toInt), zI ((xs (i + 3)).toInt), zI ((xs (i + 4)).toInt)]) (K := fun x h' => x = aFit S ((xs (i + 1)).toInt) ((xs (i + 2)).toInt) ((xs (i + 3)).toInt) ((xs (i + 4)).toInt) ∧ IR S h') C.swap dL_law_747 rfl (shR0 hR) (rN0 hR) (by decide) rfl wm_L_81 wn_X10_fit wl_X10_fit wi_X10 wc_X10_fit wy_X10_fit (by decide) (Nat.le_of_ble_eq_true rfl) (by decide) (by omega) (zokS_cons.mpr ⟨zok_i (i32_r _), zokS_cons.mpr ⟨zok_i (i32_r _), zokS_cons.mpr ⟨zok_i (i32_r _), zokS_cons.mpr ⟨zok_i (i32_r _), zokS_nil⟩⟩⟩⟩) (R_fit (d := 135) hR iR (fun h' j => ⟨rfl, j⟩)) ?_)
  rintro x hr' rx2 ⟨rfl, jR⟩
  refine lG.swap C.swap ?_
  refine l_same C dL_law_750 (tgt := 1643) (by decide) ?_
  exact lG.up (by omega) (k _ _ _ _ jC jR bS)
theorem lw_c12 (C : lwC X Lx xs E1 E2) (hE : isC E1) (hR : isR E2) (hi : i + 6 < Lx) (iC : IC S hc) (iR : IR S hr) (bS : BdR S) (k : ∀ S' hc' hr' o', IC S' hc' → IR S' hr' → BdR S' → lG X (i + 1) E1 E2 1643 (lwV X E1 E2 i) [] hc' hr' o') : lG X i E1 E2 755 (lwV X E1 E2 i) [] hc hr o := by
  have hL := C.2.1
  refine l_aload (q := 1) C rfl rfl dL_law_755 ?_
  refine l_arg (kn := 1) C rfl rfl (by decide) (by omega) dL_law_756 dL_law_757 dL_law_759 dL_law_760 dL_law_761 ?_
  refine l_arg (kn := 2) C rfl rfl (by decide) (by omega) dL_law_762 dL_law_763 dL_law_765 dL_law_766 dL_law_767 ?_
  refine l_callI (d := 10) (as := [zI ((xs (i + 1)).toInt), zI ((xs (i + 2)).toInt)]) (K := fun x h' => x = aBest S ((xs (i + 1)).toInt) ((xs (i + 2)).toInt) ∧ IC S h') C dL_law_768 rfl (shC0 hE) (cN0 hE) (by decide) rfl wm_L_82 wn_X9_best wl_X9_best wi_X9 wc_X9_best wy_X9_best (by decide) (Nat.le_of_ble_eq_true rfl) (by decide) (by omega) (zokS_cons.mpr ⟨zok_i (i32_r _), zokS_cons.mpr ⟨zok_i (i32_r _), zokS_nil⟩⟩) (C_best (d := 5) hE iC (fun h' j => ⟨rfl, j⟩)) ?_
  rintro x hc' rx ⟨rfl, jC⟩
  refine l_aload (q := 2) C rfl rfl dL_law_771 ?_
  refine l_arg (kn := 1) C rfl rfl (by decide) (by omega) dL_law_772 dL_law_773 dL_law_775 dL_law_776 dL_law_777 ?_
  refine l_arg (kn := 2) C rfl rfl (by decide) (by omega) dL_law_778 dL_law_779 dL_law_781 dL_law_782 dL_law_783 ?_
  refine lG.swap C (l_callI (d := 140) (as := [zI ((xs (i + 1)).toInt), zI ((xs (i + 2)).toInt)]) (K := fun x h' => x = aBest S ((xs (i + 1)).toInt) ((xs (i + 2)).toInt) ∧ IR S h') C.swap dL_law_784 rfl (shR0 hR) (rN0 hR) (by decide) rfl wm_L_85 wn_X10_best wl_X10_best wi_X10 wc_X10_best wy_X10_best (by decide) (Nat.le_of_ble_eq_true rfl) (by decide) (by omega) (zokS_cons.mpr ⟨zok_i (i32_r _), zokS_cons.mpr ⟨zok_i (i32_r _), zokS_nil⟩⟩) (R_best (d := 134) hR iR (fun h' j => ⟨rfl, j⟩)) ?_)
  rintro x hr' rx2 ⟨rfl, jR⟩
  refine lG.swap C.swap ?_
  refine l_same C dL_law_787 (tgt := 1643) (by decide) ?_
  exact lG.up (by omega) (k _ _ _ _ jC jR bS)
theorem lw_c13 (C : lwC X Lx xs E1 E2) (hE : isC E1) (hR : isR E2) (hi : i + 6 < Lx) (iC : IC S hc) (iR : IR S hr) (bS : BdR S) (k : ∀ S' hc' hr' o', IC S' hc' → IR S' hr' → BdR S' → lG X (i + 1) E1 E2 1643 (lwV X E1 E2 i) [] hc' hr' o') : lG X i E1 E2 792 (lwV X E1 E2 i) [] hc hr o := by
  have hL := C.2.1
  refine l_aload (q := 1) C rfl rfl dL_law_792 ?_
  refine l_arg (kn := 1) C rfl rfl (by decide) (by omega) dL_law_793 dL_law_794 dL_law_796 dL_law_797 dL_law_798 ?_
  refine l_callI (d := 10) (as := [zI ((xs (i + 1)).toInt)]) (K := fun x h' => x = aWell S ((xs (i + 1)).toInt) ∧ IC S h') C dL_law_799 rfl (shC0 hE) (cN0 hE) (by decide) rfl wm_L_86 wn_X9_well wl_X9_well wi_X9 wc_X9_well wy_X9_well (by decide) (Nat.le_of_ble_eq_true rfl) (by decide) (by omega) (zokS_cons.mpr ⟨zok_i (i32_r _), zokS_nil⟩) (C_well (d := 4) hE iC (fun h' j => ⟨rfl, j⟩)) ?_
  rintro x hc' rx ⟨rfl, jC⟩
  refine l_aload (q := 2) C rfl rfl dL_law_802 ?_
  refine l_arg (kn := 1) C rfl rfl (by decide) (by omega) dL_law_803 dL_law_804 dL_law_806 dL_law_807 dL_law_808 ?_
  refine lG.swap C (l_callI (d := 140) (as := [zI ((xs (i + 1)).toInt)]) (K := fun x h' => x = aWell S ((xs (i + 1)).toInt) ∧ IR S h') C.swap dL_law_809 rfl (shR0 hR) (rN0 hR) (by decide) rfl wm_L_89 wn_X10_well wl_X10_well wi_X10 wc_X10_well wy_X10_well (by decide) (Nat.le_of_ble_eq_true rfl) (by decide) (by omega) (zokS_cons.mpr ⟨zok_i (i32_r _), zokS_nil⟩) (R_well (d := 134) hR iR (fun h' j => ⟨rfl, j⟩)) ?_)
  rintro x hr' rx2 ⟨rfl, jR⟩
  refine lG.swap C.swap ?_
  refine l_same C dL_law_812 (tgt := 1643) (by decide) ?_
  exact lG.up (by omega) (k _ _ _ _ jC jR bS)
theorem lw_c14 (C : lwC X Lx xs E1 E2) (hE : isC E1) (hR : isR E2) (hi : i + 6 < Lx) (iC : IC S hc) (iR : IR S hr) (bS : BdR S) (k : ∀ S' hc' hr' o', IC S' hc' → IR S' hr' → BdR S' → lG X (i + 1) E1 E2 1643 (lwV X E1 E2 i) [] hc' hr' o') : lG X i E1 E2 817 (lwV X E1 E2 i) [] hc hr o := by
  have hL := C.2.1
  refine l_aload (q := 1) C rfl rfl dL_law_817 ?_
  refine l_arg (kn := 1) C rfl rfl (by decide) (by omega) dL_law_818 dL_law_819 dL_law_821 dL_law_822 dL_law_823 ?_
  refine l_arg (kn := 2) C rfl rfl (by decide) (by omega) dL_law_824 dL_law_825 dL_law_827 dL_law_828 dL_law_829 ?_
  refine l_callI (d := 10) (as := [zI ((xs (i + 1)).toInt), zI ((xs (i + 2)).toInt)]) (K := fun x h' => x = aSpan S ((xs (i + 1)).toInt) ((xs (i + 2)).toInt) ∧ IC S h') C dL_law_830 rfl (shC0 hE) (cN0 hE) (by decide) rfl wm_L_90 wn_X9_span wl_X9_span wi_X9 wc_X9_span wy_X9_span (by decide) (Nat.le_of_ble_eq_true rfl) (by decide) (by omega) (zokS_cons.mpr ⟨zok_i (i32_r _), zokS_cons.mpr ⟨zok_i (i32_r _), zokS_nil⟩⟩) (C_span (d := 3) hE iC (fun h' j => ⟨rfl, j⟩)) ?_
  rintro x hc' rx ⟨rfl, jC⟩
  refine l_aload (q := 2) C rfl rfl dL_law_833 ?_
  refine l_arg (kn := 1) C rfl rfl (by decide) (by omega) dL_law_834 dL_law_835 dL_law_837 dL_law_838 dL_law_839 ?_
  refine l_arg (kn := 2) C rfl rfl (by decide) (by omega) dL_law_840 dL_law_841 dL_law_843 dL_law_844 dL_law_845 ?_
  refine lG.swap C (l_callI (d := 140) (as := [zI ((xs (i + 1)).toInt), zI ((xs (i + 2)).toInt)]) (K := fun x h' => x = aSpan S ((xs (i + 1)).toInt) ((xs (i + 2)).toInt) ∧ IR S h') C.swap dL_law_846 rfl (shR0 hR) (rN0 hR) (by decide) rfl wm_L_93 wn_X10_span wl_X10_span wi_X10 wc_X10_span wy_X10_span (by decide) (Nat.le_of_ble_eq_true rfl) (by decide) (by omega) (zokS_cons.mpr ⟨zok_i (i32_r _), zokS_cons.mpr ⟨zok_i (i32_r _), zokS_nil⟩⟩) (R_span (d := 134) hR iR (fun h' j => ⟨rfl, j⟩)) ?_)
  rintro x hr' rx2 ⟨rfl, jR⟩
  refine lG.swap C.swap ?_
  refine l_same C dL_law_849 (tgt := 1643) (by decide) ?_
  exact lG.up (by omega) (k _ _ _ _ jC jR bS)
theorem lw_c15 (C : lwC X Lx xs E1 E2) (hE : isC E1) (hR : isR E2) (hi : i + 6 < Lx) (iC : IC S hc) (iR : IR S hr) (bS : BdR S) (k : ∀ S' hc' hr' o', IC S' hc' → IR S' hr' → BdR S' → lG X (i + 1) E1 E2 1643 (lwV X E1 E2 i) [] hc' hr' o') : lG X i E1 E2 854 (lwV X E1 E2 i) [] hc hr o := by
  have hL := C.2.1
  refine l_aload (q := 1) C rfl rfl dL_law_854 ?_
  refine l_arg (kn := 1) C rfl rfl (by decide) (by omega) dL_law_855 dL_law_856 dL_law_858 dL_law_859 dL_law_860 ?_
  refine l_arg (kn := 2) C rfl rfl (by decide) (by omega) dL_law_861 dL_law_862 dL_law_864 dL_law_865 dL_law_866 ?_
  refine l_arg (kn := 3) C rfl rfl (by decide) (by omega) dL_law_867 dL_law_868 dL_law_870 dL_law_871 dL_law_872 ?_
  refine l_callI (d := 10) (as := [zI ((xs (i + 1)).toInt), zI ((xs (i + 2)).toInt), zI ((xs (i + 3)).toInt)]) (K := fun x h' => x = aWhole S ((xs (i + 1)).toInt) ((xs (i + 2)).toInt) ((xs (i + 3)).toInt) ∧ IC S h') C dL_law_873 rfl (shC0 hE) (cN0 hE) (by decide) rfl wm_L_94 wn_X9_whole wl_X9_whole wi_X9 wc_X9_whole wy_X9_whole (by decide) (Nat.le_of_ble_eq_true rfl) (by decide) (by omega) (zokS_cons.mpr ⟨zok_i (i32_r _), zokS_cons.mpr ⟨zok_i (i32_r _), zokS_cons.mpr ⟨zok_i (i32_r _), zokS_nil⟩⟩⟩) (C_whole (d := 9) hE iC (fun h' j => ⟨rfl, j⟩)) ?_
  rintro x hc' rx ⟨rfl, jC⟩
  refine l_aload (q := 2) C rfl rfl dL_law_876 ?_
  refine l_arg (kn := 1) C rfl rfl (by decide) (by omega) dL_law_877 dL_law_878 dL_law_880 dL_law_881 dL_law_882 ?_
  refine l_arg (kn := 2) C rfl rfl (by decide) (by omega) dL_law_883 dL_law_884 dL_law_886 dL_law_887 dL_law_888 ?_
  refine l_arg (kn := 3) C rfl rfl (by decide) (by omega) dL_law_889 dL_law_890 dL_law_892 dL_law_893 dL_law_894 ?_
  refine lG.swap C (l_callI (d := 140) (as := [zI ((xs (i + 1)).toInt), zI ((xs (i + 2)).toInt), zI ((xs (i + 3)).toInt)]) (K := fun x h' => x = aWhole S ((xs (i + 1)).toInt) ((xs (i + 2)).toInt) ((xs (i + 3)).toInt) ∧ IR S h') C.swap dL_law_895 rfl (shR0 hR) (rN0 hR) (by decide) rfl wm_L_97 wn_X10_whole wl_X10_whole wi_X10 wc_X10_whole wy_X10_whole (by decide) (Nat.le_of_ble_eq_true rfl) (by decide) (by omega) (zokS_cons.mpr ⟨zok_i (i32_r _), zokS_cons.mpr ⟨zok_i (i32_r _), zokS_cons.mpr ⟨zok_i (i32_r _), zokS_nil⟩⟩⟩) (R_whole (d := 139) hR iR (fun h' j => ⟨rfl, j⟩)) ?_)
  rintro x hr' rx2 ⟨rfl, jR⟩
  refine lG.swap C.swap ?_
  refine l_same C dL_law_898 (tgt := 1643) (by decide) ?_
  exact lG.up (by omega) (k _ _ _ _ jC jR bS)
theorem lw_c16 (C : lwC X Lx xs E1 E2) (hE : isC E1) (hR : isR E2) (hi : i + 6 < Lx) (iC : IC S hc) (iR : IR S hr) (bS : BdR S) (k : ∀ S' hc' hr' o', IC S' hc' → IR S' hr' → BdR S' → lG X (i + 1) E1 E2 1643 (lwV X E1 E2 i) [] hc' hr' o') : lG X i E1 E2 903 (lwV X E1 E2 i) [] hc hr o := by
  have hL := C.2.1
  refine l_aload (q := 1) C rfl rfl dL_law_903 ?_
  refine l_arg (kn := 1) C rfl rfl (by decide) (by omega) dL_law_904 dL_law_905 dL_law_907 dL_law_908 dL_law_909 ?_
  refine l_callI (d := 10) (as := [zI ((xs (i + 1)).toInt)]) (K := fun x h' => x = aNear S ((xs (i + 1)).toInt) ∧ IC S h') C dL_law_910 rfl (shC0 hE) (cN0 hE) (by decide) rfl wm_L_98 wn_X9_near wl_X9_near wi_X9 wc_X9_near wy_X9_near (by decide) (Nat.le_of_ble_eq_true rfl) (by decide) (by omega) (zokS_cons.mpr ⟨zok_i (i32_r _), zokS_nil⟩) (C_near (d := 4) hE iC (fun h' j => ⟨rfl, j⟩)) ?_
  rintro x hc' rx ⟨rfl, jC⟩
  refine l_aload (q := 2) C rfl rfl dL_law_913 ?_
  refine l_arg (kn := 1) C rfl rfl (by decide) (by omega) dL_law_914 dL_law_915 dL_law_917 dL_law_918 dL_law_919 ?_
  refine lG.swap C (l_callI (d := 140) (as := [zI ((xs (i + 1)).toInt)]) (K := fun x h' => x = aNear S ((xs (i + 1)).toInt) ∧ IR S h') C.swap dL_law_920 rfl (shR0 hR) (rN0 hR) (by decide) rfl wm_L_101 wn_X10_near wl_X10_near wi_X10 wc_X10_near wy_X10_near (by decide) (Nat.le_of_ble_eq_true rfl) (by decide) (by omega) (zokS_cons.mpr ⟨zok_i (i32_r _), zokS_nil⟩) (R_near (d := 134) hR iR (fun h' j => ⟨rfl, j⟩)) ?_)
  rintro x hr' rx2 ⟨rfl, jR⟩
  refine lG.swap C.swap ?_
  refine l_same C dL_law_923 (tgt := 1643) (by decide) ?_
  exact lG.up (by omega) (k _ _ _ _ jC jR bS)
theorem lw_c17 (C : lwC X Lx xs E1 E2) (hE : isC E1) (hR : isR E2) (hi : i + 6 < Lx) (iC : IC S hc) (iR : IR S hr) (bS : BdR S) (k : ∀ S' hc' hr' o', IC S' hc' → IR S' hr' → BdR S' → lG X (i + 1) E1 E2 1643 (lwV X E1 E2 i) [] hc' hr' o') : lG X i E1 E2 928 (lwV X E1 E2 i) [] hc hr o := by
  have hL := C.2.1
  refine l_aload (q := 1) C rfl rfl dL_law_928 ?_
  refine l_arg (kn := 1) C rfl rfl (by decide) (by omega) dL_law_929 dL_law_930 dL_law_932 dL_law_933 dL_law_934 ?_
  refine l_callI (d := 10) (as := [zI ((xs (i + 1)).toInt)]) (K := fun x h' => x = aLumps S ((xs (i + 1)).toInt) ∧ IC S h') C dL_law_935 rfl (shC0 hE) (cN0 hE) (by decide) rfl wm_L_102 wn_X9_lumps wl_X9_lumps wi_X9 wc_X9_lumps wy_X9_lumps (by decide) (Nat.le_of_ble_eq_true rfl) (by decide) (by omega) (zokS_cons.mpr ⟨zok_i (i32_r _), zokS_nil⟩) (C_lumps (d := 4) hE iC (fun h' j => ⟨rfl, j⟩)) ?_
  rintro x hc' rx ⟨rfl, jC⟩
  refine l_aload (q := 2) C rfl rfl dL_law_938 ?_
  refine l_arg (kn := 1) C rfl rfl (by decide) (by omega) dL_law_939 dL_law_940 dL_law_942 dL_law_943 dL_law_944 ?_
  refine lG.swap C (l_callI (d := 140) (as := [zI ((xs (i + 1)).toInt)]) (K := fun x h' => x = aLumps S ((xs (i + 1)).toInt) ∧ IR S h') C.swap dL_law_945 rfl (shR0 hR) (rN0 hR) (by decide) rfl wm_L_105 wn_X10_lumps wl_X10_lumps wi_X10 wc_X10_lumps wy_X10_lumps (by decide) (Nat.le_of_ble_eq_true rfl) (by decide) (by omega) (zokS_cons.mpr ⟨zok_i (i32_r _), zokS_nil⟩) (R_lumps (d := 134) hR iR (fun h' j => ⟨rfl, j⟩)) ?_)
  rintro x hr' rx2 ⟨rfl, jR⟩
  refine lG.swap C.swap ?_
  refine l_same C dL_law_948 (tgt := 1643) (by decide) ?_
  exact lG.up (by omega) (k _ _ _ _ jC jR bS)
theorem lw_c18 (C : lwC X Lx xs E1 E2) (hE : isC E1) (hR : isR E2) (hi : i + 6 < Lx) (iC : IC S hc) (iR : IR S hr) (bS : BdR S) (k : ∀ S' hc' hr' o', IC S' hc' → IR S' hr' → BdR S' → lG X (i + 1) E1 E2 1643 (lwV X E1 E2 i) [] hc' hr' o') : lG X i E1 E2 953 (lwV X E1 E2 i) [] hc hr o := by
  have hL := C.2.1
  refine l_aload (q := 1) C rfl rfl dL_law_953 ?_
  refine l_arg (kn := 1) C rfl rfl (by decide) (by omega) dL_law_954 dL_law_955 dL_law_957 dL_law_958 dL_law_959 ?_
  refine l_arg (kn := 2) C rfl rfl (by decide) (by omega) dL_law_960 dL_law_961 dL_law_963 dL_law_964 dL_law_965 ?_
  refine l_arg (kn := 3) C rfl rfl (by decide) (by omega) dL_law_966 dL_law_967 dL_law_969 dL_law_970 dL_law_971 ?_
  refine l_arg (kn := 4) C rfl rfl (by decide) (by omega) dL_law_972 dL_law_973 dL_law_975 dL_law_976 dL_law_977 ?_
  refine l_callI (d := 10) (as := [zI ((xs (i + 1)).toInt), zI ((xs (i + 2)).toInt), zI ((xs (i + 3)).toInt), zI ((xs (i + 4)).toInt)]) (K := fun x h' => x = aUnit S ((xs (i + 1)).toInt) ((xs (i + 2)).toInt) ((xs (i + 3)).toInt) ((xs (i + 4)).toInt) ∧ IC S h') C dL_law_978 rfl (shC0 hE) (cN0 hE) (by decide) rfl wm_L_106 wn_X9_unit wl_X9_unit wi_X9 wc_X9_unit wy_X9_unit (by decide) (Nat.le_of_ble_eq_true rfl) (by decide) (by omega) (zokS_cons.mpr ⟨zok_i (i32_r _), zokS_cons.mpr ⟨zok_i (i32_r _), zokS_cons.mpr ⟨zok_i (i32_r _), zokS_cons.mpr ⟨zok_i (i32_r _), zokS_nil⟩⟩⟩⟩) (C_unit (d := 4) hE iC (fun h' j => ⟨rfl, j⟩)) ?_
  rintro x hc' rx ⟨rfl, jC⟩
  refine l_aload (q := 2) C rfl rfl dL_law_981 ?_
  refine l_arg (kn := 1) C rfl rfl (by decide) (by omega) dL_law_982 dL_law_983 dL_law_985 dL_law_986 dL_law_987 ?_
  refine l_arg (kn := 2) C rfl rfl (by decide) (by omega) dL_law_988 dL_law_989 dL_law_991 dL_law_992 dL_law_993 ?_
  refine l_arg (kn := 3) C rfl rfl (by decide) (by omega) dL_law_994 dL_law_995 dL_law_997 dL_law_998 dL_law_999 ?_
  refine l_arg (kn := 4) C rfl rfl (by decide) (by omega) dL_law_1000 dL_law_1001 dL_law_1003 dL_law_1004 dL_law_1005 ?_
  refine lG.swap C (l_callI (d := 140) (as := [zI ((xs (i + 1)).toInt), zI ((xs (i + 2)).toInt), zI ((xs (i + 3)).toInt), zI ((xs (i + 4)).toInt)]) (K := fun x h' => x = aUnit S ((xs (i + 1)).toInt) ((xs (i + 2)).toInt) ((xs (i + 3)).toInt) ((xs (i + 4)).toInt) ∧ IR S h') C.swap dL_law_1006 rfl (shR0 hR) (rN0 hR) (by decide) rfl wm_L_109 wn_X10_unit wl_X10_unit wi_X10 wc_X10_unit wy_X10_unit (by decide) (Nat.le_of_ble_eq_true rfl) (by decide) (by omega) (zokS_cons.mpr ⟨zok_i (i32_r _), zokS_cons.mpr ⟨zok_i (i32_r _), zokS_cons.mpr ⟨zok_i (i32_r _), zokS_cons.mpr ⟨zok_i (i32_r _), zokS_nil⟩⟩⟩⟩) (R_unit (d := 134) hR iR (fun h' j => ⟨rfl, j⟩)) ?_)
  rintro x hr' rx2 ⟨rfl, jR⟩
  refine lG.swap C.swap ?_
  refine l_same C dL_law_1009 (tgt := 1643) (by decide) ?_
  exact lG.up (by omega) (k _ _ _ _ jC jR bS)
theorem lw_c19 (C : lwC X Lx xs E1 E2) (hE : isC E1) (hR : isR E2) (hi : i + 6 < Lx) (iC : IC S hc) (iR : IR S hr) (bS : BdR S) (k : ∀ S' hc' hr' o', IC S' hc' → IR S' hr' → BdR S' → lG X (i + 1) E1 E2 1643 (lwV X E1 E2 i) [] hc' hr' o') : lG X i E1 E2 1014 (lwV X E1 E2 i) [] hc hr o := by
  have hL := C.2.1
  refine l_aload (q := 1) C rfl rfl dL_law_1014 ?_
  refine l_arg (kn := 1) C rfl rfl (by decide) (by omega) dL_law_1015 dL_law_1016 dL_law_1018 dL_law_1019 dL_law_1020 ?_
  refine l_arg (kn := 2) C rfl rfl (by decide) (by omega) dL_law_1021 dL_law_1022 dL_law_1024 dL_law_1025 dL_law_1026 ?_
  refine l_callI (d := 10) (as := [zI ((xs (i + 1)).toInt), zI ((xs (i + 2)).toInt)]) (K := fun x h' => x = aOdds S ((xs (i + 1)).toInt) ((xs (i + 2)).toInt) ∧ IC S h') C dL_law_1027 rfl (shC0 hE) (cN0 hE) (by decide) rfl wm_L_110 wn_X9_odds wl_X9_odds wi_X9 wc_X9_odds wy_X9_odds (by decide) (Nat.le_of_ble_eq_true rfl) (by decide) (by omega) (zokS_cons.mpr ⟨zok_i (i32_r _), zokS_cons.mpr ⟨zok_i (i32_r _), zokS_nil⟩⟩) (C_odds (d := 4) hE iC (fun h' j => ⟨rfl, j⟩)) ?_
  rintro x hc' rx ⟨rfl, jC⟩
  refine l_aload (q := 2) C rfl rfl dL_law_1030 ?_
  refine l_arg (kn := 1) C rfl rfl (by decide) (by omega) dL_law_1031 dL_law_1032 dL_law_1034 dL_law_1035 dL_law_1036 ?_
  refine l_arg (kn := 2) C rfl rfl (by decide) (by omega) dL_law_1037 dL_law_1038 dL_law_1040 dL_law_1041 dL_law_1042 ?_
  refine lG.swap C (l_callI (d := 140) (as := [zI ((xs (i + 1)).toInt), zI ((xs (i + 2)).toInt)]) (K := fun x h' => x = aOdds S ((xs (i + 1)).toInt) ((xs (i + 2)).toInt) ∧ IR S h') C.swap dL_law_1043 rfl (shR0 hR) (rN0 hR) (by decide) rfl wm_L_113 wn_X10_odds wl_X10_odds wi_X10 wc_X10_odds wy_X10_odds (by decide) (Nat.le_of_ble_eq_true rfl) (by decide) (by omega) (zokS_cons.mpr ⟨zok_i (i32_r _), zokS_cons.mpr ⟨zok_i (i32_r _), zokS_nil⟩⟩) (R_odds (d := 134) hR iR (fun h' j => ⟨rfl, j⟩)) ?_)
  rintro x hr' rx2 ⟨rfl, jR⟩
  refine lG.swap C.swap ?_
  refine l_same C dL_law_1046 (tgt := 1643) (by decide) ?_
  exact lG.up (by omega) (k _ _ _ _ jC jR bS)
theorem lw_c20 (C : lwC X Lx xs E1 E2) (hE : isC E1) (hR : isR E2) (hi : i + 6 < Lx) (iC : IC S hc) (iR : IR S hr) (bS : BdR S) (k : ∀ S' hc' hr' o', IC S' hc' → IR S' hr' → BdR S' → lG X (i + 1) E1 E2 1643 (lwV X E1 E2 i) [] hc' hr' o') : lG X i E1 E2 1051 (lwV X E1 E2 i) [] hc hr o := by
  have hL := C.2.1
  refine l_aload (q := 1) C rfl rfl dL_law_1051 ?_
  refine l_arg (kn := 1) C rfl rfl (by decide) (by omega) dL_law_1052 dL_law_1053 dL_law_1055 dL_law_1056 dL_law_1057 ?_
  refine l_arg (kn := 2) C rfl rfl (by decide) (by omega) dL_law_1058 dL_law_1059 dL_law_1061 dL_law_1062 dL_law_1063 ?_
  refine l_arg (kn := 3) C rfl rfl (by decide) (by omega) dL_law_1064 dL_law_1065 dL_law_1067 dL_law_1068 dL_law_1069 ?_
  refine l_arg (kn := 4) C rfl rfl (by decide) (by omega) dL_law_1070 dL_law_1071 dL_law_1073 dL_law_1074 dL_law_1075 ?_
  refine l_arg (kn := 5) C rfl rfl (by decide) (by omega) dL_law_1076 dL_law_1077 dL_law_1079 dL_law_1080 dL_law_1081 ?_
  refine l_argB (kn := 6) C rfl rfl (by decide) (by omega) dL_law_1082 dL_law_1083 dL_law_1085 dL_law_1087 dL_law_1088 ?_
  refine l_callI (d := 10) (as := [zI ((xs (i + 1)).toInt), zI ((xs (i + 2)).toInt), zI ((xs (i + 3)).toInt), zI ((xs (i + 4)).toInt), zI ((xs (i + 5)).toInt), zI ((xs (i + 6)).toInt)]) (K := fun x h' => x = aAny S ((xs (i + 1)).toInt) ((xs (i + 2)).toInt) ((xs (i + 3)).toInt) ((xs (i + 4)).toInt) ((xs (i + 5)).toInt) ((xs (i + 6)).toInt) ∧ IC S h') C dL_law_1089 rfl (shC0 hE) (cN0 hE) (by decide) rfl wm_L_114 wn_X9_any wl_X9_any wi_X9 wc_X9_any wy_X9_any (by decide) (Nat.le_of_ble_eq_true rfl) (by decide) (by omega) (zokS_cons.mpr ⟨zok_i (i32_r _), zokS_cons.mpr ⟨zok_i (i32_r _), zokS_cons.mpr ⟨zok_i (i32_r _), zokS_cons.mpr ⟨zok_i (i32_r _), zokS_cons.mpr ⟨zok_i (i32_r _), zokS_cons.mpr ⟨zok_i (i32_r _), zokS_nil⟩⟩⟩⟩⟩⟩) (C_any (d := 4) hE iC (i32_r _).2 (fun h' j => ⟨rfl, j⟩)) ?_
  rintro x hc' rx ⟨rfl, jC⟩
  refine l_aload (q := 2) C rfl rfl dL_law_1092 ?_
  refine l_arg (kn := 1) C rfl rfl (by decide) (by omega) dL_law_1093 dL_law_1094 dL_law_1096 dL_law_1097 dL_law_1098 ?_
  refine l_arg (kn := 2) C rfl rfl (by decide) (by omega) dL_law_1099 dL_law_1100 dL_law_1102 dL_law_1103 dL_law_1104 ?_
  refine l_arg (kn := 3) C rfl rfl (by decide) (by omega) dL_law_1105 dL_law_1106 dL_law_1108 dL_law_1109 dL_law_1110 ?_
  refine l_arg (kn := 4) C rfl rfl (by decide) (by omega) dL_law_1111 dL_law_1112 dL_law_1114 dL_law_1115 dL_law_1116 ?_
  refine l_arg (kn := 5) C rfl rfl (by decide) (by omega) dL_law_1117 dL_law_1118 dL_law_1120 dL_law_1121 dL_law_1122 ?_
  refine l_argB (kn := 6) C rfl rfl (by decide) (by omega) dL_law_1123 dL_law_1124 dL_law_1126 dL_law_1128 dL_law_1129 ?_
  refine lG.swap C (l_callI (d := 140) (as := [zI ((xs (i + 1)).toInt), zI ((xs (i + 2)).toInt), zI ((xs (i + 3)).toInt), zI ((xs (i + 4)).toInt), zI ((xs (i + 5)).toInt), zI ((xs (i + 6)).toInt)]) (K := fun x h' => x = aAny S ((xs (i + 1)).toInt) ((xs (i + 2)).toInt) ((xs (i + 3)).toInt) ((xs (i + 4)).toInt) ((xs (i + 5)).toInt) ((xs (i + 6)).toInt) ∧ IR S h') C.swap dL_law_1130 rfl (shR0 hR) (rN0 hR) (by decide) rfl wm_L_118 wn_X10_any wl_X10_any wi_X10 wc_X10_any wy_X10_any (by decide) (Nat.le_of_ble_eq_true rfl) (by decide) (by omega) (zokS_cons.mpr ⟨zok_i (i32_r _), zokS_cons.mpr ⟨zok_i (i32_r _), zokS_cons.mpr ⟨zok_i (i32_r _), zokS_cons.mpr ⟨zok_i (i32_r _), zokS_cons.mpr ⟨zok_i (i32_r _), zokS_cons.mpr ⟨zok_i (i32_r _), zokS_nil⟩⟩⟩⟩⟩⟩) (R_any (d := 134) hR iR (i32_r _).2 (fun h' j => ⟨rfl, j⟩)) ?_)
  rintro x hr' rx2 ⟨rfl, jR⟩
  refine lG.swap C.swap ?_
  refine l_same C dL_law_1133 (tgt := 1643) (by decide) ?_
  exact lG.up (by omega) (k _ _ _ _ jC jR bS)
theorem lw_c21 (C : lwC X Lx xs E1 E2) (hE : isC E1) (hR : isR E2) (hi : i + 6 < Lx) (iC : IC S hc) (iR : IR S hr) (bS : BdR S) (k : ∀ S' hc' hr' o', IC S' hc' → IR S' hr' → BdR S' → lG X (i + 1) E1 E2 1643 (lwV X E1 E2 i) [] hc' hr' o') : lG X i E1 E2 1138 (lwV X E1 E2 i) [] hc hr o := by
  have hL := C.2.1
  refine l_aload (q := 1) C rfl rfl dL_law_1138 ?_
  refine l_arg (kn := 1) C rfl rfl (by decide) (by omega) dL_law_1139 dL_law_1140 dL_law_1142 dL_law_1143 dL_law_1144 ?_
  refine l_arg (kn := 2) C rfl rfl (by decide) (by omega) dL_law_1145 dL_law_1146 dL_law_1148 dL_law_1149 dL_law_1150 ?_
  refine l_callI (d := 10) (as := [zI ((xs (i + 1)).toInt), zI ((xs (i + 2)).toInt)]) (K := fun x h' => x = aChosen S ((xs (i + 1)).toInt) ((xs (i + 2)).toInt) ∧ IC S h') C dL_law_1151 rfl (shC0 hE) (cN0 hE) (by decide) rfl wm_L_119 wn_X9_chosen wl_X9_chosen wi_X9 wc_X9_chosen wy_X9_chosen (by decide) (Nat.le_of_ble_eq_true rfl) (by decide) (by omega) (zokS_cons.mpr ⟨zok_i (i32_r _), zokS_cons.mpr ⟨zok_i (i32_r _), zokS_nil⟩⟩) (C_chosen (d := 3) hE iC (fun h' j => ⟨rfl, j⟩)) ?_
  rintro x hc' rx ⟨rfl, jC⟩
  refine l_aload (q := 2) C rfl rfl dL_law_1154 ?_
  refine l_arg (kn := 1) C rfl rfl (by decide) (by omega) dL_law_1155 dL_law_1156 dL_law_1158 dL_law_1159 dL_law_1160 ?_
  refine l_arg (kn := 2) C rfl rfl (by decide) (by omega) dL_law_1161 dL_law_1162 dL_law_1164 dL_law_1165 dL_law_1166 ?_
  refine lG.swap C (l_callI (d := 140) (as := [zI ((xs (i + 1)).toInt), zI ((xs (i + 2)).toInt)]) (K := fun x h' => x = aChosen S ((xs (i + 1)).toInt) ((xs (i + 2)).toInt) ∧ IR S h') C.swap dL_law_1167 rfl (shR0 hR) (rN0 hR) (by decide) rfl wm_L_122 wn_X10_chosen wl_X10_chosen wi_X10 wc_X10_chosen wy_X10_chosen (by decide) (Nat.le_of_ble_eq_true rfl) (by decide) (by omega) (zokS_cons.mpr ⟨zok_i (i32_r _), zokS_cons.mpr ⟨zok_i (i32_r _), zokS_nil⟩⟩) (R_chosen (d := 134) hR iR (fun h' j => ⟨rfl, j⟩)) ?_)
  rintro x hr' rx2 ⟨rfl, jR⟩
  refine lG.swap C.swap ?_
  refine l_same C dL_law_1170 (tgt := 1643) (by decide) ?_
  exact lG.up (by omega) (k _ _ _ _ jC jR bS)
theorem lw_c22 (C : lwC X Lx xs E1 E2) (hE : isC E1) (hR : isR E2) (hi : i + 6 < Lx) (iC : IC S hc) (iR : IR S hr) (bS : BdR S) (k : ∀ S' hc' hr' o', IC S' hc' → IR S' hr' → BdR S' → lG X (i + 1) E1 E2 1643 (lwV X E1 E2 i) [] hc' hr' o') : lG X i E1 E2 1175 (lwV X E1 E2 i) [] hc hr o := by
  have hL := C.2.1
  refine l_aload (q := 1) C rfl rfl dL_law_1175 ?_
  refine l_arg (kn := 1) C rfl rfl (by decide) (by omega) dL_law_1176 dL_law_1177 dL_law_1179 dL_law_1180 dL_law_1181 ?_
  refine l_arg (kn := 2) C rfl rfl (by decide) (by omega) dL_law_1182 dL_law_1183 dL_law_1185 dL_law_1186 dL_law_1187 ?_
  refine l_arg (kn := 3) C rfl rfl (by decide) (by omega) dL_law_1188 dL_law_1189 dL_law_1191 dL_law_1192 dL_law_1193 ?_
  refine l_callJ (d := 10) (as := [zI ((xs (i + 1)).toInt), zI ((xs (i + 2)).toInt), zI ((xs (i + 3)).toInt)]) (K := fun x h' => x = aTells S ((xs (i + 1)).toInt) ((xs (i + 2)).toInt) ((xs (i + 3)).toInt) ∧ IC S h') C dL_law_1194 rfl (shC0 hE) (cN0 hE) (by decide) rfl wm_L_123 wn_X9_tells wl_X9_tells wi_X9 wc_X9_tells wy_X9_tells (by decide) (Nat.le_of_ble_eq_true rfl) (by decide) (by omega) (zokS_cons.mpr ⟨zok_i (i32_r _), zokS_cons.mpr ⟨zok_i (i32_r _), zokS_cons.mpr ⟨zok_i (i32_r _), zokS_nil⟩⟩⟩) (C_tells (d := 4) hE iC (fun h' j => ⟨rfl, j⟩)) ?_
  rintro x hc' rx ⟨rfl, jC⟩
  refine l_aload (q := 2) C rfl rfl dL_law_1197 ?_
  refine l_arg (kn := 1) C rfl rfl (by decide) (by omega) dL_law_1198 dL_law_1199 dL_law_1201 dL_law_1202 dL_law_1203 ?_
  refine l_arg (kn := 2) C rfl rfl (by decide) (by omega) dL_law_1204 dL_law_1205 dL_law_1207 dL_law_1208 dL_law_1209 ?_
  refine l_arg (kn := 3) C rfl rfl (by decide) (by omega) dL_law_1210 dL_law_1211 dL_law_1213 dL_law_1214 dL_law_1215 ?_
  refine lG.swap C (l_callJ (d := 140) (as := [zI ((xs (i + 1)).toInt), zI ((xs (i + 2)).toInt), zI ((xs (i + 3)).toInt)]) (K := fun x h' => x = aTells S ((xs (i + 1)).toInt) ((xs (i + 2)).toInt) ((xs (i + 3)).toInt) ∧ IR S h') C.swap dL_law_1216 rfl (shR0 hR) (rN0 hR) (by decide) rfl wm_L_127 wn_X10_tells wl_X10_tells wi_X10 wc_X10_tells wy_X10_tells (by decide) (Nat.le_of_ble_eq_true rfl) (by decide) (by omega) (zokS_cons.mpr ⟨zok_i (i32_r _), zokS_cons.mpr ⟨zok_i (i32_r _), zokS_cons.mpr ⟨zok_i (i32_r _), zokS_nil⟩⟩⟩) (R_tells (d := 134) hR iR (fun h' j => ⟨rfl, j⟩)) ?_)
  rintro x hr' rx2 ⟨rfl, jR⟩
  refine lG.swap C.swap ?_
  refine l_sameJ C dL_law_1219 dL_law_1220 (tgt := 1643) (by decide) ?_
  exact lG.up (by omega) (k _ _ _ _ jC jR bS)
theorem lw_c23 (C : lwC X Lx xs E1 E2) (hE : isC E1) (hR : isR E2) (hi : i + 6 < Lx) (iC : IC S hc) (iR : IR S hr) (bS : BdR S) (k : ∀ S' hc' hr' o', IC S' hc' → IR S' hr' → BdR S' → lG X (i + 1) E1 E2 1643 (lwV X E1 E2 i) [] hc' hr' o') : lG X i E1 E2 1225 (lwV X E1 E2 i) [] hc hr o := by
  have hL := C.2.1
  refine l_aload (q := 1) C rfl rfl dL_law_1225 ?_
  refine l_arg (kn := 1) C rfl rfl (by decide) (by omega) dL_law_1226 dL_law_1227 dL_law_1229 dL_law_1230 dL_law_1231 ?_
  refine l_arg (kn := 2) C rfl rfl (by decide) (by omega) dL_law_1232 dL_law_1233 dL_law_1235 dL_law_1236 dL_law_1237 ?_
  refine l_callI (d := 10) (as := [zI ((xs (i + 1)).toInt), zI ((xs (i + 2)).toInt)]) (K := fun x h' => x = aHump S ((xs (i + 1)).toInt) ((xs (i + 2)).toInt) ∧ IC S h') C dL_law_1238 rfl (shC0 hE) (cN0 hE) (by decide) rfl wm_L_128 wn_X9_hump wl_X9_hump wi_X9 wc_X9_hump wy_X9_hump (by decide) (Nat.le_of_ble_eq_true rfl) (by decide) (by omega) (zokS_cons.mpr ⟨zok_i (i32_r _), zokS_cons.mpr ⟨zok_i (i32_r _), zokS_nil⟩⟩) (C_hump (d := 4) hE iC (fun h' j => ⟨rfl, j⟩)) ?_
  rintro x hc' rx ⟨rfl, jC⟩
  refine l_aload (q := 2) C rfl rfl dL_law_1241 ?_
  refine l_arg (kn := 1) C rfl rfl (by decide) (by omega) dL_law_1242 dL_law_1243 dL_law_1245 dL_law_1246 dL_law_1247 ?_
  refine l_arg (kn := 2) C rfl rfl (by decide) (by omega) dL_law_1248 dL_law_1249 dL_law_1251 dL_law_1252 dL_law_1253 ?_
  refine lG.swap C (l_callI (d := 140) (as := [zI ((xs (i + 1)).toInt), zI ((xs (i + 2)).toInt)]) (K := fun x h' => x = aHump S ((xs (i + 1)).toInt) ((xs (i + 2)).toInt) ∧ IR S h') C.swap dL_law_1254 rfl (shR0 hR) (rN0 hR) (by decide) rfl wm_L_131 wn_X10_hump wl_X10_hump wi_X10 wc_X10_hump wy_X10_hump (by decide) (Nat.le_of_ble_eq_true rfl) (by decide) (by omega) (zokS_cons.mpr ⟨zok_i (i32_r _), zokS_cons.mpr ⟨zok_i (i32_r _), zokS_nil⟩⟩) (R_hump (d := 134) hR iR (fun h' j => ⟨rfl, j⟩)) ?_)
  rintro x hr' rx2 ⟨rfl, jR⟩
  refine lG.swap C.swap ?_
  refine l_same C dL_law_1257 (tgt := 1643) (by decide) ?_
  exact lG.up (by omega) (k _ _ _ _ jC jR bS)
theorem lw_c24 (C : lwC X Lx xs E1 E2) (hE : isC E1) (hR : isR E2) (hi : i + 6 < Lx) (iC : IC S hc) (iR : IR S hr) (bS : BdR S) (k : ∀ S' hc' hr' o', IC S' hc' → IR S' hr' → BdR S' → lG X (i + 1) E1 E2 1643 (lwV X E1 E2 i) [] hc' hr' o') : lG X i E1 E2 1262 (lwV X E1 E2 i) [] hc hr o := by
  have hL := C.2.1
  refine l_aload (q := 1) C rfl rfl dL_law_1262 ?_
  refine l_arg (kn := 1) C rfl rfl (by decide) (by omega) dL_law_1263 dL_law_1264 dL_law_1266 dL_law_1267 dL_law_1268 ?_
  refine l_arg (kn := 2) C rfl rfl (by decide) (by omega) dL_law_1269 dL_law_1270 dL_law_1272 dL_law_1273 dL_law_1274 ?_
  refine l_callI (d := 10) (as := [zI ((xs (i + 1)).toInt), zI ((xs (i + 2)).toInt)]) (K := fun x h' => x = aWander S ((xs (i + 1)).toInt) ((xs (i + 2)).toInt) ∧ IC S h') C dL_law_1275 rfl (shC0 hE) (cN0 hE) (by decide) rfl wm_L_132 wn_X9_wander wl_X9_wander wi_X9 wc_X9_wander wy_X9_wander (by decide) (Nat.le_of_ble_eq_true rfl) (by decide) (by omega) (zokS_cons.mpr ⟨zok_i (i32_r _), zokS_cons.mpr ⟨zok_i (i32_r _), zokS_nil⟩⟩) (C_wander (d := 4) hE iC (fun h' j => ⟨rfl, j⟩)) ?_
  rintro x hc' rx ⟨rfl, jC⟩
  refine l_aload (q := 2) C rfl rfl dL_law_1278 ?_
  refine l_arg (kn := 1) C rfl rfl (by decide) (by omega) dL_law_1279 dL_law_1280 dL_law_1282 dL_law_1283 dL_law_1284 ?_
  refine l_arg (kn := 2) C rfl rfl (by decide) (by omega) dL_law_1285 dL_law_1286 dL_law_1288 dL_law_1289 dL_law_1290 ?_
  refine lG.swap C (l_callI (d := 140) (as := [zI ((xs (i + 1)).toInt), zI ((xs (i + 2)).toInt)]) (K := fun x h' => x = aWander S ((xs (i + 1)).toInt) ((xs (i + 2)).toInt) ∧ IR S h') C.swap dL_law_1291 rfl (shR0 hR) (rN0 hR) (by decide) rfl wm_L_135 wn_X10_wander wl_X10_wander wi_X10 wc_X10_wander wy_X10_wander (by decide) (Nat.le_of_ble_eq_true rfl) (by decide) (by omega) (zokS_cons.mpr ⟨zok_i (i32_r _), zokS_cons.mpr ⟨zok_i (i32_r _), zokS_nil⟩⟩) (R_wander (d := 134) hR iR (fun h' j => ⟨rfl, j⟩)) ?_)
  rintro x hr' rx2 ⟨rfl, jR⟩
  refine lG.swap C.swap ?_
  refine l_same C dL_law_1294 (tgt := 1643) (by decide) ?_
  exact lG.up (by omega) (k _ _ _ _ jC jR bS)
theorem lw_c25 (C : lwC X Lx xs E1 E2) (hE : isC E1) (hR : isR E2) (hi : i + 6 < Lx) (iC : IC S hc) (iR : IR S hr) (bS : BdR S) (k : ∀ S' hc' hr' o', IC S' hc' → IR S' hr' → BdR S' → lG X (i + 1) E1 E2 1643 (lwV X E1 E2 i) [] hc' hr' o') : lG X i E1 E2 1299 (lwV X E1 E2 i) [] hc hr o := by
  have hL := C.2.1
  refine l_aload (q := 1) C rfl rfl dL_law_1299 ?_
  refine l_arg (kn := 1) C rfl rfl (by decide) (by omega) dL_law_1300 dL_law_1301 dL_law_1303 dL_law_1304 dL_law_1305 ?_
  refine l_arg (kn := 2) C rfl rfl (by decide) (by omega) dL_law_1306 dL_law_1307 dL_law_1309 dL_law_1310 dL_law_1311 ?_
  refine l_arg (kn := 3) C rfl rfl (by decide) (by omega) dL_law_1312 dL_law_1313 dL_law_1315 dL_law_1316 dL_law_1317 ?_
  refine l_arg (kn := 4) C rfl rfl (by decide) (by omega) dL_law_1318 dL_law_1319 dL_law_1321 dL_law_1322 dL_law_1323 ?_
  refine l_callI (d := 10) (as := [zI ((xs (i + 1)).toInt), zI ((xs (i + 2)).toInt), zI ((xs (i + 3)).toInt), zI ((xs (i + 4)).toInt)]) (K := fun x h' => x = aLand S ((xs (i + 1)).toInt) ((xs (i + 2)).toInt) ((xs (i + 3)).toInt) ((xs (i + 4)).toInt) ∧ IC S h') C dL_law_1324 rfl (shC0 hE) (cN0 hE) (by decide) rfl wm_L_136 wn_X9_land wl_X9_land wi_X9 wc_X9_land wy_X9_land (by decide) (Nat.le_of_ble_eq_true rfl) (by decide) (by omega) (zokS_cons.mpr ⟨zok_i (i32_r _), zokS_cons.mpr ⟨zok_i (i32_r _), zokS_cons.mpr ⟨zok_i (i32_r _), zokS_cons.mpr ⟨zok_i (i32_r _), zokS_nil⟩⟩⟩⟩) (C_land (d := 4) hE iC (fun h' j => ⟨rfl, j⟩)) ?_
  rintro x hc' rx ⟨rfl, jC⟩
  refine l_aload (q := 2) C rfl rfl dL_law_1327 ?_
  refine l_arg (kn := 1) C rfl rfl (by decide) (by omega) dL_law_1328 dL_law_1329 dL_law_1331 dL_law_1332 dL_law_1333 ?_
  refine l_arg (kn := 2) C rfl rfl (by decide) (by omega) dL_law_1334 dL_law_1335 dL_law_1337 dL_law_1338 dL_law_1339 ?_
  refine l_arg (kn := 3) C rfl rfl (by decide) (by omega) dL_law_1340 dL_law_1341 dL_law_1343 dL_law_1344 dL_law_1345 ?_
  refine l_arg (kn := 4) C rfl rfl (by decide) (by omega) dL_law_1346 dL_law_1347 dL_law_1349 dL_law_1350 dL_law_1351 ?_
  refine lG.swap C (l_callI (d := 140) (as := [zI ((xs (i + 1)).toInt), zI ((xs (i + 2)).toInt), zI ((xs (i + 3)).toInt), zI ((xs (i + 4)).toInt)]) (K := fun x h' => x = aLand S ((xs (i + 1)).toInt) ((xs (i + 2)).toInt) ((xs (i + 3)).toInt) ((xs (i + 4)).toInt) ∧ IR S h') C.swap dL_law_1352 rfl (shR0 hR) (rN0 hR) (by decide) rfl wm_L_139 wn_X10_land wl_X10_land wi_X10 wc_X10_land wy_X10_land (by decide) (Nat.le_of_ble_eq_true rfl) (by decide) (by omega) (zokS_cons.mpr ⟨zok_i (i32_r _), zokS_cons.mpr ⟨zok_i (i32_r _), zokS_cons.mpr ⟨zok_i (i32_r _), zokS_cons.mpr ⟨zok_i (i32_r _), zokS_nil⟩⟩⟩⟩) (R_land (d := 134) hR iR (fun h' j => ⟨rfl, j⟩)) ?_)
  rintro x hr' rx2 ⟨rfl, jR⟩
  refine lG.swap C.swap ?_
  refine l_same C dL_law_1355 (tgt := 1643) (by decide) ?_
  exact lG.up (by omega) (k _ _ _ _ jC jR bS)
theorem lw_c26 (C : lwC X Lx xs E1 E2) (hE : isC E1) (hR : isR E2) (hi : i + 6 < Lx) (iC : IC S hc) (iR : IR S hr) (bS : BdR S) (k : ∀ S' hc' hr' o', IC S' hc' → IR S' hr' → BdR S' → lG X (i + 1) E1 E2 1643 (lwV X E1 E2 i) [] hc' hr' o') : lG X i E1 E2 1360 (lwV X E1 E2 i) [] hc hr o := by
  have hL := C.2.1
  refine l_aload (q := 1) C rfl rfl dL_law_1360 ?_
  refine l_arg (kn := 1) C rfl rfl (by decide) (by omega) dL_law_1361 dL_law_1362 dL_law_1364 dL_law_1365 dL_law_1366 ?_
  refine l_arg (kn := 2) C rfl rfl (by decide) (by omega) dL_law_1367 dL_law_1368 dL_law_1370 dL_law_1371 dL_law_1372 ?_
  refine l_arg (kn := 3) C rfl rfl (by decide) (by omega) dL_law_1373 dL_law_1374 dL_law_1376 dL_law_1377 dL_law_1378 ?_
  refine l_callI (d := 10) (as := [zI ((xs (i + 1)).toInt), zI ((xs (i + 2)).toInt), zI ((xs (i + 3)).toInt)]) (K := fun x h' => x = aApart S ((xs (i + 1)).toInt) ((xs (i + 2)).toInt) ((xs (i + 3)).toInt) ∧ IC S h') C dL_law_1379 rfl (shC0 hE) (cN0 hE) (by decide) rfl wm_L_140 wn_X9_apart wl_X9_apart wi_X9 wc_X9_apart wy_X9_apart (by decide) (Nat.le_of_ble_eq_true rfl) (by decide) (by omega) (zokS_cons.mpr ⟨zok_i (i32_r _), zokS_cons.mpr ⟨zok_i (i32_r _), zokS_cons.mpr ⟨zok_i (i32_r _), zokS_nil⟩⟩⟩) (C_apart (d := 4) hE iC (fun h' j => ⟨rfl, j⟩)) ?_
  rintro x hc' rx ⟨rfl, jC⟩
  refine l_aload (q := 2) C rfl rfl dL_law_1382 ?_
  refine l_arg (kn := 1) C rfl rfl (by decide) (by omega) dL_law_1383 dL_law_1384 dL_law_1386 dL_law_1387 dL_law_1388 ?_
  refine l_arg (kn := 2) C rfl rfl (by decide) (by omega) dL_law_1389 dL_law_1390 dL_law_1392 dL_law_1393 dL_law_1394 ?_
  refine l_arg (kn := 3) C rfl rfl (by decide) (by omega) dL_law_1395 dL_law_1396 dL_law_1398 dL_law_1399 dL_law_1400 ?_
  refine lG.swap C (l_callI (d := 140) (as := [zI ((xs (i + 1)).toInt), zI ((xs (i + 2)).toInt), zI ((xs (i + 3)).toInt)]) (K := fun x h' => x = aApart S ((xs (i + 1)).toInt) ((xs (i + 2)).toInt) ((xs (i + 3)).toInt) ∧ IR S h') C.swap dL_law_1401 rfl (shR0 hR) (rN0 hR) (by decide) rfl wm_L_143 wn_X10_apart wl_X10_apart wi_X10 wc_X10_apart wy_X10_apart (by decide) (Nat.le_of_ble_eq_true rfl) (by decide) (by omega) (zokS_cons.mpr ⟨zok_i (i32_r _), zokS_cons.mpr ⟨zok_i (i32_r _), zokS_cons.mpr ⟨zok_i (i32_r _), zokS_nil⟩⟩⟩) (R_apart (d := 134) hR iR (fun h' j => ⟨rfl, j⟩)) ?_)
  rintro x hr' rx2 ⟨rfl, jR⟩
  refine lG.swap C.swap ?_
  refine l_same C dL_law_1404 (tgt := 1643) (by decide) ?_
  exact lG.up (by omega) (k _ _ _ _ jC jR bS)
theorem lw_c27 (C : lwC X Lx xs E1 E2) (hE : isC E1) (hR : isR E2) (hi : i + 6 < Lx) (iC : IC S hc) (iR : IR S hr) (bS : BdR S) (k : ∀ S' hc' hr' o', IC S' hc' → IR S' hr' → BdR S' → lG X (i + 1) E1 E2 1643 (lwV X E1 E2 i) [] hc' hr' o') : lG X i E1 E2 1409 (lwV X E1 E2 i) [] hc hr o := by
  have hL := C.2.1
  refine l_aload (q := 1) C rfl rfl dL_law_1409 ?_
  refine l_arg (kn := 1) C rfl rfl (by decide) (by omega) dL_law_1410 dL_law_1411 dL_law_1413 dL_law_1414 dL_law_1415 ?_
  refine l_arg (kn := 2) C rfl rfl (by decide) (by omega) dL_law_1416 dL_law_1417 dL_law_1419 dL_law_1420 dL_law_1421 ?_
  refine l_arg (kn := 3) C rfl rfl (by decide) (by omega) dL_law_1422 dL_law_1423 dL_law_1425 dL_law_1426 dL_law_1427 ?_
  refine l_callI (d := 10) (as := [zI ((xs (i + 1)).toInt), zI ((xs (i + 2)).toInt), zI ((xs (i + 3)).toInt)]) (K := fun x h' => x = aSort S ((xs (i + 1)).toInt) ((xs (i + 2)).toInt) ((xs (i + 3)).toInt) ∧ IC S h') C dL_law_1428 rfl (shC0 hE) (cN0 hE) (by decide) rfl wm_L_144 wn_X9_sort wl_X9_sort wi_X9 wc_X9_sort wy_X9_sort (by decide) (Nat.le_of_ble_eq_true rfl) (by decide) (by omega) (zokS_cons.mpr ⟨zok_i (i32_r _), zokS_cons.mpr ⟨zok_i (i32_r _), zokS_cons.mpr ⟨zok_i (i32_r _), zokS_nil⟩⟩⟩) (C_sort (d := 4) hE iC (fun h' j => ⟨rfl, j⟩)) ?_
  rintro x hc' rx ⟨rfl, jC⟩
  refine l_aload (q := 2) C rfl rfl dL_law_1431 ?_
  refine l_arg (kn := 1) C rfl rfl (by decide) (by omega) dL_law_1432 dL_law_1433 dL_law_1435 dL_law_1436 dL_law_1437 ?_
  refine l_arg (kn := 2) C rfl rfl (by decide) (by omega) dL_law_1438 dL_law_1439 dL_law_1441 dL_law_1442 dL_law_1443 ?_
  refine l_arg (kn := 3) C rfl rfl (by decide) (by omega) dL_law_1444 dL_law_1445 dL_law_1447 dL_law_1448 dL_law_1449 ?_
  refine lG.swap C (l_callI (d := 140) (as := [zI ((xs (i + 1)).toInt), zI ((xs (i + 2)).toInt), zI ((xs (i + 3)).toInt)]) (K := fun x h' => x = aSort S ((xs (i + 1)).toInt) ((xs (i + 2)).toInt) ((xs (i + 3)).toInt) ∧ IR S h') C.swap dL_law_1450 rfl (shR0 hR) (rN0 hR) (by decide) rfl wm_L_147 wn_X10_sort wl_X10_sort wi_X10 wc_X10_sort wy_X10_sort (by decide) (Nat.le_of_ble_eq_true rfl) (by decide) (by omega) (zokS_cons.mpr ⟨zok_i (i32_r _), zokS_cons.mpr ⟨zok_i (i32_r _), zokS_cons.mpr ⟨zok_i (i32_r _), zokS_nil⟩⟩⟩) (R_sort (d := 134) hR iR (fun h' j => ⟨rfl, j⟩)) ?_)
  rintro x hr' rx2 ⟨rfl, jR⟩
  refine lG.swap C.swap ?_
  refine l_same C dL_law_1453 (tgt := 1643) (by decide) ?_
  exact lG.up (by omega) (k _ _ _ _ jC jR bS)
theorem lw_c28 (C : lwC X Lx xs E1 E2) (hE : isC E1) (hR : isR E2) (hi : i + 6 < Lx) (iC : IC S hc) (iR : IR S hr) (bS : BdR S) (k : ∀ S' hc' hr' o', IC S' hc' → IR S' hr' → BdR S' → lG X (i + 1) E1 E2 1643 (lwV X E1 E2 i) [] hc' hr' o') : lG X i E1 E2 1458 (lwV X E1 E2 i) [] hc hr o := by
  have hL := C.2.1
  refine l_aload (q := 1) C rfl rfl dL_law_1458 ?_
  refine l_arg (kn := 1) C rfl rfl (by decide) (by omega) dL_law_1459 dL_law_1460 dL_law_1462 dL_law_1463 dL_law_1464 ?_
  refine l_arg (kn := 2) C rfl rfl (by decide) (by omega) dL_law_1465 dL_law_1466 dL_law_1468 dL_law_1469 dL_law_1470 ?_
  refine l_callI (d := 10) (as := [zI ((xs (i + 1)).toInt), zI ((xs (i + 2)).toInt)]) (K := fun x h' => x = aBlind S ((xs (i + 1)).toInt) ((xs (i + 2)).toInt) ∧ IC S h') C dL_law_1471 rfl (shC0 hE) (cN0 hE) (by decide) rfl wm_L_148 wn_X9_blind wl_X9_blind wi_X9 wc_X9_blind wy_X9_blind (by decide) (Nat.le_of_ble_eq_true rfl) (by decide) (by omega) (zokS_cons.mpr ⟨zok_i (i32_r _), zokS_cons.mpr ⟨zok_i (i32_r _), zokS_nil⟩⟩) (C_blind (d := 9) hE iC (fun h' j => ⟨rfl, j⟩)) ?_
  rintro x hc' rx ⟨rfl, jC⟩
  refine l_aload (q := 2) C rfl rfl dL_law_1474 ?_
  refine l_arg (kn := 1) C rfl rfl (by decide) (by omega) dL_law_1475 dL_law_1476 dL_law_1478 dL_law_1479 dL_law_1480 ?_
  refine l_arg (kn := 2) C rfl rfl (by decide) (by omega) dL_law_1481 dL_law_1482 dL_law_1484 dL_law_1485 dL_law_1486 ?_
  refine lG.swap C (l_callI (d := 140) (as := [zI ((xs (i + 1)).toInt), zI ((xs (i + 2)).toInt)]) (K := fun x h' => x = aBlind S ((xs (i + 1)).toInt) ((xs (i + 2)).toInt) ∧ IR S h') C.swap dL_law_1487 rfl (shR0 hR) (rN0 hR) (by decide) rfl wm_L_151 wn_X10_blind wl_X10_blind wi_X10 wc_X10_blind wy_X10_blind (by decide) (Nat.le_of_ble_eq_true rfl) (by decide) (by omega) (zokS_cons.mpr ⟨zok_i (i32_r _), zokS_cons.mpr ⟨zok_i (i32_r _), zokS_nil⟩⟩) (R_blind (d := 139) hR iR (fun h' j => ⟨rfl, j⟩)) ?_)
  rintro x hr' rx2 ⟨rfl, jR⟩
  refine lG.swap C.swap ?_
  refine l_same C dL_law_1490 (tgt := 1643) (by decide) ?_
  exact lG.up (by omega) (k _ _ _ _ jC jR bS)
theorem lw_c29 (C : lwC X Lx xs E1 E2) (hE : isC E1) (hR : isR E2) (hi : i + 6 < Lx) (iC : IC S hc) (iR : IR S hr) (bS : BdR S) (k : ∀ S' hc' hr' o', IC S' hc' → IR S' hr' → BdR S' → lG X (i + 1) E1 E2 1643 (lwV X E1 E2 i) [] hc' hr' o') : lG X i E1 E2 1495 (lwV X E1 E2 i) [] hc hr o := by
  have hL := C.2.1
  refine l_aload (q := 1) C rfl rfl dL_law_1495 ?_
  refine l_arg (kn := 1) C rfl rfl (by decide) (by omega) dL_law_1496 dL_law_1497 dL_law_1499 dL_law_1500 dL_law_1501 ?_
  refine l_arg (kn := 2) C rfl rfl (by decide) (by omega) dL_law_1502 dL_law_1503 dL_law_1505 dL_law_1506 dL_law_1507 ?_
  refine l_callI (d := 10) (as := [zI ((xs (i + 1)).toInt), zI ((xs (i + 2)).toInt)]) (K := fun x h' => x = aLean S ((xs (i + 1)).toInt) ((xs (i + 2)).toInt) ∧ IC S h') C dL_law_1508 rfl (shC0 hE) (cN0 hE) (by decide) rfl wm_L_152 wn_X9_lean wl_X9_lean wi_X9 wc_X9_lean wy_X9_lean (by decide) (Nat.le_of_ble_eq_true rfl) (by decide) (by omega) (zokS_cons.mpr ⟨zok_i (i32_r _), zokS_cons.mpr ⟨zok_i (i32_r _), zokS_nil⟩⟩) (C_lean (d := 5) hE iC (fun h' j => ⟨rfl, j⟩)) ?_
  rintro x hc' rx ⟨rfl, jC⟩
  refine l_aload (q := 2) C rfl rfl dL_law_1511 ?_
  refine l_arg (kn := 1) C rfl rfl (by decide) (by omega) dL_law_1512 dL_law_1513 dL_law_1515 dL_law_1516 dL_law_1517 ?_
  refine l_arg (kn := 2) C rfl rfl (by decide) (by omega) dL_law_1518 dL_law_1519 dL_law_1521 dL_law_1522 dL_law_1523 ?_
  refine lG.swap C (l_callI (d := 140) (as := [zI ((xs (i + 1)).toInt), zI ((xs (i + 2)).toInt)]) (K := fun x h' => x = aLean S ((xs (i + 1)).toInt) ((xs (i + 2)).toInt) ∧ IR S h') C.swap dL_law_1524 rfl (shR0 hR) (rN0 hR) (by decide) rfl wm_L_155 wn_X10_lean wl_X10_lean wi_X10 wc_X10_lean wy_X10_lean (by decide) (Nat.le_of_ble_eq_true rfl) (by decide) (by omega) (zokS_cons.mpr ⟨zok_i (i32_r _), zokS_cons.mpr ⟨zok_i (i32_r _), zokS_nil⟩⟩) (R_lean (d := 134) hR iR (fun h' j => ⟨rfl, j⟩)) ?_)
  rintro x hr' rx2 ⟨rfl, jR⟩
  refine lG.swap C.swap ?_
  refine l_same C dL_law_1527 (tgt := 1643) (by decide) ?_
  exact lG.up (by omega) (k _ _ _ _ jC jR bS)
theorem lw_c30 (C : lwC X Lx xs E1 E2) (hE : isC E1) (hR : isR E2) (hi : i + 6 < Lx) (iC : IC S hc) (iR : IR S hr) (bS : BdR S) (k : ∀ S' hc' hr' o', IC S' hc' → IR S' hr' → BdR S' → lG X (i + 1) E1 E2 1643 (lwV X E1 E2 i) [] hc' hr' o') : lG X i E1 E2 1532 (lwV X E1 E2 i) [] hc hr o := by
  have hL := C.2.1
  refine l_aload (q := 1) C rfl rfl dL_law_1532 ?_
  refine l_arg (kn := 1) C rfl rfl (by decide) (by omega) dL_law_1533 dL_law_1534 dL_law_1536 dL_law_1537 dL_law_1538 ?_
  refine l_arg (kn := 2) C rfl rfl (by decide) (by omega) dL_law_1539 dL_law_1540 dL_law_1542 dL_law_1543 dL_law_1544 ?_
  refine l_arg (kn := 3) C rfl rfl (by decide) (by omega) dL_law_1545 dL_law_1546 dL_law_1548 dL_law_1549 dL_law_1550 ?_
  refine l_arg (kn := 4) C rfl rfl (by decide) (by omega) dL_law_1551 dL_law_1552 dL_law_1554 dL_law_1555 dL_law_1556 ?_
  refine l_arg (kn := 5) C rfl rfl (by decide) (by omega) dL_law_1557 dL_law_1558 dL_law_1560 dL_law_1561 dL_law_1562 ?_
  refine l_callI (d := 10) (as := [zI ((xs (i + 1)).toInt), zI ((xs (i + 2)).toInt), zI ((xs (i + 3)).toInt), zI ((xs (i + 4)).toInt), zI ((xs (i + 5)).toInt)]) (K := fun x h' => x = aAhead S ((xs (i + 1)).toInt) ((xs (i + 2)).toInt) ((xs (i + 3)).toInt) ((xs (i + 4)).toInt) ((xs (i + 5)).toInt) ∧ IC S h') C dL_law_1563 rfl (shC0 hE) (cN0 hE) (by decide) rfl wm_L_156 wn_X9_ahead wl_X9_ahead wi_X9 wc_X9_ahead wy_X9_ahead (by decide) (Nat.le_of_ble_eq_true rfl) (by decide) (by omega) (zokS_cons.mpr ⟨zok_i (i32_r _), zokS_cons.mpr ⟨zok_i (i32_r _), zokS_cons.mpr ⟨zok_i (i32_r _), zokS_cons.mpr ⟨zok_i (i32_r _), zokS_cons.mpr ⟨zok_i (i32_r _), zokS_nil⟩⟩⟩⟩⟩) (C_ahead (d := 3) hE iC (fun h' j => ⟨rfl, j⟩)) ?_
  rintro x hc' rx ⟨rfl, jC⟩
  refine l_aload (q := 2) C rfl rfl dL_law_1566 ?_
  refine l_arg (kn := 1) C rfl rfl (by decide) (by omega) dL_law_1567 dL_law_1568 dL_law_1570 dL_law_1571 dL_law_1572 ?_
  refine l_arg (kn := 2) C rfl rfl (by decide) (by omega) dL_law_1573 dL_law_1574 dL_law_1576 dL_law_1577 dL_law_1578 ?_
  refine l_arg (kn := 3) C rfl rfl (by decide) (by omega) dL_law_1579 dL_law_1580 dL_law_1582 dL_law_1583 dL_law_1584 ?_
  refine l_arg (kn := 4) C rfl rfl (by decide) (by omega) dL_law_1585 dL_law_1586 dL_law_1588 dL_law_1589 dL_law_1590 ?_
  refine l_arg (kn := 5) C rfl rfl (by decide) (by omega) dL_law_1591 dL_law_1592 dL_law_1594 dL_law_1595 dL_law_1596 ?_
  refine lG.swap C (l_callI (d := 140) (as := [zI ((xs (i + 1)).toInt), zI ((xs (i + 2)).toInt), zI ((xs (i + 3)).toInt), zI ((xs (i + 4)).toInt), zI ((xs (i + 5)).toInt)]) (K := fun x h' => x = aAhead S ((xs (i + 1)).toInt) ((xs (i + 2)).toInt) ((xs (i + 3)).toInt) ((xs (i + 4)).toInt) ((xs (i + 5)).toInt) ∧ IR S h') C.swap dL_law_1597 rfl (shR0 hR) (rN0 hR) (by decide) rfl wm_L_159 wn_X10_ahead wl_X10_ahead wi_X10 wc_X10_ahead wy_X10_ahead (by decide) (Nat.le_of_ble_eq_true rfl) (by decide) (by omega) (zokS_cons.mpr ⟨zok_i (i32_r _), zokS_cons.mpr ⟨zok_i (i32_r _), zokS_cons.mpr ⟨zok_i (i32_r _), zokS_cons.mpr ⟨zok_i (i32_r _), zokS_cons.mpr ⟨zok_i (i32_r _), zokS_nil⟩⟩⟩⟩⟩) (R_ahead (d := 134) hR iR (fun h' j => ⟨rfl, j⟩)) ?_)
  rintro x hr' rx2 ⟨rfl, jR⟩
  refine lG.swap C.swap ?_
  refine l_same C dL_law_1600 (tgt := 1643) (by decide) ?_
  exact lG.up (by omega) (k _ _ _ _ jC jR bS)
theorem lw_c31 (C : lwC X Lx xs E1 E2) (hE : isC E1) (hR : isR E2) (hi : i + 6 < Lx) (iC : IC S hc) (iR : IR S hr) (bS : BdR S) (k : ∀ S' hc' hr' o', IC S' hc' → IR S' hr' → BdR S' → lG X (i + 1) E1 E2 1643 (lwV X E1 E2 i) [] hc' hr' o') : lG X i E1 E2 1605 (lwV X E1 E2 i) [] hc hr o := by
  have hL := C.2.1
  refine l_aload (q := 1) C rfl rfl dL_law_1605 ?_
  refine l_callI (d := 10) (as := []) (K := fun x h' => x = aNext S ∧ IC S h') C dL_law_1606 rfl (shC0 hE) (cN0 hE) (by decide) rfl wm_L_160 wn_X9_next wl_X9_next wi_X9 wc_X9_next wy_X9_next (by decide) (Nat.le_of_ble_eq_true rfl) (by decide) (by omega) (zokS_nil) (C_next (d := 3) hE iC (fun h' j => ⟨rfl, j⟩)) ?_
  rintro x hc' rx ⟨rfl, jC⟩
  refine l_aload (q := 2) C rfl rfl dL_law_1609 ?_
  refine lG.swap C (l_callI (d := 140) (as := []) (K := fun x h' => x = aNext S ∧ IR S h') C.swap dL_law_1610 rfl (shR0 hR) (rN0 hR) (by decide) rfl wm_L_163 wn_X10_next wl_X10_next wi_X10 wc_X10_next wy_X10_next (by decide) (Nat.le_of_ble_eq_true rfl) (by decide) (by omega) (zokS_nil) (R_next (d := 134) hR iR (fun h' j => ⟨rfl, j⟩)) ?_)
  rintro x hr' rx2 ⟨rfl, jR⟩
  refine lG.swap C.swap ?_
  refine l_same C dL_law_1613 (tgt := 1643) (by decide) ?_
  exact lG.up (by omega) (k _ _ _ _ jC jR bS)
theorem lw_c32 (C : lwC X Lx xs E1 E2) (hE : isC E1) (hR : isR E2) (hi : i + 6 < Lx) (iC : IC S hc) (iR : IR S hr) (bS : BdR S) (k : ∀ S' hc' hr' o', IC S' hc' → IR S' hr' → BdR S' → lG X (i + 1) E1 E2 1643 (lwV X E1 E2 i) [] hc' hr' o') : lG X i E1 E2 1618 (lwV X E1 E2 i) [] hc hr o := by
  have hL := C.2.1
  refine l_aload (q := 1) C rfl rfl dL_law_1618 ?_
  refine l_arg (kn := 1) C rfl rfl (by decide) (by omega) dL_law_1619 dL_law_1620 dL_law_1622 dL_law_1623 dL_law_1624 ?_
  refine l_callI (d := 10) (as := [zI ((xs (i + 1)).toInt)]) (K := fun x h' => x = aCount S ((xs (i + 1)).toInt) ∧ IC S h') C dL_law_1625 rfl (shC0 hE) (cN0 hE) (by decide) rfl wm_L_164 wn_X9_count wl_X9_count wi_X9 wc_X9_count wy_X9_count (by decide) (Nat.le_of_ble_eq_true rfl) (by decide) (by omega) (zokS_cons.mpr ⟨zok_i (i32_r _), zokS_nil⟩) (C_count2 (d := 8) hE iC (fun h' j => ⟨rfl, j⟩)) ?_
  rintro x hc' rx ⟨rfl, jC⟩
  refine l_aload (q := 2) C rfl rfl dL_law_1628 ?_
  refine l_arg (kn := 1) C rfl rfl (by decide) (by omega) dL_law_1629 dL_law_1630 dL_law_1632 dL_law_1633 dL_law_1634 ?_
  refine lG.swap C (l_callI (d := 140) (as := [zI ((xs (i + 1)).toInt)]) (K := fun x h' => x = aCount S ((xs (i + 1)).toInt) ∧ IR S h') C.swap dL_law_1635 rfl (shR0 hR) (rN0 hR) (by decide) rfl wm_L_167 wn_X10_count wl_X10_count wi_X10 wc_X10_count wy_X10_count (by decide) (Nat.le_of_ble_eq_true rfl) (by decide) (by omega) (zokS_cons.mpr ⟨zok_i (i32_r _), zokS_nil⟩) (R_count (d := 134) hR iR (fun h' j => ⟨rfl, j⟩)) ?_)
  rintro x hr' rx2 ⟨rfl, jR⟩
  refine lG.swap C.swap ?_
  refine l_same C dL_law_1638 (tgt := 1643) (by decide) ?_
  exact lG.up (by omega) (k _ _ _ _ jC jR bS)
end ZCases
