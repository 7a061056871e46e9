set_option maxRecDepth 100000 in
theorem ws_X9_placesOf : Cond.static mX9_placesOf.1 ∈ ztb := List.mem_filter.mpr ⟨List.mem_append_right _ (List.mem_of_getElem? (i := 768) rfl), rfl⟩
set_option maxRecDepth 100000 in
theorem wm_X9_211 : Cond.methodLink RX9 211 mX9_placesOf.1 ∈ ztb := List.mem_filter.mpr ⟨List.mem_append_right _ (List.mem_of_getElem? (i := 767) rfl), rfl⟩
theorem cl_X9_211 {E : zE} {M : zM} {d pc : Nat} {L rest : List zV} {h : zH} {Q : List zV → zH → Prop} {a1 a2 : zV} (hd : decode M.2.1 pc = .ok (.invokestatic 211, 3)) (hM : M.1.cls = RX9) (h8 : ((rest.map (zrv E)).map fun v => v.category).sum ≤ 8) (k : zCI E mX9_placesOf d [a1, a2] h (fun x h1 => zG E M (d + 1) (pc + 3) L (zI x :: rest) h1 Q)) : zG E M (d + 1) pc L (a2 :: a1 :: rest) h Q := z_callS (M' := mX9_placesOf) (as := [a1, a2]) hd rfl (by rw [hM]; exact wm_X9_211) ws_X9_placesOf wi_X9 wc_X9_placesOf wy_X9_placesOf (by decide) h8 (zC_mono (by rintro r h1 ⟨x, rfl, hk⟩; exact hk) k)
set_option maxRecDepth 100000 in
theorem ws_X9_offBy : Cond.static mX9_offBy.1 ∈ ztb := List.mem_filter.mpr ⟨List.mem_append_right _ (List.mem_of_getElem? (i := 771) rfl), rfl⟩
set_option maxRecDepth 100000 in
theorem wm_X9_215 : Cond.methodLink RX9 215 mX9_offBy.1 ∈ ztb := List.mem_filter.mpr ⟨List.mem_append_right _ (List.mem_of_getElem? (i := 770) rfl), rfl⟩
theorem cl_X9_215 {E : zE} {M : zM} {d pc : Nat} {L rest : List zV} {h : zH} {Q : List zV → zH → Prop} {a1 a2 : zV} (hd : decode M.2.1 pc = .ok (.invokestatic 215, 3)) (hM : M.1.cls = RX9) (h8 : ((rest.map (zrv E)).map fun v => v.category).sum ≤ 8) (k : zCI E mX9_offBy d [a1, a2] h (fun x h1 => zG E M (d + 1) (pc + 3) L (zI x :: rest) h1 Q)) : zG E M (d + 1) pc L (a2 :: a1 :: rest) h Q := z_callS (M' := mX9_offBy) (as := [a1, a2]) hd rfl (by rw [hM]; exact wm_X9_215) ws_X9_offBy wi_X9 wc_X9_offBy wy_X9_offBy (by decide) h8 (zC_mono (by rintro r h1 ⟨x, rfl, hk⟩; exact hk) k)
set_option maxRecDepth 100000 in
theorem ws_X9_timesBy : Cond.static mX9_timesBy.1 ∈ ztb := List.mem_filter.mpr ⟨List.mem_append_right _ (List.mem_of_getElem? (i := 774) rfl), rfl⟩
set_option maxRecDepth 100000 in
theorem wm_X9_218 : Cond.methodLink RX9 218 mX9_timesBy.1 ∈ ztb := List.mem_filter.mpr ⟨List.mem_append_right _ (List.mem_of_getElem? (i := 773) rfl), rfl⟩
theorem cl_X9_218 {E : zE} {M : zM} {d pc : Nat} {L rest : List zV} {h : zH} {Q : List zV → zH → Prop} {a1 a2 : zV} (hd : decode M.2.1 pc = .ok (.invokestatic 218, 3)) (hM : M.1.cls = RX9) (h8 : ((rest.map (zrv E)).map fun v => v.category).sum ≤ 8) (k : zCI E mX9_timesBy d [a1, a2] h (fun x h1 => zG E M (d + 1) (pc + 3) L (zI x :: rest) h1 Q)) : zG E M (d + 1) pc L (a2 :: a1 :: rest) h Q := z_callS (M' := mX9_timesBy) (as := [a1, a2]) hd rfl (by rw [hM]; exact wm_X9_218) ws_X9_timesBy wi_X9 wc_X9_timesBy wy_X9_timesBy (by decide) h8 (zC_mono (by rintro r h1 ⟨x, rfl, hk⟩; exact hk) k)
set_option maxRecDepth 100000 in
theorem wn_X9_near : Cond.instanceMethod mX9_near.1 ∈ ztb := List.mem_filter.mpr ⟨List.mem_append_right _ (List.mem_of_getElem? (i := 777) rfl), rfl⟩
set_option maxRecDepth 100000 in
theorem wl_X9_near : Cond.selects mX9_near.1.cls mX9_near.1 mX9_near.1 ∈ ztb := List.mem_filter.mpr ⟨List.mem_append_right _ (List.mem_of_getElem? (i := 778) rfl), rfl⟩
set_option maxRecDepth 100000 in
theorem wm_L_98 : Cond.methodLink RL 98 mX9_near.1 ∈ ztb := List.mem_filter.mpr ⟨List.mem_append_right _ (List.mem_of_getElem? (i := 776) rfl), rfl⟩
theorem cl_L_98 {E : zE} {M : zM} {d pc : Nat} {L rest : List zV} {h : zH} {Q : List zV → zH → Prop} {c0 : Nat} {a1 : zV} (hd : decode M.2.1 pc = .ok (.invokevirtual 98, 3)) (hM : M.1.cls = RL) (hs : zsh E c0 = (9, 14)) (hc : c0 < zN E) (h8 : ((rest.map (zrv E)).map fun v => v.category).sum ≤ 8) (k : zCI E mX9_near d [zR c0, a1] h (fun x h1 => zG E M (d + 1) (pc + 3) L (zI x :: rest) h1 Q)) : zG E M (d + 1) pc L (a1 :: zR c0 :: rest) h Q := z_callV (M' := mX9_near) (as := [a1]) hd rfl hs hc (by decide) rfl (by rw [hM]; exact wm_L_98) wn_X9_near wl_X9_near wi_X9 wc_X9_near wy_X9_near (by decide) h8 (zC_mono (by rintro r h1 ⟨x, rfl, hk⟩; exact hk) k)
set_option maxRecDepth 100000 in
theorem wn_X9_isNearBy : Cond.instanceMethod mX9_isNearBy.1 ∈ ztb := List.mem_filter.mpr ⟨List.mem_append_right _ (List.mem_of_getElem? (i := 782) rfl), rfl⟩
set_option maxRecDepth 100000 in
theorem wl_X9_isNearBy : Cond.selects mX9_isNearBy.1.cls mX9_isNearBy.1 mX9_isNearBy.1 ∈ ztb := List.mem_filter.mpr ⟨List.mem_append_left _ (List.mem_of_getElem? (i := 30) rfl), rfl⟩
set_option maxRecDepth 100000 in
theorem wm_X9_221 : Cond.methodLink RX9 221 mX9_isNearBy.1 ∈ ztb := List.mem_filter.mpr ⟨List.mem_append_right _ (List.mem_of_getElem? (i := 780) rfl), rfl⟩
theorem cl_X9_221 {E : zE} {M : zM} {d pc : Nat} {L rest : List zV} {h : zH} {Q : List zV → zH → Prop} {c0 : Nat} {a1 a2 : zV} (hd : decode M.2.1 pc = .ok (.invokevirtual 221, 3)) (hM : M.1.cls = RX9) (hs : zsh E c0 = (9, 14)) (hc : c0 < zN E) (h8 : ((rest.map (zrv E)).map fun v => v.category).sum ≤ 8) (k : zCI E mX9_isNearBy d [zR c0, a1, a2] h (fun x h1 => zG E M (d + 1) (pc + 3) L (zI x :: rest) h1 Q)) : zG E M (d + 1) pc L (a2 :: a1 :: zR c0 :: rest) h Q := z_callV (M' := mX9_isNearBy) (as := [a1, a2]) hd rfl hs hc (by decide) rfl (by rw [hM]; exact wm_X9_221) wn_X9_isNearBy wl_X9_isNearBy wi_X9 wc_X9_isNearBy wy_X9_isNearBy (by decide) h8 (zC_mono (by rintro r h1 ⟨x, rfl, hk⟩; exact hk) k)
set_option maxRecDepth 100000 in
theorem wn_X0_bestSize : Cond.instanceMethod mX0_bestSize.1 ∈ ztb := List.mem_filter.mpr ⟨List.mem_append_right _ (List.mem_of_getElem? (i := 785) rfl), rfl⟩
set_option maxRecDepth 100000 in
theorem wl_X0_bestSize : Cond.selects mX0_bestSize.1.cls mX0_bestSize.1 mX0_bestSize.1 ∈ ztb := List.mem_filter.mpr ⟨List.mem_append_right _ (List.mem_of_getElem? (i := 786) rfl), rfl⟩
set_option maxRecDepth 100000 in
theorem wm_X9_224 : Cond.methodLink RX9 224 mX0_bestSize.1 ∈ ztb := List.mem_filter.mpr ⟨List.mem_append_right _ (List.mem_of_getElem? (i := 784) rfl), rfl⟩
theorem cl_X9_224 {E : zE} {M : zM} {d pc : Nat} {L rest : List zV} {h : zH} {Q : List zV → zH → Prop} {c0 : Nat} {a1 : zV} (hd : decode M.2.1 pc = .ok (.invokevirtual 224, 3)) (hM : M.1.cls = RX9) (hs : zsh E c0 = (0, 13)) (hc : c0 < zN E) (h8 : ((rest.map (zrv E)).map fun v => v.category).sum ≤ 8) (k : zCI E mX0_bestSize d [zR c0, a1] h (fun x h1 => zG E M (d + 1) (pc + 3) L (zI x :: rest) h1 Q)) : zG E M (d + 1) pc L (a1 :: zR c0 :: rest) h Q := z_callV (M' := mX0_bestSize) (as := [a1]) hd rfl hs hc (by decide) rfl (by rw [hM]; exact wm_X9_224) wn_X0_bestSize wl_X0_bestSize wi_X0 wc_X0_bestSize wy_X0_bestSize (by decide) h8 (zC_mono (by rintro r h1 ⟨x, rfl, hk⟩; exact hk) k)
set_option maxRecDepth 100000 in
theorem wn_X9_isNearAs : Cond.instanceMethod mX9_isNearAs.1 ∈ ztb := List.mem_filter.mpr ⟨List.mem_append_right _ (List.mem_of_getElem? (i := 790) rfl), rfl⟩
set_option maxRecDepth 100000 in
theorem wl_X9_isNearAs : Cond.selects mX9_isNearAs.1.cls mX9_isNearAs.1 mX9_isNearAs.1 ∈ ztb := List.mem_filter.mpr ⟨List.mem_append_left _ (List.mem_of_getElem? (i := 31) rfl), rfl⟩
set_option maxRecDepth 100000 in
theorem wm_X9_227 : Cond.methodLink RX9 227 mX9_isNearAs.1 ∈ ztb := List.mem_filter.mpr ⟨List.mem_append_right _ (List.mem_of_getElem? (i := 788) rfl), rfl⟩
theorem cl_X9_227 {E : zE} {M : zM} {d pc : Nat} {L rest : List zV} {h : zH} {Q : List zV → zH → Prop} {c0 : Nat} {a1 a2 a3 a4 : zV} (hd : decode M.2.1 pc = .ok (.invokevirtual 227, 3)) (hM : M.1.cls = RX9) (hs : zsh E c0 = (9, 14)) (hc : c0 < zN E) (h8 : ((rest.map (zrv E)).map fun v => v.category).sum ≤ 8) (k : zCI E mX9_isNearAs d [zR c0, a1, a2, a3, a4] h (fun x h1 => zG E M (d + 1) (pc + 3) L (zI x :: rest) h1 Q)) : zG E M (d + 1) pc L (a4 :: a3 :: a2 :: a1 :: zR c0 :: rest) h Q := z_callV (M' := mX9_isNearAs) (as := [a1, a2, a3, a4]) hd rfl hs hc (by decide) rfl (by rw [hM]; exact wm_X9_227) wn_X9_isNearAs wl_X9_isNearAs wi_X9 wc_X9_isNearAs wy_X9_isNearAs (by decide) h8 (zC_mono (by rintro r h1 ⟨x, rfl, hk⟩; exact hk) k)
set_option maxRecDepth 100000 in
theorem wn_X5_holds : Cond.instanceMethod mX5_holds.1 ∈ ztb := List.mem_filter.mpr ⟨List.mem_append_right _ (List.mem_of_getElem? (i := 793) rfl), rfl⟩
set_option maxRecDepth 100000 in
theorem wl_X5_holds : Cond.selects mX5_holds.1.cls mX5_holds.1 mX5_holds.1 ∈ ztb := List.mem_filter.mpr ⟨List.mem_append_right _ (List.mem_of_getElem? (i := 794) rfl), rfl⟩
set_option maxRecDepth 100000 in
theorem wm_X9_238 : Cond.methodLink RX9 238 mX5_holds.1 ∈ ztb := List.mem_filter.mpr ⟨List.mem_append_right _ (List.mem_of_getElem? (i := 792) rfl), rfl⟩
theorem cl_X9_238 {E : zE} {M : zM} {d pc : Nat} {L rest : List zV} {h : zH} {Q : List zV → zH → Prop} {c0 : Nat} {a1 a2 a3 a4 a5 a6 : zV} (hd : decode M.2.1 pc = .ok (.invokevirtual 238, 3)) (hM : M.1.cls = RX9) (hs : zsh E c0 = (5, 5)) (hc : c0 < zN E) (h8 : ((rest.map (zrv E)).map fun v => v.category).sum ≤ 8) (k : zCI E mX5_holds d [zR c0, a1, a2, a3, a4, a5, a6] h (fun x h1 => zG E M (d + 1) (pc + 3) L (zI x :: rest) h1 Q)) : zG E M (d + 1) pc L (a6 :: a5 :: a4 :: a3 :: a2 :: a1 :: zR c0 :: rest) h Q := z_callV (M' := mX5_holds) (as := [a1, a2, a3, a4, a5, a6]) hd rfl hs hc (by decide) rfl (by rw [hM]; exact wm_X9_238) wn_X5_holds wl_X5_holds wi_X5 wc_X5_holds wy_X5_holds (by decide) h8 (zC_mono (by rintro r h1 ⟨x, rfl, hk⟩; exact hk) k)
set_option maxRecDepth 100000 in
theorem wm_X5_29 : Cond.methodLink RX5 29 mX5_isOperand.1 ∈ ztb := List.mem_filter.mpr ⟨List.mem_append_right _ (List.mem_of_getElem? (i := 796) rfl), rfl⟩
theorem cl_X5_29 {E : zE} {M : zM} {d pc : Nat} {L rest : List zV} {h : zH} {Q : List zV → zH → Prop} {a1 : zV} (hd : decode M.2.1 pc = .ok (.invokestatic 29, 3)) (hM : M.1.cls = RX5) (h8 : ((rest.map (zrv E)).map fun v => v.category).sum ≤ 8) (k : zCI E mX5_isOperand d [a1] h (fun x h1 => zG E M (d + 1) (pc + 3) L (zI x :: rest) h1 Q)) : zG E M (d + 1) pc L (a1 :: rest) h Q := z_callS (M' := mX5_isOperand) (as := [a1]) hd rfl (by rw [hM]; exact wm_X5_29) ws_X5_isOperand wi_X5 wc_X5_isOperand wy_X5_isOperand (by decide) h8 (zC_mono (by rintro r h1 ⟨x, rfl, hk⟩; exact hk) k)
set_option maxRecDepth 100000 in
theorem ws_X5_isError : Cond.static mX5_isError.1 ∈ ztb := List.mem_filter.mpr ⟨List.mem_append_right _ (List.mem_of_getElem? (i := 798) rfl), rfl⟩
set_option maxRecDepth 100000 in
theorem wm_X5_33 : Cond.methodLink RX5 33 mX5_isError.1 ∈ ztb := List.mem_filter.mpr ⟨List.mem_append_right _ (List.mem_of_getElem? (i := 797) rfl), rfl⟩
theorem cl_X5_33 {E : zE} {M : zM} {d pc : Nat} {L rest : List zV} {h : zH} {Q : List zV → zH → Prop} {a1 a2 a3 : zV} (hd : decode M.2.1 pc = .ok (.invokestatic 33, 3)) (hM : M.1.cls = RX5) (h8 : ((rest.map (zrv E)).map fun v => v.category).sum ≤ 8) (k : zCI E mX5_isError d [a1, a2, a3] h (fun x h1 => zG E M (d + 1) (pc + 3) L (zI x :: rest) h1 Q)) : zG E M (d + 1) pc L (a3 :: a2 :: a1 :: rest) h Q := z_callS (M' := mX5_isError) (as := [a1, a2, a3]) hd rfl (by rw [hM]; exact wm_X5_33) ws_X5_isError wi_X5 wc_X5_isError wy_X5_isError (by decide) h8 (zC_mono (by rintro r h1 ⟨x, rfl, hk⟩; exact hk) k)
set_option maxRecDepth 100000 in
theorem wm_X5_41 : Cond.methodLink RX5 41 mJ9_abs_067f4.1 ∈ ztb := List.mem_filter.mpr ⟨List.mem_append_right _ (List.mem_of_getElem? (i := 800) rfl), rfl⟩
theorem cl_X5_41 {E : zE} {M : zM} {d pc : Nat} {L st : List zV} {h : zH} {Q : List zV → zH → Prop} {a : Int} (hd : decode M.2.1 pc = .ok (.invokestatic 41, 3)) (hM : M.1.cls = RX5) (h8 : ((st.map (zrv E)).map fun v => v.category).sum ≤ 8) (k : zG E M d (pc + 3) L (zJ (zabsJ a) :: st) h Q) : zG E M d pc L (zJ a :: st) h Q := z_mabsJ hd (by rw [hM]; exact wm_X5_41) ws_J9_abs_067f4 wi_J9 wc_J9_abs_067f4 h8 k
set_option maxRecDepth 100000 in
theorem ws_X5_join : Cond.static mX5_join.1 ∈ ztb := List.mem_filter.mpr ⟨List.mem_append_right _ (List.mem_of_getElem? (i := 803) rfl), rfl⟩
set_option maxRecDepth 100000 in
theorem wm_X5_37 : Cond.methodLink RX5 37 mX5_join.1 ∈ ztb := List.mem_filter.mpr ⟨List.mem_append_right _ (List.mem_of_getElem? (i := 802) rfl), rfl⟩
theorem cl_X5_37 {E : zE} {M : zM} {d pc : Nat} {L rest : List zV} {h : zH} {Q : List zV → zH → Prop} {a1 a2 a3 : zV} (hd : decode M.2.1 pc = .ok (.invokestatic 37, 3)) (hM : M.1.cls = RX5) (h8 : ((rest.map (zrv E)).map fun v => v.category).sum ≤ 8) (k : zCJ E mX5_join d [a1, a2, a3] h (fun x h1 => zG E M (d + 1) (pc + 3) L (zJ x :: rest) h1 Q)) : zG E M (d + 1) pc L (a3 :: a2 :: a1 :: rest) h Q := z_callS (M' := mX5_join) (as := [a1, a2, a3]) hd rfl (by rw [hM]; exact wm_X5_37) ws_X5_join wi_X5 wc_X5_join wy_X5_join (by decide) h8 (zC_mono (by rintro r h1 ⟨x, rfl, hk⟩; exact hk) k)
set_option maxRecDepth 100000 in
theorem wn_X9_lumps : Cond.instanceMethod mX9_lumps.1 ∈ ztb := List.mem_filter.mpr ⟨List.mem_append_right _ (List.mem_of_getElem? (i := 806) rfl), rfl⟩
set_option maxRecDepth 100000 in
theorem wl_X9_lumps : Cond.selects mX9_lumps.1.cls mX9_lumps.1 mX9_lumps.1 ∈ ztb := List.mem_filter.mpr ⟨List.mem_append_right _ (List.mem_of_getElem? (i := 807) rfl), rfl⟩
set_option maxRecDepth 100000 in
theorem wm_L_102 : Cond.methodLink RL 102 mX9_lumps.1 ∈ ztb := List.mem_filter.mpr ⟨List.mem_append_right _ (List.mem_of_getElem? (i := 805) rfl), rfl⟩
theorem cl_L_102 {E : zE} {M : zM} {d pc : Nat} {L rest : List zV} {h : zH} {Q : List zV → zH → Prop} {c0 : Nat} {a1 : zV} (hd : decode M.2.1 pc = .ok (.invokevirtual 102, 3)) (hM : M.1.cls = RL) (hs : zsh E c0 = (9, 14)) (hc : c0 < zN E) (h8 : ((rest.map (zrv E)).map fun v => v.category).sum ≤ 8) (k : zCI E mX9_lumps d [zR c0, a1] h (fun x h1 => zG E M (d + 1) (pc + 3) L (zI x :: rest) h1 Q)) : zG E M (d + 1) pc L (a1 :: zR c0 :: rest) h Q := z_callV (M' := mX9_lumps) (as := [a1]) hd rfl hs hc (by decide) rfl (by rw [hM]; exact wm_L_102) wn_X9_lumps wl_X9_lumps wi_X9 wc_X9_lumps wy_X9_lumps (by decide) h8 (zC_mono (by rintro r h1 ⟨x, rfl, hk⟩; exact hk) k)
set_option maxRecDepth 100000 in
theorem wn_X9_gather : Cond.instanceMethod mX9_gather.1 ∈ ztb := List.mem_filter.mpr ⟨List.mem_append_right _ (List.mem_of_getElem? (i := 811) rfl), rfl⟩
set_option maxRecDepth 100000 in
theorem wl_X9_gather : Cond.selects mX9_gather.1.cls mX9_gather.1 mX9_gather.1 ∈ ztb := List.mem_filter.mpr ⟨List.mem_append_left _ (List.mem_of_getElem? (i := 32) rfl), rfl⟩
set_option maxRecDepth 100000 in
theorem wm_X9_244 : Cond.methodLink RX9 244 mX9_gather.1 ∈ ztb := List.mem_filter.mpr ⟨List.mem_append_right _ (List.mem_of_getElem? (i := 809) rfl), rfl⟩
theorem cl_X9_244 {E : zE} {M : zM} {d pc : Nat} {L rest : List zV} {h : zH} {Q : List zV → zH → Prop} {c0 : Nat} {a1 a2 : zV} (hd : decode M.2.1 pc = .ok (.invokevirtual 244, 3)) (hM : M.1.cls = RX9) (hs : zsh E c0 = (9, 14)) (hc : c0 < zN E) (h8 : ((rest.map (zrv E)).map fun v => v.category).sum ≤ 8) (k : zCV E mX9_gather d [zR c0, a1, a2] h (fun h1 => zG E M (d + 1) (pc + 3) L rest h1 Q)) : zG E M (d + 1) pc L (a2 :: a1 :: zR c0 :: rest) h Q := z_callV (M' := mX9_gather) (as := [a1, a2]) hd rfl hs hc (by decide) rfl (by rw [hM]; exact wm_X9_244) wn_X9_gather wl_X9_gather wi_X9 wc_X9_gather wy_X9_gather (by decide) h8 (zC_mono (by rintro r h1 ⟨rfl, hk⟩; exact hk) k)
set_option maxRecDepth 100000 in
theorem wn_X7_put : Cond.instanceMethod mX7_put.1 ∈ ztb := List.mem_filter.mpr ⟨List.mem_append_right _ (List.mem_of_getElem? (i := 814) rfl), rfl⟩
set_option maxRecDepth 100000 in
theorem wl_X7_put : Cond.selects mX7_put.1.cls mX7_put.1 mX7_put.1 ∈ ztb := List.mem_filter.mpr ⟨List.mem_append_right _ (List.mem_of_getElem? (i := 815) rfl), rfl⟩
set_option maxRecDepth 100000 in
theorem wm_X9_252 : Cond.methodLink RX9 252 mX7_put.1 ∈ ztb := List.mem_filter.mpr ⟨List.mem_append_right _ (List.mem_of_getElem? (i := 813) rfl), rfl⟩
theorem cl_X9_252 {E : zE} {M : zM} {d pc : Nat} {L rest : List zV} {h : zH} {Q : List zV → zH → Prop} {c0 : Nat} {a1 : zV} (hd : decode M.2.1 pc = .ok (.invokevirtual 252, 3)) (hM : M.1.cls = RX9) (hs : zsh E c0 = (7, 2)) (hc : c0 < zN E) (h8 : ((rest.map (zrv E)).map fun v => v.category).sum ≤ 8) (k : zCV E mX7_put d [zR c0, a1] h (fun h1 => zG E M (d + 1) (pc + 3) L rest h1 Q)) : zG E M (d + 1) pc L (a1 :: zR c0 :: rest) h Q := z_callV (M' := mX7_put) (as := [a1]) hd rfl hs hc (by decide) rfl (by rw [hM]; exact wm_X9_252) wn_X7_put wl_X7_put wi_X7 wc_X7_put wy_X7_put (by decide) h8 (zC_mono (by rintro r h1 ⟨rfl, hk⟩; exact hk) k)
set_option maxRecDepth 100000 in
theorem wn_X7_sumOfLumps : Cond.instanceMethod mX7_sumOfLumps.1 ∈ ztb := List.mem_filter.mpr ⟨List.mem_append_right _ (List.mem_of_getElem? (i := 818) rfl), rfl⟩
set_option maxRecDepth 100000 in
theorem wl_X7_sumOfLumps : Cond.selects mX7_sumOfLumps.1.cls mX7_sumOfLumps.1 mX7_sumOfLumps.1 ∈ ztb := List.mem_filter.mpr ⟨List.mem_append_right _ (List.mem_of_getElem? (i := 819) rfl), rfl⟩
set_option maxRecDepth 100000 in
theorem wm_X9_248 : Cond.methodLink RX9 248 mX7_sumOfLumps.1 ∈ ztb := List.mem_filter.mpr ⟨List.mem_append_right _ (List.mem_of_getElem? (i := 817) rfl), rfl⟩
theorem cl_X9_248 {E : zE} {M : zM} {d pc : Nat} {L rest : List zV} {h : zH} {Q : List zV → zH → Prop} {c0 : Nat} {a1 : zV} (hd : decode M.2.1 pc = .ok (.invokevirtual 248, 3)) (hM : M.1.cls = RX9) (hs : zsh E c0 = (7, 2)) (hc : c0 < zN E) (h8 : ((rest.map (zrv E)).map fun v => v.category).sum ≤ 8) (k : zCI E mX7_sumOfLumps d [zR c0, a1] h (fun x h1 => zG E M (d + 1) (pc + 3) L (zI x :: rest) h1 Q)) : zG E M (d + 1) pc L (a1 :: zR c0 :: rest) h Q := z_callV (M' := mX7_sumOfLumps) (as := [a1]) hd rfl hs hc (by decide) rfl (by rw [hM]; exact wm_X9_248) wn_X7_sumOfLumps wl_X7_sumOfLumps wi_X7 wc_X7_sumOfLumps wy_X7_sumOfLumps (by decide) h8 (zC_mono (by rintro r h1 ⟨x, rfl, hk⟩; exact hk) k)
set_option maxRecDepth 100000 in
theorem wn_X9_odds : Cond.instanceMethod mX9_odds.1 ∈ ztb := List.mem_filter.mpr ⟨List.mem_append_right _ (List.mem_of_getElem? (i := 823) rfl), rfl⟩
set_option maxRecDepth 100000 in
theorem wl_X9_odds : Cond.selects mX9_odds.1.cls mX9_odds.1 mX9_odds.1 ∈ ztb := List.mem_filter.mpr ⟨List.mem_append_right _ (List.mem_of_getElem? (i := 824) rfl), rfl⟩
set_option maxRecDepth 100000 in
theorem wm_L_110 : Cond.methodLink RL 110 mX9_odds.1 ∈ ztb := List.mem_filter.mpr ⟨List.mem_append_right _ (List.mem_of_getElem? (i := 822) rfl), rfl⟩
theorem cl_L_110 {E : zE} {M : zM} {d pc : Nat} {L rest : List zV} {h : zH} {Q : List zV → zH → Prop} {c0 : Nat} {a1 a2 : zV} (hd : decode M.2.1 pc = .ok (.invokevirtual 110, 3)) (hM : M.1.cls = RL) (hs : zsh E c0 = (9, 14)) (hc : c0 < zN E) (h8 : ((rest.map (zrv E)).map fun v => v.category).sum ≤ 8) (k : zCI E mX9_odds d [zR c0, a1, a2] h (fun x h1 => zG E M (d + 1) (pc + 3) L (zI x :: rest) h1 Q)) : zG E M (d + 1) pc L (a2 :: a1 :: zR c0 :: rest) h Q := z_callV (M' := mX9_odds) (as := [a1, a2]) hd rfl hs hc (by decide) rfl (by rw [hM]; exact wm_L_110) wn_X9_odds wl_X9_odds wi_X9 wc_X9_odds wy_X9_odds (by decide) h8 (zC_mono (by rintro r h1 ⟨x, rfl, hk⟩; exact hk) k)
set_option maxRecDepth 100000 in
theorem wn_X0_fittedRings : Cond.instanceMethod mX0_fittedRings.1 ∈ ztb := List.mem_filter.mpr ⟨List.mem_append_right _ (List.mem_of_getElem? (i := 827) rfl), rfl⟩
set_option maxRecDepth 100000 in
theorem wl_X0_fittedRings : Cond.selects mX0_fittedRings.1.cls mX0_fittedRings.1 mX0_fittedRings.1 ∈ ztb := List.mem_filter.mpr ⟨List.mem_append_right _ (List.mem_of_getElem? (i := 828) rfl), rfl⟩
set_option maxRecDepth 100000 in
theorem wm_X9_254 : Cond.methodLink RX9 254 mX0_fittedRings.1 ∈ ztb := List.mem_filter.mpr ⟨List.mem_append_right _ (List.mem_of_getElem? (i := 826) rfl), rfl⟩
theorem cl_X9_254 {E : zE} {M : zM} {d pc : Nat} {L rest : List zV} {h : zH} {Q : List zV → zH → Prop} {c0 : Nat} (hd : decode M.2.1 pc = .ok (.invokevirtual 254, 3)) (hM : M.1.cls = RX9) (hs : zsh E c0 = (0, 13)) (hc : c0 < zN E) (h8 : ((rest.map (zrv E)).map fun v => v.category).sum ≤ 8) (k : zCI E mX0_fittedRings d [zR c0] h (fun x h1 => zG E M (d + 1) (pc + 3) L (zI x :: rest) h1 Q)) : zG E M (d + 1) pc L (zR c0 :: rest) h Q := z_callV (M' := mX0_fittedRings) (as := []) hd rfl hs hc (by decide) rfl (by rw [hM]; exact wm_X9_254) wn_X0_fittedRings wl_X0_fittedRings wi_X0 wc_X0_fittedRings wy_X0_fittedRings (by decide) h8 (zC_mono (by rintro r h1 ⟨x, rfl, hk⟩; exact hk) k)
set_option maxRecDepth 100000 in
theorem ws_J7_fill_d0a16 : Cond.static mJ7_fill_d0a16.1 ∈ ztb := List.mem_filter.mpr ⟨List.mem_append_right _ (List.mem_of_getElem? (i := 831) rfl), rfl⟩
set_option maxRecDepth 100000 in
theorem wm_X9_257 : Cond.methodLink RX9 257 mJ7_fill_d0a16.1 ∈ ztb := List.mem_filter.mpr ⟨List.mem_append_right _ (List.mem_of_getElem? (i := 830) rfl), rfl⟩
theorem cl_X9_257 {E : zE} {M : zM} {d pc : Nat} {L rest : List zV} {h : zH} {Q : List zV → zH → Prop} {a1 a2 : zV} (hd : decode M.2.1 pc = .ok (.invokestatic 257, 3)) (hM : M.1.cls = RX9) (h8 : ((rest.map (zrv E)).map fun v => v.category).sum ≤ 8) (k : zCV E mJ7_fill_d0a16 d [a1, a2] h (fun h1 => zG E M (d + 1) (pc + 3) L rest h1 Q)) : zG E M (d + 1) pc L (a2 :: a1 :: rest) h Q := z_callS (M' := mJ7_fill_d0a16) (as := [a1, a2]) hd rfl (by rw [hM]; exact wm_X9_257) ws_J7_fill_d0a16 wi_J7 wc_J7_fill_d0a16 wy_J7_fill_d0a16 (by decide) h8 (zC_mono (by rintro r h1 ⟨rfl, hk⟩; exact hk) k)
set_option maxRecDepth 100000 in
theorem wn_X9_nearOnes : Cond.instanceMethod mX9_nearOnes.1 ∈ ztb := List.mem_filter.mpr ⟨List.mem_append_right _ (List.mem_of_getElem? (i := 836) rfl), rfl⟩
set_option maxRecDepth 100000 in
theorem wl_X9_nearOnes : Cond.selects mX9_nearOnes.1.cls mX9_nearOnes.1 mX9_nearOnes.1 ∈ ztb := List.mem_filter.mpr ⟨List.mem_append_left _ (List.mem_of_getElem? (i := 33) rfl), rfl⟩
set_option maxRecDepth 100000 in
theorem wm_X9_265 : Cond.methodLink RX9 265 mX9_nearOnes.1 ∈ ztb := List.mem_filter.mpr ⟨List.mem_append_right _ (List.mem_of_getElem? (i := 834) rfl), rfl⟩
theorem cl_X9_265 {E : zE} {M : zM} {d pc : Nat} {L rest : List zV} {h : zH} {Q : List zV → zH → Prop} {c0 : Nat} {a1 a2 : zV} (hd : decode M.2.1 pc = .ok (.invokevirtual 265, 3)) (hM : M.1.cls = RX9) (hs : zsh E c0 = (9, 14)) (hc : c0 < zN E) (h8 : ((rest.map (zrv E)).map fun v => v.category).sum ≤ 8) (k : zCI E mX9_nearOnes d [zR c0, a1, a2] h (fun x h1 => zG E M (d + 1) (pc + 3) L (zI x :: rest) h1 Q)) : zG E M (d + 1) pc L (a2 :: a1 :: zR c0 :: rest) h Q := z_callV (M' := mX9_nearOnes) (as := [a1, a2]) hd rfl hs hc (by decide) rfl (by rw [hM]; exact wm_X9_265) wn_X9_nearOnes wl_X9_nearOnes wi_X9 wc_X9_nearOnes wy_X9_nearOnes (by decide) h8 (zC_mono (by rintro r h1 ⟨x, rfl, hk⟩; exact hk) k)
set_option maxRecDepth 100000 in
theorem wn_X9_spreadRow : Cond.instanceMethod mX9_spreadRow.1 ∈ ztb := List.mem_filter.mpr ⟨List.mem_append_right _ (List.mem_of_getElem? (i := 840) rfl), rfl⟩
set_option maxRecDepth 100000 in
theorem wl_X9_spreadRow : Cond.selects mX9_spreadRow.1.cls mX9_spreadRow.1 mX9_spreadRow.1 ∈ ztb := List.mem_filter.mpr ⟨List.mem_append_left _ (List.mem_of_getElem? (i := 34) rfl), rfl⟩
set_option maxRecDepth 100000 in
theorem wm_X9_268 : Cond.methodLink RX9 268 mX9_spreadRow.1 ∈ ztb := List.mem_filter.mpr ⟨List.mem_append_right _ (List.mem_of_getElem? (i := 838) rfl), rfl⟩
theorem cl_X9_268 {E : zE} {M : zM} {d pc : Nat} {L rest : List zV} {h : zH} {Q : List zV → zH → Prop} {c0 : Nat} {a1 a2 : zV} (hd : decode M.2.1 pc = .ok (.invokevirtual 268, 3)) (hM : M.1.cls = RX9) (hs : zsh E c0 = (9, 14)) (hc : c0 < zN E) (h8 : ((rest.map (zrv E)).map fun v => v.category).sum ≤ 8) (k : zCV E mX9_spreadRow d [zR c0, a1, a2] h (fun h1 => zG E M (d + 1) (pc + 3) L rest h1 Q)) : zG E M (d + 1) pc L (a2 :: a1 :: zR c0 :: rest) h Q := z_callV (M' := mX9_spreadRow) (as := [a1, a2]) hd rfl hs hc (by decide) rfl (by rw [hM]; exact wm_X9_268) wn_X9_spreadRow wl_X9_spreadRow wi_X9 wc_X9_spreadRow wy_X9_spreadRow (by decide) h8 (zC_mono (by rintro r h1 ⟨rfl, hk⟩; exact hk) k)
set_option maxRecDepth 100000 in
theorem wn_X9_chosen : Cond.instanceMethod mX9_chosen.1 ∈ ztb := List.mem_filter.mpr ⟨List.mem_append_right _ (List.mem_of_getElem? (i := 843) rfl), rfl⟩
set_option maxRecDepth 100000 in
theorem wl_X9_chosen : Cond.selects mX9_chosen.1.cls mX9_chosen.1 mX9_chosen.1 ∈ ztb := List.mem_filter.mpr ⟨List.mem_append_right _ (List.mem_of_getElem? (i := 844) rfl), rfl⟩
set_option maxRecDepth 100000 in
theorem wm_L_119 : Cond.methodLink RL 119 mX9_chosen.1 ∈ ztb := List.mem_filter.mpr ⟨List.mem_append_right _ (List.mem_of_getElem? (i := 842) rfl), rfl⟩
theorem cl_L_119 {E : zE} {M : zM} {d pc : Nat} {L rest : List zV} {h : zH} {Q : List zV → zH → Prop} {c0 : Nat} {a1 a2 : zV} (hd : decode M.2.1 pc = .ok (.invokevirtual 119, 3)) (hM : M.1.cls = RL) (hs : zsh E c0 = (9, 14)) (hc : c0 < zN E) (h8 : ((rest.map (zrv E)).map fun v => v.category).sum ≤ 8) (k : zCI E mX9_chosen d [zR c0, a1, a2] h (fun x h1 => zG E M (d + 1) (pc + 3) L (zI x :: rest) h1 Q)) : zG E M (d + 1) pc L (a2 :: a1 :: zR c0 :: rest) h Q := z_callV (M' := mX9_chosen) (as := [a1, a2]) hd rfl hs hc (by decide) rfl (by rw [hM]; exact wm_L_119) wn_X9_chosen wl_X9_chosen wi_X9 wc_X9_chosen wy_X9_chosen (by decide) h8 (zC_mono (by rintro r h1 ⟨x, rfl, hk⟩; exact hk) k)
set_option maxRecDepth 100000 in
theorem wn_X0_shapeLeastOff : Cond.instanceMethod mX0_shapeLeastOff.1 ∈ ztb := List.mem_filter.mpr ⟨List.mem_append_right _ (List.mem_of_getElem? (i := 847) rfl), rfl⟩
set_option maxRecDepth 100000 in
theorem wl_X0_shapeLeastOff : Cond.selects mX0_shapeLeastOff.1.cls mX0_shapeLeastOff.1 mX0_shapeLeastOff.1 ∈ ztb := List.mem_filter.mpr ⟨List.mem_append_right _ (List.mem_of_getElem? (i := 848) rfl), rfl⟩
set_option maxRecDepth 100000 in
theorem wm_X9_272 : Cond.methodLink RX9 272 mX0_shapeLeastOff.1 ∈ ztb := List.mem_filter.mpr ⟨List.mem_append_right _ (List.mem_of_getElem? (i := 846) rfl), rfl⟩
theorem cl_X9_272 {E : zE} {M : zM} {d pc : Nat} {L rest : List zV} {h : zH} {Q : List zV → zH → Prop} {c0 : Nat} {a1 a2 a3 : zV} (hd : decode M.2.1 pc = .ok (.invokevirtual 272, 3)) (hM : M.1.cls = RX9) (hs : zsh E c0 = (0, 13)) (hc : c0 < zN E) (h8 : ((rest.map (zrv E)).map fun v => v.category).sum ≤ 8) (k : zCI E mX0_shapeLeastOff d [zR c0, a1, a2, a3] h (fun x h1 => zG E M (d + 1) (pc + 3) L (zI x :: rest) h1 Q)) : zG E M (d + 1) pc L (a3 :: a2 :: a1 :: zR c0 :: rest) h Q := z_callV (M' := mX0_shapeLeastOff) (as := [a1, a2, a3]) hd rfl hs hc (by decide) rfl (by rw [hM]; exact wm_X9_272) wn_X0_shapeLeastOff wl_X0_shapeLeastOff wi_X0 wc_X0_shapeLeastOff wy_X0_shapeLeastOff (by decide) h8 (zC_mono (by rintro r h1 ⟨x, rfl, hk⟩; exact hk) k)
set_option maxRecDepth 100000 in
theorem wn_X9_sort : Cond.instanceMethod mX9_sort.1 ∈ ztb := List.mem_filter.mpr ⟨List.mem_append_right _ (List.mem_of_getElem? (i := 852) rfl), rfl⟩
set_option maxRecDepth 100000 in
theorem wl_X9_sort : Cond.selects mX9_sort.1.cls mX9_sort.1 mX9_sort.1 ∈ ztb := List.mem_filter.mpr ⟨List.mem_append_right _ (List.mem_of_getElem? (i := 853) rfl), rfl⟩
set_option maxRecDepth 100000 in
theorem wm_L_144 : Cond.methodLink RL 144 mX9_sort.1 ∈ ztb := List.mem_filter.mpr ⟨List.mem_append_right _ (List.mem_of_getElem? (i := 851) rfl), rfl⟩
theorem cl_L_144 {E : zE} {M : zM} {d pc : Nat} {L rest : List zV} {h : zH} {Q : List zV → zH → Prop} {c0 : Nat} {a1 a2 a3 : zV} (hd : decode M.2.1 pc = .ok (.invokevirtual 144, 3)) (hM : M.1.cls = RL) (hs : zsh E c0 = (9, 14)) (hc : c0 < zN E) (h8 : ((rest.map (zrv E)).map fun v => v.category).sum ≤ 8) (k : zCI E mX9_sort d [zR c0, a1, a2, a3] h (fun x h1 => zG E M (d + 1) (pc + 3) L (zI x :: rest) h1 Q)) : zG E M (d + 1) pc L (a3 :: a2 :: a1 :: zR c0 :: rest) h Q := z_callV (M' := mX9_sort) (as := [a1, a2, a3]) hd rfl hs hc (by decide) rfl (by rw [hM]; exact wm_L_144) wn_X9_sort wl_X9_sort wi_X9 wc_X9_sort wy_X9_sort (by decide) h8 (zC_mono (by rintro r h1 ⟨x, rfl, hk⟩; exact hk) k)
set_option maxRecDepth 100000 in
theorem wn_X9_hump : Cond.instanceMethod mX9_hump.1 ∈ ztb := List.mem_filter.mpr ⟨List.mem_append_right _ (List.mem_of_getElem? (i := 856) rfl), rfl⟩
set_option maxRecDepth 100000 in
theorem wl_X9_hump : Cond.selects mX9_hump.1.cls mX9_hump.1 mX9_hump.1 ∈ ztb := List.mem_filter.mpr ⟨List.mem_append_right _ (List.mem_of_getElem? (i := 857) rfl), rfl⟩
set_option maxRecDepth 100000 in
theorem wm_L_128 : Cond.methodLink RL 128 mX9_hump.1 ∈ ztb := List.mem_filter.mpr ⟨List.mem_append_right _ (List.mem_of_getElem? (i := 855) rfl), rfl⟩
theorem cl_L_128 {E : zE} {M : zM} {d pc : Nat} {L rest : List zV} {h : zH} {Q : List zV → zH → Prop} {c0 : Nat} {a1 a2 : zV} (hd : decode M.2.1 pc = .ok (.invokevirtual 128, 3)) (hM : M.1.cls = RL) (hs : zsh E c0 = (9, 14)) (hc : c0 < zN E) (h8 : ((rest.map (zrv E)).map fun v => v.category).sum ≤ 8) (k : zCI E mX9_hump d [zR c0, a1, a2] h (fun x h1 => zG E M (d + 1) (pc + 3) L (zI x :: rest) h1 Q)) : zG E M (d + 1) pc L (a2 :: a1 :: zR c0 :: rest) h Q := z_callV (M' := mX9_hump) (as := [a1, a2]) hd rfl hs hc (by decide) rfl (by rw [hM]; exact wm_L_128) wn_X9_hump wl_X9_hump wi_X9 wc_X9_hump wy_X9_hump (by decide) h8 (zC_mono (by rintro r h1 ⟨x, rfl, hk⟩; exact hk) k)
set_option maxRecDepth 100000 in
theorem wn_X7_binOf : Cond.instanceMethod mX7_binOf.1 ∈ ztb := List.mem_filter.mpr ⟨List.mem_append_right _ (List.mem_of_getElem? (i := 860) rfl), rfl⟩
set_option maxRecDepth 100000 in
theorem wl_X7_binOf : Cond.selects mX7_binOf.1.cls mX7_binOf.1 mX7_binOf.1 ∈ ztb := List.mem_filter.mpr ⟨List.mem_append_right _ (List.mem_of_getElem? (i := 861) rfl), rfl⟩
set_option maxRecDepth 100000 in
theorem wm_X9_276 : Cond.methodLink RX9 276 mX7_binOf.1 ∈ ztb := List.mem_filter.mpr ⟨List.mem_append_right _ (List.mem_of_getElem? (i := 859) rfl), rfl⟩
theorem cl_X9_276 {E : zE} {M : zM} {d pc : Nat} {L rest : List zV} {h : zH} {Q : List zV → zH → Prop} {c0 : Nat} {a1 a2 : zV} (hd : decode M.2.1 pc = .ok (.invokevirtual 276, 3)) (hM : M.1.cls = RX9) (hs : zsh E c0 = (7, 2)) (hc : c0 < zN E) (h8 : ((rest.map (zrv E)).map fun v => v.category).sum ≤ 8) (k : zCI E mX7_binOf d [zR c0, a1, a2] h (fun x h1 => zG E M (d + 1) (pc + 3) L (zI x :: rest) h1 Q)) : zG E M (d + 1) pc L (a2 :: a1 :: zR c0 :: rest) h Q := z_callV (M' := mX7_binOf) (as := [a1, a2]) hd rfl hs hc (by decide) rfl (by rw [hM]; exact wm_X9_276) wn_X7_binOf wl_X7_binOf wi_X7 wc_X7_binOf wy_X7_binOf (by decide) h8 (zC_mono (by rintro r h1 ⟨x, rfl, hk⟩; exact hk) k)
set_option maxRecDepth 100000 in
theorem wm_X7_23 : Cond.methodLink RX7 23 mJ9_min_7cf53.1 ∈ ztb := List.mem_filter.mpr ⟨List.mem_append_right _ (List.mem_of_getElem? (i := 863) rfl), rfl⟩
theorem cl_X7_23 {E : zE} {M : zM} {d pc : Nat} {L st : List zV} {h : zH} {Q : List zV → zH → Prop} {a b : Int} (hd : decode M.2.1 pc = .ok (.invokestatic 23, 3)) (hM : M.1.cls = RX7) (h8 : ((st.map (zrv E)).map fun v => v.category).sum ≤ 8) (k : zG E M d (pc + 3) L (zI (min a b) :: st) h Q) : zG E M d pc L (zI b :: zI a :: st) h Q := z_mmin hd (by rw [hM]; exact wm_X7_23) ws_J9_min_7cf53 wi_J9 wc_J9_min_7cf53 h8 k
set_option maxRecDepth 100000 in
theorem wn_X9_wander : Cond.instanceMethod mX9_wander.1 ∈ ztb := List.mem_filter.mpr ⟨List.mem_append_right _ (List.mem_of_getElem? (i := 865) rfl), rfl⟩
set_option maxRecDepth 100000 in
theorem wl_X9_wander : Cond.selects mX9_wander.1.cls mX9_wander.1 mX9_wander.1 ∈ ztb := List.mem_filter.mpr ⟨List.mem_append_right _ (List.mem_of_getElem? (i := 866) rfl), rfl⟩
set_option maxRecDepth 100000 in
theorem wm_L_132 : Cond.methodLink RL 132 mX9_wander.1 ∈ ztb := List.mem_filter.mpr ⟨List.mem_append_right _ (List.mem_of_getElem? (i := 864) rfl), rfl⟩
theorem cl_L_132 {E : zE} {M : zM} {d pc : Nat} {L rest : List zV} {h : zH} {Q : List zV → zH → Prop} {c0 : Nat} {a1 a2 : zV} (hd : decode M.2.1 pc = .ok (.invokevirtual 132, 3)) (hM : M.1.cls = RL) (hs : zsh E c0 = (9, 14)) (hc : c0 < zN E) (h8 : ((rest.map (zrv E)).map fun v => v.category).sum ≤ 8) (k : zCI E mX9_wander d [zR c0, a1, a2] h (fun x h1 => zG E M (d + 1) (pc + 3) L (zI x :: rest) h1 Q)) : zG E M (d + 1) pc L (a2 :: a1 :: zR c0 :: rest) h Q := z_callV (M' := mX9_wander) (as := [a1, a2]) hd rfl hs hc (by decide) rfl (by rw [hM]; exact wm_L_132) wn_X9_wander wl_X9_wander wi_X9 wc_X9_wander wy_X9_wander (by decide) h8 (zC_mono (by rintro r h1 ⟨x, rfl, hk⟩; exact hk) k)
set_option maxRecDepth 100000 in
theorem wm_X9_281 : Cond.methodLink RX9 281 mJ9_max_7cf53.1 ∈ ztb := List.mem_filter.mpr ⟨List.mem_append_right _ (List.mem_of_getElem? (i := 868) rfl), rfl⟩
theorem cl_X9_281 {E : zE} {M : zM} {d pc : Nat} {L st : List zV} {h : zH} {Q : List zV → zH → Prop} {a b : Int} (hd : decode M.2.1 pc = .ok (.invokestatic 281, 3)) (hM : M.1.cls = RX9) (h8 : ((st.map (zrv E)).map fun v => v.category).sum ≤ 8) (k : zG E M d (pc + 3) L (zI (max a b) :: st) h Q) : zG E M d pc L (zI b :: zI a :: st) h Q := z_mmax hd (by rw [hM]; exact wm_X9_281) ws_J9_max_7cf53 wi_J9 wc_J9_max_7cf53 h8 k
set_option maxRecDepth 100000 in
theorem wn_X9_unit : Cond.instanceMethod mX9_unit.1 ∈ ztb := List.mem_filter.mpr ⟨List.mem_append_right _ (List.mem_of_getElem? (i := 870) rfl), rfl⟩
set_option maxRecDepth 100000 in
theorem wl_X9_unit : Cond.selects mX9_unit.1.cls mX9_unit.1 mX9_unit.1 ∈ ztb := List.mem_filter.mpr ⟨List.mem_append_right _ (List.mem_of_getElem? (i := 871) rfl), rfl⟩
set_option maxRecDepth 100000 in
theorem wm_L_106 : Cond.methodLink RL 106 mX9_unit.1 ∈ ztb := List.mem_filter.mpr ⟨List.mem_append_right _ (List.mem_of_getElem? (i := 869) rfl), rfl⟩
theorem cl_L_106 {E : zE} {M : zM} {d pc : Nat} {L rest : List zV} {h : zH} {Q : List zV → zH → Prop} {c0 : Nat} {a1 a2 a3 a4 : zV} (hd : decode M.2.1 pc = .ok (.invokevirtual 106, 3)) (hM : M.1.cls = RL) (hs : zsh E c0 = (9, 14)) (hc : c0 < zN E) (h8 : ((rest.map (zrv E)).map fun v => v.category).sum ≤ 8) (k : zCI E mX9_unit d [zR c0, a1, a2, a3, a4] h (fun x h1 => zG E M (d + 1) (pc + 3) L (zI x :: rest) h1 Q)) : zG E M (d + 1) pc L (a4 :: a3 :: a2 :: a1 :: zR c0 :: rest) h Q := z_callV (M' := mX9_unit) (as := [a1, a2, a3, a4]) hd rfl hs hc (by decide) rfl (by rw [hM]; exact wm_L_106) wn_X9_unit wl_X9_unit wi_X9 wc_X9_unit wy_X9_unit (by decide) h8 (zC_mono (by rintro r h1 ⟨x, rfl, hk⟩; exact hk) k)
set_option maxRecDepth 100000 in
theorem ws_X9_unitsOf : Cond.static mX9_unitsOf.1 ∈ ztb := List.mem_filter.mpr ⟨List.mem_append_right _ (List.mem_of_getElem? (i := 874) rfl), rfl⟩
set_option maxRecDepth 100000 in
theorem wm_X9_286 : Cond.methodLink RX9 286 mX9_unitsOf.1 ∈ ztb := List.mem_filter.mpr ⟨List.mem_append_right _ (List.mem_of_getElem? (i := 873) rfl), rfl⟩
theorem cl_X9_286 {E : zE} {M : zM} {d pc : Nat} {L rest : List zV} {h : zH} {Q : List zV → zH → Prop} {a1 a2 a3 : zV} (hd : decode M.2.1 pc = .ok (.invokestatic 286, 3)) (hM : M.1.cls = RX9) (h8 : ((rest.map (zrv E)).map fun v => v.category).sum ≤ 8) (k : zCI E mX9_unitsOf d [a1, a2, a3] h (fun x h1 => zG E M (d + 1) (pc + 3) L (zI x :: rest) h1 Q)) : zG E M (d + 1) pc L (a3 :: a2 :: a1 :: rest) h Q := z_callS (M' := mX9_unitsOf) (as := [a1, a2, a3]) hd rfl (by rw [hM]; exact wm_X9_286) ws_X9_unitsOf wi_X9 wc_X9_unitsOf wy_X9_unitsOf (by decide) h8 (zC_mono (by rintro r h1 ⟨x, rfl, hk⟩; exact hk) k)
set_option maxRecDepth 100000 in
theorem wn_X7_bestUnit : Cond.instanceMethod mX7_bestUnit.1 ∈ ztb := List.mem_filter.mpr ⟨List.mem_append_right _ (List.mem_of_getElem? (i := 877) rfl), rfl⟩
set_option maxRecDepth 100000 in
theorem wl_X7_bestUnit : Cond.selects mX7_bestUnit.1.cls mX7_bestUnit.1 mX7_bestUnit.1 ∈ ztb := List.mem_filter.mpr ⟨List.mem_append_right _ (List.mem_of_getElem? (i := 878) rfl), rfl⟩
set_option maxRecDepth 100000 in
theorem wm_X9_289 : Cond.methodLink RX9 289 mX7_bestUnit.1 ∈ ztb := List.mem_filter.mpr ⟨List.mem_append_right _ (List.mem_of_getElem? (i := 876) rfl), rfl⟩
theorem cl_X9_289 {E : zE} {M : zM} {d pc : Nat} {L rest : List zV} {h : zH} {Q : List zV → zH → Prop} {c0 : Nat} {a1 a2 a3 a4 : zV} (hd : decode M.2.1 pc = .ok (.invokevirtual 289, 3)) (hM : M.1.cls = RX9) (hs : zsh E c0 = (7, 2)) (hc : c0 < zN E) (h8 : ((rest.map (zrv E)).map fun v => v.category).sum ≤ 8) (k : zCI E mX7_bestUnit d [zR c0, a1, a2, a3, a4] h (fun x h1 => zG E M (d + 1) (pc + 3) L (zI x :: rest) h1 Q)) : zG E M (d + 1) pc L (a4 :: a3 :: a2 :: a1 :: zR c0 :: rest) h Q := z_callV (M' := mX7_bestUnit) (as := [a1, a2, a3, a4]) hd rfl hs hc (by decide) rfl (by rw [hM]; exact wm_X9_289) wn_X7_bestUnit wl_X7_bestUnit wi_X7 wc_X7_bestUnit wy_X7_bestUnit (by decide) h8 (zC_mono (by rintro r h1 ⟨x, rfl, hk⟩; exact hk) k)
set_option maxRecDepth 100000 in
theorem wm_X7_39 : Cond.methodLink RX7 39 mX7_sumOfLumps.1 ∈ ztb := List.mem_filter.mpr ⟨List.mem_append_right _ (List.mem_of_getElem? (i := 883) rfl), rfl⟩
theorem cl_X7_39 {E : zE} {M : zM} {d pc : Nat} {L rest : List zV} {h : zH} {Q : List zV → zH → Prop} {c0 : Nat} {a1 : zV} (hd : decode M.2.1 pc = .ok (.invokevirtual 39, 3)) (hM : M.1.cls = RX7) (hs : zsh E c0 = (7, 2)) (hc : c0 < zN E) (h8 : ((rest.map (zrv E)).map fun v => v.category).sum ≤ 8) (k : zCI E mX7_sumOfLumps d [zR c0, a1] h (fun x h1 => zG E M (d + 1) (pc + 3) L (zI x :: rest) h1 Q)) : zG E M (d + 1) pc L (a1 :: zR c0 :: rest) h Q := z_callV (M' := mX7_sumOfLumps) (as := [a1]) hd rfl hs hc (by decide) rfl (by rw [hM]; exact wm_X7_39) wn_X7_sumOfLumps wl_X7_sumOfLumps wi_X7 wc_X7_sumOfLumps wy_X7_sumOfLumps (by decide) h8 (zC_mono (by rintro r h1 ⟨x, rfl, hk⟩; exact hk) k)
set_option maxRecDepth 100000 in
theorem wn_X9_any : Cond.instanceMethod mX9_any.1 ∈ ztb := List.mem_filter.mpr ⟨List.mem_append_right _ (List.mem_of_getElem? (i := 885) rfl), rfl⟩
set_option maxRecDepth 100000 in
theorem wl_X9_any : Cond.selects mX9_any.1.cls mX9_any.1 mX9_any.1 ∈ ztb := List.mem_filter.mpr ⟨List.mem_append_right _ (List.mem_of_getElem? (i := 886) rfl), rfl⟩
set_option maxRecDepth 100000 in
theorem wm_L_114 : Cond.methodLink RL 114 mX9_any.1 ∈ ztb := List.mem_filter.mpr ⟨List.mem_append_right _ (List.mem_of_getElem? (i := 884) rfl), rfl⟩
theorem cl_L_114 {E : zE} {M : zM} {d pc : Nat} {L rest : List zV} {h : zH} {Q : List zV → zH → Prop} {c0 : Nat} {a1 a2 a3 a4 a5 a6 : zV} (hd : decode M.2.1 pc = .ok (.invokevirtual 114, 3)) (hM : M.1.cls = RL) (hs : zsh E c0 = (9, 14)) (hc : c0 < zN E) (h8 : ((rest.map (zrv E)).map fun v => v.category).sum ≤ 8) (k : zCI E mX9_any d [zR c0, a1, a2, a3, a4, a5, a6] h (fun x h1 => zG E M (d + 1) (pc + 3) L (zI x :: rest) h1 Q)) : zG E M (d + 1) pc L (a6 :: a5 :: a4 :: a3 :: a2 :: a1 :: zR c0 :: rest) h Q := z_callV (M' := mX9_any) (as := [a1, a2, a3, a4, a5, a6]) hd rfl hs hc (by decide) rfl (by rw [hM]; exact wm_L_114) wn_X9_any wl_X9_any wi_X9 wc_X9_any wy_X9_any (by decide) h8 (zC_mono (by rintro r h1 ⟨x, rfl, hk⟩; exact hk) k)
set_option maxRecDepth 100000 in
theorem wn_X7_lumpsOfBestUnit : Cond.instanceMethod mX7_lumpsOfBestUnit.1 ∈ ztb := List.mem_filter.mpr ⟨List.mem_append_right _ (List.mem_of_getElem? (i := 889) rfl), rfl⟩
set_option maxRecDepth 100000 in
theorem wl_X7_lumpsOfBestUnit : Cond.selects mX7_lumpsOfBestUnit.1.cls mX7_lumpsOfBestUnit.1 mX7_lumpsOfBestUnit.1 ∈ ztb := List.mem_filter.mpr ⟨List.mem_append_right _ (List.mem_of_getElem? (i := 890) rfl), rfl⟩
set_option maxRecDepth 100000 in
theorem wm_X9_293 : Cond.methodLink RX9 293 mX7_lumpsOfBestUnit.1 ∈ ztb := List.mem_filter.mpr ⟨List.mem_append_right _ (List.mem_of_getElem? (i := 888) rfl), rfl⟩
theorem cl_X9_293 {E : zE} {M : zM} {d pc : Nat} {L rest : List zV} {h : zH} {Q : List zV → zH → Prop} {c0 : Nat} {a1 a2 a3 a4 : zV} (hd : decode M.2.1 pc = .ok (.invokevirtual 293, 3)) (hM : M.1.cls = RX9) (hs : zsh E c0 = (7, 2)) (hc : c0 < zN E) (h8 : ((rest.map (zrv E)).map fun v => v.category).sum ≤ 8) (k : zCI E mX7_lumpsOfBestUnit d [zR c0, a1, a2, a3, a4] h (fun x h1 => zG E M (d + 1) (pc + 3) L (zI x :: rest) h1 Q)) : zG E M (d + 1) pc L (a4 :: a3 :: a2 :: a1 :: zR c0 :: rest) h Q := z_callV (M' := mX7_lumpsOfBestUnit) (as := [a1, a2, a3, a4]) hd rfl hs hc (by decide) rfl (by rw [hM]; exact wm_X9_293) wn_X7_lumpsOfBestUnit wl_X7_lumpsOfBestUnit wi_X7 wc_X7_lumpsOfBestUnit wy_X7_lumpsOfBestUnit (by decide) h8 (zC_mono (by rintro r h1 ⟨x, rfl, hk⟩; exact hk) k)
set_option maxRecDepth 100000 in
theorem wm_X7_43 : Cond.methodLink RX7 43 mX7_bestUnit.1 ∈ ztb := List.mem_filter.mpr ⟨List.mem_append_right _ (List.mem_of_getElem? (i := 892) rfl), rfl⟩
theorem cl_X7_43 {E : zE} {M : zM} {d pc : Nat} {L rest : List zV} {h : zH} {Q : List zV → zH → Prop} {c0 : Nat} {a1 a2 a3 a4 : zV} (hd : decode M.2.1 pc = .ok (.invokevirtual 43, 3)) (hM : M.1.cls = RX7) (hs : zsh E c0 = (7, 2)) (hc : c0 < zN E) (h8 : ((rest.map (zrv E)).map fun v => v.category).sum ≤ 8) (k : zCI E mX7_bestUnit d [zR c0, a1, a2, a3, a4] h (fun x h1 => zG E M (d + 1) (pc + 3) L (zI x :: rest) h1 Q)) : zG E M (d + 1) pc L (a4 :: a3 :: a2 :: a1 :: zR c0 :: rest) h Q := z_callV (M' := mX7_bestUnit) (as := [a1, a2, a3, a4]) hd rfl hs hc (by decide) rfl (by rw [hM]; exact wm_X7_43) wn_X7_bestUnit wl_X7_bestUnit wi_X7 wc_X7_bestUnit wy_X7_bestUnit (by decide) h8 (zC_mono (by rintro r h1 ⟨x, rfl, hk⟩; exact hk) k)
set_option maxRecDepth 100000 in
theorem wn_X9_land : Cond.instanceMethod mX9_land.1 ∈ ztb := List.mem_filter.mpr ⟨List.mem_append_right _ (List.mem_of_getElem? (i := 898) rfl), rfl⟩
set_option maxRecDepth 100000 in
theorem wl_X9_land : Cond.selects mX9_land.1.cls mX9_land.1 mX9_land.1 ∈ ztb := List.mem_filter.mpr ⟨List.mem_append_right _ (List.mem_of_getElem? (i := 899) rfl), rfl⟩
set_option maxRecDepth 100000 in
theorem wm_L_136 : Cond.methodLink RL 136 mX9_land.1 ∈ ztb := List.mem_filter.mpr ⟨List.mem_append_right _ (List.mem_of_getElem? (i := 897) rfl), rfl⟩
theorem cl_L_136 {E : zE} {M : zM} {d pc : Nat} {L rest : List zV} {h : zH} {Q : List zV → zH → Prop} {c0 : Nat} {a1 a2 a3 a4 : zV} (hd : decode M.2.1 pc = .ok (.invokevirtual 136, 3)) (hM : M.1.cls = RL) (hs : zsh E c0 = (9, 14)) (hc : c0 < zN E) (h8 : ((rest.map (zrv E)).map fun v => v.category).sum ≤ 8) (k : zCI E mX9_land d [zR c0, a1, a2, a3, a4] h (fun x h1 => zG E M (d + 1) (pc + 3) L (zI x :: rest) h1 Q)) : zG E M (d + 1) pc L (a4 :: a3 :: a2 :: a1 :: zR c0 :: rest) h Q := z_callV (M' := mX9_land) (as := [a1, a2, a3, a4]) hd rfl hs hc (by decide) rfl (by rw [hM]; exact wm_L_136) wn_X9_land wl_X9_land wi_X9 wc_X9_land wy_X9_land (by decide) h8 (zC_mono (by rintro r h1 ⟨x, rfl, hk⟩; exact hk) k)
set_option maxRecDepth 100000 in
theorem wn_X9_apart : Cond.instanceMethod mX9_apart.1 ∈ ztb := List.mem_filter.mpr ⟨List.mem_append_right _ (List.mem_of_getElem? (i := 902) rfl), rfl⟩
set_option maxRecDepth 100000 in
theorem wl_X9_apart : Cond.selects mX9_apart.1.cls mX9_apart.1 mX9_apart.1 ∈ ztb := List.mem_filter.mpr ⟨List.mem_append_right _ (List.mem_of_getElem? (i := 903) rfl), rfl⟩
set_option maxRecDepth 100000 in
theorem wm_L_140 : Cond.methodLink RL 140 mX9_apart.1 ∈ ztb := List.mem_filter.mpr ⟨List.mem_append_right _ (List.mem_of_getElem? (i := 901) rfl), rfl⟩
theorem cl_L_140 {E : zE} {M : zM} {d pc : Nat} {L rest : List zV} {h : zH} {Q : List zV → zH → Prop} {c0 : Nat} {a1 a2 a3 : zV} (hd : decode M.2.1 pc = .ok (.invokevirtual 140, 3)) (hM : M.1.cls = RL) (hs : zsh E c0 = (9, 14)) (hc : c0 < zN E) (h8 : ((rest.map (zrv E)).map fun v => v.category).sum ≤ 8) (k : zCI E mX9_apart d [zR c0, a1, a2, a3] h (fun x h1 => zG E M (d + 1) (pc + 3) L (zI x :: rest) h1 Q)) : zG E M (d + 1) pc L (a3 :: a2 :: a1 :: zR c0 :: rest) h Q := z_callV (M' := mX9_apart) (as := [a1, a2, a3]) hd rfl hs hc (by decide) rfl (by rw [hM]; exact wm_L_140) wn_X9_apart wl_X9_apart wi_X9 wc_X9_apart wy_X9_apart (by decide) h8 (zC_mono (by rintro r h1 ⟨x, rfl, hk⟩; exact hk) k)
set_option maxRecDepth 100000 in
theorem wm_X9_305 : Cond.methodLink RX9 305 mJ9_min_7cf53.1 ∈ ztb := List.mem_filter.mpr ⟨List.mem_append_right _ (List.mem_of_getElem? (i := 906) rfl), rfl⟩
theorem cl_X9_305 {E : zE} {M : zM} {d pc : Nat} {L st : List zV} {h : zH} {Q : List zV → zH → Prop} {a b : Int} (hd : decode M.2.1 pc = .ok (.invokestatic 305, 3)) (hM : M.1.cls = RX9) (h8 : ((st.map (zrv E)).map fun v => v.category).sum ≤ 8) (k : zG E M d (pc + 3) L (zI (min a b) :: st) h Q) : zG E M d pc L (zI b :: zI a :: st) h Q := z_mmin hd (by rw [hM]; exact wm_X9_305) ws_J9_min_7cf53 wi_J9 wc_J9_min_7cf53 h8 k
set_option maxRecDepth 100000 in
theorem wn_X9_ahead : Cond.instanceMethod mX9_ahead.1 ∈ ztb := List.mem_filter.mpr ⟨List.mem_append_right _ (List.mem_of_getElem? (i := 908) rfl), rfl⟩
set_option maxRecDepth 100000 in
theorem wl_X9_ahead : Cond.selects mX9_ahead.1.cls mX9_ahead.1 mX9_ahead.1 ∈ ztb := List.mem_filter.mpr ⟨List.mem_append_right _ (List.mem_of_getElem? (i := 909) rfl), rfl⟩
set_option maxRecDepth 100000 in
theorem wm_L_156 : Cond.methodLink RL 156 mX9_ahead.1 ∈ ztb := List.mem_filter.mpr ⟨List.mem_append_right _ (List.mem_of_getElem? (i := 907) rfl), rfl⟩
theorem cl_L_156 {E : zE} {M : zM} {d pc : Nat} {L rest : List zV} {h : zH} {Q : List zV → zH → Prop} {c0 : Nat} {a1 a2 a3 a4 a5 : zV} (hd : decode M.2.1 pc = .ok (.invokevirtual 156, 3)) (hM : M.1.cls = RL) (hs : zsh E c0 = (9, 14)) (hc : c0 < zN E) (h8 : ((rest.map (zrv E)).map fun v => v.category).sum ≤ 8) (k : zCI E mX9_ahead d [zR c0, a1, a2, a3, a4, a5] h (fun x h1 => zG E M (d + 1) (pc + 3) L (zI x :: rest) h1 Q)) : zG E M (d + 1) pc L (a5 :: a4 :: a3 :: a2 :: a1 :: zR c0 :: rest) h Q := z_callV (M' := mX9_ahead) (as := [a1, a2, a3, a4, a5]) hd rfl hs hc (by decide) rfl (by rw [hM]; exact wm_L_156) wn_X9_ahead wl_X9_ahead wi_X9 wc_X9_ahead wy_X9_ahead (by decide) h8 (zC_mono (by rintro r h1 ⟨x, rfl, hk⟩; exact hk) k)
set_option maxRecDepth 100000 in
theorem wn_X9_sizeThen : Cond.instanceMethod mX9_sizeThen.1 ∈ ztb := List.mem_filter.mpr ⟨List.mem_append_right _ (List.mem_of_getElem? (i := 913) rfl), rfl⟩
set_option maxRecDepth 100000 in
theorem wl_X9_sizeThen : Cond.selects mX9_sizeThen.1.cls mX9_sizeThen.1 mX9_sizeThen.1 ∈ ztb := List.mem_filter.mpr ⟨List.mem_append_left _ (List.mem_of_getElem? (i := 35) rfl), rfl⟩
set_option maxRecDepth 100000 in
theorem wm_X9_308 : Cond.methodLink RX9 308 mX9_sizeThen.1 ∈ ztb := List.mem_filter.mpr ⟨List.mem_append_right _ (List.mem_of_getElem? (i := 911) rfl), rfl⟩
theorem cl_X9_308 {E : zE} {M : zM} {d pc : Nat} {L rest : List zV} {h : zH} {Q : List zV → zH → Prop} {c0 : Nat} {a1 : zV} (hd : decode M.2.1 pc = .ok (.invokevirtual 308, 3)) (hM : M.1.cls = RX9) (hs : zsh E c0 = (9, 14)) (hc : c0 < zN E) (h8 : ((rest.map (zrv E)).map fun v => v.category).sum ≤ 8) (k : zCI E mX9_sizeThen d [zR c0, a1] h (fun x h1 => zG E M (d + 1) (pc + 3) L (zI x :: rest) h1 Q)) : zG E M (d + 1) pc L (a1 :: zR c0 :: rest) h Q := z_callV (M' := mX9_sizeThen) (as := [a1]) hd rfl hs hc (by decide) rfl (by rw [hM]; exact wm_X9_308) wn_X9_sizeThen wl_X9_sizeThen wi_X9 wc_X9_sizeThen wy_X9_sizeThen (by decide) h8 (zC_mono (by rintro r h1 ⟨x, rfl, hk⟩; exact hk) k)
set_option maxRecDepth 100000 in
theorem wn_X0_isAs : Cond.instanceMethod mX0_isAs.1 ∈ ztb := List.mem_filter.mpr ⟨List.mem_append_right _ (List.mem_of_getElem? (i := 916) rfl), rfl⟩
set_option maxRecDepth 100000 in
theorem wl_X0_isAs : Cond.selects mX0_isAs.1.cls mX0_isAs.1 mX0_isAs.1 ∈ ztb := List.mem_filter.mpr ⟨List.mem_append_right _ (List.mem_of_getElem? (i := 917) rfl), rfl⟩
set_option maxRecDepth 100000 in
theorem wm_X9_314 : Cond.methodLink RX9 314 mX0_isAs.1 ∈ ztb := List.mem_filter.mpr ⟨List.mem_append_right _ (List.mem_of_getElem? (i := 915) rfl), rfl⟩
theorem cl_X9_314 {E : zE} {M : zM} {d pc : Nat} {L rest : List zV} {h : zH} {Q : List zV → zH → Prop} {c0 : Nat} {a1 a2 : zV} (hd : decode M.2.1 pc = .ok (.invokevirtual 314, 3)) (hM : M.1.cls = RX9) (hs : zsh E c0 = (0, 13)) (hc : c0 < zN E) (h8 : ((rest.map (zrv E)).map fun v => v.category).sum ≤ 8) (k : zCI E mX0_isAs d [zR c0, a1, a2] h (fun x h1 => zG E M (d + 1) (pc + 3) L (zI x :: rest) h1 Q)) : zG E M (d + 1) pc L (a2 :: a1 :: zR c0 :: rest) h Q := z_callV (M' := mX0_isAs) (as := [a1, a2]) hd rfl hs hc (by decide) rfl (by rw [hM]; exact wm_X9_314) wn_X0_isAs wl_X0_isAs wi_X0 wc_X0_isAs wy_X0_isAs (by decide) h8 (zC_mono (by rintro r h1 ⟨x, rfl, hk⟩; exact hk) k)
set_option maxRecDepth 100000 in
theorem wn_X9_countTapedSince : Cond.instanceMethod mX9_countTapedSince.1 ∈ ztb := List.mem_filter.mpr ⟨List.mem_append_right _ (List.mem_of_getElem? (i := 921) rfl), rfl⟩
set_option maxRecDepth 100000 in
theorem wl_X9_countTapedSince : Cond.selects mX9_countTapedSince.1.cls mX9_countTapedSince.1 mX9_countTapedSince.1 ∈ ztb := List.mem_filter.mpr ⟨List.mem_append_left _ (List.mem_of_getElem? (i := 36) rfl), rfl⟩
set_option maxRecDepth 100000 in
theorem wm_X9_311 : Cond.methodLink RX9 311 mX9_countTapedSince.1 ∈ ztb := List.mem_filter.mpr ⟨List.mem_append_right _ (List.mem_of_getElem? (i := 919) rfl), rfl⟩
theorem cl_X9_311 {E : zE} {M : zM} {d pc : Nat} {L rest : List zV} {h : zH} {Q : List zV → zH → Prop} {c0 : Nat} {a1 a2 : zV} (hd : decode M.2.1 pc = .ok (.invokevirtual 311, 3)) (hM : M.1.cls = RX9) (hs : zsh E c0 = (9, 14)) (hc : c0 < zN E) (h8 : ((rest.map (zrv E)).map fun v => v.category).sum ≤ 8) (k : zCI E mX9_countTapedSince d [zR c0, a1, a2] h (fun x h1 => zG E M (d + 1) (pc + 3) L (zI x :: rest) h1 Q)) : zG E M (d + 1) pc L (a2 :: a1 :: zR c0 :: rest) h Q := z_callV (M' := mX9_countTapedSince) (as := [a1, a2]) hd rfl hs hc (by decide) rfl (by rw [hM]; exact wm_X9_311) wn_X9_countTapedSince wl_X9_countTapedSince wi_X9 wc_X9_countTapedSince wy_X9_countTapedSince (by decide) h8 (zC_mono (by rintro r h1 ⟨x, rfl, hk⟩; exact hk) k)
set_option maxRecDepth 100000 in
theorem wn_X9_tells : Cond.instanceMethod mX9_tells.1 ∈ ztb := List.mem_filter.mpr ⟨List.mem_append_right _ (List.mem_of_getElem? (i := 924) rfl), rfl⟩
set_option maxRecDepth 100000 in
theorem wl_X9_tells : Cond.selects mX9_tells.1.cls mX9_tells.1 mX9_tells.1 ∈ ztb := List.mem_filter.mpr ⟨List.mem_append_right _ (List.mem_of_getElem? (i := 925) rfl), rfl⟩
set_option maxRecDepth 100000 in
theorem wm_L_123 : Cond.methodLink RL 123 mX9_tells.1 ∈ ztb := List.mem_filter.mpr ⟨List.mem_append_right _ (List.mem_of_getElem? (i := 923) rfl), rfl⟩
theorem cl_L_123 {E : zE} {M : zM} {d pc : Nat} {L rest : List zV} {h : zH} {Q : List zV → zH → Prop} {c0 : Nat} {a1 a2 a3 : zV} (hd : decode M.2.1 pc = .ok (.invokevirtual 123, 3)) (hM : M.1.cls = RL) (hs : zsh E c0 = (9, 14)) (hc : c0 < zN E) (h8 : ((rest.map (zrv E)).map fun v => v.category).sum ≤ 8) (k : zCJ E mX9_tells d [zR c0, a1, a2, a3] h (fun x h1 => zG E M (d + 1) (pc + 3) L (zJ x :: rest) h1 Q)) : zG E M (d + 1) pc L (a3 :: a2 :: a1 :: zR c0 :: rest) h Q := z_callV (M' := mX9_tells) (as := [a1, a2, a3]) hd rfl hs hc (by decide) rfl (by rw [hM]; exact wm_L_123) wn_X9_tells wl_X9_tells wi_X9 wc_X9_tells wy_X9_tells (by decide) h8 (zC_mono (by rintro r h1 ⟨x, rfl, hk⟩; exact hk) k)
set_option maxRecDepth 100000 in
theorem wn_X8_weightOf : Cond.instanceMethod mX8_weightOf.1 ∈ ztb := List.mem_filter.mpr ⟨List.mem_append_right _ (List.mem_of_getElem? (i := 929) rfl), rfl⟩
set_option maxRecDepth 100000 in
theorem wl_X8_weightOf : Cond.selects mX8_weightOf.1.cls mX8_weightOf.1 mX8_weightOf.1 ∈ ztb := List.mem_filter.mpr ⟨List.mem_append_right _ (List.mem_of_getElem? (i := 930) rfl), rfl⟩
set_option maxRecDepth 100000 in
theorem wm_X9_320 : Cond.methodLink RX9 320 mX8_weightOf.1 ∈ ztb := List.mem_filter.mpr ⟨List.mem_append_right _ (List.mem_of_getElem? (i := 928) rfl), rfl⟩
theorem cl_X9_320 {E : zE} {M : zM} {d pc : Nat} {L rest : List zV} {h : zH} {Q : List zV → zH → Prop} {c0 : Nat} {a1 a2 a3 : zV} (hd : decode M.2.1 pc = .ok (.invokevirtual 320, 3)) (hM : M.1.cls = RX9) (hs : zsh E c0 = (8, 17)) (hc : c0 < zN E) (h8 : ((rest.map (zrv E)).map fun v => v.category).sum ≤ 8) (k : zCJ E mX8_weightOf d [zR c0, a1, a2, a3] h (fun x h1 => zG E M (d + 1) (pc + 3) L (zJ x :: rest) h1 Q)) : zG E M (d + 1) pc L (a3 :: a2 :: a1 :: zR c0 :: rest) h Q := z_callV (M' := mX8_weightOf) (as := [a1, a2, a3]) hd rfl hs hc (by decide) rfl (by rw [hM]; exact wm_X9_320) wn_X8_weightOf wl_X8_weightOf wi_X8 wc_X8_weightOf wy_X8_weightOf (by decide) h8 (zC_mono (by rintro r h1 ⟨x, rfl, hk⟩; exact hk) k)
set_option maxRecDepth 100000 in
theorem wm_X8_94 : Cond.methodLink RX8 94 mX7_binOf.1 ∈ ztb := List.mem_filter.mpr ⟨List.mem_append_right _ (List.mem_of_getElem? (i := 932) rfl), rfl⟩
theorem cl_X8_94 {E : zE} {M : zM} {d pc : Nat} {L rest : List zV} {h : zH} {Q : List zV → zH → Prop} {c0 : Nat} {a1 a2 : zV} (hd : decode M.2.1 pc = .ok (.invokevirtual 94, 3)) (hM : M.1.cls = RX8) (hs : zsh E c0 = (7, 2)) (hc : c0 < zN E) (h8 : ((rest.map (zrv E)).map fun v => v.category).sum ≤ 8) (k : zCI E mX7_binOf d [zR c0, a1, a2] h (fun x h1 => zG E M (d + 1) (pc + 3) L (zI x :: rest) h1 Q)) : zG E M (d + 1) pc L (a2 :: a1 :: zR c0 :: rest) h Q := z_callV (M' := mX7_binOf) (as := [a1, a2]) hd rfl hs hc (by decide) rfl (by rw [hM]; exact wm_X8_94) wn_X7_binOf wl_X7_binOf wi_X7 wc_X7_binOf wy_X7_binOf (by decide) h8 (zC_mono (by rintro r h1 ⟨x, rfl, hk⟩; exact hk) k)
set_option maxRecDepth 100000 in
theorem ws_X9_inLeastTerms : Cond.static mX9_inLeastTerms.1 ∈ ztb := List.mem_filter.mpr ⟨List.mem_append_right _ (List.mem_of_getElem? (i := 934) rfl), rfl⟩
set_option maxRecDepth 100000 in
theorem wm_X9_324 : Cond.methodLink RX9 324 mX9_inLeastTerms.1 ∈ ztb := List.mem_filter.mpr ⟨List.mem_append_right _ (List.mem_of_getElem? (i := 933) rfl), rfl⟩
theorem cl_X9_324 {E : zE} {M : zM} {d pc : Nat} {L rest : List zV} {h : zH} {Q : List zV → zH → Prop} {a1 a2 a3 : zV} (hd : decode M.2.1 pc = .ok (.invokestatic 324, 3)) (hM : M.1.cls = RX9) (h8 : ((rest.map (zrv E)).map fun v => v.category).sum ≤ 8) (k : zCJ E mX9_inLeastTerms d [a1, a2, a3] h (fun x h1 => zG E M (d + 1) (pc + 3) L (zJ x :: rest) h1 Q)) : zG E M (d + 1) pc L (a3 :: a2 :: a1 :: rest) h Q := z_callS (M' := mX9_inLeastTerms) (as := [a1, a2, a3]) hd rfl (by rw [hM]; exact wm_X9_324) ws_X9_inLeastTerms wi_X9 wc_X9_inLeastTerms wy_X9_inLeastTerms (by decide) h8 (zC_mono (by rintro r h1 ⟨x, rfl, hk⟩; exact hk) k)
set_option maxRecDepth 100000 in
theorem wm_X9_343 : Cond.methodLink RX9 343 mJ9_abs_067f4.1 ∈ ztb := List.mem_filter.mpr ⟨List.mem_append_right _ (List.mem_of_getElem? (i := 936) rfl), rfl⟩
theorem cl_X9_343 {E : zE} {M : zM} {d pc : Nat} {L st : List zV} {h : zH} {Q : List zV → zH → Prop} {a : Int} (hd : decode M.2.1 pc = .ok (.invokestatic 343, 3)) (hM : M.1.cls = RX9) (h8 : ((st.map (zrv E)).map fun v => v.category).sum ≤ 8) (k : zG E M d (pc + 3) L (zJ (zabsJ a) :: st) h Q) : zG E M d pc L (zJ a :: st) h Q := z_mabsJ hd (by rw [hM]; exact wm_X9_343) ws_J9_abs_067f4 wi_J9 wc_J9_abs_067f4 h8 k
set_option maxRecDepth 100000 in
theorem wn_X9_blind : Cond.instanceMethod mX9_blind.1 ∈ ztb := List.mem_filter.mpr ⟨List.mem_append_right _ (List.mem_of_getElem? (i := 938) rfl), rfl⟩
set_option maxRecDepth 100000 in
theorem wl_X9_blind : Cond.selects mX9_blind.1.cls mX9_blind.1 mX9_blind.1 ∈ ztb := List.mem_filter.mpr ⟨List.mem_append_right _ (List.mem_of_getElem? (i := 939) rfl), rfl⟩
set_option maxRecDepth 100000 in
theorem wm_L_148 : Cond.methodLink RL 148 mX9_blind.1 ∈ ztb := List.mem_filter.mpr ⟨List.mem_append_right _ (List.mem_of_getElem? (i := 937) rfl), rfl⟩
theorem cl_L_148 {E : zE} {M : zM} {d pc : Nat} {L rest : List zV} {h : zH} {Q : List zV → zH → Prop} {c0 : Nat} {a1 a2 : zV} (hd : decode M.2.1 pc = .ok (.invokevirtual 148, 3)) (hM : M.1.cls = RL) (hs : zsh E c0 = (9, 14)) (hc : c0 < zN E) (h8 : ((rest.map (zrv E)).map fun v => v.category).sum ≤ 8) (k : zCI E mX9_blind d [zR c0, a1, a2] h (fun x h1 => zG E M (d + 1) (pc + 3) L (zI x :: rest) h1 Q)) : zG E M (d + 1) pc L (a2 :: a1 :: zR c0 :: rest) h Q := z_callV (M' := mX9_blind) (as := [a1, a2]) hd rfl hs hc (by decide) rfl (by rw [hM]; exact wm_L_148) wn_X9_blind wl_X9_blind wi_X9 wc_X9_blind wy_X9_blind (by decide) h8 (zC_mono (by rintro r h1 ⟨x, rfl, hk⟩; exact hk) k)
set_option maxRecDepth 100000 in
theorem wn_X8_saidOf : Cond.instanceMethod mX8_saidOf.1 ∈ ztb := List.mem_filter.mpr ⟨List.mem_append_right _ (List.mem_of_getElem? (i := 942) rfl), rfl⟩
set_option maxRecDepth 100000 in
theorem wl_X8_saidOf : Cond.selects mX8_saidOf.1.cls mX8_saidOf.1 mX8_saidOf.1 ∈ ztb := List.mem_filter.mpr ⟨List.mem_append_right _ (List.mem_of_getElem? (i := 943) rfl), rfl⟩
set_option maxRecDepth 100000 in
theorem wm_X9_331 : Cond.methodLink RX9 331 mX8_saidOf.1 ∈ ztb := List.mem_filter.mpr ⟨List.mem_append_right _ (List.mem_of_getElem? (i := 941) rfl), rfl⟩
theorem cl_X9_331 {E : zE} {M : zM} {d pc : Nat} {L rest : List zV} {h : zH} {Q : List zV → zH → Prop} {c0 : Nat} {a1 a2 : zV} (hd : decode M.2.1 pc = .ok (.invokevirtual 331, 3)) (hM : M.1.cls = RX9) (hs : zsh E c0 = (8, 17)) (hc : c0 < zN E) (h8 : ((rest.map (zrv E)).map fun v => v.category).sum ≤ 8) (k : zCI E mX8_saidOf d [zR c0, a1, a2] h (fun x h1 => zG E M (d + 1) (pc + 3) L (zI x :: rest) h1 Q)) : zG E M (d + 1) pc L (a2 :: a1 :: zR c0 :: rest) h Q := z_callV (M' := mX8_saidOf) (as := [a1, a2]) hd rfl hs hc (by decide) rfl (by rw [hM]; exact wm_X9_331) wn_X8_saidOf wl_X8_saidOf wi_X8 wc_X8_saidOf wy_X8_saidOf (by decide) h8 (zC_mono (by rintro r h1 ⟨x, rfl, hk⟩; exact hk) k)
set_option maxRecDepth 100000 in
theorem wn_X9_lean : Cond.instanceMethod mX9_lean.1 ∈ ztb := List.mem_filter.mpr ⟨List.mem_append_right _ (List.mem_of_getElem? (i := 946) rfl), rfl⟩
set_option maxRecDepth 100000 in
theorem wl_X9_lean : Cond.selects mX9_lean.1.cls mX9_lean.1 mX9_lean.1 ∈ ztb := List.mem_filter.mpr ⟨List.mem_append_right _ (List.mem_of_getElem? (i := 947) rfl), rfl⟩
set_option maxRecDepth 100000 in
theorem wm_L_152 : Cond.methodLink RL 152 mX9_lean.1 ∈ ztb := List.mem_filter.mpr ⟨List.mem_append_right _ (List.mem_of_getElem? (i := 945) rfl), rfl⟩
theorem cl_L_152 {E : zE} {M : zM} {d pc : Nat} {L rest : List zV} {h : zH} {Q : List zV → zH → Prop} {c0 : Nat} {a1 a2 : zV} (hd : decode M.2.1 pc = .ok (.invokevirtual 152, 3)) (hM : M.1.cls = RL) (hs : zsh E c0 = (9, 14)) (hc : c0 < zN E) (h8 : ((rest.map (zrv E)).map fun v => v.category).sum ≤ 8) (k : zCI E mX9_lean d [zR c0, a1, a2] h (fun x h1 => zG E M (d + 1) (pc + 3) L (zI x :: rest) h1 Q)) : zG E M (d + 1) pc L (a2 :: a1 :: zR c0 :: rest) h Q := z_callV (M' := mX9_lean) (as := [a1, a2]) hd rfl hs hc (by decide) rfl (by rw [hM]; exact wm_L_152) wn_X9_lean wl_X9_lean wi_X9 wc_X9_lean wy_X9_lean (by decide) h8 (zC_mono (by rintro r h1 ⟨x, rfl, hk⟩; exact hk) k)
set_option maxRecDepth 100000 in
theorem wn_X9_count : Cond.instanceMethod mX9_count.1 ∈ ztb := List.mem_filter.mpr ⟨List.mem_append_right _ (List.mem_of_getElem? (i := 950) rfl), rfl⟩
set_option maxRecDepth 100000 in
theorem wl_X9_count : Cond.selects mX9_count.1.cls mX9_count.1 mX9_count.1 ∈ ztb := List.mem_filter.mpr ⟨List.mem_append_right _ (List.mem_of_getElem? (i := 951) rfl), rfl⟩
set_option maxRecDepth 100000 in
theorem wm_L_164 : Cond.methodLink RL 164 mX9_count.1 ∈ ztb := List.mem_filter.mpr ⟨List.mem_append_right _ (List.mem_of_getElem? (i := 949) rfl), rfl⟩
theorem cl_L_164 {E : zE} {M : zM} {d pc : Nat} {L rest : List zV} {h : zH} {Q : List zV → zH → Prop} {c0 : Nat} {a1 : zV} (hd : decode M.2.1 pc = .ok (.invokevirtual 164, 3)) (hM : M.1.cls = RL) (hs : zsh E c0 = (9, 14)) (hc : c0 < zN E) (h8 : ((rest.map (zrv E)).map fun v => v.category).sum ≤ 8) (k : zCI E mX9_count d [zR c0, a1] h (fun x h1 => zG E M (d + 1) (pc + 3) L (zI x :: rest) h1 Q)) : zG E M (d + 1) pc L (a1 :: zR c0 :: rest) h Q := z_callV (M' := mX9_count) (as := [a1]) hd rfl hs hc (by decide) rfl (by rw [hM]; exact wm_L_164) wn_X9_count wl_X9_count wi_X9 wc_X9_count wy_X9_count (by decide) h8 (zC_mono (by rintro r h1 ⟨x, rfl, hk⟩; exact hk) k)
set_option maxRecDepth 100000 in
theorem wn_X9_look : Cond.instanceMethod mX9_look.1 ∈ ztb := List.mem_filter.mpr ⟨List.mem_append_right _ (List.mem_of_getElem? (i := 959) rfl), rfl⟩
set_option maxRecDepth 100000 in
theorem wl_X9_look : Cond.selects mX9_look.1.cls mX9_look.1 mX9_look.1 ∈ ztb := List.mem_filter.mpr ⟨List.mem_append_right _ (List.mem_of_getElem? (i := 960) rfl), rfl⟩
set_option maxRecDepth 100000 in
theorem wm_L_7 : Cond.methodLink RL 7 mX9_look.1 ∈ ztb := List.mem_filter.mpr ⟨List.mem_append_right _ (List.mem_of_getElem? (i := 958) rfl), rfl⟩
theorem cl_L_7 {E : zE} {M : zM} {d pc : Nat} {L rest : List zV} {h : zH} {Q : List zV → zH → Prop} {c0 : Nat} {a1 a2 a3 : zV} (hd : decode M.2.1 pc = .ok (.invokevirtual 7, 3)) (hM : M.1.cls = RL) (hs : zsh E c0 = (9, 14)) (hc : c0 < zN E) (h8 : ((rest.map (zrv E)).map fun v => v.category).sum ≤ 8) (k : zCI E mX9_look d [zR c0, a1, a2, a3] h (fun x h1 => zG E M (d + 1) (pc + 3) L (zI x :: rest) h1 Q)) : zG E M (d + 1) pc L (a3 :: a2 :: a1 :: zR c0 :: rest) h Q := z_callV (M' := mX9_look) (as := [a1, a2, a3]) hd rfl hs hc (by decide) rfl (by rw [hM]; exact wm_L_7) wn_X9_look wl_X9_look wi_X9 wc_X9_look wy_X9_look (by decide) h8 (zC_mono (by rintro r h1 ⟨x, rfl, hk⟩; exact hk) k)
set_option maxRecDepth 100000 in
theorem wn_X10_thrown : Cond.instanceMethod mX10_thrown.1 ∈ ztb := List.mem_filter.mpr ⟨List.mem_append_right _ (List.mem_of_getElem? (i := 1311) rfl), rfl⟩
set_option maxRecDepth 100000 in
theorem wl_X10_thrown : Cond.selects mX10_thrown.1.cls mX10_thrown.1 mX10_thrown.1 ∈ ztb := List.mem_filter.mpr ⟨List.mem_append_right _ (List.mem_of_getElem? (i := 1312) rfl), rfl⟩
set_option maxRecDepth 100000 in
theorem wm_L_46 : Cond.methodLink RL 46 mX10_thrown.1 ∈ ztb := List.mem_filter.mpr ⟨List.mem_append_right _ (List.mem_of_getElem? (i := 1310) rfl), rfl⟩
theorem cl_L_46 {E : zE} {M : zM} {d pc : Nat} {L rest : List zV} {h : zH} {Q : List zV → zH → Prop} {c0 : Nat} (hd : decode M.2.1 pc = .ok (.invokevirtual 46, 3)) (hM : M.1.cls = RL) (hs : zsh E c0 = (10, 86)) (hc : c0 < zN E) (h8 : ((rest.map (zrv E)).map fun v => v.category).sum ≤ 8) (k : zCI E mX10_thrown d [zR c0] h (fun x h1 => zG E M (d + 1) (pc + 3) L (zI x :: rest) h1 Q)) : zG E M (d + 1) pc L (zR c0 :: rest) h Q := z_callV (M' := mX10_thrown) (as := []) hd rfl hs hc (by decide) rfl (by rw [hM]; exact wm_L_46) wn_X10_thrown wl_X10_thrown wi_X10 wc_X10_thrown wy_X10_thrown (by decide) h8 (zC_mono (by rintro r h1 ⟨x, rfl, hk⟩; exact hk) k)
set_option maxRecDepth 100000 in
theorem wn_X10_feed : Cond.instanceMethod mX10_feed.1 ∈ ztb := List.mem_filter.mpr ⟨List.mem_append_right _ (List.mem_of_getElem? (i := 1315) rfl), rfl⟩
set_option maxRecDepth 100000 in
theorem wl_X10_feed : Cond.selects mX10_feed.1.cls mX10_feed.1 mX10_feed.1 ∈ ztb := List.mem_filter.mpr ⟨List.mem_append_right _ (List.mem_of_getElem? (i := 1316) rfl), rfl⟩
set_option maxRecDepth 100000 in
theorem wm_L_25 : Cond.methodLink RL 25 mX10_feed.1 ∈ ztb := List.mem_filter.mpr ⟨List.mem_append_right _ (List.mem_of_getElem? (i := 1314) rfl), rfl⟩
theorem cl_L_25 {E : zE} {M : zM} {d pc : Nat} {L rest : List zV} {h : zH} {Q : List zV → zH → Prop} {c0 : Nat} {a1 a2 a3 a4 a5 : zV} (hd : decode M.2.1 pc = .ok (.invokevirtual 25, 3)) (hM : M.1.cls = RL) (hs : zsh E c0 = (10, 86)) (hc : c0 < zN E) (h8 : ((rest.map (zrv E)).map fun v => v.category).sum ≤ 8) (k : zCI E mX10_feed d [zR c0, a1, a2, a3, a4, a5] h (fun x h1 => zG E M (d + 1) (pc + 3) L (zI x :: rest) h1 Q)) : zG E M (d + 1) pc L (a5 :: a4 :: a3 :: a2 :: a1 :: zR c0 :: rest) h Q := z_callV (M' := mX10_feed) (as := [a1, a2, a3, a4, a5]) hd rfl hs hc (by decide) rfl (by rw [hM]; exact wm_L_25) wn_X10_feed wl_X10_feed wi_X10 wc_X10_feed wy_X10_feed (by decide) h8 (zC_mono (by rintro r h1 ⟨x, rfl, hk⟩; exact hk) k)
set_option maxRecDepth 100000 in
theorem wn_X10_text : Cond.instanceMethod mX10_text.1 ∈ ztb := List.mem_filter.mpr ⟨List.mem_append_right _ (List.mem_of_getElem? (i := 1319) rfl), rfl⟩
set_option maxRecDepth 100000 in
theorem wl_X10_text : Cond.selects mX10_text.1.cls mX10_text.1 mX10_text.1 ∈ ztb := List.mem_filter.mpr ⟨List.mem_append_right _ (List.mem_of_getElem? (i := 1320) rfl), rfl⟩
set_option maxRecDepth 100000 in
theorem wm_L_30 : Cond.methodLink RL 30 mX10_text.1 ∈ ztb := List.mem_filter.mpr ⟨List.mem_append_right _ (List.mem_of_getElem? (i := 1318) rfl), rfl⟩
theorem cl_L_30 {E : zE} {M : zM} {d pc : Nat} {L rest : List zV} {h : zH} {Q : List zV → zH → Prop} {c0 : Nat} {a1 : zV} (hd : decode M.2.1 pc = .ok (.invokevirtual 30, 3)) (hM : M.1.cls = RL) (hs : zsh E c0 = (10, 86)) (hc : c0 < zN E) (h8 : ((rest.map (zrv E)).map fun v => v.category).sum ≤ 8) (k : zCI E mX10_text d [zR c0, a1] h (fun x h1 => zG E M (d + 1) (pc + 3) L (zI x :: rest) h1 Q)) : zG E M (d + 1) pc L (a1 :: zR c0 :: rest) h Q := z_callV (M' := mX10_text) (as := [a1]) hd rfl hs hc (by decide) rfl (by rw [hM]; exact wm_L_30) wn_X10_text wl_X10_text wi_X10 wc_X10_text wy_X10_text (by decide) h8 (zC_mono (by rintro r h1 ⟨x, rfl, hk⟩; exact hk) k)
set_option maxRecDepth 100000 in
theorem wn_X10_token : Cond.instanceMethod mX10_token.1 ∈ ztb := List.mem_filter.mpr ⟨List.mem_append_right _ (List.mem_of_getElem? (i := 1324) rfl), rfl⟩
set_option maxRecDepth 100000 in
theorem wl_X10_token : Cond.selects mX10_token.1.cls mX10_token.1 mX10_token.1 ∈ ztb := List.mem_filter.mpr ⟨List.mem_append_left _ (List.mem_of_getElem? (i := 38) rfl), rfl⟩
set_option maxRecDepth 100000 in
theorem wm_X10_213 : Cond.methodLink RX10 213 mX10_token.1 ∈ ztb := List.mem_filter.mpr ⟨List.mem_append_right _ (List.mem_of_getElem? (i := 1322) rfl), rfl⟩
theorem cl_X10_213 {E : zE} {M : zM} {d pc : Nat} {L rest : List zV} {h : zH} {Q : List zV → zH → Prop} {c0 : Nat} (hd : decode M.2.1 pc = .ok (.invokevirtual 213, 3)) (hM : M.1.cls = RX10) (hs : zsh E c0 = (10, 86)) (hc : c0 < zN E) (h8 : ((rest.map (zrv E)).map fun v => v.category).sum ≤ 8) (k : zCV E mX10_token d [zR c0] h (fun h1 => zG E M (d + 1) (pc + 3) L rest h1 Q)) : zG E M (d + 1) pc L (zR c0 :: rest) h Q := z_callV (M' := mX10_token) (as := []) hd rfl hs hc (by decide) rfl (by rw [hM]; exact wm_X10_213) wn_X10_token wl_X10_token wi_X10 wc_X10_token wy_X10_token (by decide) h8 (zC_mono (by rintro r h1 ⟨rfl, hk⟩; exact hk) k)
set_option maxRecDepth 100000 in
theorem wn_X10_here : Cond.instanceMethod mX10_here.1 ∈ ztb := List.mem_filter.mpr ⟨List.mem_append_right _ (List.mem_of_getElem? (i := 1328) rfl), rfl⟩
set_option maxRecDepth 100000 in
theorem wl_X10_here : Cond.selects mX10_here.1.cls mX10_here.1 mX10_here.1 ∈ ztb := List.mem_filter.mpr ⟨List.mem_append_left _ (List.mem_of_getElem? (i := 39) rfl), rfl⟩
set_option maxRecDepth 100000 in
theorem wm_X10_165 : Cond.methodLink RX10 165 mX10_here.1 ∈ ztb := List.mem_filter.mpr ⟨List.mem_append_right _ (List.mem_of_getElem? (i := 1326) rfl), rfl⟩
theorem cl_X10_165 {E : zE} {M : zM} {d pc : Nat} {L rest : List zV} {h : zH} {Q : List zV → zH → Prop} {c0 : Nat} (hd : decode M.2.1 pc = .ok (.invokevirtual 165, 3)) (hM : M.1.cls = RX10) (hs : zsh E c0 = (10, 86)) (hc : c0 < zN E) (h8 : ((rest.map (zrv E)).map fun v => v.category).sum ≤ 8) (k : zCI E mX10_here d [zR c0] h (fun x h1 => zG E M (d + 1) (pc + 3) L (zI x :: rest) h1 Q)) : zG E M (d + 1) pc L (zR c0 :: rest) h Q := z_callV (M' := mX10_here) (as := []) hd rfl hs hc (by decide) rfl (by rw [hM]; exact wm_X10_165) wn_X10_here wl_X10_here wi_X10 wc_X10_here wy_X10_here (by decide) h8 (zC_mono (by rintro r h1 ⟨x, rfl, hk⟩; exact hk) k)
set_option maxRecDepth 100000 in
theorem ws_X10_isSmall : Cond.static mX10_isSmall.1 ∈ ztb := List.mem_filter.mpr ⟨List.mem_append_right _ (List.mem_of_getElem? (i := 1331) rfl), rfl⟩
set_option maxRecDepth 100000 in
theorem wm_X10_175 : Cond.methodLink RX10 175 mX10_isSmall.1 ∈ ztb := List.mem_filter.mpr ⟨List.mem_append_right _ (List.mem_of_getElem? (i := 1330) rfl), rfl⟩
theorem cl_X10_175 {E : zE} {M : zM} {d pc : Nat} {L rest : List zV} {h : zH} {Q : List zV → zH → Prop} {a1 : zV} (hd : decode M.2.1 pc = .ok (.invokestatic 175, 3)) (hM : M.1.cls = RX10) (h8 : ((rest.map (zrv E)).map fun v => v.category).sum ≤ 8) (k : zCI E mX10_isSmall d [a1] h (fun x h1 => zG E M (d + 1) (pc + 3) L (zI x :: rest) h1 Q)) : zG E M (d + 1) pc L (a1 :: rest) h Q := z_callS (M' := mX10_isSmall) (as := [a1]) hd rfl (by rw [hM]; exact wm_X10_175) ws_X10_isSmall wi_X10 wc_X10_isSmall wy_X10_isSmall (by decide) h8 (zC_mono (by rintro r h1 ⟨x, rfl, hk⟩; exact hk) k)
set_option maxRecDepth 100000 in
theorem wn_X10_word : Cond.instanceMethod mX10_word.1 ∈ ztb := List.mem_filter.mpr ⟨List.mem_append_right _ (List.mem_of_getElem? (i := 1335) rfl), rfl⟩
set_option maxRecDepth 100000 in
theorem wl_X10_word : Cond.selects mX10_word.1.cls mX10_word.1 mX10_word.1 ∈ ztb := List.mem_filter.mpr ⟨List.mem_append_left _ (List.mem_of_getElem? (i := 40) rfl), rfl⟩
set_option maxRecDepth 100000 in
theorem wm_X10_179 : Cond.methodLink RX10 179 mX10_word.1 ∈ ztb := List.mem_filter.mpr ⟨List.mem_append_right _ (List.mem_of_getElem? (i := 1333) rfl), rfl⟩
theorem cl_X10_179 {E : zE} {M : zM} {d pc : Nat} {L rest : List zV} {h : zH} {Q : List zV → zH → Prop} {c0 : Nat} (hd : decode M.2.1 pc = .ok (.invokevirtual 179, 3)) (hM : M.1.cls = RX10) (hs : zsh E c0 = (10, 86)) (hc : c0 < zN E) (h8 : ((rest.map (zrv E)).map fun v => v.category).sum ≤ 8) (k : zCI E mX10_word d [zR c0] h (fun x h1 => zG E M (d + 1) (pc + 3) L (zI x :: rest) h1 Q)) : zG E M (d + 1) pc L (zR c0 :: rest) h Q := z_callV (M' := mX10_word) (as := []) hd rfl hs hc (by decide) rfl (by rw [hM]; exact wm_X10_179) wn_X10_word wl_X10_word wi_X10 wc_X10_word wy_X10_word (by decide) h8 (zC_mono (by rintro r h1 ⟨x, rfl, hk⟩; exact hk) k)
set_option maxRecDepth 100000 in
theorem wn_X10_name : Cond.instanceMethod mX10_name.1 ∈ ztb := List.mem_filter.mpr ⟨List.mem_append_right _ (List.mem_of_getElem? (i := 1342) rfl), rfl⟩
set_option maxRecDepth 100000 in
theorem wl_X10_name : Cond.selects mX10_name.1.cls mX10_name.1 mX10_name.1 ∈ ztb := List.mem_filter.mpr ⟨List.mem_append_left _ (List.mem_of_getElem? (i := 41) rfl), rfl⟩
set_option maxRecDepth 100000 in
theorem wm_X10_185 : Cond.methodLink RX10 185 mX10_name.1 ∈ ztb := List.mem_filter.mpr ⟨List.mem_append_right _ (List.mem_of_getElem? (i := 1340) rfl), rfl⟩
theorem cl_X10_185 {E : zE} {M : zM} {d pc : Nat} {L rest : List zV} {h : zH} {Q : List zV → zH → Prop} {c0 : Nat} (hd : decode M.2.1 pc = .ok (.invokevirtual 185, 3)) (hM : M.1.cls = RX10) (hs : zsh E c0 = (10, 86)) (hc : c0 < zN E) (h8 : ((rest.map (zrv E)).map fun v => v.category).sum ≤ 8) (k : zCV E mX10_name d [zR c0] h (fun h1 => zG E M (d + 1) (pc + 3) L rest h1 Q)) : zG E M (d + 1) pc L (zR c0 :: rest) h Q := z_callV (M' := mX10_name) (as := []) hd rfl hs hc (by decide) rfl (by rw [hM]; exact wm_X10_185) wn_X10_name wl_X10_name wi_X10 wc_X10_name wy_X10_name (by decide) h8 (zC_mono (by rintro r h1 ⟨rfl, hk⟩; exact hk) k)
set_option maxRecDepth 100000 in
theorem ws_X10_isDigit : Cond.static mX10_isDigit.1 ∈ ztb := List.mem_filter.mpr ⟨List.mem_append_right _ (List.mem_of_getElem? (i := 1345) rfl), rfl⟩
set_option maxRecDepth 100000 in
theorem wm_X10_188 : Cond.methodLink RX10 188 mX10_isDigit.1 ∈ ztb := List.mem_filter.mpr ⟨List.mem_append_right _ (List.mem_of_getElem? (i := 1344) rfl), rfl⟩
theorem cl_X10_188 {E : zE} {M : zM} {d pc : Nat} {L rest : List zV} {h : zH} {Q : List zV → zH → Prop} {a1 : zV} (hd : decode M.2.1 pc = .ok (.invokestatic 188, 3)) (hM : M.1.cls = RX10) (h8 : ((rest.map (zrv E)).map fun v => v.category).sum ≤ 8) (k : zCI E mX10_isDigit d [a1] h (fun x h1 => zG E M (d + 1) (pc + 3) L (zI x :: rest) h1 Q)) : zG E M (d + 1) pc L (a1 :: rest) h Q := z_callS (M' := mX10_isDigit) (as := [a1]) hd rfl (by rw [hM]; exact wm_X10_188) ws_X10_isDigit wi_X10 wc_X10_isDigit wy_X10_isDigit (by decide) h8 (zC_mono (by rintro r h1 ⟨x, rfl, hk⟩; exact hk) k)
set_option maxRecDepth 100000 in
theorem wn_X10_sign : Cond.instanceMethod mX10_sign.1 ∈ ztb := List.mem_filter.mpr ⟨List.mem_append_right _ (List.mem_of_getElem? (i := 1350) rfl), rfl⟩
set_option maxRecDepth 100000 in
theorem wl_X10_sign : Cond.selects mX10_sign.1.cls mX10_sign.1 mX10_sign.1 ∈ ztb := List.mem_filter.mpr ⟨List.mem_append_left _ (List.mem_of_getElem? (i := 42) rfl), rfl⟩
set_option maxRecDepth 100000 in
theorem wm_X10_192 : Cond.methodLink RX10 192 mX10_sign.1 ∈ ztb := List.mem_filter.mpr ⟨List.mem_append_right _ (List.mem_of_getElem? (i := 1348) rfl), rfl⟩
theorem cl_X10_192 {E : zE} {M : zM} {d pc : Nat} {L rest : List zV} {h : zH} {Q : List zV → zH → Prop} {c0 : Nat} {a1 : zV} (hd : decode M.2.1 pc = .ok (.invokevirtual 192, 3)) (hM : M.1.cls = RX10) (hs : zsh E c0 = (10, 86)) (hc : c0 < zN E) (h8 : ((rest.map (zrv E)).map fun v => v.category).sum ≤ 8) (k : zCV E mX10_sign d [zR c0, a1] h (fun h1 => zG E M (d + 1) (pc + 3) L rest h1 Q)) : zG E M (d + 1) pc L (a1 :: zR c0 :: rest) h Q := z_callV (M' := mX10_sign) (as := [a1]) hd rfl hs hc (by decide) rfl (by rw [hM]; exact wm_X10_192) wn_X10_sign wl_X10_sign wi_X10 wc_X10_sign wy_X10_sign (by decide) h8 (zC_mono (by rintro r h1 ⟨rfl, hk⟩; exact hk) k)
set_option maxRecDepth 100000 in
theorem wn_X10_line : Cond.instanceMethod mX10_line.1 ∈ ztb := List.mem_filter.mpr ⟨List.mem_append_right _ (List.mem_of_getElem? (i := 1354) rfl), rfl⟩
set_option maxRecDepth 100000 in
theorem wl_X10_line : Cond.selects mX10_line.1.cls mX10_line.1 mX10_line.1 ∈ ztb := List.mem_filter.mpr ⟨List.mem_append_left _ (List.mem_of_getElem? (i := 43) rfl), rfl⟩
set_option maxRecDepth 100000 in
theorem wm_X10_328 : Cond.methodLink RX10 328 mX10_line.1 ∈ ztb := List.mem_filter.mpr ⟨List.mem_append_right _ (List.mem_of_getElem? (i := 1352) rfl), rfl⟩
theorem cl_X10_328 {E : zE} {M : zM} {d pc : Nat} {L rest : List zV} {h : zH} {Q : List zV → zH → Prop} {c0 : Nat} (hd : decode M.2.1 pc = .ok (.invokevirtual 328, 3)) (hM : M.1.cls = RX10) (hs : zsh E c0 = (10, 86)) (hc : c0 < zN E) (h8 : ((rest.map (zrv E)).map fun v => v.category).sum ≤ 8) (k : zCV E mX10_line d [zR c0] h (fun h1 => zG E M (d + 1) (pc + 3) L rest h1 Q)) : zG E M (d + 1) pc L (zR c0 :: rest) h Q := z_callV (M' := mX10_line) (as := []) hd rfl hs hc (by decide) rfl (by rw [hM]; exact wm_X10_328) wn_X10_line wl_X10_line wi_X10 wc_X10_line wy_X10_line (by decide) h8 (zC_mono (by rintro r h1 ⟨rfl, hk⟩; exact hk) k)
set_option maxRecDepth 100000 in
theorem wn_X10_wrong : Cond.instanceMethod mX10_wrong.1 ∈ ztb := List.mem_filter.mpr ⟨List.mem_append_right _ (List.mem_of_getElem? (i := 1358) rfl), rfl⟩
set_option maxRecDepth 100000 in
theorem wl_X10_wrong : Cond.selects mX10_wrong.1.cls mX10_wrong.1 mX10_wrong.1 ∈ ztb := List.mem_filter.mpr ⟨List.mem_append_left _ (List.mem_of_getElem? (i := 44) rfl), rfl⟩
set_option maxRecDepth 100000 in
theorem wm_X10_216 : Cond.methodLink RX10 216 mX10_wrong.1 ∈ ztb := List.mem_filter.mpr ⟨List.mem_append_right _ (List.mem_of_getElem? (i := 1356) rfl), rfl⟩
theorem cl_X10_216 {E : zE} {M : zM} {d pc : Nat} {L rest : List zV} {h : zH} {Q : List zV → zH → Prop} {c0 : Nat} {a1 : zV} (hd : decode M.2.1 pc = .ok (.invokevirtual 216, 3)) (hM : M.1.cls = RX10) (hs : zsh E c0 = (10, 86)) (hc : c0 < zN E) (h8 : ((rest.map (zrv E)).map fun v => v.category).sum ≤ 8) (k : zCV E mX10_wrong d [zR c0, a1] h (fun h1 => zG E M (d + 1) (pc + 3) L rest h1 Q)) : zG E M (d + 1) pc L (a1 :: zR c0 :: rest) h Q := z_callV (M' := mX10_wrong) (as := [a1]) hd rfl hs hc (by decide) rfl (by rw [hM]; exact wm_X10_216) wn_X10_wrong wl_X10_wrong wi_X10 wc_X10_wrong wy_X10_wrong (by decide) h8 (zC_mono (by rintro r h1 ⟨rfl, hk⟩; exact hk) k)
set_option maxRecDepth 100000 in
theorem wn_X10_isFull : Cond.instanceMethod mX10_isFull.1 ∈ ztb := List.mem_filter.mpr ⟨List.mem_append_right _ (List.mem_of_getElem? (i := 1362) rfl), rfl⟩
set_option maxRecDepth 100000 in
theorem wl_X10_isFull : Cond.selects mX10_isFull.1.cls mX10_isFull.1 mX10_isFull.1 ∈ ztb := List.mem_filter.mpr ⟨List.mem_append_left _ (List.mem_of_getElem? (i := 45) rfl), rfl⟩
set_option maxRecDepth 100000 in
theorem wm_X10_242 : Cond.methodLink RX10 242 mX10_isFull.1 ∈ ztb := List.mem_filter.mpr ⟨List.mem_append_right _ (List.mem_of_getElem? (i := 1360) rfl), rfl⟩
theorem cl_X10_242 {E : zE} {M : zM} {d pc : Nat} {L rest : List zV} {h : zH} {Q : List zV → zH → Prop} {c0 : Nat} {a1 : zV} (hd : decode M.2.1 pc = .ok (.invokevirtual 242, 3)) (hM : M.1.cls = RX10) (hs : zsh E c0 = (10, 86)) (hc : c0 < zN E) (h8 : ((rest.map (zrv E)).map fun v => v.category).sum ≤ 8) (k : zCI E mX10_isFull d [zR c0, a1] h (fun x h1 => zG E M (d + 1) (pc + 3) L (zI x :: rest) h1 Q)) : zG E M (d + 1) pc L (a1 :: zR c0 :: rest) h Q := z_callV (M' := mX10_isFull) (as := [a1]) hd rfl hs hc (by decide) rfl (by rw [hM]; exact wm_X10_242) wn_X10_isFull wl_X10_isFull wi_X10 wc_X10_isFull wy_X10_isFull (by decide) h8 (zC_mono (by rintro r h1 ⟨x, rfl, hk⟩; exact hk) k)
set_option maxRecDepth 100000 in
theorem wn_X10_fresh : Cond.instanceMethod mX10_fresh.1 ∈ ztb := List.mem_filter.mpr ⟨List.mem_append_right _ (List.mem_of_getElem? (i := 1366) rfl), rfl⟩
set_option maxRecDepth 100000 in
theorem wl_X10_fresh : Cond.selects mX10_fresh.1.cls mX10_fresh.1 mX10_fresh.1 ∈ ztb := List.mem_filter.mpr ⟨List.mem_append_left _ (List.mem_of_getElem? (i := 46) rfl), rfl⟩
set_option maxRecDepth 100000 in
theorem wm_X10_248 : Cond.methodLink RX10 248 mX10_fresh.1 ∈ ztb := List.mem_filter.mpr ⟨List.mem_append_right _ (List.mem_of_getElem? (i := 1364) rfl), rfl⟩
theorem cl_X10_248 {E : zE} {M : zM} {d pc : Nat} {L rest : List zV} {h : zH} {Q : List zV → zH → Prop} {c0 : Nat} {a1 a2 a3 : zV} (hd : decode M.2.1 pc = .ok (.invokevirtual 248, 3)) (hM : M.1.cls = RX10) (hs : zsh E c0 = (10, 86)) (hc : c0 < zN E) (h8 : ((rest.map (zrv E)).map fun v => v.category).sum ≤ 8) (k : zCI E mX10_fresh d [zR c0, a1, a2, a3] h (fun x h1 => zG E M (d + 1) (pc + 3) L (zI x :: rest) h1 Q)) : zG E M (d + 1) pc L (a3 :: a2 :: a1 :: zR c0 :: rest) h Q := z_callV (M' := mX10_fresh) (as := [a1, a2, a3]) hd rfl hs hc (by decide) rfl (by rw [hM]; exact wm_X10_248) wn_X10_fresh wl_X10_fresh wi_X10 wc_X10_fresh wy_X10_fresh (by decide) h8 (zC_mono (by rintro r h1 ⟨x, rfl, hk⟩; exact hk) k)
set_option maxRecDepth 100000 in
theorem ws_X10_found : Cond.static mX10_found.1 ∈ ztb := List.mem_filter.mpr ⟨List.mem_append_right _ (List.mem_of_getElem? (i := 1369) rfl), rfl⟩
set_option maxRecDepth 100000 in
theorem wm_X10_226 : Cond.methodLink RX10 226 mX10_found.1 ∈ ztb := List.mem_filter.mpr ⟨List.mem_append_right _ (List.mem_of_getElem? (i := 1368) rfl), rfl⟩
theorem cl_X10_226 {E : zE} {M : zM} {d pc : Nat} {L rest : List zV} {h : zH} {Q : List zV → zH → Prop} {a1 a2 a3 a4 : zV} (hd : decode M.2.1 pc = .ok (.invokestatic 226, 3)) (hM : M.1.cls = RX10) (h8 : ((rest.map (zrv E)).map fun v => v.category).sum ≤ 8) (k : zCI E mX10_found d [a1, a2, a3, a4] h (fun x h1 => zG E M (d + 1) (pc + 3) L (zI x :: rest) h1 Q)) : zG E M (d + 1) pc L (a4 :: a3 :: a2 :: a1 :: rest) h Q := z_callS (M' := mX10_found) (as := [a1, a2, a3, a4]) hd rfl (by rw [hM]; exact wm_X10_226) ws_X10_found wi_X10 wc_X10_found wy_X10_found (by decide) h8 (zC_mono (by rintro r h1 ⟨x, rfl, hk⟩; exact hk) k)
set_option maxRecDepth 100000 in
theorem wn_X10_ringLine : Cond.instanceMethod mX10_ringLine.1 ∈ ztb := List.mem_filter.mpr ⟨List.mem_append_right _ (List.mem_of_getElem? (i := 1373) rfl), rfl⟩
set_option maxRecDepth 100000 in
theorem wl_X10_ringLine : Cond.selects mX10_ringLine.1.cls mX10_ringLine.1 mX10_ringLine.1 ∈ ztb := List.mem_filter.mpr ⟨List.mem_append_left _ (List.mem_of_getElem? (i := 47) rfl), rfl⟩
set_option maxRecDepth 100000 in
theorem wm_X10_252 : Cond.methodLink RX10 252 mX10_ringLine.1 ∈ ztb := List.mem_filter.mpr ⟨List.mem_append_right _ (List.mem_of_getElem? (i := 1371) rfl), rfl⟩
theorem cl_X10_252 {E : zE} {M : zM} {d pc : Nat} {L rest : List zV} {h : zH} {Q : List zV → zH → Prop} {c0 : Nat} {a1 : zV} (hd : decode M.2.1 pc = .ok (.invokevirtual 252, 3)) (hM : M.1.cls = RX10) (hs : zsh E c0 = (10, 86)) (hc : c0 < zN E) (h8 : ((rest.map (zrv E)).map fun v => v.category).sum ≤ 8) (k : zCV E mX10_ringLine d [zR c0, a1] h (fun h1 => zG E M (d + 1) (pc + 3) L rest h1 Q)) : zG E M (d + 1) pc L (a1 :: zR c0 :: rest) h Q := z_callV (M' := mX10_ringLine) (as := [a1]) hd rfl hs hc (by decide) rfl (by rw [hM]; exact wm_X10_252) wn_X10_ringLine wl_X10_ringLine wi_X10 wc_X10_ringLine wy_X10_ringLine (by decide) h8 (zC_mono (by rintro r h1 ⟨rfl, hk⟩; exact hk) k)
set_option maxRecDepth 100000 in
theorem wn_X10_toldAhead : Cond.instanceMethod mX10_toldAhead.1 ∈ ztb := List.mem_filter.mpr ⟨List.mem_append_right _ (List.mem_of_getElem? (i := 1377) rfl), rfl⟩
set_option maxRecDepth 100000 in
theorem wl_X10_toldAhead : Cond.selects mX10_toldAhead.1.cls mX10_toldAhead.1 mX10_toldAhead.1 ∈ ztb := List.mem_filter.mpr ⟨List.mem_append_left _ (List.mem_of_getElem? (i := 48) rfl), rfl⟩
set_option maxRecDepth 100000 in
theorem wm_X10_276 : Cond.methodLink RX10 276 mX10_toldAhead.1 ∈ ztb := List.mem_filter.mpr ⟨List.mem_append_right _ (List.mem_of_getElem? (i := 1375) rfl), rfl⟩
theorem cl_X10_276 {E : zE} {M : zM} {d pc : Nat} {L rest : List zV} {h : zH} {Q : List zV → zH → Prop} {c0 : Nat} {a1 a2 a3 : zV} (hd : decode M.2.1 pc = .ok (.invokevirtual 276, 3)) (hM : M.1.cls = RX10) (hs : zsh E c0 = (10, 86)) (hc : c0 < zN E) (h8 : ((rest.map (zrv E)).map fun v => v.category).sum ≤ 8) (k : zCI E mX10_toldAhead d [zR c0, a1, a2, a3] h (fun x h1 => zG E M (d + 1) (pc + 3) L (zI x :: rest) h1 Q)) : zG E M (d + 1) pc L (a3 :: a2 :: a1 :: zR c0 :: rest) h Q := z_callV (M' := mX10_toldAhead) (as := [a1, a2, a3]) hd rfl hs hc (by decide) rfl (by rw [hM]; exact wm_X10_276) wn_X10_toldAhead wl_X10_toldAhead wi_X10 wc_X10_toldAhead wy_X10_toldAhead (by decide) h8 (zC_mono (by rintro r h1 ⟨x, rfl, hk⟩; exact hk) k)
set_option maxRecDepth 100000 in
theorem wn_X10_isWord : Cond.instanceMethod mX10_isWord.1 ∈ ztb := List.mem_filter.mpr ⟨List.mem_append_right _ (List.mem_of_getElem? (i := 1381) rfl), rfl⟩
set_option maxRecDepth 100000 in
theorem wl_X10_isWord : Cond.selects mX10_isWord.1.cls mX10_isWord.1 mX10_isWord.1 ∈ ztb := List.mem_filter.mpr ⟨List.mem_append_left _ (List.mem_of_getElem? (i := 49) rfl), rfl⟩
set_option maxRecDepth 100000 in
theorem wm_X10_279 : Cond.methodLink RX10 279 mX10_isWord.1 ∈ ztb := List.mem_filter.mpr ⟨List.mem_append_right _ (List.mem_of_getElem? (i := 1379) rfl), rfl⟩
theorem cl_X10_279 {E : zE} {M : zM} {d pc : Nat} {L rest : List zV} {h : zH} {Q : List zV → zH → Prop} {c0 : Nat} {a1 : zV} (hd : decode M.2.1 pc = .ok (.invokevirtual 279, 3)) (hM : M.1.cls = RX10) (hs : zsh E c0 = (10, 86)) (hc : c0 < zN E) (h8 : ((rest.map (zrv E)).map fun v => v.category).sum ≤ 8) (k : zCI E mX10_isWord d [zR c0, a1] h (fun x h1 => zG E M (d + 1) (pc + 3) L (zI x :: rest) h1 Q)) : zG E M (d + 1) pc L (a1 :: zR c0 :: rest) h Q := z_callV (M' := mX10_isWord) (as := [a1]) hd rfl hs hc (by decide) rfl (by rw [hM]; exact wm_X10_279) wn_X10_isWord wl_X10_isWord wi_X10 wc_X10_isWord wy_X10_isWord (by decide) h8 (zC_mono (by rintro r h1 ⟨x, rfl, hk⟩; exact hk) k)
set_option maxRecDepth 100000 in
theorem wn_X10_goOn : Cond.instanceMethod mX10_goOn.1 ∈ ztb := List.mem_filter.mpr ⟨List.mem_append_right _ (List.mem_of_getElem? (i := 1385) rfl), rfl⟩
set_option maxRecDepth 100000 in
theorem wl_X10_goOn : Cond.selects mX10_goOn.1.cls mX10_goOn.1 mX10_goOn.1 ∈ ztb := List.mem_filter.mpr ⟨List.mem_append_left _ (List.mem_of_getElem? (i := 50) rfl), rfl⟩
set_option maxRecDepth 100000 in
theorem wm_X10_282 : Cond.methodLink RX10 282 mX10_goOn.1 ∈ ztb := List.mem_filter.mpr ⟨List.mem_append_right _ (List.mem_of_getElem? (i := 1383) rfl), rfl⟩
theorem cl_X10_282 {E : zE} {M : zM} {d pc : Nat} {L rest : List zV} {h : zH} {Q : List zV → zH → Prop} {c0 : Nat} (hd : decode M.2.1 pc = .ok (.invokevirtual 282, 3)) (hM : M.1.cls = RX10) (hs : zsh E c0 = (10, 86)) (hc : c0 < zN E) (h8 : ((rest.map (zrv E)).map fun v => v.category).sum ≤ 8) (k : zCV E mX10_goOn d [zR c0] h (fun h1 => zG E M (d + 1) (pc + 3) L rest h1 Q)) : zG E M (d + 1) pc L (zR c0 :: rest) h Q := z_callV (M' := mX10_goOn) (as := []) hd rfl hs hc (by decide) rfl (by rw [hM]; exact wm_X10_282) wn_X10_goOn wl_X10_goOn wi_X10 wc_X10_goOn wy_X10_goOn (by decide) h8 (zC_mono (by rintro r h1 ⟨rfl, hk⟩; exact hk) k)
set_option maxRecDepth 100000 in
theorem wm_X10_285 : Cond.methodLink RX10 285 mJ9_min_7cf53.1 ∈ ztb := List.mem_filter.mpr ⟨List.mem_append_right _ (List.mem_of_getElem? (i := 1387) rfl), rfl⟩
theorem cl_X10_285 {E : zE} {M : zM} {d pc : Nat} {L st : List zV} {h : zH} {Q : List zV → zH → Prop} {a b : Int} (hd : decode M.2.1 pc = .ok (.invokestatic 285, 3)) (hM : M.1.cls = RX10) (h8 : ((st.map (zrv E)).map fun v => v.category).sum ≤ 8) (k : zG E M d (pc + 3) L (zI (min a b) :: st) h Q) : zG E M d pc L (zI b :: zI a :: st) h Q := z_mmin hd (by rw [hM]; exact wm_X10_285) ws_J9_min_7cf53 wi_J9 wc_J9_min_7cf53 h8 k
set_option maxRecDepth 100000 in
theorem wn_X10_signed : Cond.instanceMethod mX10_signed.1 ∈ ztb := List.mem_filter.mpr ⟨List.mem_append_right _ (List.mem_of_getElem? (i := 1390) rfl), rfl⟩
set_option maxRecDepth 100000 in
theorem wl_X10_signed : Cond.selects mX10_signed.1.cls mX10_signed.1 mX10_signed.1 ∈ ztb := List.mem_filter.mpr ⟨List.mem_append_left _ (List.mem_of_getElem? (i := 51) rfl), rfl⟩
set_option maxRecDepth 100000 in
theorem wm_X10_290 : Cond.methodLink RX10 290 mX10_signed.1 ∈ ztb := List.mem_filter.mpr ⟨List.mem_append_right _ (List.mem_of_getElem? (i := 1388) rfl), rfl⟩
theorem cl_X10_290 {E : zE} {M : zM} {d pc : Nat} {L rest : List zV} {h : zH} {Q : List zV → zH → Prop} {c0 : Nat} {a1 : zV} (hd : decode M.2.1 pc = .ok (.invokevirtual 290, 3)) (hM : M.1.cls = RX10) (hs : zsh E c0 = (10, 86)) (hc : c0 < zN E) (h8 : ((rest.map (zrv E)).map fun v => v.category).sum ≤ 8) (k : zCI E mX10_signed d [zR c0, a1] h (fun x h1 => zG E M (d + 1) (pc + 3) L (zI x :: rest) h1 Q)) : zG E M (d + 1) pc L (a1 :: zR c0 :: rest) h Q := z_callV (M' := mX10_signed) (as := [a1]) hd rfl hs hc (by decide) rfl (by rw [hM]; exact wm_X10_290) wn_X10_signed wl_X10_signed wi_X10 wc_X10_signed wy_X10_signed (by decide) h8 (zC_mono (by rintro r h1 ⟨x, rfl, hk⟩; exact hk) k)
set_option maxRecDepth 100000 in
theorem wn_X10_isSign : Cond.instanceMethod mX10_isSign.1 ∈ ztb := List.mem_filter.mpr ⟨List.mem_append_right _ (List.mem_of_getElem? (i := 1394) rfl), rfl⟩
set_option maxRecDepth 100000 in
theorem wl_X10_isSign : Cond.selects mX10_isSign.1.cls mX10_isSign.1 mX10_isSign.1 ∈ ztb := List.mem_filter.mpr ⟨List.mem_append_left _ (List.mem_of_getElem? (i := 52) rfl), rfl⟩
set_option maxRecDepth 100000 in
theorem wm_X10_219 : Cond.methodLink RX10 219 mX10_isSign.1 ∈ ztb := List.mem_filter.mpr ⟨List.mem_append_right _ (List.mem_of_getElem? (i := 1392) rfl), rfl⟩
theorem cl_X10_219 {E : zE} {M : zM} {d pc : Nat} {L rest : List zV} {h : zH} {Q : List zV → zH → Prop} {c0 : Nat} {a1 : zV} (hd : decode M.2.1 pc = .ok (.invokevirtual 219, 3)) (hM : M.1.cls = RX10) (hs : zsh E c0 = (10, 86)) (hc : c0 < zN E) (h8 : ((rest.map (zrv E)).map fun v => v.category).sum ≤ 8) (k : zCI E mX10_isSign d [zR c0, a1] h (fun x h1 => zG E M (d + 1) (pc + 3) L (zI x :: rest) h1 Q)) : zG E M (d + 1) pc L (a1 :: zR c0 :: rest) h Q := z_callV (M' := mX10_isSign) (as := [a1]) hd rfl hs hc (by decide) rfl (by rw [hM]; exact wm_X10_219) wn_X10_isSign wl_X10_isSign wi_X10 wc_X10_isSign wy_X10_isSign (by decide) h8 (zC_mono (by rintro r h1 ⟨x, rfl, hk⟩; exact hk) k)
set_option maxRecDepth 100000 in
theorem wn_X10_numeral : Cond.instanceMethod mX10_numeral.1 ∈ ztb := List.mem_filter.mpr ⟨List.mem_append_right _ (List.mem_of_getElem? (i := 1398) rfl), rfl⟩
set_option maxRecDepth 100000 in
theorem wl_X10_numeral : Cond.selects mX10_numeral.1.cls mX10_numeral.1 mX10_numeral.1 ∈ ztb := List.mem_filter.mpr ⟨List.mem_append_left _ (List.mem_of_getElem? (i := 53) rfl), rfl⟩
set_option maxRecDepth 100000 in
theorem wm_X10_222 : Cond.methodLink RX10 222 mX10_numeral.1 ∈ ztb := List.mem_filter.mpr ⟨List.mem_append_right _ (List.mem_of_getElem? (i := 1396) rfl), rfl⟩
theorem cl_X10_222 {E : zE} {M : zM} {d pc : Nat} {L rest : List zV} {h : zH} {Q : List zV → zH → Prop} {c0 : Nat} {a1 a2 : zV} (hd : decode M.2.1 pc = .ok (.invokevirtual 222, 3)) (hM : M.1.cls = RX10) (hs : zsh E c0 = (10, 86)) (hc : c0 < zN E) (h8 : ((rest.map (zrv E)).map fun v => v.category).sum ≤ 8) (k : zCI E mX10_numeral d [zR c0, a1, a2] h (fun x h1 => zG E M (d + 1) (pc + 3) L (zI x :: rest) h1 Q)) : zG E M (d + 1) pc L (a2 :: a1 :: zR c0 :: rest) h Q := z_callV (M' := mX10_numeral) (as := [a1, a2]) hd rfl hs hc (by decide) rfl (by rw [hM]; exact wm_X10_222) wn_X10_numeral wl_X10_numeral wi_X10 wc_X10_numeral wy_X10_numeral (by decide) h8 (zC_mono (by rintro r h1 ⟨x, rfl, hk⟩; exact hk) k)
set_option maxRecDepth 100000 in
theorem wn_X10_wayLine : Cond.instanceMethod mX10_wayLine.1 ∈ ztb := List.mem_filter.mpr ⟨List.mem_append_right _ (List.mem_of_getElem? (i := 1402) rfl), rfl⟩
set_option maxRecDepth 100000 in
theorem wl_X10_wayLine : Cond.selects mX10_wayLine.1.cls mX10_wayLine.1 mX10_wayLine.1 ∈ ztb := List.mem_filter.mpr ⟨List.mem_append_left _ (List.mem_of_getElem? (i := 54) rfl), rfl⟩
set_option maxRecDepth 100000 in
theorem wm_X10_255 : Cond.methodLink RX10 255 mX10_wayLine.1 ∈ ztb := List.mem_filter.mpr ⟨List.mem_append_right _ (List.mem_of_getElem? (i := 1400) rfl), rfl⟩
theorem cl_X10_255 {E : zE} {M : zM} {d pc : Nat} {L rest : List zV} {h : zH} {Q : List zV → zH → Prop} {c0 : Nat} {a1 : zV} (hd : decode M.2.1 pc = .ok (.invokevirtual 255, 3)) (hM : M.1.cls = RX10) (hs : zsh E c0 = (10, 86)) (hc : c0 < zN E) (h8 : ((rest.map (zrv E)).map fun v => v.category).sum ≤ 8) (k : zCV E mX10_wayLine d [zR c0, a1] h (fun h1 => zG E M (d + 1) (pc + 3) L rest h1 Q)) : zG E M (d + 1) pc L (a1 :: zR c0 :: rest) h Q := z_callV (M' := mX10_wayLine) (as := [a1]) hd rfl hs hc (by decide) rfl (by rw [hM]; exact wm_X10_255) wn_X10_wayLine wl_X10_wayLine wi_X10 wc_X10_wayLine wy_X10_wayLine (by decide) h8 (zC_mono (by rintro r h1 ⟨rfl, hk⟩; exact hk) k)
set_option maxRecDepth 100000 in
theorem wn_X10_expression : Cond.instanceMethod mX10_expression.1 ∈ ztb := List.mem_filter.mpr ⟨List.mem_append_right _ (List.mem_of_getElem? (i := 1406) rfl), rfl⟩
set_option maxRecDepth 100000 in
theorem wl_X10_expression : Cond.selects mX10_expression.1.cls mX10_expression.1 mX10_expression.1 ∈ ztb := List.mem_filter.mpr ⟨List.mem_append_left _ (List.mem_of_getElem? (i := 55) rfl), rfl⟩
set_option maxRecDepth 100000 in
theorem wm_X10_258 : Cond.methodLink RX10 258 mX10_expression.1 ∈ ztb := List.mem_filter.mpr ⟨List.mem_append_right _ (List.mem_of_getElem? (i := 1404) rfl), rfl⟩
theorem cl_X10_258 {E : zE} {M : zM} {d pc : Nat} {L rest : List zV} {h : zH} {Q : List zV → zH → Prop} {c0 : Nat} (hd : decode M.2.1 pc = .ok (.invokevirtual 258, 3)) (hM : M.1.cls = RX10) (hs : zsh E c0 = (10, 86)) (hc : c0 < zN E) (h8 : ((rest.map (zrv E)).map fun v => v.category).sum ≤ 8) (k : zCV E mX10_expression d [zR c0] h (fun h1 => zG E M (d + 1) (pc + 3) L rest h1 Q)) : zG E M (d + 1) pc L (zR c0 :: rest) h Q := z_callV (M' := mX10_expression) (as := []) hd rfl hs hc (by decide) rfl (by rw [hM]; exact wm_X10_258) wn_X10_expression wl_X10_expression wi_X10 wc_X10_expression wy_X10_expression (by decide) h8 (zC_mono (by rintro r h1 ⟨rfl, hk⟩; exact hk) k)
set_option maxRecDepth 100000 in
theorem wn_X10_conjunction : Cond.instanceMethod mX10_conjunction.1 ∈ ztb := List.mem_filter.mpr ⟨List.mem_append_right _ (List.mem_of_getElem? (i := 1410) rfl), rfl⟩
set_option maxRecDepth 100000 in
theorem wl_X10_conjunction : Cond.selects mX10_conjunction.1.cls mX10_conjunction.1 mX10_conjunction.1 ∈ ztb := List.mem_filter.mpr ⟨List.mem_append_left _ (List.mem_of_getElem? (i := 56) rfl), rfl⟩
set_option maxRecDepth 100000 in
theorem wm_X10_303 : Cond.methodLink RX10 303 mX10_conjunction.1 ∈ ztb := List.mem_filter.mpr ⟨List.mem_append_right _ (List.mem_of_getElem? (i := 1408) rfl), rfl⟩
theorem cl_X10_303 {E : zE} {M : zM} {d pc : Nat} {L rest : List zV} {h : zH} {Q : List zV → zH → Prop} {c0 : Nat} (hd : decode M.2.1 pc = .ok (.invokevirtual 303, 3)) (hM : M.1.cls = RX10) (hs : zsh E c0 = (10, 86)) (hc : c0 < zN E) (h8 : ((rest.map (zrv E)).map fun v => v.category).sum ≤ 8) (k : zCV E mX10_conjunction d [zR c0] h (fun h1 => zG E M (d + 1) (pc + 3) L rest h1 Q)) : zG E M (d + 1) pc L (zR c0 :: rest) h Q := z_callV (M' := mX10_conjunction) (as := []) hd rfl hs hc (by decide) rfl (by rw [hM]; exact wm_X10_303) wn_X10_conjunction wl_X10_conjunction wi_X10 wc_X10_conjunction wy_X10_conjunction (by decide) h8 (zC_mono (by rintro r h1 ⟨rfl, hk⟩; exact hk) k)
set_option maxRecDepth 100000 in
theorem wn_X10_negation : Cond.instanceMethod mX10_negation.1 ∈ ztb := List.mem_filter.mpr ⟨List.mem_append_right _ (List.mem_of_getElem? (i := 1414) rfl), rfl⟩
set_option maxRecDepth 100000 in
theorem wl_X10_negation : Cond.selects mX10_negation.1.cls mX10_negation.1 mX10_negation.1 ∈ ztb := List.mem_filter.mpr ⟨List.mem_append_left _ (List.mem_of_getElem? (i := 57) rfl), rfl⟩
set_option maxRecDepth 100000 in
theorem wm_X10_313 : Cond.methodLink RX10 313 mX10_negation.1 ∈ ztb := List.mem_filter.mpr ⟨List.mem_append_right _ (List.mem_of_getElem? (i := 1412) rfl), rfl⟩
theorem cl_X10_313 {E : zE} {M : zM} {d pc : Nat} {L rest : List zV} {h : zH} {Q : List zV → zH → Prop} {c0 : Nat} (hd : decode M.2.1 pc = .ok (.invokevirtual 313, 3)) (hM : M.1.cls = RX10) (hs : zsh E c0 = (10, 86)) (hc : c0 < zN E) (h8 : ((rest.map (zrv E)).map fun v => v.category).sum ≤ 8) (k : zCV E mX10_negation d [zR c0] h (fun h1 => zG E M (d + 1) (pc + 3) L rest h1 Q)) : zG E M (d + 1) pc L (zR c0 :: rest) h Q := z_callV (M' := mX10_negation) (as := []) hd rfl hs hc (by decide) rfl (by rw [hM]; exact wm_X10_313) wn_X10_negation wl_X10_negation wi_X10 wc_X10_negation wy_X10_negation (by decide) h8 (zC_mono (by rintro r h1 ⟨rfl, hk⟩; exact hk) k)
set_option maxRecDepth 100000 in
theorem wn_X10_knot : Cond.instanceMethod mX10_knot.1 ∈ ztb := List.mem_filter.mpr ⟨List.mem_append_right _ (List.mem_of_getElem? (i := 1418) rfl), rfl⟩
set_option maxRecDepth 100000 in
theorem wl_X10_knot : Cond.selects mX10_knot.1.cls mX10_knot.1 mX10_knot.1 ∈ ztb := List.mem_filter.mpr ⟨List.mem_append_left _ (List.mem_of_getElem? (i := 58) rfl), rfl⟩
set_option maxRecDepth 100000 in
theorem wm_X10_306 : Cond.methodLink RX10 306 mX10_knot.1 ∈ ztb := List.mem_filter.mpr ⟨List.mem_append_right _ (List.mem_of_getElem? (i := 1416) rfl), rfl⟩
theorem cl_X10_306 {E : zE} {M : zM} {d pc : Nat} {L rest : List zV} {h : zH} {Q : List zV → zH → Prop} {c0 : Nat} (hd : decode M.2.1 pc = .ok (.invokevirtual 306, 3)) (hM : M.1.cls = RX10) (hs : zsh E c0 = (10, 86)) (hc : c0 < zN E) (h8 : ((rest.map (zrv E)).map fun v => v.category).sum ≤ 8) (k : zCV E mX10_knot d [zR c0] h (fun h1 => zG E M (d + 1) (pc + 3) L rest h1 Q)) : zG E M (d + 1) pc L (zR c0 :: rest) h Q := z_callV (M' := mX10_knot) (as := []) hd rfl hs hc (by decide) rfl (by rw [hM]; exact wm_X10_306) wn_X10_knot wl_X10_knot wi_X10 wc_X10_knot wy_X10_knot (by decide) h8 (zC_mono (by rintro r h1 ⟨rfl, hk⟩; exact hk) k)
set_option maxRecDepth 100000 in
theorem wn_X10_puts : Cond.instanceMethod mX10_puts.1 ∈ ztb := List.mem_filter.mpr ⟨List.mem_append_right _ (List.mem_of_getElem? (i := 1422) rfl), rfl⟩
set_option maxRecDepth 100000 in
theorem wl_X10_puts : Cond.selects mX10_puts.1.cls mX10_puts.1 mX10_puts.1 ∈ ztb := List.mem_filter.mpr ⟨List.mem_append_left _ (List.mem_of_getElem? (i := 59) rfl), rfl⟩
set_option maxRecDepth 100000 in
theorem wm_X10_309 : Cond.methodLink RX10 309 mX10_puts.1 ∈ ztb := List.mem_filter.mpr ⟨List.mem_append_right _ (List.mem_of_getElem? (i := 1420) rfl), rfl⟩
theorem cl_X10_309 {E : zE} {M : zM} {d pc : Nat} {L rest : List zV} {h : zH} {Q : List zV → zH → Prop} {c0 : Nat} {a1 a2 : zV} (hd : decode M.2.1 pc = .ok (.invokevirtual 309, 3)) (hM : M.1.cls = RX10) (hs : zsh E c0 = (10, 86)) (hc : c0 < zN E) (h8 : ((rest.map (zrv E)).map fun v => v.category).sum ≤ 8) (k : zCV E mX10_puts d [zR c0, a1, a2] h (fun h1 => zG E M (d + 1) (pc + 3) L rest h1 Q)) : zG E M (d + 1) pc L (a2 :: a1 :: zR c0 :: rest) h Q := z_callV (M' := mX10_puts) (as := [a1, a2]) hd rfl hs hc (by decide) rfl (by rw [hM]; exact wm_X10_309) wn_X10_puts wl_X10_puts wi_X10 wc_X10_puts wy_X10_puts (by decide) h8 (zC_mono (by rintro r h1 ⟨rfl, hk⟩; exact hk) k)
set_option maxRecDepth 100000 in
theorem wn_X10_sum : Cond.instanceMethod mX10_sum.1 ∈ ztb := List.mem_filter.mpr ⟨List.mem_append_right _ (List.mem_of_getElem? (i := 1426) rfl), rfl⟩
set_option maxRecDepth 100000 in
theorem wl_X10_sum : Cond.selects mX10_sum.1.cls mX10_sum.1 mX10_sum.1 ∈ ztb := List.mem_filter.mpr ⟨List.mem_append_left _ (List.mem_of_getElem? (i := 60) rfl), rfl⟩
set_option maxRecDepth 100000 in
theorem wm_X10_316 : Cond.methodLink RX10 316 mX10_sum.1 ∈ ztb := List.mem_filter.mpr ⟨List.mem_append_right _ (List.mem_of_getElem? (i := 1424) rfl), rfl⟩
theorem cl_X10_316 {E : zE} {M : zM} {d pc : Nat} {L rest : List zV} {h : zH} {Q : List zV → zH → Prop} {c0 : Nat} (hd : decode M.2.1 pc = .ok (.invokevirtual 316, 3)) (hM : M.1.cls = RX10) (hs : zsh E c0 = (10, 86)) (hc : c0 < zN E) (h8 : ((rest.map (zrv E)).map fun v => v.category).sum ≤ 8) (k : zCV E mX10_sum d [zR c0] h (fun h1 => zG E M (d + 1) (pc + 3) L rest h1 Q)) : zG E M (d + 1) pc L (zR c0 :: rest) h Q := z_callV (M' := mX10_sum) (as := []) hd rfl hs hc (by decide) rfl (by rw [hM]; exact wm_X10_316) wn_X10_sum wl_X10_sum wi_X10 wc_X10_sum wy_X10_sum (by decide) h8 (zC_mono (by rintro r h1 ⟨rfl, hk⟩; exact hk) k)
set_option maxRecDepth 100000 in
theorem wn_X10_product : Cond.instanceMethod mX10_product.1 ∈ ztb := List.mem_filter.mpr ⟨List.mem_append_right _ (List.mem_of_getElem? (i := 1430) rfl), rfl⟩
set_option maxRecDepth 100000 in
theorem wl_X10_product : Cond.selects mX10_product.1.cls mX10_product.1 mX10_product.1 ∈ ztb := List.mem_filter.mpr ⟨List.mem_append_left _ (List.mem_of_getElem? (i := 61) rfl), rfl⟩
set_option maxRecDepth 100000 in
theorem wm_X10_319 : Cond.methodLink RX10 319 mX10_product.1 ∈ ztb := List.mem_filter.mpr ⟨List.mem_append_right _ (List.mem_of_getElem? (i := 1428) rfl), rfl⟩
theorem cl_X10_319 {E : zE} {M : zM} {d pc : Nat} {L rest : List zV} {h : zH} {Q : List zV → zH → Prop} {c0 : Nat} (hd : decode M.2.1 pc = .ok (.invokevirtual 319, 3)) (hM : M.1.cls = RX10) (hs : zsh E c0 = (10, 86)) (hc : c0 < zN E) (h8 : ((rest.map (zrv E)).map fun v => v.category).sum ≤ 8) (k : zCV E mX10_product d [zR c0] h (fun h1 => zG E M (d + 1) (pc + 3) L rest h1 Q)) : zG E M (d + 1) pc L (zR c0 :: rest) h Q := z_callV (M' := mX10_product) (as := []) hd rfl hs hc (by decide) rfl (by rw [hM]; exact wm_X10_319) wn_X10_product wl_X10_product wi_X10 wc_X10_product wy_X10_product (by decide) h8 (zC_mono (by rintro r h1 ⟨rfl, hk⟩; exact hk) k)
set_option maxRecDepth 100000 in
theorem wn_X10_primary : Cond.instanceMethod mX10_primary.1 ∈ ztb := List.mem_filter.mpr ⟨List.mem_append_right _ (List.mem_of_getElem? (i := 1434) rfl), rfl⟩
set_option maxRecDepth 100000 in
theorem wl_X10_primary : Cond.selects mX10_primary.1.cls mX10_primary.1 mX10_primary.1 ∈ ztb := List.mem_filter.mpr ⟨List.mem_append_left _ (List.mem_of_getElem? (i := 62) rfl), rfl⟩
set_option maxRecDepth 100000 in
theorem wm_X10_322 : Cond.methodLink RX10 322 mX10_primary.1 ∈ ztb := List.mem_filter.mpr ⟨List.mem_append_right _ (List.mem_of_getElem? (i := 1432) rfl), rfl⟩
theorem cl_X10_322 {E : zE} {M : zM} {d pc : Nat} {L rest : List zV} {h : zH} {Q : List zV → zH → Prop} {c0 : Nat} (hd : decode M.2.1 pc = .ok (.invokevirtual 322, 3)) (hM : M.1.cls = RX10) (hs : zsh E c0 = (10, 86)) (hc : c0 < zN E) (h8 : ((rest.map (zrv E)).map fun v => v.category).sum ≤ 8) (k : zCV E mX10_primary d [zR c0] h (fun h1 => zG E M (d + 1) (pc + 3) L rest h1 Q)) : zG E M (d + 1) pc L (zR c0 :: rest) h Q := z_callV (M' := mX10_primary) (as := []) hd rfl hs hc (by decide) rfl (by rw [hM]; exact wm_X10_322) wn_X10_primary wl_X10_primary wi_X10 wc_X10_primary wy_X10_primary (by decide) h8 (zC_mono (by rintro r h1 ⟨rfl, hk⟩; exact hk) k)
set_option maxRecDepth 100000 in
theorem wn_X10_saidLine : Cond.instanceMethod mX10_saidLine.1 ∈ ztb := List.mem_filter.mpr ⟨List.mem_append_right _ (List.mem_of_getElem? (i := 1438) rfl), rfl⟩
set_option maxRecDepth 100000 in
theorem wl_X10_saidLine : Cond.selects mX10_saidLine.1.cls mX10_saidLine.1 mX10_saidLine.1 ∈ ztb := List.mem_filter.mpr ⟨List.mem_append_left _ (List.mem_of_getElem? (i := 63) rfl), rfl⟩
set_option maxRecDepth 100000 in
theorem wm_X10_261 : Cond.methodLink RX10 261 mX10_saidLine.1 ∈ ztb := List.mem_filter.mpr ⟨List.mem_append_right _ (List.mem_of_getElem? (i := 1436) rfl), rfl⟩
theorem cl_X10_261 {E : zE} {M : zM} {d pc : Nat} {L rest : List zV} {h : zH} {Q : List zV → zH → Prop} {c0 : Nat} {a1 : zV} (hd : decode M.2.1 pc = .ok (.invokevirtual 261, 3)) (hM : M.1.cls = RX10) (hs : zsh E c0 = (10, 86)) (hc : c0 < zN E) (h8 : ((rest.map (zrv E)).map fun v => v.category).sum ≤ 8) (k : zCV E mX10_saidLine d [zR c0, a1] h (fun h1 => zG E M (d + 1) (pc + 3) L rest h1 Q)) : zG E M (d + 1) pc L (a1 :: zR c0 :: rest) h Q := z_callV (M' := mX10_saidLine) (as := [a1]) hd rfl hs hc (by decide) rfl (by rw [hM]; exact wm_X10_261) wn_X10_saidLine wl_X10_saidLine wi_X10 wc_X10_saidLine wy_X10_saidLine (by decide) h8 (zC_mono (by rintro r h1 ⟨rfl, hk⟩; exact hk) k)
set_option maxRecDepth 100000 in
theorem wn_X10_lays : Cond.instanceMethod mX10_lays.1 ∈ ztb := List.mem_filter.mpr ⟨List.mem_append_right _ (List.mem_of_getElem? (i := 1442) rfl), rfl⟩
set_option maxRecDepth 100000 in
theorem wl_X10_lays : Cond.selects mX10_lays.1.cls mX10_lays.1 mX10_lays.1 ∈ ztb := List.mem_filter.mpr ⟨List.mem_append_left _ (List.mem_of_getElem? (i := 64) rfl), rfl⟩
set_option maxRecDepth 100000 in
theorem wm_X10_334 : Cond.methodLink RX10 334 mX10_lays.1 ∈ ztb := List.mem_filter.mpr ⟨List.mem_append_right _ (List.mem_of_getElem? (i := 1440) rfl), rfl⟩
theorem cl_X10_334 {E : zE} {M : zM} {d pc : Nat} {L rest : List zV} {h : zH} {Q : List zV → zH → Prop} {c0 : Nat} (hd : decode M.2.1 pc = .ok (.invokevirtual 334, 3)) (hM : M.1.cls = RX10) (hs : zsh E c0 = (10, 86)) (hc : c0 < zN E) (h8 : ((rest.map (zrv E)).map fun v => v.category).sum ≤ 8) (k : zCV E mX10_lays d [zR c0] h (fun h1 => zG E M (d + 1) (pc + 3) L rest h1 Q)) : zG E M (d + 1) pc L (zR c0 :: rest) h Q := z_callV (M' := mX10_lays) (as := []) hd rfl hs hc (by decide) rfl (by rw [hM]; exact wm_X10_334) wn_X10_lays wl_X10_lays wi_X10 wc_X10_lays wy_X10_lays (by decide) h8 (zC_mono (by rintro r h1 ⟨rfl, hk⟩; exact hk) k)
set_option maxRecDepth 100000 in
theorem wn_X10_fault : Cond.instanceMethod mX10_fault.1 ∈ ztb := List.mem_filter.mpr ⟨List.mem_append_right _ (List.mem_of_getElem? (i := 1445) rfl), rfl⟩
set_option maxRecDepth 100000 in
theorem wl_X10_fault : Cond.selects mX10_fault.1.cls mX10_fault.1 mX10_fault.1 ∈ ztb := List.mem_filter.mpr ⟨List.mem_append_right _ (List.mem_of_getElem? (i := 1446) rfl), rfl⟩
set_option maxRecDepth 100000 in
theorem wm_L_34 : Cond.methodLink RL 34 mX10_fault.1 ∈ ztb := List.mem_filter.mpr ⟨List.mem_append_right _ (List.mem_of_getElem? (i := 1444) rfl), rfl⟩
theorem cl_L_34 {E : zE} {M : zM} {d pc : Nat} {L rest : List zV} {h : zH} {Q : List zV → zH → Prop} {c0 : Nat} {a1 : zV} (hd : decode M.2.1 pc = .ok (.invokevirtual 34, 3)) (hM : M.1.cls = RL) (hs : zsh E c0 = (10, 86)) (hc : c0 < zN E) (h8 : ((rest.map (zrv E)).map fun v => v.category).sum ≤ 8) (k : zCI E mX10_fault d [zR c0, a1] h (fun x h1 => zG E M (d + 1) (pc + 3) L (zI x :: rest) h1 Q)) : zG E M (d + 1) pc L (a1 :: zR c0 :: rest) h Q := z_callV (M' := mX10_fault) (as := [a1]) hd rfl hs hc (by decide) rfl (by rw [hM]; exact wm_L_34) wn_X10_fault wl_X10_fault wi_X10 wc_X10_fault wy_X10_fault (by decide) h8 (zC_mono (by rintro r h1 ⟨x, rfl, hk⟩; exact hk) k)
set_option maxRecDepth 100000 in
theorem wn_X10_named : Cond.instanceMethod mX10_named.1 ∈ ztb := List.mem_filter.mpr ⟨List.mem_append_right _ (List.mem_of_getElem? (i := 1449) rfl), rfl⟩
set_option maxRecDepth 100000 in
theorem wl_X10_named : Cond.selects mX10_named.1.cls mX10_named.1 mX10_named.1 ∈ ztb := List.mem_filter.mpr ⟨List.mem_append_right _ (List.mem_of_getElem? (i := 1450) rfl), rfl⟩
set_option maxRecDepth 100000 in
theorem wm_L_39 : Cond.methodLink RL 39 mX10_named.1 ∈ ztb := List.mem_filter.mpr ⟨List.mem_append_right _ (List.mem_of_getElem? (i := 1448) rfl), rfl⟩
theorem cl_L_39 {E : zE} {M : zM} {d pc : Nat} {L rest : List zV} {h : zH} {Q : List zV → zH → Prop} {c0 : Nat} {a1 a2 : zV} (hd : decode M.2.1 pc = .ok (.invokevirtual 39, 3)) (hM : M.1.cls = RL) (hs : zsh E c0 = (10, 86)) (hc : c0 < zN E) (h8 : ((rest.map (zrv E)).map fun v => v.category).sum ≤ 8) (k : zCI E mX10_named d [zR c0, a1, a2] h (fun x h1 => zG E M (d + 1) (pc + 3) L (zI x :: rest) h1 Q)) : zG E M (d + 1) pc L (a2 :: a1 :: zR c0 :: rest) h Q := z_callV (M' := mX10_named) (as := [a1, a2]) hd rfl hs hc (by decide) rfl (by rw [hM]; exact wm_L_39) wn_X10_named wl_X10_named wi_X10 wc_X10_named wy_X10_named (by decide) h8 (zC_mono (by rintro r h1 ⟨x, rfl, hk⟩; exact hk) k)
set_option maxRecDepth 100000 in
theorem wn_X10_tape : Cond.instanceMethod mX10_tape.1 ∈ ztb := List.mem_filter.mpr ⟨List.mem_append_right _ (List.mem_of_getElem? (i := 1453) rfl), rfl⟩
set_option maxRecDepth 100000 in
theorem wl_X10_tape : Cond.selects mX10_tape.1.cls mX10_tape.1 mX10_tape.1 ∈ ztb := List.mem_filter.mpr ⟨List.mem_append_right _ (List.mem_of_getElem? (i := 1454) rfl), rfl⟩
set_option maxRecDepth 100000 in
theorem wm_L_58 : Cond.methodLink RL 58 mX10_tape.1 ∈ ztb := List.mem_filter.mpr ⟨List.mem_append_right _ (List.mem_of_getElem? (i := 1452) rfl), rfl⟩
theorem cl_L_58 {E : zE} {M : zM} {d pc : Nat} {L rest : List zV} {h : zH} {Q : List zV → zH → Prop} {c0 : Nat} {a1 a2 a3 a4 : zV} (hd : decode M.2.1 pc = .ok (.invokevirtual 58, 3)) (hM : M.1.cls = RL) (hs : zsh E c0 = (10, 86)) (hc : c0 < zN E) (h8 : ((rest.map (zrv E)).map fun v => v.category).sum ≤ 8) (k : zCI E mX10_tape d [zR c0, a1, a2, a3, a4] h (fun x h1 => zG E M (d + 1) (pc + 3) L (zI x :: rest) h1 Q)) : zG E M (d + 1) pc L (a4 :: a3 :: a2 :: a1 :: zR c0 :: rest) h Q := z_callV (M' := mX10_tape) (as := [a1, a2, a3, a4]) hd rfl hs hc (by decide) rfl (by rw [hM]; exact wm_L_58) wn_X10_tape wl_X10_tape wi_X10 wc_X10_tape wy_X10_tape (by decide) h8 (zC_mono (by rintro r h1 ⟨x, rfl, hk⟩; exact hk) k)
set_option maxRecDepth 100000 in
theorem wn_X10_isStone : Cond.instanceMethod mX10_isStone.1 ∈ ztb := List.mem_filter.mpr ⟨List.mem_append_right _ (List.mem_of_getElem? (i := 1458) rfl), rfl⟩
set_option maxRecDepth 100000 in
theorem wl_X10_isStone : Cond.selects mX10_isStone.1.cls mX10_isStone.1 mX10_isStone.1 ∈ ztb := List.mem_filter.mpr ⟨List.mem_append_left _ (List.mem_of_getElem? (i := 65) rfl), rfl⟩
set_option maxRecDepth 100000 in
theorem wm_X10_362 : Cond.methodLink RX10 362 mX10_isStone.1 ∈ ztb := List.mem_filter.mpr ⟨List.mem_append_right _ (List.mem_of_getElem? (i := 1456) rfl), rfl⟩
theorem cl_X10_362 {E : zE} {M : zM} {d pc : Nat} {L rest : List zV} {h : zH} {Q : List zV → zH → Prop} {c0 : Nat} {a1 a2 : zV} (hd : decode M.2.1 pc = .ok (.invokevirtual 362, 3)) (hM : M.1.cls = RX10) (hs : zsh E c0 = (10, 86)) (hc : c0 < zN E) (h8 : ((rest.map (zrv E)).map fun v => v.category).sum ≤ 8) (k : zCI E mX10_isStone d [zR c0, a1, a2] h (fun x h1 => zG E M (d + 1) (pc + 3) L (zI x :: rest) h1 Q)) : zG E M (d + 1) pc L (a2 :: a1 :: zR c0 :: rest) h Q := z_callV (M' := mX10_isStone) (as := [a1, a2]) hd rfl hs hc (by decide) rfl (by rw [hM]; exact wm_X10_362) wn_X10_isStone wl_X10_isStone wi_X10 wc_X10_isStone wy_X10_isStone (by decide) h8 (zC_mono (by rintro r h1 ⟨x, rfl, hk⟩; exact hk) k)
set_option maxRecDepth 100000 in
theorem ws_X10_isPlace : Cond.static mX10_isPlace.1 ∈ ztb := List.mem_filter.mpr ⟨List.mem_append_right _ (List.mem_of_getElem? (i := 1461) rfl), rfl⟩
set_option maxRecDepth 100000 in
theorem wm_X10_366 : Cond.methodLink RX10 366 mX10_isPlace.1 ∈ ztb := List.mem_filter.mpr ⟨List.mem_append_right _ (List.mem_of_getElem? (i := 1460) rfl), rfl⟩
theorem cl_X10_366 {E : zE} {M : zM} {d pc : Nat} {L rest : List zV} {h : zH} {Q : List zV → zH → Prop} {a1 : zV} (hd : decode M.2.1 pc = .ok (.invokestatic 366, 3)) (hM : M.1.cls = RX10) (h8 : ((rest.map (zrv E)).map fun v => v.category).sum ≤ 8) (k : zCI E mX10_isPlace d [a1] h (fun x h1 => zG E M (d + 1) (pc + 3) L (zI x :: rest) h1 Q)) : zG E M (d + 1) pc L (a1 :: rest) h Q := z_callS (M' := mX10_isPlace) (as := [a1]) hd rfl (by rw [hM]; exact wm_X10_366) ws_X10_isPlace wi_X10 wc_X10_isPlace wy_X10_isPlace (by decide) h8 (zC_mono (by rintro r h1 ⟨x, rfl, hk⟩; exact hk) k)
set_option maxRecDepth 100000 in
theorem wn_X10_noted : Cond.instanceMethod mX10_noted.1 ∈ ztb := List.mem_filter.mpr ⟨List.mem_append_right _ (List.mem_of_getElem? (i := 1465) rfl), rfl⟩
set_option maxRecDepth 100000 in
theorem wl_X10_noted : Cond.selects mX10_noted.1.cls mX10_noted.1 mX10_noted.1 ∈ ztb := List.mem_filter.mpr ⟨List.mem_append_left _ (List.mem_of_getElem? (i := 66) rfl), rfl⟩
set_option maxRecDepth 100000 in
theorem wm_X10_369 : Cond.methodLink RX10 369 mX10_noted.1 ∈ ztb := List.mem_filter.mpr ⟨List.mem_append_right _ (List.mem_of_getElem? (i := 1463) rfl), rfl⟩
theorem cl_X10_369 {E : zE} {M : zM} {d pc : Nat} {L rest : List zV} {h : zH} {Q : List zV → zH → Prop} {c0 : Nat} {a1 a2 a3 a4 : zV} (hd : decode M.2.1 pc = .ok (.invokevirtual 369, 3)) (hM : M.1.cls = RX10) (hs : zsh E c0 = (10, 86)) (hc : c0 < zN E) (h8 : ((rest.map (zrv E)).map fun v => v.category).sum ≤ 8) (k : zCI E mX10_noted d [zR c0, a1, a2, a3, a4] h (fun x h1 => zG E M (d + 1) (pc + 3) L (zI x :: rest) h1 Q)) : zG E M (d + 1) pc L (a4 :: a3 :: a2 :: a1 :: zR c0 :: rest) h Q := z_callV (M' := mX10_noted) (as := [a1, a2, a3, a4]) hd rfl hs hc (by decide) rfl (by rw [hM]; exact wm_X10_369) wn_X10_noted wl_X10_noted wi_X10 wc_X10_noted wy_X10_noted (by decide) h8 (zC_mono (by rintro r h1 ⟨x, rfl, hk⟩; exact hk) k)
set_option maxRecDepth 100000 in
theorem wn_X10_gone : Cond.instanceMethod mX10_gone.1 ∈ ztb := List.mem_filter.mpr ⟨List.mem_append_right _ (List.mem_of_getElem? (i := 1468) rfl), rfl⟩
set_option maxRecDepth 100000 in
theorem wl_X10_gone : Cond.selects mX10_gone.1.cls mX10_gone.1 mX10_gone.1 ∈ ztb := List.mem_filter.mpr ⟨List.mem_append_right _ (List.mem_of_getElem? (i := 1469) rfl), rfl⟩
set_option maxRecDepth 100000 in
theorem wm_L_63 : Cond.methodLink RL 63 mX10_gone.1 ∈ ztb := List.mem_filter.mpr ⟨List.mem_append_right _ (List.mem_of_getElem? (i := 1467) rfl), rfl⟩
theorem cl_L_63 {E : zE} {M : zM} {d pc : Nat} {L rest : List zV} {h : zH} {Q : List zV → zH → Prop} {c0 : Nat} {a1 a2 a3 : zV} (hd : decode M.2.1 pc = .ok (.invokevirtual 63, 3)) (hM : M.1.cls = RL) (hs : zsh E c0 = (10, 86)) (hc : c0 < zN E) (h8 : ((rest.map (zrv E)).map fun v => v.category).sum ≤ 8) (k : zCI E mX10_gone d [zR c0, a1, a2, a3] h (fun x h1 => zG E M (d + 1) (pc + 3) L (zI x :: rest) h1 Q)) : zG E M (d + 1) pc L (a3 :: a2 :: a1 :: zR c0 :: rest) h Q := z_callV (M' := mX10_gone) (as := [a1, a2, a3]) hd rfl hs hc (by decide) rfl (by rw [hM]; exact wm_L_63) wn_X10_gone wl_X10_gone wi_X10 wc_X10_gone wy_X10_gone (by decide) h8 (zC_mono (by rintro r h1 ⟨x, rfl, hk⟩; exact hk) k)
set_option maxRecDepth 100000 in
theorem wn_X10_strike : Cond.instanceMethod mX10_strike.1 ∈ ztb := List.mem_filter.mpr ⟨List.mem_append_right _ (List.mem_of_getElem? (i := 1472) rfl), rfl⟩
set_option maxRecDepth 100000 in
theorem wl_X10_strike : Cond.selects mX10_strike.1.cls mX10_strike.1 mX10_strike.1 ∈ ztb := List.mem_filter.mpr ⟨List.mem_append_right _ (List.mem_of_getElem? (i := 1473) rfl), rfl⟩
set_option maxRecDepth 100000 in
theorem wm_L_67 : Cond.methodLink RL 67 mX10_strike.1 ∈ ztb := List.mem_filter.mpr ⟨List.mem_append_right _ (List.mem_of_getElem? (i := 1471) rfl), rfl⟩
theorem cl_L_67 {E : zE} {M : zM} {d pc : Nat} {L rest : List zV} {h : zH} {Q : List zV → zH → Prop} {c0 : Nat} {a1 : zV} (hd : decode M.2.1 pc = .ok (.invokevirtual 67, 3)) (hM : M.1.cls = RL) (hs : zsh E c0 = (10, 86)) (hc : c0 < zN E) (h8 : ((rest.map (zrv E)).map fun v => v.category).sum ≤ 8) (k : zCI E mX10_strike d [zR c0, a1] h (fun x h1 => zG E M (d + 1) (pc + 3) L (zI x :: rest) h1 Q)) : zG E M (d + 1) pc L (a1 :: zR c0 :: rest) h Q := z_callV (M' := mX10_strike) (as := [a1]) hd rfl hs hc (by decide) rfl (by rw [hM]; exact wm_L_67) wn_X10_strike wl_X10_strike wi_X10 wc_X10_strike wy_X10_strike (by decide) h8 (zC_mono (by rintro r h1 ⟨x, rfl, hk⟩; exact hk) k)
set_option maxRecDepth 100000 in
theorem wn_X10_known : Cond.instanceMethod mX10_known.1 ∈ ztb := List.mem_filter.mpr ⟨List.mem_append_right _ (List.mem_of_getElem? (i := 1476) rfl), rfl⟩
set_option maxRecDepth 100000 in
theorem wl_X10_known : Cond.selects mX10_known.1.cls mX10_known.1 mX10_known.1 ∈ ztb := List.mem_filter.mpr ⟨List.mem_append_right _ (List.mem_of_getElem? (i := 1477) rfl), rfl⟩
set_option maxRecDepth 100000 in
theorem wm_L_72 : Cond.methodLink RL 72 mX10_known.1 ∈ ztb := List.mem_filter.mpr ⟨List.mem_append_right _ (List.mem_of_getElem? (i := 1475) rfl), rfl⟩
theorem cl_L_72 {E : zE} {M : zM} {d pc : Nat} {L rest : List zV} {h : zH} {Q : List zV → zH → Prop} {c0 : Nat} {a1 : zV} (hd : decode M.2.1 pc = .ok (.invokevirtual 72, 3)) (hM : M.1.cls = RL) (hs : zsh E c0 = (10, 86)) (hc : c0 < zN E) (h8 : ((rest.map (zrv E)).map fun v => v.category).sum ≤ 8) (k : zCI E mX10_known d [zR c0, a1] h (fun x h1 => zG E M (d + 1) (pc + 3) L (zI x :: rest) h1 Q)) : zG E M (d + 1) pc L (a1 :: zR c0 :: rest) h Q := z_callV (M' := mX10_known) (as := [a1]) hd rfl hs hc (by decide) rfl (by rw [hM]; exact wm_L_72) wn_X10_known wl_X10_known wi_X10 wc_X10_known wy_X10_known (by decide) h8 (zC_mono (by rintro r h1 ⟨x, rfl, hk⟩; exact hk) k)
set_option maxRecDepth 100000 in
theorem wn_X10_mode : Cond.instanceMethod mX10_mode.1 ∈ ztb := List.mem_filter.mpr ⟨List.mem_append_right _ (List.mem_of_getElem? (i := 1480) rfl), rfl⟩
set_option maxRecDepth 100000 in
theorem wl_X10_mode : Cond.selects mX10_mode.1.cls mX10_mode.1 mX10_mode.1 ∈ ztb := List.mem_filter.mpr ⟨List.mem_append_right _ (List.mem_of_getElem? (i := 1481) rfl), rfl⟩
set_option maxRecDepth 100000 in
theorem wm_L_77 : Cond.methodLink RL 77 mX10_mode.1 ∈ ztb := List.mem_filter.mpr ⟨List.mem_append_right _ (List.mem_of_getElem? (i := 1479) rfl), rfl⟩
theorem cl_L_77 {E : zE} {M : zM} {d pc : Nat} {L rest : List zV} {h : zH} {Q : List zV → zH → Prop} {c0 : Nat} {a1 a2 : zV} (hd : decode M.2.1 pc = .ok (.invokevirtual 77, 3)) (hM : M.1.cls = RL) (hs : zsh E c0 = (10, 86)) (hc : c0 < zN E) (h8 : ((rest.map (zrv E)).map fun v => v.category).sum ≤ 8) (k : zCI E mX10_mode d [zR c0, a1, a2] h (fun x h1 => zG E M (d + 1) (pc + 3) L (zI x :: rest) h1 Q)) : zG E M (d + 1) pc L (a2 :: a1 :: zR c0 :: rest) h Q := z_callV (M' := mX10_mode) (as := [a1, a2]) hd rfl hs hc (by decide) rfl (by rw [hM]; exact wm_L_77) wn_X10_mode wl_X10_mode wi_X10 wc_X10_mode wy_X10_mode (by decide) h8 (zC_mono (by rintro r h1 ⟨x, rfl, hk⟩; exact hk) k)
set_option maxRecDepth 100000 in
theorem wn_X10_look : Cond.instanceMethod mX10_look.1 ∈ ztb := List.mem_filter.mpr ⟨List.mem_append_right _ (List.mem_of_getElem? (i := 1484) rfl), rfl⟩
set_option maxRecDepth 100000 in
theorem wl_X10_look : Cond.selects mX10_look.1.cls mX10_look.1 mX10_look.1 ∈ ztb := List.mem_filter.mpr ⟨List.mem_append_right _ (List.mem_of_getElem? (i := 1485) rfl), rfl⟩
set_option maxRecDepth 100000 in
theorem wm_L_45 : Cond.methodLink RL 45 mX10_look.1 ∈ ztb := List.mem_filter.mpr ⟨List.mem_append_right _ (List.mem_of_getElem? (i := 1483) rfl), rfl⟩
theorem cl_L_45 {E : zE} {M : zM} {d pc : Nat} {L rest : List zV} {h : zH} {Q : List zV → zH → Prop} {c0 : Nat} {a1 a2 a3 : zV} (hd : decode M.2.1 pc = .ok (.invokevirtual 45, 3)) (hM : M.1.cls = RL) (hs : zsh E c0 = (10, 86)) (hc : c0 < zN E) (h8 : ((rest.map (zrv E)).map fun v => v.category).sum ≤ 8) (k : zCI E mX10_look d [zR c0, a1, a2, a3] h (fun x h1 => zG E M (d + 1) (pc + 3) L (zI x :: rest) h1 Q)) : zG E M (d + 1) pc L (a3 :: a2 :: a1 :: zR c0 :: rest) h Q := z_callV (M' := mX10_look) (as := [a1, a2, a3]) hd rfl hs hc (by decide) rfl (by rw [hM]; exact wm_L_45) wn_X10_look wl_X10_look wi_X10 wc_X10_look wy_X10_look (by decide) h8 (zC_mono (by rintro r h1 ⟨x, rfl, hk⟩; exact hk) k)
set_option maxRecDepth 100000 in
theorem wn_X10_knownNotes : Cond.instanceMethod mX10_knownNotes.1 ∈ ztb := List.mem_filter.mpr ⟨List.mem_append_right _ (List.mem_of_getElem? (i := 1489) rfl), rfl⟩
set_option maxRecDepth 100000 in
theorem wl_X10_knownNotes : Cond.selects mX10_knownNotes.1.cls mX10_knownNotes.1 mX10_knownNotes.1 ∈ ztb := List.mem_filter.mpr ⟨List.mem_append_left _ (List.mem_of_getElem? (i := 67) rfl), rfl⟩
set_option maxRecDepth 100000 in
theorem wm_X10_379 : Cond.methodLink RX10 379 mX10_knownNotes.1 ∈ ztb := List.mem_filter.mpr ⟨List.mem_append_right _ (List.mem_of_getElem? (i := 1487) rfl), rfl⟩
theorem cl_X10_379 {E : zE} {M : zM} {d pc : Nat} {L rest : List zV} {h : zH} {Q : List zV → zH → Prop} {c0 : Nat} (hd : decode M.2.1 pc = .ok (.invokevirtual 379, 3)) (hM : M.1.cls = RX10) (hs : zsh E c0 = (10, 86)) (hc : c0 < zN E) (h8 : ((rest.map (zrv E)).map fun v => v.category).sum ≤ 8) (k : zCI E mX10_knownNotes d [zR c0] h (fun x h1 => zG E M (d + 1) (pc + 3) L (zI x :: rest) h1 Q)) : zG E M (d + 1) pc L (zR c0 :: rest) h Q := z_callV (M' := mX10_knownNotes) (as := []) hd rfl hs hc (by decide) rfl (by rw [hM]; exact wm_X10_379) wn_X10_knownNotes wl_X10_knownNotes wi_X10 wc_X10_knownNotes wy_X10_knownNotes (by decide) h8 (zC_mono (by rintro r h1 ⟨x, rfl, hk⟩; exact hk) k)
set_option maxRecDepth 100000 in
theorem wn_X10_stones : Cond.instanceMethod mX10_stones.1 ∈ ztb := List.mem_filter.mpr ⟨List.mem_append_right _ (List.mem_of_getElem? (i := 1493) rfl), rfl⟩
set_option maxRecDepth 100000 in
theorem wl_X10_stones : Cond.selects mX10_stones.1.cls mX10_stones.1 mX10_stones.1 ∈ ztb := List.mem_filter.mpr ⟨List.mem_append_left _ (List.mem_of_getElem? (i := 68) rfl), rfl⟩
set_option maxRecDepth 100000 in
theorem wm_X10_382 : Cond.methodLink RX10 382 mX10_stones.1 ∈ ztb := List.mem_filter.mpr ⟨List.mem_append_right _ (List.mem_of_getElem? (i := 1491) rfl), rfl⟩
theorem cl_X10_382 {E : zE} {M : zM} {d pc : Nat} {L rest : List zV} {h : zH} {Q : List zV → zH → Prop} {c0 : Nat} {a1 : zV} (hd : decode M.2.1 pc = .ok (.invokevirtual 382, 3)) (hM : M.1.cls = RX10) (hs : zsh E c0 = (10, 86)) (hc : c0 < zN E) (h8 : ((rest.map (zrv E)).map fun v => v.category).sum ≤ 8) (k : zCV E mX10_stones d [zR c0, a1] h (fun h1 => zG E M (d + 1) (pc + 3) L rest h1 Q)) : zG E M (d + 1) pc L (a1 :: zR c0 :: rest) h Q := z_callV (M' := mX10_stones) (as := [a1]) hd rfl hs hc (by decide) rfl (by rw [hM]; exact wm_X10_382) wn_X10_stones wl_X10_stones wi_X10 wc_X10_stones wy_X10_stones (by decide) h8 (zC_mono (by rintro r h1 ⟨rfl, hk⟩; exact hk) k)
set_option maxRecDepth 100000 in
theorem wn_X10_about : Cond.instanceMethod mX10_about.1 ∈ ztb := List.mem_filter.mpr ⟨List.mem_append_right _ (List.mem_of_getElem? (i := 1496) rfl), rfl⟩
set_option maxRecDepth 100000 in
theorem wl_X10_about : Cond.selects mX10_about.1.cls mX10_about.1 mX10_about.1 ∈ ztb := List.mem_filter.mpr ⟨List.mem_append_right _ (List.mem_of_getElem? (i := 1497) rfl), rfl⟩
set_option maxRecDepth 100000 in
theorem wm_L_53 : Cond.methodLink RL 53 mX10_about.1 ∈ ztb := List.mem_filter.mpr ⟨List.mem_append_right _ (List.mem_of_getElem? (i := 1495) rfl), rfl⟩
theorem cl_L_53 {E : zE} {M : zM} {d pc : Nat} {L rest : List zV} {h : zH} {Q : List zV → zH → Prop} {c0 : Nat} {a1 a2 : zV} (hd : decode M.2.1 pc = .ok (.invokevirtual 53, 3)) (hM : M.1.cls = RL) (hs : zsh E c0 = (10, 86)) (hc : c0 < zN E) (h8 : ((rest.map (zrv E)).map fun v => v.category).sum ≤ 8) (k : zCI E mX10_about d [zR c0, a1, a2] h (fun x h1 => zG E M (d + 1) (pc + 3) L (zI x :: rest) h1 Q)) : zG E M (d + 1) pc L (a2 :: a1 :: zR c0 :: rest) h Q := z_callV (M' := mX10_about) (as := [a1, a2]) hd rfl hs hc (by decide) rfl (by rw [hM]; exact wm_L_53) wn_X10_about wl_X10_about wi_X10 wc_X10_about wy_X10_about (by decide) h8 (zC_mono (by rintro r h1 ⟨x, rfl, hk⟩; exact hk) k)
set_option maxRecDepth 100000 in
theorem wn_X10_stands : Cond.instanceMethod mX10_stands.1 ∈ ztb := List.mem_filter.mpr ⟨List.mem_append_right _ (List.mem_of_getElem? (i := 1501) rfl), rfl⟩
set_option maxRecDepth 100000 in
theorem wl_X10_stands : Cond.selects mX10_stands.1.cls mX10_stands.1 mX10_stands.1 ∈ ztb := List.mem_filter.mpr ⟨List.mem_append_left _ (List.mem_of_getElem? (i := 69) rfl), rfl⟩
set_option maxRecDepth 100000 in
theorem wm_X10_388 : Cond.methodLink RX10 388 mX10_stands.1 ∈ ztb := List.mem_filter.mpr ⟨List.mem_append_right _ (List.mem_of_getElem? (i := 1499) rfl), rfl⟩
theorem cl_X10_388 {E : zE} {M : zM} {d pc : Nat} {L rest : List zV} {h : zH} {Q : List zV → zH → Prop} {c0 : Nat} {a1 : zV} (hd : decode M.2.1 pc = .ok (.invokevirtual 388, 3)) (hM : M.1.cls = RX10) (hs : zsh E c0 = (10, 86)) (hc : c0 < zN E) (h8 : ((rest.map (zrv E)).map fun v => v.category).sum ≤ 8) (k : zCV E mX10_stands d [zR c0, a1] h (fun h1 => zG E M (d + 1) (pc + 3) L rest h1 Q)) : zG E M (d + 1) pc L (a1 :: zR c0 :: rest) h Q := z_callV (M' := mX10_stands) (as := [a1]) hd rfl hs hc (by decide) rfl (by rw [hM]; exact wm_X10_388) wn_X10_stands wl_X10_stands wi_X10 wc_X10_stands wy_X10_stands (by decide) h8 (zC_mono (by rintro r h1 ⟨rfl, hk⟩; exact hk) k)
set_option maxRecDepth 100000 in
theorem wn_X10_fit : Cond.instanceMethod mX10_fit.1 ∈ ztb := List.mem_filter.mpr ⟨List.mem_append_right _ (List.mem_of_getElem? (i := 1504) rfl), rfl⟩
set_option maxRecDepth 100000 in
theorem wl_X10_fit : Cond.selects mX10_fit.1.cls mX10_fit.1 mX10_fit.1 ∈ ztb := List.mem_filter.mpr ⟨List.mem_append_right _ (List.mem_of_getElem? (i := 1505) rfl), rfl⟩
set_option maxRecDepth 100000 in
theorem wm_L_81 : Cond.methodLink RL 81 mX10_fit.1 ∈ ztb := List.mem_filter.mpr ⟨List.mem_append_right _ (List.mem_of_getElem? (i := 1503) rfl), rfl⟩
theorem cl_L_81 {E : zE} {M : zM} {d pc : Nat} {L rest : List zV} {h : zH} {Q : List zV → zH → Prop} {c0 : Nat} {a1 a2 a3 a4 : zV} (hd : decode M.2.1 pc = .ok (.invokevirtual 81, 3)) (hM : M.1.cls = RL) (hs : zsh E c0 = (10, 86)) (hc : c0 < zN E) (h8 : ((rest.map (zrv E)).map fun v => v.category).sum ≤ 8) (k : zCI E mX10_fit d [zR c0, a1, a2, a3, a4] h (fun x h1 => zG E M (d + 1) (pc + 3) L (zI x :: rest) h1 Q)) : zG E M (d + 1) pc L (a4 :: a3 :: a2 :: a1 :: zR c0 :: rest) h Q := z_callV (M' := mX10_fit) (as := [a1, a2, a3, a4]) hd rfl hs hc (by decide) rfl (by rw [hM]; exact wm_L_81) wn_X10_fit wl_X10_fit wi_X10 wc_X10_fit wy_X10_fit (by decide) h8 (zC_mono (by rintro r h1 ⟨x, rfl, hk⟩; exact hk) k)
set_option maxRecDepth 100000 in
theorem wn_X10_fits : Cond.instanceMethod mX10_fits.1 ∈ ztb := List.mem_filter.mpr ⟨List.mem_append_right _ (List.mem_of_getElem? (i := 1510) rfl), rfl⟩
set_option maxRecDepth 100000 in
theorem wl_X10_fits : Cond.selects mX10_fits.1.cls mX10_fits.1 mX10_fits.1 ∈ ztb := List.mem_filter.mpr ⟨List.mem_append_left _ (List.mem_of_getElem? (i := 70) rfl), rfl⟩
set_option maxRecDepth 100000 in
theorem wm_X10_431 : Cond.methodLink RX10 431 mX10_fits.1 ∈ ztb := List.mem_filter.mpr ⟨List.mem_append_right _ (List.mem_of_getElem? (i := 1508) rfl), rfl⟩
theorem cl_X10_431 {E : zE} {M : zM} {d pc : Nat} {L rest : List zV} {h : zH} {Q : List zV → zH → Prop} {c0 : Nat} {a1 a2 : zV} (hd : decode M.2.1 pc = .ok (.invokevirtual 431, 3)) (hM : M.1.cls = RX10) (hs : zsh E c0 = (10, 86)) (hc : c0 < zN E) (h8 : ((rest.map (zrv E)).map fun v => v.category).sum ≤ 8) (k : zCV E mX10_fits d [zR c0, a1, a2] h (fun h1 => zG E M (d + 1) (pc + 3) L rest h1 Q)) : zG E M (d + 1) pc L (a2 :: a1 :: zR c0 :: rest) h Q := z_callV (M' := mX10_fits) (as := [a1, a2]) hd rfl hs hc (by decide) rfl (by rw [hM]; exact wm_X10_431) wn_X10_fits wl_X10_fits wi_X10 wc_X10_fits wy_X10_fits (by decide) h8 (zC_mono (by rintro r h1 ⟨rfl, hk⟩; exact hk) k)
set_option maxRecDepth 100000 in
theorem wm_X10_404 : Cond.methodLink RX10 404 mJ9_floorDiv_7cf53.1 ∈ ztb := List.mem_filter.mpr ⟨List.mem_append_right _ (List.mem_of_getElem? (i := 1512) rfl), rfl⟩
theorem cl_X10_404 {E : zE} {M : zM} {d pc : Nat} {L st : List zV} {h : zH} {Q : List zV → zH → Prop} {a b : Int} (hd : decode M.2.1 pc = .ok (.invokestatic 404, 3)) (hM : M.1.cls = RX10) (hb : 0 < b) (h8 : ((st.map (zrv E)).map fun v => v.category).sum ≤ 8) (k : zG E M d (pc + 3) L (zI (a / b) :: st) h Q) : zG E M d pc L (zI b :: zI a :: st) h Q := z_floorDiv hd (by rw [hM]; exact wm_X10_404) hb h8 k
set_option maxRecDepth 100000 in
theorem wn_X10_tries : Cond.instanceMethod mX10_tries.1 ∈ ztb := List.mem_filter.mpr ⟨List.mem_append_right _ (List.mem_of_getElem? (i := 1515) rfl), rfl⟩
set_option maxRecDepth 100000 in
theorem wl_X10_tries : Cond.selects mX10_tries.1.cls mX10_tries.1 mX10_tries.1 ∈ ztb := List.mem_filter.mpr ⟨List.mem_append_left _ (List.mem_of_getElem? (i := 71) rfl), rfl⟩
set_option maxRecDepth 100000 in
theorem wm_X10_410 : Cond.methodLink RX10 410 mX10_tries.1 ∈ ztb := List.mem_filter.mpr ⟨List.mem_append_right _ (List.mem_of_getElem? (i := 1513) rfl), rfl⟩
theorem cl_X10_410 {E : zE} {M : zM} {d pc : Nat} {L rest : List zV} {h : zH} {Q : List zV → zH → Prop} {c0 : Nat} {a1 a2 a3 a4 : zV} (hd : decode M.2.1 pc = .ok (.invokevirtual 410, 3)) (hM : M.1.cls = RX10) (hs : zsh E c0 = (10, 86)) (hc : c0 < zN E) (h8 : ((rest.map (zrv E)).map fun v => v.category).sum ≤ 8) (k : zCV E mX10_tries d [zR c0, a1, a2, a3, a4] h (fun h1 => zG E M (d + 1) (pc + 3) L rest h1 Q)) : zG E M (d + 1) pc L (a4 :: a3 :: a2 :: a1 :: zR c0 :: rest) h Q := z_callV (M' := mX10_tries) (as := [a1, a2, a3, a4]) hd rfl hs hc (by decide) rfl (by rw [hM]; exact wm_X10_410) wn_X10_tries wl_X10_tries wi_X10 wc_X10_tries wy_X10_tries (by decide) h8 (zC_mono (by rintro r h1 ⟨rfl, hk⟩; exact hk) k)
set_option maxRecDepth 100000 in
theorem wn_X10_awayFrom : Cond.instanceMethod mX10_awayFrom.1 ∈ ztb := List.mem_filter.mpr ⟨List.mem_append_right _ (List.mem_of_getElem? (i := 1519) rfl), rfl⟩
set_option maxRecDepth 100000 in
theorem wl_X10_awayFrom : Cond.selects mX10_awayFrom.1.cls mX10_awayFrom.1 mX10_awayFrom.1 ∈ ztb := List.mem_filter.mpr ⟨List.mem_append_left _ (List.mem_of_getElem? (i := 72) rfl), rfl⟩
set_option maxRecDepth 100000 in
theorem wm_X10_414 : Cond.methodLink RX10 414 mX10_awayFrom.1 ∈ ztb := List.mem_filter.mpr ⟨List.mem_append_right _ (List.mem_of_getElem? (i := 1517) rfl), rfl⟩
theorem cl_X10_414 {E : zE} {M : zM} {d pc : Nat} {L rest : List zV} {h : zH} {Q : List zV → zH → Prop} {c0 : Nat} {a1 a2 a3 a4 a5 : zV} (hd : decode M.2.1 pc = .ok (.invokevirtual 414, 3)) (hM : M.1.cls = RX10) (hs : zsh E c0 = (10, 86)) (hc : c0 < zN E) (h8 : ((rest.map (zrv E)).map fun v => v.category).sum ≤ 8) (k : zCI E mX10_awayFrom d [zR c0, a1, a2, a3, a4, a5] h (fun x h1 => zG E M (d + 1) (pc + 3) L (zI x :: rest) h1 Q)) : zG E M (d + 1) pc L (a5 :: a4 :: a3 :: a2 :: a1 :: zR c0 :: rest) h Q := z_callV (M' := mX10_awayFrom) (as := [a1, a2, a3, a4, a5]) hd rfl hs hc (by decide) rfl (by rw [hM]; exact wm_X10_414) wn_X10_awayFrom wl_X10_awayFrom wi_X10 wc_X10_awayFrom wy_X10_awayFrom (by decide) h8 (zC_mono (by rintro r h1 ⟨x, rfl, hk⟩; exact hk) k)
set_option maxRecDepth 100000 in
theorem ws_X10_stretched : Cond.static mX10_stretched.1 ∈ ztb := List.mem_filter.mpr ⟨List.mem_append_right _ (List.mem_of_getElem? (i := 1522) rfl), rfl⟩
set_option maxRecDepth 100000 in
theorem wm_X10_395 : Cond.methodLink RX10 395 mX10_stretched.1 ∈ ztb := List.mem_filter.mpr ⟨List.mem_append_right _ (List.mem_of_getElem? (i := 1521) rfl), rfl⟩
theorem cl_X10_395 {E : zE} {M : zM} {d pc : Nat} {L rest : List zV} {h : zH} {Q : List zV → zH → Prop} {a1 a2 : zV} (hd : decode M.2.1 pc = .ok (.invokestatic 395, 3)) (hM : M.1.cls = RX10) (h8 : ((rest.map (zrv E)).map fun v => v.category).sum ≤ 8) (k : zCI E mX10_stretched d [a1, a2] h (fun x h1 => zG E M (d + 1) (pc + 3) L (zI x :: rest) h1 Q)) : zG E M (d + 1) pc L (a2 :: a1 :: rest) h Q := z_callS (M' := mX10_stretched) (as := [a1, a2]) hd rfl (by rw [hM]; exact wm_X10_395) ws_X10_stretched wi_X10 wc_X10_stretched wy_X10_stretched (by decide) h8 (zC_mono (by rintro r h1 ⟨x, rfl, hk⟩; exact hk) k)
set_option maxRecDepth 100000 in
theorem ws_X10_root : Cond.static mX10_root.1 ∈ ztb := List.mem_filter.mpr ⟨List.mem_append_right _ (List.mem_of_getElem? (i := 1526) rfl), rfl⟩
set_option maxRecDepth 100000 in
theorem wm_X10_400 : Cond.methodLink RX10 400 mX10_root.1 ∈ ztb := List.mem_filter.mpr ⟨List.mem_append_right _ (List.mem_of_getElem? (i := 1525) rfl), rfl⟩
theorem cl_X10_400 {E : zE} {M : zM} {d pc : Nat} {L rest : List zV} {h : zH} {Q : List zV → zH → Prop} {a1 : zV} (hd : decode M.2.1 pc = .ok (.invokestatic 400, 3)) (hM : M.1.cls = RX10) (h8 : ((rest.map (zrv E)).map fun v => v.category).sum ≤ 8) (k : zCI E mX10_root d [a1] h (fun x h1 => zG E M (d + 1) (pc + 3) L (zI x :: rest) h1 Q)) : zG E M (d + 1) pc L (a1 :: rest) h Q := z_callS (M' := mX10_root) (as := [a1]) hd rfl (by rw [hM]; exact wm_X10_400) ws_X10_root wi_X10 wc_X10_root wy_X10_root (by decide) h8 (zC_mono (by rintro r h1 ⟨x, rfl, hk⟩; exact hk) k)
set_option maxRecDepth 100000 in
theorem wm_X10_418 : Cond.methodLink RX10 418 mJ9_abs_0f7a4.1 ∈ ztb := List.mem_filter.mpr ⟨List.mem_append_right _ (List.mem_of_getElem? (i := 1530) rfl), rfl⟩
set_option maxRecDepth 100000 in
theorem ws_J9_abs_0f7a4 : Cond.static mJ9_abs_0f7a4.1 ∈ ztb := List.mem_filter.mpr ⟨List.mem_append_right _ (List.mem_of_getElem? (i := 1531) rfl), rfl⟩
theorem cl_X10_418 {E : zE} {M : zM} {d pc : Nat} {L st : List zV} {h : zH} {Q : List zV → zH → Prop} {a : Int} (hd : decode M.2.1 pc = .ok (.invokestatic 418, 3)) (hM : M.1.cls = RX10) (h8 : ((st.map (zrv E)).map fun v => v.category).sum ≤ 8) (k : zG E M d (pc + 3) L (zI (zabs a) :: st) h Q) : zG E M d pc L (zI a :: st) h Q := z_mabs hd (by rw [hM]; exact wm_X10_418) ws_J9_abs_0f7a4 wi_J9 wc_J9_abs_0f7a4 h8 k
set_option maxRecDepth 100000 in
theorem wn_X10_best : Cond.instanceMethod mX10_best.1 ∈ ztb := List.mem_filter.mpr ⟨List.mem_append_right _ (List.mem_of_getElem? (i := 1534) rfl), rfl⟩
set_option maxRecDepth 100000 in
theorem wl_X10_best : Cond.selects mX10_best.1.cls mX10_best.1 mX10_best.1 ∈ ztb := List.mem_filter.mpr ⟨List.mem_append_right _ (List.mem_of_getElem? (i := 1535) rfl), rfl⟩
set_option maxRecDepth 100000 in
theorem wm_L_85 : Cond.methodLink RL 85 mX10_best.1 ∈ ztb := List.mem_filter.mpr ⟨List.mem_append_right _ (List.mem_of_getElem? (i := 1533) rfl), rfl⟩
theorem cl_L_85 {E : zE} {M : zM} {d pc : Nat} {L rest : List zV} {h : zH} {Q : List zV → zH → Prop} {c0 : Nat} {a1 a2 : zV} (hd : decode M.2.1 pc = .ok (.invokevirtual 85, 3)) (hM : M.1.cls = RL) (hs : zsh E c0 = (10, 86)) (hc : c0 < zN E) (h8 : ((rest.map (zrv E)).map fun v => v.category).sum ≤ 8) (k : zCI E mX10_best d [zR c0, a1, a2] h (fun x h1 => zG E M (d + 1) (pc + 3) L (zI x :: rest) h1 Q)) : zG E M (d + 1) pc L (a2 :: a1 :: zR c0 :: rest) h Q := z_callV (M' := mX10_best) (as := [a1, a2]) hd rfl hs hc (by decide) rfl (by rw [hM]; exact wm_L_85) wn_X10_best wl_X10_best wi_X10 wc_X10_best wy_X10_best (by decide) h8 (zC_mono (by rintro r h1 ⟨x, rfl, hk⟩; exact hk) k)
set_option maxRecDepth 100000 in
theorem wn_X10_isRing : Cond.instanceMethod mX10_isRing.1 ∈ ztb := List.mem_filter.mpr ⟨List.mem_append_right _ (List.mem_of_getElem? (i := 1539) rfl), rfl⟩
set_option maxRecDepth 100000 in
theorem wl_X10_isRing : Cond.selects mX10_isRing.1.cls mX10_isRing.1 mX10_isRing.1 ∈ ztb := List.mem_filter.mpr ⟨List.mem_append_left _ (List.mem_of_getElem? (i := 73) rfl), rfl⟩
set_option maxRecDepth 100000 in
theorem wm_X10_437 : Cond.methodLink RX10 437 mX10_isRing.1 ∈ ztb := List.mem_filter.mpr ⟨List.mem_append_right _ (List.mem_of_getElem? (i := 1537) rfl), rfl⟩
theorem cl_X10_437 {E : zE} {M : zM} {d pc : Nat} {L rest : List zV} {h : zH} {Q : List zV → zH → Prop} {c0 : Nat} {a1 : zV} (hd : decode M.2.1 pc = .ok (.invokevirtual 437, 3)) (hM : M.1.cls = RX10) (hs : zsh E c0 = (10, 86)) (hc : c0 < zN E) (h8 : ((rest.map (zrv E)).map fun v => v.category).sum ≤ 8) (k : zCI E mX10_isRing d [zR c0, a1] h (fun x h1 => zG E M (d + 1) (pc + 3) L (zI x :: rest) h1 Q)) : zG E M (d + 1) pc L (a1 :: zR c0 :: rest) h Q := z_callV (M' := mX10_isRing) (as := [a1]) hd rfl hs hc (by decide) rfl (by rw [hM]; exact wm_X10_437) wn_X10_isRing wl_X10_isRing wi_X10 wc_X10_isRing wy_X10_isRing (by decide) h8 (zC_mono (by rintro r h1 ⟨x, rfl, hk⟩; exact hk) k)
set_option maxRecDepth 100000 in
theorem wn_X10_laid : Cond.instanceMethod mX10_laid.1 ∈ ztb := List.mem_filter.mpr ⟨List.mem_append_right _ (List.mem_of_getElem? (i := 1543) rfl), rfl⟩
set_option maxRecDepth 100000 in
theorem wl_X10_laid : Cond.selects mX10_laid.1.cls mX10_laid.1 mX10_laid.1 ∈ ztb := List.mem_filter.mpr ⟨List.mem_append_left _ (List.mem_of_getElem? (i := 74) rfl), rfl⟩
set_option maxRecDepth 100000 in
theorem wm_X10_440 : Cond.methodLink RX10 440 mX10_laid.1 ∈ ztb := List.mem_filter.mpr ⟨List.mem_append_right _ (List.mem_of_getElem? (i := 1541) rfl), rfl⟩
theorem cl_X10_440 {E : zE} {M : zM} {d pc : Nat} {L rest : List zV} {h : zH} {Q : List zV → zH → Prop} {c0 : Nat} (hd : decode M.2.1 pc = .ok (.invokevirtual 440, 3)) (hM : M.1.cls = RX10) (hs : zsh E c0 = (10, 86)) (hc : c0 < zN E) (h8 : ((rest.map (zrv E)).map fun v => v.category).sum ≤ 8) (k : zCV E mX10_laid d [zR c0] h (fun h1 => zG E M (d + 1) (pc + 3) L rest h1 Q)) : zG E M (d + 1) pc L (zR c0 :: rest) h Q := z_callV (M' := mX10_laid) (as := []) hd rfl hs hc (by decide) rfl (by rw [hM]; exact wm_X10_440) wn_X10_laid wl_X10_laid wi_X10 wc_X10_laid wy_X10_laid (by decide) h8 (zC_mono (by rintro r h1 ⟨rfl, hk⟩; exact hk) k)
set_option maxRecDepth 100000 in
theorem wn_X10_shapes : Cond.instanceMethod mX10_shapes.1 ∈ ztb := List.mem_filter.mpr ⟨List.mem_append_right _ (List.mem_of_getElem? (i := 1547) rfl), rfl⟩
set_option maxRecDepth 100000 in
theorem wl_X10_shapes : Cond.selects mX10_shapes.1.cls mX10_shapes.1 mX10_shapes.1 ∈ ztb := List.mem_filter.mpr ⟨List.mem_append_left _ (List.mem_of_getElem? (i := 75) rfl), rfl⟩
set_option maxRecDepth 100000 in
theorem wm_X10_434 : Cond.methodLink RX10 434 mX10_shapes.1 ∈ ztb := List.mem_filter.mpr ⟨List.mem_append_right _ (List.mem_of_getElem? (i := 1545) rfl), rfl⟩
theorem cl_X10_434 {E : zE} {M : zM} {d pc : Nat} {L rest : List zV} {h : zH} {Q : List zV → zH → Prop} {c0 : Nat} {a1 : zV} (hd : decode M.2.1 pc = .ok (.invokevirtual 434, 3)) (hM : M.1.cls = RX10) (hs : zsh E c0 = (10, 86)) (hc : c0 < zN E) (h8 : ((rest.map (zrv E)).map fun v => v.category).sum ≤ 8) (k : zCV E mX10_shapes d [zR c0, a1] h (fun h1 => zG E M (d + 1) (pc + 3) L rest h1 Q)) : zG E M (d + 1) pc L (a1 :: zR c0 :: rest) h Q := z_callV (M' := mX10_shapes) (as := [a1]) hd rfl hs hc (by decide) rfl (by rw [hM]; exact wm_X10_434) wn_X10_shapes wl_X10_shapes wi_X10 wc_X10_shapes wy_X10_shapes (by decide) h8 (zC_mono (by rintro r h1 ⟨rfl, hk⟩; exact hk) k)
set_option maxRecDepth 100000 in
theorem wn_X10_hasFit : Cond.instanceMethod mX10_hasFit.1 ∈ ztb := List.mem_filter.mpr ⟨List.mem_append_right _ (List.mem_of_getElem? (i := 1551) rfl), rfl⟩
set_option maxRecDepth 100000 in
theorem wl_X10_hasFit : Cond.selects mX10_hasFit.1.cls mX10_hasFit.1 mX10_hasFit.1 ∈ ztb := List.mem_filter.mpr ⟨List.mem_append_left _ (List.mem_of_getElem? (i := 76) rfl), rfl⟩
set_option maxRecDepth 100000 in
theorem wm_X10_443 : Cond.methodLink RX10 443 mX10_hasFit.1 ∈ ztb := List.mem_filter.mpr ⟨List.mem_append_right _ (List.mem_of_getElem? (i := 1549) rfl), rfl⟩
theorem cl_X10_443 {E : zE} {M : zM} {d pc : Nat} {L rest : List zV} {h : zH} {Q : List zV → zH → Prop} {c0 : Nat} {a1 : zV} (hd : decode M.2.1 pc = .ok (.invokevirtual 443, 3)) (hM : M.1.cls = RX10) (hs : zsh E c0 = (10, 86)) (hc : c0 < zN E) (h8 : ((rest.map (zrv E)).map fun v => v.category).sum ≤ 8) (k : zCI E mX10_hasFit d [zR c0, a1] h (fun x h1 => zG E M (d + 1) (pc + 3) L (zI x :: rest) h1 Q)) : zG E M (d + 1) pc L (a1 :: zR c0 :: rest) h Q := z_callV (M' := mX10_hasFit) (as := [a1]) hd rfl hs hc (by decide) rfl (by rw [hM]; exact wm_X10_443) wn_X10_hasFit wl_X10_hasFit wi_X10 wc_X10_hasFit wy_X10_hasFit (by decide) h8 (zC_mono (by rintro r h1 ⟨x, rfl, hk⟩; exact hk) k)
set_option maxRecDepth 100000 in
theorem wn_X10_sizeOf : Cond.instanceMethod mX10_sizeOf.1 ∈ ztb := List.mem_filter.mpr ⟨List.mem_append_right _ (List.mem_of_getElem? (i := 1555) rfl), rfl⟩
set_option maxRecDepth 100000 in
theorem wl_X10_sizeOf : Cond.selects mX10_sizeOf.1.cls mX10_sizeOf.1 mX10_sizeOf.1 ∈ ztb := List.mem_filter.mpr ⟨List.mem_append_left _ (List.mem_of_getElem? (i := 77) rfl), rfl⟩
set_option maxRecDepth 100000 in
theorem wm_X10_446 : Cond.methodLink RX10 446 mX10_sizeOf.1 ∈ ztb := List.mem_filter.mpr ⟨List.mem_append_right _ (List.mem_of_getElem? (i := 1553) rfl), rfl⟩
theorem cl_X10_446 {E : zE} {M : zM} {d pc : Nat} {L rest : List zV} {h : zH} {Q : List zV → zH → Prop} {c0 : Nat} {a1 : zV} (hd : decode M.2.1 pc = .ok (.invokevirtual 446, 3)) (hM : M.1.cls = RX10) (hs : zsh E c0 = (10, 86)) (hc : c0 < zN E) (h8 : ((rest.map (zrv E)).map fun v => v.category).sum ≤ 8) (k : zCI E mX10_sizeOf d [zR c0, a1] h (fun x h1 => zG E M (d + 1) (pc + 3) L (zI x :: rest) h1 Q)) : zG E M (d + 1) pc L (a1 :: zR c0 :: rest) h Q := z_callV (M' := mX10_sizeOf) (as := [a1]) hd rfl hs hc (by decide) rfl (by rw [hM]; exact wm_X10_446) wn_X10_sizeOf wl_X10_sizeOf wi_X10 wc_X10_sizeOf wy_X10_sizeOf (by decide) h8 (zC_mono (by rintro r h1 ⟨x, rfl, hk⟩; exact hk) k)
set_option maxRecDepth 100000 in
theorem wn_X10_well : Cond.instanceMethod mX10_well.1 ∈ ztb := List.mem_filter.mpr ⟨List.mem_append_right _ (List.mem_of_getElem? (i := 1558) rfl), rfl⟩
set_option maxRecDepth 100000 in
theorem wl_X10_well : Cond.selects mX10_well.1.cls mX10_well.1 mX10_well.1 ∈ ztb := List.mem_filter.mpr ⟨List.mem_append_right _ (List.mem_of_getElem? (i := 1559) rfl), rfl⟩
set_option maxRecDepth 100000 in
theorem wm_L_89 : Cond.methodLink RL 89 mX10_well.1 ∈ ztb := List.mem_filter.mpr ⟨List.mem_append_right _ (List.mem_of_getElem? (i := 1557) rfl), rfl⟩
theorem cl_L_89 {E : zE} {M : zM} {d pc : Nat} {L rest : List zV} {h : zH} {Q : List zV → zH → Prop} {c0 : Nat} {a1 : zV} (hd : decode M.2.1 pc = .ok (.invokevirtual 89, 3)) (hM : M.1.cls = RL) (hs : zsh E c0 = (10, 86)) (hc : c0 < zN E) (h8 : ((rest.map (zrv E)).map fun v => v.category).sum ≤ 8) (k : zCI E mX10_well d [zR c0, a1] h (fun x h1 => zG E M (d + 1) (pc + 3) L (zI x :: rest) h1 Q)) : zG E M (d + 1) pc L (a1 :: zR c0 :: rest) h Q := z_callV (M' := mX10_well) (as := [a1]) hd rfl hs hc (by decide) rfl (by rw [hM]; exact wm_L_89) wn_X10_well wl_X10_well wi_X10 wc_X10_well wy_X10_well (by decide) h8 (zC_mono (by rintro r h1 ⟨x, rfl, hk⟩; exact hk) k)
set_option maxRecDepth 100000 in
theorem wn_X10_isWell : Cond.instanceMethod mX10_isWell.1 ∈ ztb := List.mem_filter.mpr ⟨List.mem_append_right _ (List.mem_of_getElem? (i := 1563) rfl), rfl⟩
set_option maxRecDepth 100000 in
theorem wl_X10_isWell : Cond.selects mX10_isWell.1.cls mX10_isWell.1 mX10_isWell.1 ∈ ztb := List.mem_filter.mpr ⟨List.mem_append_left _ (List.mem_of_getElem? (i := 78) rfl), rfl⟩
set_option maxRecDepth 100000 in
theorem wm_X10_449 : Cond.methodLink RX10 449 mX10_isWell.1 ∈ ztb := List.mem_filter.mpr ⟨List.mem_append_right _ (List.mem_of_getElem? (i := 1561) rfl), rfl⟩
theorem cl_X10_449 {E : zE} {M : zM} {d pc : Nat} {L rest : List zV} {h : zH} {Q : List zV → zH → Prop} {c0 : Nat} {a1 a2 : zV} (hd : decode M.2.1 pc = .ok (.invokevirtual 449, 3)) (hM : M.1.cls = RX10) (hs : zsh E c0 = (10, 86)) (hc : c0 < zN E) (h8 : ((rest.map (zrv E)).map fun v => v.category).sum ≤ 8) (k : zCI E mX10_isWell d [zR c0, a1, a2] h (fun x h1 => zG E M (d + 1) (pc + 3) L (zI x :: rest) h1 Q)) : zG E M (d + 1) pc L (a2 :: a1 :: zR c0 :: rest) h Q := z_callV (M' := mX10_isWell) (as := [a1, a2]) hd rfl hs hc (by decide) rfl (by rw [hM]; exact wm_X10_449) wn_X10_isWell wl_X10_isWell wi_X10 wc_X10_isWell wy_X10_isWell (by decide) h8 (zC_mono (by rintro r h1 ⟨x, rfl, hk⟩; exact hk) k)
set_option maxRecDepth 100000 in
theorem wn_X10_span : Cond.instanceMethod mX10_span.1 ∈ ztb := List.mem_filter.mpr ⟨List.mem_append_right _ (List.mem_of_getElem? (i := 1566) rfl), rfl⟩
set_option maxRecDepth 100000 in
theorem wl_X10_span : Cond.selects mX10_span.1.cls mX10_span.1 mX10_span.1 ∈ ztb := List.mem_filter.mpr ⟨List.mem_append_right _ (List.mem_of_getElem? (i := 1567) rfl), rfl⟩
set_option maxRecDepth 100000 in
theorem wm_L_93 : Cond.methodLink RL 93 mX10_span.1 ∈ ztb := List.mem_filter.mpr ⟨List.mem_append_right _ (List.mem_of_getElem? (i := 1565) rfl), rfl⟩
theorem cl_L_93 {E : zE} {M : zM} {d pc : Nat} {L rest : List zV} {h : zH} {Q : List zV → zH → Prop} {c0 : Nat} {a1 a2 : zV} (hd : decode M.2.1 pc = .ok (.invokevirtual 93, 3)) (hM : M.1.cls = RL) (hs : zsh E c0 = (10, 86)) (hc : c0 < zN E) (h8 : ((rest.map (zrv E)).map fun v => v.category).sum ≤ 8) (k : zCI E mX10_span d [zR c0, a1, a2] h (fun x h1 => zG E M (d + 1) (pc + 3) L (zI x :: rest) h1 Q)) : zG E M (d + 1) pc L (a2 :: a1 :: zR c0 :: rest) h Q := z_callV (M' := mX10_span) (as := [a1, a2]) hd rfl hs hc (by decide) rfl (by rw [hM]; exact wm_L_93) wn_X10_span wl_X10_span wi_X10 wc_X10_span wy_X10_span (by decide) h8 (zC_mono (by rintro r h1 ⟨x, rfl, hk⟩; exact hk) k)
set_option maxRecDepth 100000 in
theorem wn_X10_spanOf : Cond.instanceMethod mX10_spanOf.1 ∈ ztb := List.mem_filter.mpr ⟨List.mem_append_right _ (List.mem_of_getElem? (i := 1571) rfl), rfl⟩
set_option maxRecDepth 100000 in
theorem wl_X10_spanOf : Cond.selects mX10_spanOf.1.cls mX10_spanOf.1 mX10_spanOf.1 ∈ ztb := List.mem_filter.mpr ⟨List.mem_append_left _ (List.mem_of_getElem? (i := 79) rfl), rfl⟩
set_option maxRecDepth 100000 in
theorem wm_X10_455 : Cond.methodLink RX10 455 mX10_spanOf.1 ∈ ztb := List.mem_filter.mpr ⟨List.mem_append_right _ (List.mem_of_getElem? (i := 1569) rfl), rfl⟩
theorem cl_X10_455 {E : zE} {M : zM} {d pc : Nat} {L rest : List zV} {h : zH} {Q : List zV → zH → Prop} {c0 : Nat} {a1 a2 : zV} (hd : decode M.2.1 pc = .ok (.invokevirtual 455, 3)) (hM : M.1.cls = RX10) (hs : zsh E c0 = (10, 86)) (hc : c0 < zN E) (h8 : ((rest.map (zrv E)).map fun v => v.category).sum ≤ 8) (k : zCI E mX10_spanOf d [zR c0, a1, a2] h (fun x h1 => zG E M (d + 1) (pc + 3) L (zI x :: rest) h1 Q)) : zG E M (d + 1) pc L (a2 :: a1 :: zR c0 :: rest) h Q := z_callV (M' := mX10_spanOf) (as := [a1, a2]) hd rfl hs hc (by decide) rfl (by rw [hM]; exact wm_X10_455) wn_X10_spanOf wl_X10_spanOf wi_X10 wc_X10_spanOf wy_X10_spanOf (by decide) h8 (zC_mono (by rintro r h1 ⟨x, rfl, hk⟩; exact hk) k)
set_option maxRecDepth 100000 in
theorem wm_X10_452 : Cond.methodLink RX10 452 mJ9_max_7cf53.1 ∈ ztb := List.mem_filter.mpr ⟨List.mem_append_right _ (List.mem_of_getElem? (i := 1573) rfl), rfl⟩
theorem cl_X10_452 {E : zE} {M : zM} {d pc : Nat} {L st : List zV} {h : zH} {Q : List zV → zH → Prop} {a b : Int} (hd : decode M.2.1 pc = .ok (.invokestatic 452, 3)) (hM : M.1.cls = RX10) (h8 : ((st.map (zrv E)).map fun v => v.category).sum ≤ 8) (k : zG E M d (pc + 3) L (zI (max a b) :: st) h Q) : zG E M d pc L (zI b :: zI a :: st) h Q := z_mmax hd (by rw [hM]; exact wm_X10_452) ws_J9_max_7cf53 wi_J9 wc_J9_max_7cf53 h8 k
set_option maxRecDepth 100000 in
theorem wn_X10_whole : Cond.instanceMethod mX10_whole.1 ∈ ztb := List.mem_filter.mpr ⟨List.mem_append_right _ (List.mem_of_getElem? (i := 1575) rfl), rfl⟩
set_option maxRecDepth 100000 in
theorem wl_X10_whole : Cond.selects mX10_whole.1.cls mX10_whole.1 mX10_whole.1 ∈ ztb := List.mem_filter.mpr ⟨List.mem_append_right _ (List.mem_of_getElem? (i := 1576) rfl), rfl⟩
set_option maxRecDepth 100000 in
theorem wm_L_97 : Cond.methodLink RL 97 mX10_whole.1 ∈ ztb := List.mem_filter.mpr ⟨List.mem_append_right _ (List.mem_of_getElem? (i := 1574) rfl), rfl⟩
theorem cl_L_97 {E : zE} {M : zM} {d pc : Nat} {L rest : List zV} {h : zH} {Q : List zV → zH → Prop} {c0 : Nat} {a1 a2 a3 : zV} (hd : decode M.2.1 pc = .ok (.invokevirtual 97, 3)) (hM : M.1.cls = RL) (hs : zsh E c0 = (10, 86)) (hc : c0 < zN E) (h8 : ((rest.map (zrv E)).map fun v => v.category).sum ≤ 8) (k : zCI E mX10_whole d [zR c0, a1, a2, a3] h (fun x h1 => zG E M (d + 1) (pc + 3) L (zI x :: rest) h1 Q)) : zG E M (d + 1) pc L (a3 :: a2 :: a1 :: zR c0 :: rest) h Q := z_callV (M' := mX10_whole) (as := [a1, a2, a3]) hd rfl hs hc (by decide) rfl (by rw [hM]; exact wm_L_97) wn_X10_whole wl_X10_whole wi_X10 wc_X10_whole wy_X10_whole (by decide) h8 (zC_mono (by rintro r h1 ⟨x, rfl, hk⟩; exact hk) k)
set_option maxRecDepth 100000 in
theorem ws_X10_isUnit : Cond.static mX10_isUnit.1 ∈ ztb := List.mem_filter.mpr ⟨List.mem_append_right _ (List.mem_of_getElem? (i := 1580) rfl), rfl⟩
set_option maxRecDepth 100000 in
theorem wm_X10_460 : Cond.methodLink RX10 460 mX10_isUnit.1 ∈ ztb := List.mem_filter.mpr ⟨List.mem_append_right _ (List.mem_of_getElem? (i := 1579) rfl), rfl⟩
theorem cl_X10_460 {E : zE} {M : zM} {d pc : Nat} {L rest : List zV} {h : zH} {Q : List zV → zH → Prop} {a1 : zV} (hd : decode M.2.1 pc = .ok (.invokestatic 460, 3)) (hM : M.1.cls = RX10) (h8 : ((rest.map (zrv E)).map fun v => v.category).sum ≤ 8) (k : zCI E mX10_isUnit d [a1] h (fun x h1 => zG E M (d + 1) (pc + 3) L (zI x :: rest) h1 Q)) : zG E M (d + 1) pc L (a1 :: rest) h Q := z_callS (M' := mX10_isUnit) (as := [a1]) hd rfl (by rw [hM]; exact wm_X10_460) ws_X10_isUnit wi_X10 wc_X10_isUnit wy_X10_isUnit (by decide) h8 (zC_mono (by rintro r h1 ⟨x, rfl, hk⟩; exact hk) k)
set_option maxRecDepth 100000 in
theorem wn_X10_part : Cond.instanceMethod mX10_part.1 ∈ ztb := List.mem_filter.mpr ⟨List.mem_append_right _ (List.mem_of_getElem? (i := 1584) rfl), rfl⟩
set_option maxRecDepth 100000 in
theorem wl_X10_part : Cond.selects mX10_part.1.cls mX10_part.1 mX10_part.1 ∈ ztb := List.mem_filter.mpr ⟨List.mem_append_left _ (List.mem_of_getElem? (i := 80) rfl), rfl⟩
set_option maxRecDepth 100000 in
theorem wm_X10_463 : Cond.methodLink RX10 463 mX10_part.1 ∈ ztb := List.mem_filter.mpr ⟨List.mem_append_right _ (List.mem_of_getElem? (i := 1582) rfl), rfl⟩
theorem cl_X10_463 {E : zE} {M : zM} {d pc : Nat} {L rest : List zV} {h : zH} {Q : List zV → zH → Prop} {c0 : Nat} {a1 : zV} (hd : decode M.2.1 pc = .ok (.invokevirtual 463, 3)) (hM : M.1.cls = RX10) (hs : zsh E c0 = (10, 86)) (hc : c0 < zN E) (h8 : ((rest.map (zrv E)).map fun v => v.category).sum ≤ 8) (k : zCI E mX10_part d [zR c0, a1] h (fun x h1 => zG E M (d + 1) (pc + 3) L (zI x :: rest) h1 Q)) : zG E M (d + 1) pc L (a1 :: zR c0 :: rest) h Q := z_callV (M' := mX10_part) (as := [a1]) hd rfl hs hc (by decide) rfl (by rw [hM]; exact wm_X10_463) wn_X10_part wl_X10_part wi_X10 wc_X10_part wy_X10_part (by decide) h8 (zC_mono (by rintro r h1 ⟨x, rfl, hk⟩; exact hk) k)
set_option maxRecDepth 100000 in
theorem ws_X10_offBy : Cond.static mX10_offBy.1 ∈ ztb := List.mem_filter.mpr ⟨List.mem_append_right _ (List.mem_of_getElem? (i := 1587) rfl), rfl⟩
set_option maxRecDepth 100000 in
theorem wm_X10_466 : Cond.methodLink RX10 466 mX10_offBy.1 ∈ ztb := List.mem_filter.mpr ⟨List.mem_append_right _ (List.mem_of_getElem? (i := 1586) rfl), rfl⟩
theorem cl_X10_466 {E : zE} {M : zM} {d pc : Nat} {L rest : List zV} {h : zH} {Q : List zV → zH → Prop} {a1 a2 : zV} (hd : decode M.2.1 pc = .ok (.invokestatic 466, 3)) (hM : M.1.cls = RX10) (h8 : ((rest.map (zrv E)).map fun v => v.category).sum ≤ 8) (k : zCI E mX10_offBy d [a1, a2] h (fun x h1 => zG E M (d + 1) (pc + 3) L (zI x :: rest) h1 Q)) : zG E M (d + 1) pc L (a2 :: a1 :: rest) h Q := z_callS (M' := mX10_offBy) (as := [a1, a2]) hd rfl (by rw [hM]; exact wm_X10_466) ws_X10_offBy wi_X10 wc_X10_offBy wy_X10_offBy (by decide) h8 (zC_mono (by rintro r h1 ⟨x, rfl, hk⟩; exact hk) k)
set_option maxRecDepth 100000 in
theorem ws_X10_timesBy : Cond.static mX10_timesBy.1 ∈ ztb := List.mem_filter.mpr ⟨List.mem_append_right _ (List.mem_of_getElem? (i := 1590) rfl), rfl⟩
set_option maxRecDepth 100000 in
theorem wm_X10_469 : Cond.methodLink RX10 469 mX10_timesBy.1 ∈ ztb := List.mem_filter.mpr ⟨List.mem_append_right _ (List.mem_of_getElem? (i := 1589) rfl), rfl⟩
theorem cl_X10_469 {E : zE} {M : zM} {d pc : Nat} {L rest : List zV} {h : zH} {Q : List zV → zH → Prop} {a1 a2 : zV} (hd : decode M.2.1 pc = .ok (.invokestatic 469, 3)) (hM : M.1.cls = RX10) (h8 : ((rest.map (zrv E)).map fun v => v.category).sum ≤ 8) (k : zCI E mX10_timesBy d [a1, a2] h (fun x h1 => zG E M (d + 1) (pc + 3) L (zI x :: rest) h1 Q)) : zG E M (d + 1) pc L (a2 :: a1 :: rest) h Q := z_callS (M' := mX10_timesBy) (as := [a1, a2]) hd rfl (by rw [hM]; exact wm_X10_469) ws_X10_timesBy wi_X10 wc_X10_timesBy wy_X10_timesBy (by decide) h8 (zC_mono (by rintro r h1 ⟨x, rfl, hk⟩; exact hk) k)
set_option maxRecDepth 100000 in
theorem wn_X10_near : Cond.instanceMethod mX10_near.1 ∈ ztb := List.mem_filter.mpr ⟨List.mem_append_right _ (List.mem_of_getElem? (i := 1593) rfl), rfl⟩
set_option maxRecDepth 100000 in
theorem wl_X10_near : Cond.selects mX10_near.1.cls mX10_near.1 mX10_near.1 ∈ ztb := List.mem_filter.mpr ⟨List.mem_append_right _ (List.mem_of_getElem? (i := 1594) rfl), rfl⟩
set_option maxRecDepth 100000 in
theorem wm_L_101 : Cond.methodLink RL 101 mX10_near.1 ∈ ztb := List.mem_filter.mpr ⟨List.mem_append_right _ (List.mem_of_getElem? (i := 1592) rfl), rfl⟩
theorem cl_L_101 {E : zE} {M : zM} {d pc : Nat} {L rest : List zV} {h : zH} {Q : List zV → zH → Prop} {c0 : Nat} {a1 : zV} (hd : decode M.2.1 pc = .ok (.invokevirtual 101, 3)) (hM : M.1.cls = RL) (hs : zsh E c0 = (10, 86)) (hc : c0 < zN E) (h8 : ((rest.map (zrv E)).map fun v => v.category).sum ≤ 8) (k : zCI E mX10_near d [zR c0, a1] h (fun x h1 => zG E M (d + 1) (pc + 3) L (zI x :: rest) h1 Q)) : zG E M (d + 1) pc L (a1 :: zR c0 :: rest) h Q := z_callV (M' := mX10_near) (as := [a1]) hd rfl hs hc (by decide) rfl (by rw [hM]; exact wm_L_101) wn_X10_near wl_X10_near wi_X10 wc_X10_near wy_X10_near (by decide) h8 (zC_mono (by rintro r h1 ⟨x, rfl, hk⟩; exact hk) k)
set_option maxRecDepth 100000 in
theorem wn_X10_isNear : Cond.instanceMethod mX10_isNear.1 ∈ ztb := List.mem_filter.mpr ⟨List.mem_append_right _ (List.mem_of_getElem? (i := 1598) rfl), rfl⟩
set_option maxRecDepth 100000 in
theorem wl_X10_isNear : Cond.selects mX10_isNear.1.cls mX10_isNear.1 mX10_isNear.1 ∈ ztb := List.mem_filter.mpr ⟨List.mem_append_left _ (List.mem_of_getElem? (i := 81) rfl), rfl⟩
set_option maxRecDepth 100000 in
theorem wm_X10_489 : Cond.methodLink RX10 489 mX10_isNear.1 ∈ ztb := List.mem_filter.mpr ⟨List.mem_append_right _ (List.mem_of_getElem? (i := 1596) rfl), rfl⟩
theorem cl_X10_489 {E : zE} {M : zM} {d pc : Nat} {L rest : List zV} {h : zH} {Q : List zV → zH → Prop} {c0 : Nat} {a1 a2 a3 : zV} (hd : decode M.2.1 pc = .ok (.invokevirtual 489, 3)) (hM : M.1.cls = RX10) (hs : zsh E c0 = (10, 86)) (hc : c0 < zN E) (h8 : ((rest.map (zrv E)).map fun v => v.category).sum ≤ 8) (k : zCI E mX10_isNear d [zR c0, a1, a2, a3] h (fun x h1 => zG E M (d + 1) (pc + 3) L (zI x :: rest) h1 Q)) : zG E M (d + 1) pc L (a3 :: a2 :: a1 :: zR c0 :: rest) h Q := z_callV (M' := mX10_isNear) (as := [a1, a2, a3]) hd rfl hs hc (by decide) rfl (by rw [hM]; exact wm_X10_489) wn_X10_isNear wl_X10_isNear wi_X10 wc_X10_isNear wy_X10_isNear (by decide) h8 (zC_mono (by rintro r h1 ⟨x, rfl, hk⟩; exact hk) k)
set_option maxRecDepth 100000 in
theorem wn_X10_works : Cond.instanceMethod mX10_works.1 ∈ ztb := List.mem_filter.mpr ⟨List.mem_append_right _ (List.mem_of_getElem? (i := 1602) rfl), rfl⟩
set_option maxRecDepth 100000 in
theorem wl_X10_works : Cond.selects mX10_works.1.cls mX10_works.1 mX10_works.1 ∈ ztb := List.mem_filter.mpr ⟨List.mem_append_left _ (List.mem_of_getElem? (i := 82) rfl), rfl⟩
set_option maxRecDepth 100000 in
theorem wm_X10_486 : Cond.methodLink RX10 486 mX10_works.1 ∈ ztb := List.mem_filter.mpr ⟨List.mem_append_right _ (List.mem_of_getElem? (i := 1600) rfl), rfl⟩
theorem cl_X10_486 {E : zE} {M : zM} {d pc : Nat} {L rest : List zV} {h : zH} {Q : List zV → zH → Prop} {c0 : Nat} {a1 : zV} (hd : decode M.2.1 pc = .ok (.invokevirtual 486, 3)) (hM : M.1.cls = RX10) (hs : zsh E c0 = (10, 86)) (hc : c0 < zN E) (h8 : ((rest.map (zrv E)).map fun v => v.category).sum ≤ 8) (k : zCI E mX10_works d [zR c0, a1] h (fun x h1 => zG E M (d + 1) (pc + 3) L (zI x :: rest) h1 Q)) : zG E M (d + 1) pc L (a1 :: zR c0 :: rest) h Q := z_callV (M' := mX10_works) (as := [a1]) hd rfl hs hc (by decide) rfl (by rw [hM]; exact wm_X10_486) wn_X10_works wl_X10_works wi_X10 wc_X10_works wy_X10_works (by decide) h8 (zC_mono (by rintro r h1 ⟨x, rfl, hk⟩; exact hk) k)
set_option maxRecDepth 100000 in
theorem ws_X10_is : Cond.static mX10_is.1 ∈ ztb := List.mem_filter.mpr ⟨List.mem_append_right _ (List.mem_of_getElem? (i := 1605) rfl), rfl⟩
set_option maxRecDepth 100000 in
theorem wm_X10_475 : Cond.methodLink RX10 475 mX10_is.1 ∈ ztb := List.mem_filter.mpr ⟨List.mem_append_right _ (List.mem_of_getElem? (i := 1604) rfl), rfl⟩
theorem cl_X10_475 {E : zE} {M : zM} {d pc : Nat} {L rest : List zV} {h : zH} {Q : List zV → zH → Prop} {a1 : zV} (hd : decode M.2.1 pc = .ok (.invokestatic 475, 3)) (hM : M.1.cls = RX10) (h8 : ((rest.map (zrv E)).map fun v => v.category).sum ≤ 8) (k : zCJ E mX10_is d [a1] h (fun x h1 => zG E M (d + 1) (pc + 3) L (zJ x :: rest) h1 Q)) : zG E M (d + 1) pc L (a1 :: rest) h Q := z_callS (M' := mX10_is) (as := [a1]) hd rfl (by rw [hM]; exact wm_X10_475) ws_X10_is wi_X10 wc_X10_is wy_X10_is (by decide) h8 (zC_mono (by rintro r h1 ⟨x, rfl, hk⟩; exact hk) k)
set_option maxRecDepth 100000 in
theorem wm_X10_479 : Cond.methodLink RX10 479 mJ9_abs_067f4.1 ∈ ztb := List.mem_filter.mpr ⟨List.mem_append_right _ (List.mem_of_getElem? (i := 1607) rfl), rfl⟩
theorem cl_X10_479 {E : zE} {M : zM} {d pc : Nat} {L st : List zV} {h : zH} {Q : List zV → zH → Prop} {a : Int} (hd : decode M.2.1 pc = .ok (.invokestatic 479, 3)) (hM : M.1.cls = RX10) (h8 : ((st.map (zrv E)).map fun v => v.category).sum ≤ 8) (k : zG E M d (pc + 3) L (zJ (zabsJ a) :: st) h Q) : zG E M d pc L (zJ a :: st) h Q := z_mabsJ hd (by rw [hM]; exact wm_X10_479) ws_J9_abs_067f4 wi_J9 wc_J9_abs_067f4 h8 k
set_option maxRecDepth 100000 in
theorem wn_X10_lumps : Cond.instanceMethod mX10_lumps.1 ∈ ztb := List.mem_filter.mpr ⟨List.mem_append_right _ (List.mem_of_getElem? (i := 1611) rfl), rfl⟩
set_option maxRecDepth 100000 in
theorem wl_X10_lumps : Cond.selects mX10_lumps.1.cls mX10_lumps.1 mX10_lumps.1 ∈ ztb := List.mem_filter.mpr ⟨List.mem_append_right _ (List.mem_of_getElem? (i := 1612) rfl), rfl⟩
set_option maxRecDepth 100000 in
theorem wm_L_105 : Cond.methodLink RL 105 mX10_lumps.1 ∈ ztb := List.mem_filter.mpr ⟨List.mem_append_right _ (List.mem_of_getElem? (i := 1610) rfl), rfl⟩
theorem cl_L_105 {E : zE} {M : zM} {d pc : Nat} {L rest : List zV} {h : zH} {Q : List zV → zH → Prop} {c0 : Nat} {a1 : zV} (hd : decode M.2.1 pc = .ok (.invokevirtual 105, 3)) (hM : M.1.cls = RL) (hs : zsh E c0 = (10, 86)) (hc : c0 < zN E) (h8 : ((rest.map (zrv E)).map fun v => v.category).sum ≤ 8) (k : zCI E mX10_lumps d [zR c0, a1] h (fun x h1 => zG E M (d + 1) (pc + 3) L (zI x :: rest) h1 Q)) : zG E M (d + 1) pc L (a1 :: zR c0 :: rest) h Q := z_callV (M' := mX10_lumps) (as := [a1]) hd rfl hs hc (by decide) rfl (by rw [hM]; exact wm_L_105) wn_X10_lumps wl_X10_lumps wi_X10 wc_X10_lumps wy_X10_lumps (by decide) h8 (zC_mono (by rintro r h1 ⟨x, rfl, hk⟩; exact hk) k)
set_option maxRecDepth 100000 in
theorem wn_X10_reckon : Cond.instanceMethod mX10_reckon.1 ∈ ztb := List.mem_filter.mpr ⟨List.mem_append_right _ (List.mem_of_getElem? (i := 1616) rfl), rfl⟩
set_option maxRecDepth 100000 in
theorem wl_X10_reckon : Cond.selects mX10_reckon.1.cls mX10_reckon.1 mX10_reckon.1 ∈ ztb := List.mem_filter.mpr ⟨List.mem_append_left _ (List.mem_of_getElem? (i := 83) rfl), rfl⟩
set_option maxRecDepth 100000 in
theorem wm_X10_493 : Cond.methodLink RX10 493 mX10_reckon.1 ∈ ztb := List.mem_filter.mpr ⟨List.mem_append_right _ (List.mem_of_getElem? (i := 1614) rfl), rfl⟩
theorem cl_X10_493 {E : zE} {M : zM} {d pc : Nat} {L rest : List zV} {h : zH} {Q : List zV → zH → Prop} {c0 : Nat} {a1 a2 : zV} (hd : decode M.2.1 pc = .ok (.invokevirtual 493, 3)) (hM : M.1.cls = RX10) (hs : zsh E c0 = (10, 86)) (hc : c0 < zN E) (h8 : ((rest.map (zrv E)).map fun v => v.category).sum ≤ 8) (k : zCV E mX10_reckon d [zR c0, a1, a2] h (fun h1 => zG E M (d + 1) (pc + 3) L rest h1 Q)) : zG E M (d + 1) pc L (a2 :: a1 :: zR c0 :: rest) h Q := z_callV (M' := mX10_reckon) (as := [a1, a2]) hd rfl hs hc (by decide) rfl (by rw [hM]; exact wm_X10_493) wn_X10_reckon wl_X10_reckon wi_X10 wc_X10_reckon wy_X10_reckon (by decide) h8 (zC_mono (by rintro r h1 ⟨rfl, hk⟩; exact hk) k)
set_option maxRecDepth 100000 in
theorem wn_X10_lumpsOf : Cond.instanceMethod mX10_lumpsOf.1 ∈ ztb := List.mem_filter.mpr ⟨List.mem_append_right _ (List.mem_of_getElem? (i := 1620) rfl), rfl⟩
set_option maxRecDepth 100000 in
theorem wl_X10_lumpsOf : Cond.selects mX10_lumpsOf.1.cls mX10_lumpsOf.1 mX10_lumpsOf.1 ∈ ztb := List.mem_filter.mpr ⟨List.mem_append_left _ (List.mem_of_getElem? (i := 84) rfl), rfl⟩
set_option maxRecDepth 100000 in
theorem wm_X10_496 : Cond.methodLink RX10 496 mX10_lumpsOf.1 ∈ ztb := List.mem_filter.mpr ⟨List.mem_append_right _ (List.mem_of_getElem? (i := 1618) rfl), rfl⟩
theorem cl_X10_496 {E : zE} {M : zM} {d pc : Nat} {L rest : List zV} {h : zH} {Q : List zV → zH → Prop} {c0 : Nat} {a1 : zV} (hd : decode M.2.1 pc = .ok (.invokevirtual 496, 3)) (hM : M.1.cls = RX10) (hs : zsh E c0 = (10, 86)) (hc : c0 < zN E) (h8 : ((rest.map (zrv E)).map fun v => v.category).sum ≤ 8) (k : zCI E mX10_lumpsOf d [zR c0, a1] h (fun x h1 => zG E M (d + 1) (pc + 3) L (zI x :: rest) h1 Q)) : zG E M (d + 1) pc L (a1 :: zR c0 :: rest) h Q := z_callV (M' := mX10_lumpsOf) (as := [a1]) hd rfl hs hc (by decide) rfl (by rw [hM]; exact wm_X10_496) wn_X10_lumpsOf wl_X10_lumpsOf wi_X10 wc_X10_lumpsOf wy_X10_lumpsOf (by decide) h8 (zC_mono (by rintro r h1 ⟨x, rfl, hk⟩; exact hk) k)
set_option maxRecDepth 100000 in
theorem wn_X10_unit : Cond.instanceMethod mX10_unit.1 ∈ ztb := List.mem_filter.mpr ⟨List.mem_append_right _ (List.mem_of_getElem? (i := 1623) rfl), rfl⟩
set_option maxRecDepth 100000 in
theorem wl_X10_unit : Cond.selects mX10_unit.1.cls mX10_unit.1 mX10_unit.1 ∈ ztb := List.mem_filter.mpr ⟨List.mem_append_right _ (List.mem_of_getElem? (i := 1624) rfl), rfl⟩
set_option maxRecDepth 100000 in
theorem wm_L_109 : Cond.methodLink RL 109 mX10_unit.1 ∈ ztb := List.mem_filter.mpr ⟨List.mem_append_right _ (List.mem_of_getElem? (i := 1622) rfl), rfl⟩
theorem cl_L_109 {E : zE} {M : zM} {d pc : Nat} {L rest : List zV} {h : zH} {Q : List zV → zH → Prop} {c0 : Nat} {a1 a2 a3 a4 : zV} (hd : decode M.2.1 pc = .ok (.invokevirtual 109, 3)) (hM : M.1.cls = RL) (hs : zsh E c0 = (10, 86)) (hc : c0 < zN E) (h8 : ((rest.map (zrv E)).map fun v => v.category).sum ≤ 8) (k : zCI E mX10_unit d [zR c0, a1, a2, a3, a4] h (fun x h1 => zG E M (d + 1) (pc + 3) L (zI x :: rest) h1 Q)) : zG E M (d + 1) pc L (a4 :: a3 :: a2 :: a1 :: zR c0 :: rest) h Q := z_callV (M' := mX10_unit) (as := [a1, a2, a3, a4]) hd rfl hs hc (by decide) rfl (by rw [hM]; exact wm_L_109) wn_X10_unit wl_X10_unit wi_X10 wc_X10_unit wy_X10_unit (by decide) h8 (zC_mono (by rintro r h1 ⟨x, rfl, hk⟩; exact hk) k)
set_option maxRecDepth 100000 in
theorem ws_X10_areUnits : Cond.static mX10_areUnits.1 ∈ ztb := List.mem_filter.mpr ⟨List.mem_append_right _ (List.mem_of_getElem? (i := 1627) rfl), rfl⟩
set_option maxRecDepth 100000 in
theorem wm_X10_499 : Cond.methodLink RX10 499 mX10_areUnits.1 ∈ ztb := List.mem_filter.mpr ⟨List.mem_append_right _ (List.mem_of_getElem? (i := 1626) rfl), rfl⟩
theorem cl_X10_499 {E : zE} {M : zM} {d pc : Nat} {L rest : List zV} {h : zH} {Q : List zV → zH → Prop} {a1 a2 a3 a4 : zV} (hd : decode M.2.1 pc = .ok (.invokestatic 499, 3)) (hM : M.1.cls = RX10) (h8 : ((rest.map (zrv E)).map fun v => v.category).sum ≤ 8) (k : zCI E mX10_areUnits d [a1, a2, a3, a4] h (fun x h1 => zG E M (d + 1) (pc + 3) L (zI x :: rest) h1 Q)) : zG E M (d + 1) pc L (a4 :: a3 :: a2 :: a1 :: rest) h Q := z_callS (M' := mX10_areUnits) (as := [a1, a2, a3, a4]) hd rfl (by rw [hM]; exact wm_X10_499) ws_X10_areUnits wi_X10 wc_X10_areUnits wy_X10_areUnits (by decide) h8 (zC_mono (by rintro r h1 ⟨x, rfl, hk⟩; exact hk) k)
set_option maxRecDepth 100000 in
theorem wn_X10_bestOf : Cond.instanceMethod mX10_bestOf.1 ∈ ztb := List.mem_filter.mpr ⟨List.mem_append_right _ (List.mem_of_getElem? (i := 1631) rfl), rfl⟩
set_option maxRecDepth 100000 in
theorem wl_X10_bestOf : Cond.selects mX10_bestOf.1.cls mX10_bestOf.1 mX10_bestOf.1 ∈ ztb := List.mem_filter.mpr ⟨List.mem_append_left _ (List.mem_of_getElem? (i := 85) rfl), rfl⟩
set_option maxRecDepth 100000 in
theorem wm_X10_503 : Cond.methodLink RX10 503 mX10_bestOf.1 ∈ ztb := List.mem_filter.mpr ⟨List.mem_append_right _ (List.mem_of_getElem? (i := 1629) rfl), rfl⟩
theorem cl_X10_503 {E : zE} {M : zM} {d pc : Nat} {L rest : List zV} {h : zH} {Q : List zV → zH → Prop} {c0 : Nat} {a1 a2 a3 : zV} (hd : decode M.2.1 pc = .ok (.invokevirtual 503, 3)) (hM : M.1.cls = RX10) (hs : zsh E c0 = (10, 86)) (hc : c0 < zN E) (h8 : ((rest.map (zrv E)).map fun v => v.category).sum ≤ 8) (k : zCI E mX10_bestOf d [zR c0, a1, a2, a3] h (fun x h1 => zG E M (d + 1) (pc + 3) L (zI x :: rest) h1 Q)) : zG E M (d + 1) pc L (a3 :: a2 :: a1 :: zR c0 :: rest) h Q := z_callV (M' := mX10_bestOf) (as := [a1, a2, a3]) hd rfl hs hc (by decide) rfl (by rw [hM]; exact wm_X10_503) wn_X10_bestOf wl_X10_bestOf wi_X10 wc_X10_bestOf wy_X10_bestOf (by decide) h8 (zC_mono (by rintro r h1 ⟨x, rfl, hk⟩; exact hk) k)
set_option maxRecDepth 100000 in
theorem wn_X10_odds : Cond.instanceMethod mX10_odds.1 ∈ ztb := List.mem_filter.mpr ⟨List.mem_append_right _ (List.mem_of_getElem? (i := 1634) rfl), rfl⟩
set_option maxRecDepth 100000 in
theorem wl_X10_odds : Cond.selects mX10_odds.1.cls mX10_odds.1 mX10_odds.1 ∈ ztb := List.mem_filter.mpr ⟨List.mem_append_right _ (List.mem_of_getElem? (i := 1635) rfl), rfl⟩
set_option maxRecDepth 100000 in
theorem wm_L_113 : Cond.methodLink RL 113 mX10_odds.1 ∈ ztb := List.mem_filter.mpr ⟨List.mem_append_right _ (List.mem_of_getElem? (i := 1633) rfl), rfl⟩
theorem cl_L_113 {E : zE} {M : zM} {d pc : Nat} {L rest : List zV} {h : zH} {Q : List zV → zH → Prop} {c0 : Nat} {a1 a2 : zV} (hd : decode M.2.1 pc = .ok (.invokevirtual 113, 3)) (hM : M.1.cls = RL) (hs : zsh E c0 = (10, 86)) (hc : c0 < zN E) (h8 : ((rest.map (zrv E)).map fun v => v.category).sum ≤ 8) (k : zCI E mX10_odds d [zR c0, a1, a2] h (fun x h1 => zG E M (d + 1) (pc + 3) L (zI x :: rest) h1 Q)) : zG E M (d + 1) pc L (a2 :: a1 :: zR c0 :: rest) h Q := z_callV (M' := mX10_odds) (as := [a1, a2]) hd rfl hs hc (by decide) rfl (by rw [hM]; exact wm_L_113) wn_X10_odds wl_X10_odds wi_X10 wc_X10_odds wy_X10_odds (by decide) h8 (zC_mono (by rintro r h1 ⟨x, rfl, hk⟩; exact hk) k)
set_option maxRecDepth 100000 in
theorem wn_X10_reckonedMany : Cond.instanceMethod mX10_reckonedMany.1 ∈ ztb := List.mem_filter.mpr ⟨List.mem_append_right _ (List.mem_of_getElem? (i := 1639) rfl), rfl⟩
set_option maxRecDepth 100000 in
theorem wl_X10_reckonedMany : Cond.selects mX10_reckonedMany.1.cls mX10_reckonedMany.1 mX10_reckonedMany.1 ∈ ztb := List.mem_filter.mpr ⟨List.mem_append_left _ (List.mem_of_getElem? (i := 86) rfl), rfl⟩
set_option maxRecDepth 100000 in
theorem wm_X10_507 : Cond.methodLink RX10 507 mX10_reckonedMany.1 ∈ ztb := List.mem_filter.mpr ⟨List.mem_append_right _ (List.mem_of_getElem? (i := 1637) rfl), rfl⟩
theorem cl_X10_507 {E : zE} {M : zM} {d pc : Nat} {L rest : List zV} {h : zH} {Q : List zV → zH → Prop} {c0 : Nat} (hd : decode M.2.1 pc = .ok (.invokevirtual 507, 3)) (hM : M.1.cls = RX10) (hs : zsh E c0 = (10, 86)) (hc : c0 < zN E) (h8 : ((rest.map (zrv E)).map fun v => v.category).sum ≤ 8) (k : zCI E mX10_reckonedMany d [zR c0] h (fun x h1 => zG E M (d + 1) (pc + 3) L (zI x :: rest) h1 Q)) : zG E M (d + 1) pc L (zR c0 :: rest) h Q := z_callV (M' := mX10_reckonedMany) (as := []) hd rfl hs hc (by decide) rfl (by rw [hM]; exact wm_X10_507) wn_X10_reckonedMany wl_X10_reckonedMany wi_X10 wc_X10_reckonedMany wy_X10_reckonedMany (by decide) h8 (zC_mono (by rintro r h1 ⟨x, rfl, hk⟩; exact hk) k)
set_option maxRecDepth 100000 in
theorem wn_X10_any : Cond.instanceMethod mX10_any.1 ∈ ztb := List.mem_filter.mpr ⟨List.mem_append_right _ (List.mem_of_getElem? (i := 1643) rfl), rfl⟩
set_option maxRecDepth 100000 in
theorem wl_X10_any : Cond.selects mX10_any.1.cls mX10_any.1 mX10_any.1 ∈ ztb := List.mem_filter.mpr ⟨List.mem_append_right _ (List.mem_of_getElem? (i := 1644) rfl), rfl⟩
set_option maxRecDepth 100000 in
theorem wm_L_118 : Cond.methodLink RL 118 mX10_any.1 ∈ ztb := List.mem_filter.mpr ⟨List.mem_append_right _ (List.mem_of_getElem? (i := 1642) rfl), rfl⟩
theorem cl_L_118 {E : zE} {M : zM} {d pc : Nat} {L rest : List zV} {h : zH} {Q : List zV → zH → Prop} {c0 : Nat} {a1 a2 a3 a4 a5 a6 : zV} (hd : decode M.2.1 pc = .ok (.invokevirtual 118, 3)) (hM : M.1.cls = RL) (hs : zsh E c0 = (10, 86)) (hc : c0 < zN E) (h8 : ((rest.map (zrv E)).map fun v => v.category).sum ≤ 8) (k : zCI E mX10_any d [zR c0, a1, a2, a3, a4, a5, a6] h (fun x h1 => zG E M (d + 1) (pc + 3) L (zI x :: rest) h1 Q)) : zG E M (d + 1) pc L (a6 :: a5 :: a4 :: a3 :: a2 :: a1 :: zR c0 :: rest) h Q := z_callV (M' := mX10_any) (as := [a1, a2, a3, a4, a5, a6]) hd rfl hs hc (by decide) rfl (by rw [hM]; exact wm_L_118) wn_X10_any wl_X10_any wi_X10 wc_X10_any wy_X10_any (by decide) h8 (zC_mono (by rintro r h1 ⟨x, rfl, hk⟩; exact hk) k)
set_option maxRecDepth 100000 in
theorem wn_X10_chosen : Cond.instanceMethod mX10_chosen.1 ∈ ztb := List.mem_filter.mpr ⟨List.mem_append_right _ (List.mem_of_getElem? (i := 1649) rfl), rfl⟩
set_option maxRecDepth 100000 in
theorem wl_X10_chosen : Cond.selects mX10_chosen.1.cls mX10_chosen.1 mX10_chosen.1 ∈ ztb := List.mem_filter.mpr ⟨List.mem_append_right _ (List.mem_of_getElem? (i := 1650) rfl), rfl⟩
set_option maxRecDepth 100000 in
theorem wm_L_122 : Cond.methodLink RL 122 mX10_chosen.1 ∈ ztb := List.mem_filter.mpr ⟨List.mem_append_right _ (List.mem_of_getElem? (i := 1648) rfl), rfl⟩
theorem cl_L_122 {E : zE} {M : zM} {d pc : Nat} {L rest : List zV} {h : zH} {Q : List zV → zH → Prop} {c0 : Nat} {a1 a2 : zV} (hd : decode M.2.1 pc = .ok (.invokevirtual 122, 3)) (hM : M.1.cls = RL) (hs : zsh E c0 = (10, 86)) (hc : c0 < zN E) (h8 : ((rest.map (zrv E)).map fun v => v.category).sum ≤ 8) (k : zCI E mX10_chosen d [zR c0, a1, a2] h (fun x h1 => zG E M (d + 1) (pc + 3) L (zI x :: rest) h1 Q)) : zG E M (d + 1) pc L (a2 :: a1 :: zR c0 :: rest) h Q := z_callV (M' := mX10_chosen) (as := [a1, a2]) hd rfl hs hc (by decide) rfl (by rw [hM]; exact wm_L_122) wn_X10_chosen wl_X10_chosen wi_X10 wc_X10_chosen wy_X10_chosen (by decide) h8 (zC_mono (by rintro r h1 ⟨x, rfl, hk⟩; exact hk) k)
set_option maxRecDepth 100000 in
theorem wn_X10_tells : Cond.instanceMethod mX10_tells.1 ∈ ztb := List.mem_filter.mpr ⟨List.mem_append_right _ (List.mem_of_getElem? (i := 1653) rfl), rfl⟩
set_option maxRecDepth 100000 in
theorem wl_X10_tells : Cond.selects mX10_tells.1.cls mX10_tells.1 mX10_tells.1 ∈ ztb := List.mem_filter.mpr ⟨List.mem_append_right _ (List.mem_of_getElem? (i := 1654) rfl), rfl⟩
set_option maxRecDepth 100000 in
theorem wm_L_127 : Cond.methodLink RL 127 mX10_tells.1 ∈ ztb := List.mem_filter.mpr ⟨List.mem_append_right _ (List.mem_of_getElem? (i := 1652) rfl), rfl⟩
theorem cl_L_127 {E : zE} {M : zM} {d pc : Nat} {L rest : List zV} {h : zH} {Q : List zV → zH → Prop} {c0 : Nat} {a1 a2 a3 : zV} (hd : decode M.2.1 pc = .ok (.invokevirtual 127, 3)) (hM : M.1.cls = RL) (hs : zsh E c0 = (10, 86)) (hc : c0 < zN E) (h8 : ((rest.map (zrv E)).map fun v => v.category).sum ≤ 8) (k : zCJ E mX10_tells d [zR c0, a1, a2, a3] h (fun x h1 => zG E M (d + 1) (pc + 3) L (zJ x :: rest) h1 Q)) : zG E M (d + 1) pc L (a3 :: a2 :: a1 :: zR c0 :: rest) h Q := z_callV (M' := mX10_tells) (as := [a1, a2, a3]) hd rfl hs hc (by decide) rfl (by rw [hM]; exact wm_L_127) wn_X10_tells wl_X10_tells wi_X10 wc_X10_tells wy_X10_tells (by decide) h8 (zC_mono (by rintro r h1 ⟨x, rfl, hk⟩; exact hk) k)
set_option maxRecDepth 100000 in
theorem wn_X10_toldBy : Cond.instanceMethod mX10_toldBy.1 ∈ ztb := List.mem_filter.mpr ⟨List.mem_append_right _ (List.mem_of_getElem? (i := 1659) rfl), rfl⟩
set_option maxRecDepth 100000 in
theorem wl_X10_toldBy : Cond.selects mX10_toldBy.1.cls mX10_toldBy.1 mX10_toldBy.1 ∈ ztb := List.mem_filter.mpr ⟨List.mem_append_left _ (List.mem_of_getElem? (i := 87) rfl), rfl⟩
set_option maxRecDepth 100000 in
theorem wm_X10_521 : Cond.methodLink RX10 521 mX10_toldBy.1 ∈ ztb := List.mem_filter.mpr ⟨List.mem_append_right _ (List.mem_of_getElem? (i := 1657) rfl), rfl⟩
theorem cl_X10_521 {E : zE} {M : zM} {d pc : Nat} {L rest : List zV} {h : zH} {Q : List zV → zH → Prop} {c0 : Nat} {a1 a2 : zV} (hd : decode M.2.1 pc = .ok (.invokevirtual 521, 3)) (hM : M.1.cls = RX10) (hs : zsh E c0 = (10, 86)) (hc : c0 < zN E) (h8 : ((rest.map (zrv E)).map fun v => v.category).sum ≤ 8) (k : zCJ E mX10_toldBy d [zR c0, a1, a2] h (fun x h1 => zG E M (d + 1) (pc + 3) L (zJ x :: rest) h1 Q)) : zG E M (d + 1) pc L (a2 :: a1 :: zR c0 :: rest) h Q := z_callV (M' := mX10_toldBy) (as := [a1, a2]) hd rfl hs hc (by decide) rfl (by rw [hM]; exact wm_X10_521) wn_X10_toldBy wl_X10_toldBy wi_X10 wc_X10_toldBy wy_X10_toldBy (by decide) h8 (zC_mono (by rintro r h1 ⟨x, rfl, hk⟩; exact hk) k)
set_option maxRecDepth 100000 in
theorem wn_X10_binOfRing : Cond.instanceMethod mX10_binOfRing.1 ∈ ztb := List.mem_filter.mpr ⟨List.mem_append_right _ (List.mem_of_getElem? (i := 1663) rfl), rfl⟩
set_option maxRecDepth 100000 in
theorem wl_X10_binOfRing : Cond.selects mX10_binOfRing.1.cls mX10_binOfRing.1 mX10_binOfRing.1 ∈ ztb := List.mem_filter.mpr ⟨List.mem_append_left _ (List.mem_of_getElem? (i := 88) rfl), rfl⟩
set_option maxRecDepth 100000 in
theorem wm_X10_516 : Cond.methodLink RX10 516 mX10_binOfRing.1 ∈ ztb := List.mem_filter.mpr ⟨List.mem_append_right _ (List.mem_of_getElem? (i := 1661) rfl), rfl⟩
theorem cl_X10_516 {E : zE} {M : zM} {d pc : Nat} {L rest : List zV} {h : zH} {Q : List zV → zH → Prop} {c0 : Nat} {a1 a2 : zV} (hd : decode M.2.1 pc = .ok (.invokevirtual 516, 3)) (hM : M.1.cls = RX10) (hs : zsh E c0 = (10, 86)) (hc : c0 < zN E) (h8 : ((rest.map (zrv E)).map fun v => v.category).sum ≤ 8) (k : zCI E mX10_binOfRing d [zR c0, a1, a2] h (fun x h1 => zG E M (d + 1) (pc + 3) L (zI x :: rest) h1 Q)) : zG E M (d + 1) pc L (a2 :: a1 :: zR c0 :: rest) h Q := z_callV (M' := mX10_binOfRing) (as := [a1, a2]) hd rfl hs hc (by decide) rfl (by rw [hM]; exact wm_X10_516) wn_X10_binOfRing wl_X10_binOfRing wi_X10 wc_X10_binOfRing wy_X10_binOfRing (by decide) h8 (zC_mono (by rintro r h1 ⟨x, rfl, hk⟩; exact hk) k)
set_option maxRecDepth 100000 in
theorem ws_X10_common : Cond.static mX10_common.1 ∈ ztb := List.mem_filter.mpr ⟨List.mem_append_right _ (List.mem_of_getElem? (i := 1666) rfl), rfl⟩
set_option maxRecDepth 100000 in
theorem wm_X10_525 : Cond.methodLink RX10 525 mX10_common.1 ∈ ztb := List.mem_filter.mpr ⟨List.mem_append_right _ (List.mem_of_getElem? (i := 1665) rfl), rfl⟩
theorem cl_X10_525 {E : zE} {M : zM} {d pc : Nat} {L rest : List zV} {h : zH} {Q : List zV → zH → Prop} {a1 a2 : zV} (hd : decode M.2.1 pc = .ok (.invokestatic 525, 3)) (hM : M.1.cls = RX10) (h8 : ((rest.map (zrv E)).map fun v => v.category).sum ≤ 8) (k : zCJ E mX10_common d [a1, a2] h (fun x h1 => zG E M (d + 1) (pc + 3) L (zJ x :: rest) h1 Q)) : zG E M (d + 1) pc L (a2 :: a1 :: rest) h Q := z_callS (M' := mX10_common) (as := [a1, a2]) hd rfl (by rw [hM]; exact wm_X10_525) ws_X10_common wi_X10 wc_X10_common wy_X10_common (by decide) h8 (zC_mono (by rintro r h1 ⟨x, rfl, hk⟩; exact hk) k)
set_option maxRecDepth 100000 in
theorem wn_X10_hump : Cond.instanceMethod mX10_hump.1 ∈ ztb := List.mem_filter.mpr ⟨List.mem_append_right _ (List.mem_of_getElem? (i := 1669) rfl), rfl⟩
set_option maxRecDepth 100000 in
theorem wl_X10_hump : Cond.selects mX10_hump.1.cls mX10_hump.1 mX10_hump.1 ∈ ztb := List.mem_filter.mpr ⟨List.mem_append_right _ (List.mem_of_getElem? (i := 1670) rfl), rfl⟩
set_option maxRecDepth 100000 in
theorem wm_L_131 : Cond.methodLink RL 131 mX10_hump.1 ∈ ztb := List.mem_filter.mpr ⟨List.mem_append_right _ (List.mem_of_getElem? (i := 1668) rfl), rfl⟩
theorem cl_L_131 {E : zE} {M : zM} {d pc : Nat} {L rest : List zV} {h : zH} {Q : List zV → zH → Prop} {c0 : Nat} {a1 a2 : zV} (hd : decode M.2.1 pc = .ok (.invokevirtual 131, 3)) (hM : M.1.cls = RL) (hs : zsh E c0 = (10, 86)) (hc : c0 < zN E) (h8 : ((rest.map (zrv E)).map fun v => v.category).sum ≤ 8) (k : zCI E mX10_hump d [zR c0, a1, a2] h (fun x h1 => zG E M (d + 1) (pc + 3) L (zI x :: rest) h1 Q)) : zG E M (d + 1) pc L (a2 :: a1 :: zR c0 :: rest) h Q := z_callV (M' := mX10_hump) (as := [a1, a2]) hd rfl hs hc (by decide) rfl (by rw [hM]; exact wm_L_131) wn_X10_hump wl_X10_hump wi_X10 wc_X10_hump wy_X10_hump (by decide) h8 (zC_mono (by rintro r h1 ⟨x, rfl, hk⟩; exact hk) k)
set_option maxRecDepth 100000 in
theorem wn_X10_wander : Cond.instanceMethod mX10_wander.1 ∈ ztb := List.mem_filter.mpr ⟨List.mem_append_right _ (List.mem_of_getElem? (i := 1673) rfl), rfl⟩
set_option maxRecDepth 100000 in
theorem wl_X10_wander : Cond.selects mX10_wander.1.cls mX10_wander.1 mX10_wander.1 ∈ ztb := List.mem_filter.mpr ⟨List.mem_append_right _ (List.mem_of_getElem? (i := 1674) rfl), rfl⟩
set_option maxRecDepth 100000 in
theorem wm_L_135 : Cond.methodLink RL 135 mX10_wander.1 ∈ ztb := List.mem_filter.mpr ⟨List.mem_append_right _ (List.mem_of_getElem? (i := 1672) rfl), rfl⟩
theorem cl_L_135 {E : zE} {M : zM} {d pc : Nat} {L rest : List zV} {h : zH} {Q : List zV → zH → Prop} {c0 : Nat} {a1 a2 : zV} (hd : decode M.2.1 pc = .ok (.invokevirtual 135, 3)) (hM : M.1.cls = RL) (hs : zsh E c0 = (10, 86)) (hc : c0 < zN E) (h8 : ((rest.map (zrv E)).map fun v => v.category).sum ≤ 8) (k : zCI E mX10_wander d [zR c0, a1, a2] h (fun x h1 => zG E M (d + 1) (pc + 3) L (zI x :: rest) h1 Q)) : zG E M (d + 1) pc L (a2 :: a1 :: zR c0 :: rest) h Q := z_callV (M' := mX10_wander) (as := [a1, a2]) hd rfl hs hc (by decide) rfl (by rw [hM]; exact wm_L_135) wn_X10_wander wl_X10_wander wi_X10 wc_X10_wander wy_X10_wander (by decide) h8 (zC_mono (by rintro r h1 ⟨x, rfl, hk⟩; exact hk) k)
set_option maxRecDepth 100000 in
theorem wn_X10_land : Cond.instanceMethod mX10_land.1 ∈ ztb := List.mem_filter.mpr ⟨List.mem_append_right _ (List.mem_of_getElem? (i := 1677) rfl), rfl⟩
set_option maxRecDepth 100000 in
theorem wl_X10_land : Cond.selects mX10_land.1.cls mX10_land.1 mX10_land.1 ∈ ztb := List.mem_filter.mpr ⟨List.mem_append_right _ (List.mem_of_getElem? (i := 1678) rfl), rfl⟩
set_option maxRecDepth 100000 in
theorem wm_L_139 : Cond.methodLink RL 139 mX10_land.1 ∈ ztb := List.mem_filter.mpr ⟨List.mem_append_right _ (List.mem_of_getElem? (i := 1676) rfl), rfl⟩
theorem cl_L_139 {E : zE} {M : zM} {d pc : Nat} {L rest : List zV} {h : zH} {Q : List zV → zH → Prop} {c0 : Nat} {a1 a2 a3 a4 : zV} (hd : decode M.2.1 pc = .ok (.invokevirtual 139, 3)) (hM : M.1.cls = RL) (hs : zsh E c0 = (10, 86)) (hc : c0 < zN E) (h8 : ((rest.map (zrv E)).map fun v => v.category).sum ≤ 8) (k : zCI E mX10_land d [zR c0, a1, a2, a3, a4] h (fun x h1 => zG E M (d + 1) (pc + 3) L (zI x :: rest) h1 Q)) : zG E M (d + 1) pc L (a4 :: a3 :: a2 :: a1 :: zR c0 :: rest) h Q := z_callV (M' := mX10_land) (as := [a1, a2, a3, a4]) hd rfl hs hc (by decide) rfl (by rw [hM]; exact wm_L_139) wn_X10_land wl_X10_land wi_X10 wc_X10_land wy_X10_land (by decide) h8 (zC_mono (by rintro r h1 ⟨x, rfl, hk⟩; exact hk) k)
set_option maxRecDepth 100000 in
theorem wn_X10_landUnit : Cond.instanceMethod mX10_landUnit.1 ∈ ztb := List.mem_filter.mpr ⟨List.mem_append_right _ (List.mem_of_getElem? (i := 1682) rfl), rfl⟩
set_option maxRecDepth 100000 in
theorem wl_X10_landUnit : Cond.selects mX10_landUnit.1.cls mX10_landUnit.1 mX10_landUnit.1 ∈ ztb := List.mem_filter.mpr ⟨List.mem_append_left _ (List.mem_of_getElem? (i := 89) rfl), rfl⟩
set_option maxRecDepth 100000 in
theorem wm_X10_529 : Cond.methodLink RX10 529 mX10_landUnit.1 ∈ ztb := List.mem_filter.mpr ⟨List.mem_append_right _ (List.mem_of_getElem? (i := 1680) rfl), rfl⟩
theorem cl_X10_529 {E : zE} {M : zM} {d pc : Nat} {L rest : List zV} {h : zH} {Q : List zV → zH → Prop} {c0 : Nat} {a1 a2 a3 a4 : zV} (hd : decode M.2.1 pc = .ok (.invokevirtual 529, 3)) (hM : M.1.cls = RX10) (hs : zsh E c0 = (10, 86)) (hc : c0 < zN E) (h8 : ((rest.map (zrv E)).map fun v => v.category).sum ≤ 8) (k : zCI E mX10_landUnit d [zR c0, a1, a2, a3, a4] h (fun x h1 => zG E M (d + 1) (pc + 3) L (zI x :: rest) h1 Q)) : zG E M (d + 1) pc L (a4 :: a3 :: a2 :: a1 :: zR c0 :: rest) h Q := z_callV (M' := mX10_landUnit) (as := [a1, a2, a3, a4]) hd rfl hs hc (by decide) rfl (by rw [hM]; exact wm_X10_529) wn_X10_landUnit wl_X10_landUnit wi_X10 wc_X10_landUnit wy_X10_landUnit (by decide) h8 (zC_mono (by rintro r h1 ⟨x, rfl, hk⟩; exact hk) k)
set_option maxRecDepth 100000 in
theorem wn_X10_apart : Cond.instanceMethod mX10_apart.1 ∈ ztb := List.mem_filter.mpr ⟨List.mem_append_right _ (List.mem_of_getElem? (i := 1685) rfl), rfl⟩
set_option maxRecDepth 100000 in
theorem wl_X10_apart : Cond.selects mX10_apart.1.cls mX10_apart.1 mX10_apart.1 ∈ ztb := List.mem_filter.mpr ⟨List.mem_append_right _ (List.mem_of_getElem? (i := 1686) rfl), rfl⟩
set_option maxRecDepth 100000 in
theorem wm_L_143 : Cond.methodLink RL 143 mX10_apart.1 ∈ ztb := List.mem_filter.mpr ⟨List.mem_append_right _ (List.mem_of_getElem? (i := 1684) rfl), rfl⟩
theorem cl_L_143 {E : zE} {M : zM} {d pc : Nat} {L rest : List zV} {h : zH} {Q : List zV → zH → Prop} {c0 : Nat} {a1 a2 a3 : zV} (hd : decode M.2.1 pc = .ok (.invokevirtual 143, 3)) (hM : M.1.cls = RL) (hs : zsh E c0 = (10, 86)) (hc : c0 < zN E) (h8 : ((rest.map (zrv E)).map fun v => v.category).sum ≤ 8) (k : zCI E mX10_apart d [zR c0, a1, a2, a3] h (fun x h1 => zG E M (d + 1) (pc + 3) L (zI x :: rest) h1 Q)) : zG E M (d + 1) pc L (a3 :: a2 :: a1 :: zR c0 :: rest) h Q := z_callV (M' := mX10_apart) (as := [a1, a2, a3]) hd rfl hs hc (by decide) rfl (by rw [hM]; exact wm_L_143) wn_X10_apart wl_X10_apart wi_X10 wc_X10_apart wy_X10_apart (by decide) h8 (zC_mono (by rintro r h1 ⟨x, rfl, hk⟩; exact hk) k)
set_option maxRecDepth 100000 in
theorem wn_X10_sort : Cond.instanceMethod mX10_sort.1 ∈ ztb := List.mem_filter.mpr ⟨List.mem_append_right _ (List.mem_of_getElem? (i := 1689) rfl), rfl⟩
set_option maxRecDepth 100000 in
theorem wl_X10_sort : Cond.selects mX10_sort.1.cls mX10_sort.1 mX10_sort.1 ∈ ztb := List.mem_filter.mpr ⟨List.mem_append_right _ (List.mem_of_getElem? (i := 1690) rfl), rfl⟩
set_option maxRecDepth 100000 in
theorem wm_L_147 : Cond.methodLink RL 147 mX10_sort.1 ∈ ztb := List.mem_filter.mpr ⟨List.mem_append_right _ (List.mem_of_getElem? (i := 1688) rfl), rfl⟩
theorem cl_L_147 {E : zE} {M : zM} {d pc : Nat} {L rest : List zV} {h : zH} {Q : List zV → zH → Prop} {c0 : Nat} {a1 a2 a3 : zV} (hd : decode M.2.1 pc = .ok (.invokevirtual 147, 3)) (hM : M.1.cls = RL) (hs : zsh E c0 = (10, 86)) (hc : c0 < zN E) (h8 : ((rest.map (zrv E)).map fun v => v.category).sum ≤ 8) (k : zCI E mX10_sort d [zR c0, a1, a2, a3] h (fun x h1 => zG E M (d + 1) (pc + 3) L (zI x :: rest) h1 Q)) : zG E M (d + 1) pc L (a3 :: a2 :: a1 :: zR c0 :: rest) h Q := z_callV (M' := mX10_sort) (as := [a1, a2, a3]) hd rfl hs hc (by decide) rfl (by rw [hM]; exact wm_L_147) wn_X10_sort wl_X10_sort wi_X10 wc_X10_sort wy_X10_sort (by decide) h8 (zC_mono (by rintro r h1 ⟨x, rfl, hk⟩; exact hk) k)
set_option maxRecDepth 100000 in
theorem wn_X10_blind : Cond.instanceMethod mX10_blind.1 ∈ ztb := List.mem_filter.mpr ⟨List.mem_append_right _ (List.mem_of_getElem? (i := 1693) rfl), rfl⟩
set_option maxRecDepth 100000 in
theorem wl_X10_blind : Cond.selects mX10_blind.1.cls mX10_blind.1 mX10_blind.1 ∈ ztb := List.mem_filter.mpr ⟨List.mem_append_right _ (List.mem_of_getElem? (i := 1694) rfl), rfl⟩
set_option maxRecDepth 100000 in
theorem wm_L_151 : Cond.methodLink RL 151 mX10_blind.1 ∈ ztb := List.mem_filter.mpr ⟨List.mem_append_right _ (List.mem_of_getElem? (i := 1692) rfl), rfl⟩
theorem cl_L_151 {E : zE} {M : zM} {d pc : Nat} {L rest : List zV} {h : zH} {Q : List zV → zH → Prop} {c0 : Nat} {a1 a2 : zV} (hd : decode M.2.1 pc = .ok (.invokevirtual 151, 3)) (hM : M.1.cls = RL) (hs : zsh E c0 = (10, 86)) (hc : c0 < zN E) (h8 : ((rest.map (zrv E)).map fun v => v.category).sum ≤ 8) (k : zCI E mX10_blind d [zR c0, a1, a2] h (fun x h1 => zG E M (d + 1) (pc + 3) L (zI x :: rest) h1 Q)) : zG E M (d + 1) pc L (a2 :: a1 :: zR c0 :: rest) h Q := z_callV (M' := mX10_blind) (as := [a1, a2]) hd rfl hs hc (by decide) rfl (by rw [hM]; exact wm_L_151) wn_X10_blind wl_X10_blind wi_X10 wc_X10_blind wy_X10_blind (by decide) h8 (zC_mono (by rintro r h1 ⟨x, rfl, hk⟩; exact hk) k)
set_option maxRecDepth 100000 in
theorem wn_X10_lean : Cond.instanceMethod mX10_lean.1 ∈ ztb := List.mem_filter.mpr ⟨List.mem_append_right _ (List.mem_of_getElem? (i := 1697) rfl), rfl⟩
set_option maxRecDepth 100000 in
theorem wl_X10_lean : Cond.selects mX10_lean.1.cls mX10_lean.1 mX10_lean.1 ∈ ztb := List.mem_filter.mpr ⟨List.mem_append_right _ (List.mem_of_getElem? (i := 1698) rfl), rfl⟩
set_option maxRecDepth 100000 in
theorem wm_L_155 : Cond.methodLink RL 155 mX10_lean.1 ∈ ztb := List.mem_filter.mpr ⟨List.mem_append_right _ (List.mem_of_getElem? (i := 1696) rfl), rfl⟩
theorem cl_L_155 {E : zE} {M : zM} {d pc : Nat} {L rest : List zV} {h : zH} {Q : List zV → zH → Prop} {c0 : Nat} {a1 a2 : zV} (hd : decode M.2.1 pc = .ok (.invokevirtual 155, 3)) (hM : M.1.cls = RL) (hs : zsh E c0 = (10, 86)) (hc : c0 < zN E) (h8 : ((rest.map (zrv E)).map fun v => v.category).sum ≤ 8) (k : zCI E mX10_lean d [zR c0, a1, a2] h (fun x h1 => zG E M (d + 1) (pc + 3) L (zI x :: rest) h1 Q)) : zG E M (d + 1) pc L (a2 :: a1 :: zR c0 :: rest) h Q := z_callV (M' := mX10_lean) (as := [a1, a2]) hd rfl hs hc (by decide) rfl (by rw [hM]; exact wm_L_155) wn_X10_lean wl_X10_lean wi_X10 wc_X10_lean wy_X10_lean (by decide) h8 (zC_mono (by rintro r h1 ⟨x, rfl, hk⟩; exact hk) k)
set_option maxRecDepth 100000 in
theorem wn_X10_ahead : Cond.instanceMethod mX10_ahead.1 ∈ ztb := List.mem_filter.mpr ⟨List.mem_append_right _ (List.mem_of_getElem? (i := 1701) rfl), rfl⟩
set_option maxRecDepth 100000 in
theorem wl_X10_ahead : Cond.selects mX10_ahead.1.cls mX10_ahead.1 mX10_ahead.1 ∈ ztb := List.mem_filter.mpr ⟨List.mem_append_right _ (List.mem_of_getElem? (i := 1702) rfl), rfl⟩
set_option maxRecDepth 100000 in
theorem wm_L_159 : Cond.methodLink RL 159 mX10_ahead.1 ∈ ztb := List.mem_filter.mpr ⟨List.mem_append_right _ (List.mem_of_getElem? (i := 1700) rfl), rfl⟩
theorem cl_L_159 {E : zE} {M : zM} {d pc : Nat} {L rest : List zV} {h : zH} {Q : List zV → zH → Prop} {c0 : Nat} {a1 a2 a3 a4 a5 : zV} (hd : decode M.2.1 pc = .ok (.invokevirtual 159, 3)) (hM : M.1.cls = RL) (hs : zsh E c0 = (10, 86)) (hc : c0 < zN E) (h8 : ((rest.map (zrv E)).map fun v => v.category).sum ≤ 8) (k : zCI E mX10_ahead d [zR c0, a1, a2, a3, a4, a5] h (fun x h1 => zG E M (d + 1) (pc + 3) L (zI x :: rest) h1 Q)) : zG E M (d + 1) pc L (a5 :: a4 :: a3 :: a2 :: a1 :: zR c0 :: rest) h Q := z_callV (M' := mX10_ahead) (as := [a1, a2, a3, a4, a5]) hd rfl hs hc (by decide) rfl (by rw [hM]; exact wm_L_159) wn_X10_ahead wl_X10_ahead wi_X10 wc_X10_ahead wy_X10_ahead (by decide) h8 (zC_mono (by rintro r h1 ⟨x, rfl, hk⟩; exact hk) k)
set_option maxRecDepth 100000 in
theorem wn_X10_next : Cond.instanceMethod mX10_next.1 ∈ ztb := List.mem_filter.mpr ⟨List.mem_append_right _ (List.mem_of_getElem? (i := 1705) rfl), rfl⟩
set_option maxRecDepth 100000 in
theorem wl_X10_next : Cond.selects mX10_next.1.cls mX10_next.1 mX10_next.1 ∈ ztb := List.mem_filter.mpr ⟨List.mem_append_right _ (List.mem_of_getElem? (i := 1706) rfl), rfl⟩
set_option maxRecDepth 100000 in
theorem wm_L_163 : Cond.methodLink RL 163 mX10_next.1 ∈ ztb := List.mem_filter.mpr ⟨List.mem_append_right _ (List.mem_of_getElem? (i := 1704) rfl), rfl⟩
theorem cl_L_163 {E : zE} {M : zM} {d pc : Nat} {L rest : List zV} {h : zH} {Q : List zV → zH → Prop} {c0 : Nat} (hd : decode M.2.1 pc = .ok (.invokevirtual 163, 3)) (hM : M.1.cls = RL) (hs : zsh E c0 = (10, 86)) (hc : c0 < zN E) (h8 : ((rest.map (zrv E)).map fun v => v.category).sum ≤ 8) (k : zCI E mX10_next d [zR c0] h (fun x h1 => zG E M (d + 1) (pc + 3) L (zI x :: rest) h1 Q)) : zG E M (d + 1) pc L (zR c0 :: rest) h Q := z_callV (M' := mX10_next) (as := []) hd rfl hs hc (by decide) rfl (by rw [hM]; exact wm_L_163) wn_X10_next wl_X10_next wi_X10 wc_X10_next wy_X10_next (by decide) h8 (zC_mono (by rintro r h1 ⟨x, rfl, hk⟩; exact hk) k)
set_option maxRecDepth 100000 in
theorem wn_X10_count : Cond.instanceMethod mX10_count.1 ∈ ztb := List.mem_filter.mpr ⟨List.mem_append_right _ (List.mem_of_getElem? (i := 1709) rfl), rfl⟩
set_option maxRecDepth 100000 in
theorem wl_X10_count : Cond.selects mX10_count.1.cls mX10_count.1 mX10_count.1 ∈ ztb := List.mem_filter.mpr ⟨List.mem_append_right _ (List.mem_of_getElem? (i := 1710) rfl), rfl⟩
set_option maxRecDepth 100000 in
theorem wm_L_167 : Cond.methodLink RL 167 mX10_count.1 ∈ ztb := List.mem_filter.mpr ⟨List.mem_append_right _ (List.mem_of_getElem? (i := 1708) rfl), rfl⟩
theorem cl_L_167 {E : zE} {M : zM} {d pc : Nat} {L rest : List zV} {h : zH} {Q : List zV → zH → Prop} {c0 : Nat} {a1 : zV} (hd : decode M.2.1 pc = .ok (.invokevirtual 167, 3)) (hM : M.1.cls = RL) (hs : zsh E c0 = (10, 86)) (hc : c0 < zN E) (h8 : ((rest.map (zrv E)).map fun v => v.category).sum ≤ 8) (k : zCI E mX10_count d [zR c0, a1] h (fun x h1 => zG E M (d + 1) (pc + 3) L (zI x :: rest) h1 Q)) : zG E M (d + 1) pc L (a1 :: zR c0 :: rest) h Q := z_callV (M' := mX10_count) (as := [a1]) hd rfl hs hc (by decide) rfl (by rw [hM]; exact wm_L_167) wn_X10_count wl_X10_count wi_X10 wc_X10_count wy_X10_count (by decide) h8 (zC_mono (by rintro r h1 ⟨x, rfl, hk⟩; exact hk) k)
set_option maxRecDepth 100000 in
theorem wm_X4_124 : Cond.methodLinkNest RX4 124 mX9_stoneAt.1 "YardRings" ∈ znw := List.mem_filter.mpr ⟨List.mem_append_right _ (List.mem_of_getElem? (i := 530) rfl), rfl⟩
theorem cl_X4_124 {E : zE} {M : zM} {d pc : Nat} {L rest : List zV} {h : zH} {Q : List zV → zH → Prop} {a1 a2 : zV} (hd : decode M.2.1 pc = .ok (.invokestatic 124, 3)) (hM : M.1.cls = RX4) (h8 : ((rest.map (zrv E)).map fun v => v.category).sum ≤ 8) (k : zCI E mX9_stoneAt d [a1, a2] h (fun x h1 => zG E M (d + 1) (pc + 3) L (zI x :: rest) h1 Q)) : zG E M (d + 1) pc L (a2 :: a1 :: rest) h Q := z_callSN (M' := mX9_stoneAt) (as := [a1, a2]) hd rfl (by rw [hM]; exact wm_X4_124) ws_X9_stoneAt wi_X9 wc_X9_stoneAt wy_X9_stoneAt (by decide) h8 (zC_mono (by rintro r h1 ⟨x, rfl, hk⟩; exact hk) k)
set_option maxRecDepth 100000 in
theorem wm_X4_104 : Cond.methodLinkNest RX4 104 mX9_isBeyond.1 "YardRings" ∈ znw := List.mem_filter.mpr ⟨List.mem_append_right _ (List.mem_of_getElem? (i := 541) rfl), rfl⟩
theorem cl_X4_104 {E : zE} {M : zM} {d pc : Nat} {L rest : List zV} {h : zH} {Q : List zV → zH → Prop} {a1 a2 a3 : zV} (hd : decode M.2.1 pc = .ok (.invokestatic 104, 3)) (hM : M.1.cls = RX4) (h8 : ((rest.map (zrv E)).map fun v => v.category).sum ≤ 8) (k : zCI E mX9_isBeyond d [a1, a2, a3] h (fun x h1 => zG E M (d + 1) (pc + 3) L (zI x :: rest) h1 Q)) : zG E M (d + 1) pc L (a3 :: a2 :: a1 :: rest) h Q := z_callSN (M' := mX9_isBeyond) (as := [a1, a2, a3]) hd rfl (by rw [hM]; exact wm_X4_104) ws_X9_isBeyond wi_X9 wc_X9_isBeyond wy_X9_isBeyond (by decide) h8 (zC_mono (by rintro r h1 ⟨x, rfl, hk⟩; exact hk) k)
set_option maxRecDepth 100000 in
theorem wm_X0_86 : Cond.methodLinkNest RX0 86 mX9_stoneAt.1 "YardRings" ∈ znw := List.mem_filter.mpr ⟨List.mem_append_right _ (List.mem_of_getElem? (i := 632) rfl), rfl⟩
theorem cl_X0_86 {E : zE} {M : zM} {d pc : Nat} {L rest : List zV} {h : zH} {Q : List zV → zH → Prop} {a1 a2 : zV} (hd : decode M.2.1 pc = .ok (.invokestatic 86, 3)) (hM : M.1.cls = RX0) (h8 : ((rest.map (zrv E)).map fun v => v.category).sum ≤ 8) (k : zCI E mX9_stoneAt d [a1, a2] h (fun x h1 => zG E M (d + 1) (pc + 3) L (zI x :: rest) h1 Q)) : zG E M (d + 1) pc L (a2 :: a1 :: rest) h Q := z_callSN (M' := mX9_stoneAt) (as := [a1, a2]) hd rfl (by rw [hM]; exact wm_X0_86) ws_X9_stoneAt wi_X9 wc_X9_stoneAt wy_X9_stoneAt (by decide) h8 (zC_mono (by rintro r h1 ⟨x, rfl, hk⟩; exact hk) k)
set_option maxRecDepth 100000 in
theorem ws_X9_isShape : Cond.static mX9_isShape.1 ∈ ztb := List.mem_filter.mpr ⟨List.mem_append_right _ (List.mem_of_getElem? (i := 696) rfl), rfl⟩
set_option maxRecDepth 100000 in
theorem wm_X0_93 : Cond.methodLinkNest RX0 93 mX9_isShape.1 "YardRings" ∈ znw := List.mem_filter.mpr ⟨List.mem_append_right _ (List.mem_of_getElem? (i := 695) rfl), rfl⟩
theorem cl_X0_93 {E : zE} {M : zM} {d pc : Nat} {L rest : List zV} {h : zH} {Q : List zV → zH → Prop} {a1 : zV} (hd : decode M.2.1 pc = .ok (.invokestatic 93, 3)) (hM : M.1.cls = RX0) (h8 : ((rest.map (zrv E)).map fun v => v.category).sum ≤ 8) (k : zCI E mX9_isShape d [a1] h (fun x h1 => zG E M (d + 1) (pc + 3) L (zI x :: rest) h1 Q)) : zG E M (d + 1) pc L (a1 :: rest) h Q := z_callSN (M' := mX9_isShape) (as := [a1]) hd rfl (by rw [hM]; exact wm_X0_93) ws_X9_isShape wi_X9 wc_X9_isShape wy_X9_isShape (by decide) h8 (zC_mono (by rintro r h1 ⟨x, rfl, hk⟩; exact hk) k)
set_option maxRecDepth 100000 in
theorem ws_X9_rootOf : Cond.static mX9_rootOf.1 ∈ ztb := List.mem_filter.mpr ⟨List.mem_append_right _ (List.mem_of_getElem? (i := 721) rfl), rfl⟩
set_option maxRecDepth 100000 in
theorem wm_X0_142 : Cond.methodLinkNest RX0 142 mX9_rootOf.1 "YardRings" ∈ znw := List.mem_filter.mpr ⟨List.mem_append_right _ (List.mem_of_getElem? (i := 720) rfl), rfl⟩
theorem cl_X0_142 {E : zE} {M : zM} {d pc : Nat} {L rest : List zV} {h : zH} {Q : List zV → zH → Prop} {a1 a2 : zV} (hd : decode M.2.1 pc = .ok (.invokestatic 142, 3)) (hM : M.1.cls = RX0) (h8 : ((rest.map (zrv E)).map fun v => v.category).sum ≤ 8) (k : zCJ E mX9_rootOf d [a1, a2] h (fun x h1 => zG E M (d + 1) (pc + 3) L (zJ x :: rest) h1 Q)) : zG E M (d + 1) pc L (a2 :: a1 :: rest) h Q := z_callSN (M' := mX9_rootOf) (as := [a1, a2]) hd rfl (by rw [hM]; exact wm_X0_142) ws_X9_rootOf wi_X9 wc_X9_rootOf wy_X9_rootOf (by decide) h8 (zC_mono (by rintro r h1 ⟨x, rfl, hk⟩; exact hk) k)
set_option maxRecDepth 100000 in
theorem wm_X7_19 : Cond.methodLinkNest RX7 19 mX9_offBy.1 "YardRings" ∈ znw := List.mem_filter.mpr ⟨List.mem_append_right _ (List.mem_of_getElem? (i := 821) rfl), rfl⟩
theorem cl_X7_19 {E : zE} {M : zM} {d pc : Nat} {L rest : List zV} {h : zH} {Q : List zV → zH → Prop} {a1 a2 : zV} (hd : decode M.2.1 pc = .ok (.invokestatic 19, 3)) (hM : M.1.cls = RX7) (h8 : ((rest.map (zrv E)).map fun v => v.category).sum ≤ 8) (k : zCI E mX9_offBy d [a1, a2] h (fun x h1 => zG E M (d + 1) (pc + 3) L (zI x :: rest) h1 Q)) : zG E M (d + 1) pc L (a2 :: a1 :: rest) h Q := z_callSN (M' := mX9_offBy) (as := [a1, a2]) hd rfl (by rw [hM]; exact wm_X7_19) ws_X9_offBy wi_X9 wc_X9_offBy wy_X9_offBy (by decide) h8 (zC_mono (by rintro r h1 ⟨x, rfl, hk⟩; exact hk) k)
set_option maxRecDepth 100000 in
theorem wm_X0_110 : Cond.methodLinkNest RX0 110 mX9_offBy.1 "YardRings" ∈ znw := List.mem_filter.mpr ⟨List.mem_append_right _ (List.mem_of_getElem? (i := 850) rfl), rfl⟩
theorem cl_X0_110 {E : zE} {M : zM} {d pc : Nat} {L rest : List zV} {h : zH} {Q : List zV → zH → Prop} {a1 a2 : zV} (hd : decode M.2.1 pc = .ok (.invokestatic 110, 3)) (hM : M.1.cls = RX0) (h8 : ((rest.map (zrv E)).map fun v => v.category).sum ≤ 8) (k : zCI E mX9_offBy d [a1, a2] h (fun x h1 => zG E M (d + 1) (pc + 3) L (zI x :: rest) h1 Q)) : zG E M (d + 1) pc L (a2 :: a1 :: rest) h Q := z_callSN (M' := mX9_offBy) (as := [a1, a2]) hd rfl (by rw [hM]; exact wm_X0_110) ws_X9_offBy wi_X9 wc_X9_offBy wy_X9_offBy (by decide) h8 (zC_mono (by rintro r h1 ⟨x, rfl, hk⟩; exact hk) k)
set_option maxRecDepth 100000 in
theorem wm_X7_31 : Cond.methodLinkNest RX7 31 mX9_unitsOf.1 "YardRings" ∈ znw := List.mem_filter.mpr ⟨List.mem_append_right _ (List.mem_of_getElem? (i := 881) rfl), rfl⟩
theorem cl_X7_31 {E : zE} {M : zM} {d pc : Nat} {L rest : List zV} {h : zH} {Q : List zV → zH → Prop} {a1 a2 a3 : zV} (hd : decode M.2.1 pc = .ok (.invokestatic 31, 3)) (hM : M.1.cls = RX7) (h8 : ((rest.map (zrv E)).map fun v => v.category).sum ≤ 8) (k : zCI E mX9_unitsOf d [a1, a2, a3] h (fun x h1 => zG E M (d + 1) (pc + 3) L (zI x :: rest) h1 Q)) : zG E M (d + 1) pc L (a3 :: a2 :: a1 :: rest) h Q := z_callSN (M' := mX9_unitsOf) (as := [a1, a2, a3]) hd rfl (by rw [hM]; exact wm_X7_31) ws_X9_unitsOf wi_X9 wc_X9_unitsOf wy_X9_unitsOf (by decide) h8 (zC_mono (by rintro r h1 ⟨x, rfl, hk⟩; exact hk) k)
set_option maxRecDepth 100000 in
theorem wm_X7_35 : Cond.methodLinkNest RX7 35 mX9_placesOf.1 "YardRings" ∈ znw := List.mem_filter.mpr ⟨List.mem_append_right _ (List.mem_of_getElem? (i := 882) rfl), rfl⟩
theorem cl_X7_35 {E : zE} {M : zM} {d pc : Nat} {L rest : List zV} {h : zH} {Q : List zV → zH → Prop} {a1 a2 : zV} (hd : decode M.2.1 pc = .ok (.invokestatic 35, 3)) (hM : M.1.cls = RX7) (h8 : ((rest.map (zrv E)).map fun v => v.category).sum ≤ 8) (k : zCI E mX9_placesOf d [a1, a2] h (fun x h1 => zG E M (d + 1) (pc + 3) L (zI x :: rest) h1 Q)) : zG E M (d + 1) pc L (a2 :: a1 :: rest) h Q := z_callSN (M' := mX9_placesOf) (as := [a1, a2]) hd rfl (by rw [hM]; exact wm_X7_35) ws_X9_placesOf wi_X9 wc_X9_placesOf wy_X9_placesOf (by decide) h8 (zC_mono (by rintro r h1 ⟨x, rfl, hk⟩; exact hk) k)
def isC (E : zE) : Prop := zsh E = zshC ∧ zN E = 81
def isR (E : zE) : Prop := zsh E = zshR ∧ zN E = 42
theorem sC_0 {E : zE} (hE : isC E) : zsh E 0 = (9, 14) := congrFun hE.1 0
theorem cC_0 {E : zE} (hE : isC E) : 0 < zN E := by rw [hE.2]; decide
theorem sC_1 {E : zE} (hE : isC E) : zsh E 1 = (21, 900) := congrFun hE.1 1
theorem cC_1 {E : zE} (hE : isC E) : 1 < zN E := by rw [hE.2]; decide
theorem sC_2 {E : zE} (hE : isC E) : zsh E 2 = (4, 6) := congrFun hE.1 2
theorem cC_2 {E : zE} (hE : isC E) : 2 < zN E := by rw [hE.2]; decide
theorem sC_3 {E : zE} (hE : isC E) : zsh E 3 = (1, 7) := congrFun hE.1 3
theorem cC_3 {E : zE} (hE : isC E) : 3 < zN E := by rw [hE.2]; decide
theorem sC_4 {E : zE} (hE : isC E) : zsh E 4 = (20, 21) := congrFun hE.1 4
theorem cC_4 {E : zE} (hE : isC E) : 4 < zN E := by rw [hE.2]; decide
theorem sC_5 {E : zE} (hE : isC E) : zsh E 5 = (21, 0) := congrFun hE.1 5
theorem cC_5 {E : zE} (hE : isC E) : 5 < zN E := by rw [hE.2]; decide
theorem sC_6 {E : zE} (hE : isC E) : zsh E 6 = (6, 6) := congrFun hE.1 6
theorem cC_6 {E : zE} (hE : isC E) : 6 < zN E := by rw [hE.2]; decide
theorem sC_7 {E : zE} (hE : isC E) : zsh E 7 = (20, 72) := congrFun hE.1 7
theorem cC_7 {E : zE} (hE : isC E) : 7 < zN E := by rw [hE.2]; decide
theorem sC_8 {E : zE} (hE : isC E) : zsh E 8 = (8, 17) := congrFun hE.1 8
theorem cC_8 {E : zE} (hE : isC E) : 8 < zN E := by rw [hE.2]; decide
theorem sC_9 {E : zE} (hE : isC E) : zsh E 9 = (2, 2) := congrFun hE.1 9
theorem cC_9 {E : zE} (hE : isC E) : 9 < zN E := by rw [hE.2]; decide
theorem sC_10 {E : zE} (hE : isC E) : zsh E 10 = (20, 4) := congrFun hE.1 10
theorem cC_10 {E : zE} (hE : isC E) : 10 < zN E := by rw [hE.2]; decide
theorem sC_11 {E : zE} (hE : isC E) : zsh E 11 = (2, 2) := congrFun hE.1 11
theorem cC_11 {E : zE} (hE : isC E) : 11 < zN E := by rw [hE.2]; decide
theorem sC_12 {E : zE} (hE : isC E) : zsh E 12 = (20, 8) := congrFun hE.1 12
theorem cC_12 {E : zE} (hE : isC E) : 12 < zN E := by rw [hE.2]; decide
theorem sC_13 {E : zE} (hE : isC E) : zsh E 13 = (2, 2) := congrFun hE.1 13
theorem cC_13 {E : zE} (hE : isC E) : 13 < zN E := by rw [hE.2]; decide
theorem sC_14 {E : zE} (hE : isC E) : zsh E 14 = (20, 5) := congrFun hE.1 14
theorem cC_14 {E : zE} (hE : isC E) : 14 < zN E := by rw [hE.2]; decide
theorem sC_15 {E : zE} (hE : isC E) : zsh E 15 = (2, 2) := congrFun hE.1 15
theorem cC_15 {E : zE} (hE : isC E) : 15 < zN E := by rw [hE.2]; decide
theorem sC_16 {E : zE} (hE : isC E) : zsh E 16 = (20, 6) := congrFun hE.1 16
theorem cC_16 {E : zE} (hE : isC E) : 16 < zN E := by rw [hE.2]; decide
theorem sC_17 {E : zE} (hE : isC E) : zsh E 17 = (20, 8) := congrFun hE.1 17
theorem cC_17 {E : zE} (hE : isC E) : 17 < zN E := by rw [hE.2]; decide
theorem sC_18 {E : zE} (hE : isC E) : zsh E 18 = (20, 8) := congrFun hE.1 18
theorem cC_18 {E : zE} (hE : isC E) : 18 < zN E := by rw [hE.2]; decide
theorem sC_19 {E : zE} (hE : isC E) : zsh E 19 = (20, 480) := congrFun hE.1 19
theorem cC_19 {E : zE} (hE : isC E) : 19 < zN E := by rw [hE.2]; decide
theorem sC_20 {E : zE} (hE : isC E) : zsh E 20 = (20, 35) := congrFun hE.1 20
theorem cC_20 {E : zE} (hE : isC E) : 20 < zN E := by rw [hE.2]; decide
theorem sC_21 {E : zE} (hE : isC E) : zsh E 21 = (20, 80) := congrFun hE.1 21
theorem cC_21 {E : zE} (hE : isC E) : 21 < zN E := by rw [hE.2]; decide
theorem sC_22 {E : zE} (hE : isC E) : zsh E 22 = (5, 5) := congrFun hE.1 22
theorem cC_22 {E : zE} (hE : isC E) : 22 < zN E := by rw [hE.2]; decide
theorem sC_23 {E : zE} (hE : isC E) : zsh E 23 = (20, 64) := congrFun hE.1 23
theorem cC_23 {E : zE} (hE : isC E) : 23 < zN E := by rw [hE.2]; decide
theorem sC_24 {E : zE} (hE : isC E) : zsh E 24 = (20, 64) := congrFun hE.1 24
theorem cC_24 {E : zE} (hE : isC E) : 24 < zN E := by rw [hE.2]; decide
theorem sC_25 {E : zE} (hE : isC E) : zsh E 25 = (23, 64) := congrFun hE.1 25
theorem cC_25 {E : zE} (hE : isC E) : 25 < zN E := by rw [hE.2]; decide
theorem sC_26 {E : zE} (hE : isC E) : zsh E 26 = (23, 6) := congrFun hE.1 26
theorem cC_26 {E : zE} (hE : isC E) : 26 < zN E := by rw [hE.2]; decide
theorem sC_27 {E : zE} (hE : isC E) : zsh E 27 = (8, 17) := congrFun hE.1 27
theorem cC_27 {E : zE} (hE : isC E) : 27 < zN E := by rw [hE.2]; decide
theorem sC_28 {E : zE} (hE : isC E) : zsh E 28 = (2, 2) := congrFun hE.1 28
theorem cC_28 {E : zE} (hE : isC E) : 28 < zN E := by rw [hE.2]; decide
theorem sC_29 {E : zE} (hE : isC E) : zsh E 29 = (20, 4) := congrFun hE.1 29
theorem cC_29 {E : zE} (hE : isC E) : 29 < zN E := by rw [hE.2]; decide
theorem sC_30 {E : zE} (hE : isC E) : zsh E 30 = (2, 2) := congrFun hE.1 30
theorem cC_30 {E : zE} (hE : isC E) : 30 < zN E := by rw [hE.2]; decide
theorem sC_31 {E : zE} (hE : isC E) : zsh E 31 = (20, 8) := congrFun hE.1 31
theorem cC_31 {E : zE} (hE : isC E) : 31 < zN E := by rw [hE.2]; decide
theorem sC_32 {E : zE} (hE : isC E) : zsh E 32 = (2, 2) := congrFun hE.1 32
theorem cC_32 {E : zE} (hE : isC E) : 32 < zN E := by rw [hE.2]; decide
theorem sC_33 {E : zE} (hE : isC E) : zsh E 33 = (20, 5) := congrFun hE.1 33
theorem cC_33 {E : zE} (hE : isC E) : 33 < zN E := by rw [hE.2]; decide
theorem sC_34 {E : zE} (hE : isC E) : zsh E 34 = (2, 2) := congrFun hE.1 34
theorem cC_34 {E : zE} (hE : isC E) : 34 < zN E := by rw [hE.2]; decide
theorem sC_35 {E : zE} (hE : isC E) : zsh E 35 = (20, 6) := congrFun hE.1 35
theorem cC_35 {E : zE} (hE : isC E) : 35 < zN E := by rw [hE.2]; decide
theorem sC_36 {E : zE} (hE : isC E) : zsh E 36 = (20, 8) := congrFun hE.1 36
theorem cC_36 {E : zE} (hE : isC E) : 36 < zN E := by rw [hE.2]; decide
theorem sC_37 {E : zE} (hE : isC E) : zsh E 37 = (20, 8) := congrFun hE.1 37
theorem cC_37 {E : zE} (hE : isC E) : 37 < zN E := by rw [hE.2]; decide
theorem sC_38 {E : zE} (hE : isC E) : zsh E 38 = (20, 480) := congrFun hE.1 38
theorem cC_38 {E : zE} (hE : isC E) : 38 < zN E := by rw [hE.2]; decide
theorem sC_39 {E : zE} (hE : isC E) : zsh E 39 = (20, 35) := congrFun hE.1 39
theorem cC_39 {E : zE} (hE : isC E) : 39 < zN E := by rw [hE.2]; decide
theorem sC_40 {E : zE} (hE : isC E) : zsh E 40 = (20, 80) := congrFun hE.1 40
theorem cC_40 {E : zE} (hE : isC E) : 40 < zN E := by rw [hE.2]; decide
theorem sC_41 {E : zE} (hE : isC E) : zsh E 41 = (5, 5) := congrFun hE.1 41
theorem cC_41 {E : zE} (hE : isC E) : 41 < zN E := by rw [hE.2]; decide
theorem sC_42 {E : zE} (hE : isC E) : zsh E 42 = (20, 64) := congrFun hE.1 42
theorem cC_42 {E : zE} (hE : isC E) : 42 < zN E := by rw [hE.2]; decide
theorem sC_43 {E : zE} (hE : isC E) : zsh E 43 = (20, 64) := congrFun hE.1 43
theorem cC_43 {E : zE} (hE : isC E) : 43 < zN E := by rw [hE.2]; decide
theorem sC_44 {E : zE} (hE : isC E) : zsh E 44 = (23, 64) := congrFun hE.1 44
theorem cC_44 {E : zE} (hE : isC E) : 44 < zN E := by rw [hE.2]; decide
theorem sC_45 {E : zE} (hE : isC E) : zsh E 45 = (23, 6) := congrFun hE.1 45
theorem cC_45 {E : zE} (hE : isC E) : 45 < zN E := by rw [hE.2]; decide
theorem sC_46 {E : zE} (hE : isC E) : zsh E 46 = (3, 6) := congrFun hE.1 46
theorem cC_46 {E : zE} (hE : isC E) : 46 < zN E := by rw [hE.2]; decide
theorem sC_47 {E : zE} (hE : isC E) : zsh E 47 = (20, 60) := congrFun hE.1 47
theorem cC_47 {E : zE} (hE : isC E) : 47 < zN E := by rw [hE.2]; decide
theorem sC_48 {E : zE} (hE : isC E) : zsh E 48 = (20, 60) := congrFun hE.1 48
theorem cC_48 {E : zE} (hE : isC E) : 48 < zN E := by rw [hE.2]; decide
theorem sC_49 {E : zE} (hE : isC E) : zsh E 49 = (20, 60) := congrFun hE.1 49
theorem cC_49 {E : zE} (hE : isC E) : 49 < zN E := by rw [hE.2]; decide
theorem sC_50 {E : zE} (hE : isC E) : zsh E 50 = (20, 60) := congrFun hE.1 50
theorem cC_50 {E : zE} (hE : isC E) : 50 < zN E := by rw [hE.2]; decide
theorem sC_51 {E : zE} (hE : isC E) : zsh E 51 = (20, 60) := congrFun hE.1 51
theorem cC_51 {E : zE} (hE : isC E) : 51 < zN E := by rw [hE.2]; decide
theorem sC_52 {E : zE} (hE : isC E) : zsh E 52 = (0, 13) := congrFun hE.1 52
theorem cC_52 {E : zE} (hE : isC E) : 52 < zN E := by rw [hE.2]; decide
theorem sC_53 {E : zE} (hE : isC E) : zsh E 53 = (20, 480) := congrFun hE.1 53
theorem cC_53 {E : zE} (hE : isC E) : 53 < zN E := by rw [hE.2]; decide
theorem sC_54 {E : zE} (hE : isC E) : zsh E 54 = (20, 8) := congrFun hE.1 54
theorem cC_54 {E : zE} (hE : isC E) : 54 < zN E := by rw [hE.2]; decide
theorem sC_55 {E : zE} (hE : isC E) : zsh E 55 = (20, 80) := congrFun hE.1 55
theorem cC_55 {E : zE} (hE : isC E) : 55 < zN E := by rw [hE.2]; decide
theorem sC_56 {E : zE} (hE : isC E) : zsh E 56 = (20, 80) := congrFun hE.1 56
theorem cC_56 {E : zE} (hE : isC E) : 56 < zN E := by rw [hE.2]; decide
theorem sC_57 {E : zE} (hE : isC E) : zsh E 57 = (20, 8) := congrFun hE.1 57
theorem cC_57 {E : zE} (hE : isC E) : 57 < zN E := by rw [hE.2]; decide
theorem sC_58 {E : zE} (hE : isC E) : zsh E 58 = (20, 8) := congrFun hE.1 58
theorem cC_58 {E : zE} (hE : isC E) : 58 < zN E := by rw [hE.2]; decide
theorem sC_59 {E : zE} (hE : isC E) : zsh E 59 = (20, 96) := congrFun hE.1 59
theorem cC_59 {E : zE} (hE : isC E) : 59 < zN E := by rw [hE.2]; decide
theorem sC_60 {E : zE} (hE : isC E) : zsh E 60 = (20, 96) := congrFun hE.1 60
theorem cC_60 {E : zE} (hE : isC E) : 60 < zN E := by rw [hE.2]; decide
theorem sC_61 {E : zE} (hE : isC E) : zsh E 61 = (20, 96) := congrFun hE.1 61
theorem cC_61 {E : zE} (hE : isC E) : 61 < zN E := by rw [hE.2]; decide
theorem sC_62 {E : zE} (hE : isC E) : zsh E 62 = (20, 96) := congrFun hE.1 62
theorem cC_62 {E : zE} (hE : isC E) : 62 < zN E := by rw [hE.2]; decide
theorem sC_63 {E : zE} (hE : isC E) : zsh E 63 = (23, 120) := congrFun hE.1 63
theorem cC_63 {E : zE} (hE : isC E) : 63 < zN E := by rw [hE.2]; decide
theorem sC_64 {E : zE} (hE : isC E) : zsh E 64 = (0, 13) := congrFun hE.1 64
theorem cC_64 {E : zE} (hE : isC E) : 64 < zN E := by rw [hE.2]; decide
theorem sC_65 {E : zE} (hE : isC E) : zsh E 65 = (20, 480) := congrFun hE.1 65
theorem cC_65 {E : zE} (hE : isC E) : 65 < zN E := by rw [hE.2]; decide
theorem sC_66 {E : zE} (hE : isC E) : zsh E 66 = (20, 8) := congrFun hE.1 66
theorem cC_66 {E : zE} (hE : isC E) : 66 < zN E := by rw [hE.2]; decide
theorem sC_67 {E : zE} (hE : isC E) : zsh E 67 = (20, 80) := congrFun hE.1 67
theorem cC_67 {E : zE} (hE : isC E) : 67 < zN E := by rw [hE.2]; decide
theorem sC_68 {E : zE} (hE : isC E) : zsh E 68 = (20, 80) := congrFun hE.1 68
theorem cC_68 {E : zE} (hE : isC E) : 68 < zN E := by rw [hE.2]; decide
theorem sC_69 {E : zE} (hE : isC E) : zsh E 69 = (20, 8) := congrFun hE.1 69
theorem cC_69 {E : zE} (hE : isC E) : 69 < zN E := by rw [hE.2]; decide
theorem sC_70 {E : zE} (hE : isC E) : zsh E 70 = (20, 8) := congrFun hE.1 70
theorem cC_70 {E : zE} (hE : isC E) : 70 < zN E := by rw [hE.2]; decide
theorem sC_71 {E : zE} (hE : isC E) : zsh E 71 = (20, 96) := congrFun hE.1 71
theorem cC_71 {E : zE} (hE : isC E) : 71 < zN E := by rw [hE.2]; decide
theorem sC_72 {E : zE} (hE : isC E) : zsh E 72 = (20, 96) := congrFun hE.1 72
theorem cC_72 {E : zE} (hE : isC E) : 72 < zN E := by rw [hE.2]; decide
theorem sC_73 {E : zE} (hE : isC E) : zsh E 73 = (20, 96) := congrFun hE.1 73
theorem cC_73 {E : zE} (hE : isC E) : 73 < zN E := by rw [hE.2]; decide
theorem sC_74 {E : zE} (hE : isC E) : zsh E 74 = (20, 96) := congrFun hE.1 74
theorem cC_74 {E : zE} (hE : isC E) : 74 < zN E := by rw [hE.2]; decide
theorem sC_75 {E : zE} (hE : isC E) : zsh E 75 = (23, 120) := congrFun hE.1 75
theorem cC_75 {E : zE} (hE : isC E) : 75 < zN E := by rw [hE.2]; decide
theorem sC_76 {E : zE} (hE : isC E) : zsh E 76 = (7, 2) := congrFun hE.1 76
theorem cC_76 {E : zE} (hE : isC E) : 76 < zN E := by rw [hE.2]; decide
theorem sC_77 {E : zE} (hE : isC E) : zsh E 77 = (20, 8) := congrFun hE.1 77
theorem cC_77 {E : zE} (hE : isC E) : 77 < zN E := by rw [hE.2]; decide
theorem sC_78 {E : zE} (hE : isC E) : zsh E 78 = (7, 2) := congrFun hE.1 78
theorem cC_78 {E : zE} (hE : isC E) : 78 < zN E := by rw [hE.2]; decide
theorem sC_79 {E : zE} (hE : isC E) : zsh E 79 = (20, 8) := congrFun hE.1 79
theorem cC_79 {E : zE} (hE : isC E) : 79 < zN E := by rw [hE.2]; decide
theorem sC_80 {E : zE} (hE : isC E) : zsh E 80 = (23, 9) := congrFun hE.1 80
theorem cC_80 {E : zE} (hE : isC E) : 80 < zN E := by rw [hE.2]; decide
theorem sR_0 {E : zE} (hE : isR E) : zsh E 0 = (10, 86) := congrFun hE.1 0
theorem cR_0 {E : zE} (hE : isR E) : 0 < zN E := by rw [hE.2]; decide
theorem sR_1 {E : zE} (hE : isR E) : zsh E 1 = (20, 900) := congrFun hE.1 1
theorem cR_1 {E : zE} (hE : isR E) : 1 < zN E := by rw [hE.2]; decide
theorem sR_2 {E : zE} (hE : isR E) : zsh E 2 = (20, 8) := congrFun hE.1 2
theorem cR_2 {E : zE} (hE : isR E) : 2 < zN E := by rw [hE.2]; decide
theorem sR_3 {E : zE} (hE : isR E) : zsh E 3 = (20, 16) := congrFun hE.1 3
theorem cR_3 {E : zE} (hE : isR E) : 3 < zN E := by rw [hE.2]; decide
theorem sR_4 {E : zE} (hE : isR E) : zsh E 4 = (20, 16) := congrFun hE.1 4
theorem cR_4 {E : zE} (hE : isR E) : 4 < zN E := by rw [hE.2]; decide
theorem sR_5 {E : zE} (hE : isR E) : zsh E 5 = (20, 16) := congrFun hE.1 5
theorem cR_5 {E : zE} (hE : isR E) : 5 < zN E := by rw [hE.2]; decide
theorem sR_6 {E : zE} (hE : isR E) : zsh E 6 = (20, 160) := congrFun hE.1 6
theorem cR_6 {E : zE} (hE : isR E) : 6 < zN E := by rw [hE.2]; decide
theorem sR_7 {E : zE} (hE : isR E) : zsh E 7 = (20, 160) := congrFun hE.1 7
theorem cR_7 {E : zE} (hE : isR E) : 7 < zN E := by rw [hE.2]; decide
theorem sR_8 {E : zE} (hE : isR E) : zsh E 8 = (20, 160) := congrFun hE.1 8
theorem cR_8 {E : zE} (hE : isR E) : 8 < zN E := by rw [hE.2]; decide
theorem sR_9 {E : zE} (hE : isR E) : zsh E 9 = (20, 160) := congrFun hE.1 9
theorem cR_9 {E : zE} (hE : isR E) : 9 < zN E := by rw [hE.2]; decide
theorem sR_10 {E : zE} (hE : isR E) : zsh E 10 = (22, 160) := congrFun hE.1 10
theorem cR_10 {E : zE} (hE : isR E) : 10 < zN E := by rw [hE.2]; decide
theorem sR_11 {E : zE} (hE : isR E) : zsh E 11 = (22, 160) := congrFun hE.1 11
theorem cR_11 {E : zE} (hE : isR E) : 11 < zN E := by rw [hE.2]; decide
theorem sR_12 {E : zE} (hE : isR E) : zsh E 12 = (20, 10) := congrFun hE.1 12
theorem cR_12 {E : zE} (hE : isR E) : 12 < zN E := by rw [hE.2]; decide
theorem sR_13 {E : zE} (hE : isR E) : zsh E 13 = (20, 10) := congrFun hE.1 13
theorem cR_13 {E : zE} (hE : isR E) : 13 < zN E := by rw [hE.2]; decide
theorem sR_14 {E : zE} (hE : isR E) : zsh E 14 = (20, 60) := congrFun hE.1 14
theorem cR_14 {E : zE} (hE : isR E) : 14 < zN E := by rw [hE.2]; decide
theorem sR_15 {E : zE} (hE : isR E) : zsh E 15 = (20, 12) := congrFun hE.1 15
theorem cR_15 {E : zE} (hE : isR E) : 15 < zN E := by rw [hE.2]; decide
theorem sR_16 {E : zE} (hE : isR E) : zsh E 16 = (20, 40) := congrFun hE.1 16
theorem cR_16 {E : zE} (hE : isR E) : 16 < zN E := by rw [hE.2]; decide
theorem sR_17 {E : zE} (hE : isR E) : zsh E 17 = (20, 40) := congrFun hE.1 17
theorem cR_17 {E : zE} (hE : isR E) : 17 < zN E := by rw [hE.2]; decide
theorem sR_18 {E : zE} (hE : isR E) : zsh E 18 = (20, 40) := congrFun hE.1 18
theorem cR_18 {E : zE} (hE : isR E) : 18 < zN E := by rw [hE.2]; decide
theorem sR_19 {E : zE} (hE : isR E) : zsh E 19 = (22, 40) := congrFun hE.1 19
theorem cR_19 {E : zE} (hE : isR E) : 19 < zN E := by rw [hE.2]; decide
theorem sR_20 {E : zE} (hE : isR E) : zsh E 20 = (20, 128) := congrFun hE.1 20
theorem cR_20 {E : zE} (hE : isR E) : 20 < zN E := by rw [hE.2]; decide
theorem sR_21 {E : zE} (hE : isR E) : zsh E 21 = (20, 128) := congrFun hE.1 21
theorem cR_21 {E : zE} (hE : isR E) : 21 < zN E := by rw [hE.2]; decide
theorem sR_22 {E : zE} (hE : isR E) : zsh E 22 = (20, 60) := congrFun hE.1 22
theorem cR_22 {E : zE} (hE : isR E) : 22 < zN E := by rw [hE.2]; decide
theorem sR_23 {E : zE} (hE : isR E) : zsh E 23 = (20, 60) := congrFun hE.1 23
theorem cR_23 {E : zE} (hE : isR E) : 23 < zN E := by rw [hE.2]; decide
theorem sR_24 {E : zE} (hE : isR E) : zsh E 24 = (20, 60) := congrFun hE.1 24
theorem cR_24 {E : zE} (hE : isR E) : 24 < zN E := by rw [hE.2]; decide
theorem sR_25 {E : zE} (hE : isR E) : zsh E 25 = (20, 60) := congrFun hE.1 25
theorem cR_25 {E : zE} (hE : isR E) : 25 < zN E := by rw [hE.2]; decide
theorem sR_26 {E : zE} (hE : isR E) : zsh E 26 = (22, 60) := congrFun hE.1 26
theorem cR_26 {E : zE} (hE : isR E) : 26 < zN E := by rw [hE.2]; decide
theorem sR_27 {E : zE} (hE : isR E) : zsh E 27 = (20, 80) := congrFun hE.1 27
theorem cR_27 {E : zE} (hE : isR E) : 27 < zN E := by rw [hE.2]; decide
theorem sR_28 {E : zE} (hE : isR E) : zsh E 28 = (20, 80) := congrFun hE.1 28
theorem cR_28 {E : zE} (hE : isR E) : 28 < zN E := by rw [hE.2]; decide
theorem sR_29 {E : zE} (hE : isR E) : zsh E 29 = (22, 80) := congrFun hE.1 29
theorem cR_29 {E : zE} (hE : isR E) : 29 < zN E := by rw [hE.2]; decide
theorem sR_30 {E : zE} (hE : isR E) : zsh E 30 = (20, 10) := congrFun hE.1 30
theorem cR_30 {E : zE} (hE : isR E) : 30 < zN E := by rw [hE.2]; decide
theorem sR_31 {E : zE} (hE : isR E) : zsh E 31 = (20, 10) := congrFun hE.1 31
theorem cR_31 {E : zE} (hE : isR E) : 31 < zN E := by rw [hE.2]; decide
theorem sR_32 {E : zE} (hE : isR E) : zsh E 32 = (20, 10) := congrFun hE.1 32
theorem cR_32 {E : zE} (hE : isR E) : 32 < zN E := by rw [hE.2]; decide
theorem sR_33 {E : zE} (hE : isR E) : zsh E 33 = (20, 96) := congrFun hE.1 33
theorem cR_33 {E : zE} (hE : isR E) : 33 < zN E := by rw [hE.2]; decide
theorem sR_34 {E : zE} (hE : isR E) : zsh E 34 = (20, 96) := congrFun hE.1 34
theorem cR_34 {E : zE} (hE : isR E) : 34 < zN E := by rw [hE.2]; decide
theorem sR_35 {E : zE} (hE : isR E) : zsh E 35 = (20, 8) := congrFun hE.1 35
theorem cR_35 {E : zE} (hE : isR E) : 35 < zN E := by rw [hE.2]; decide
theorem sR_36 {E : zE} (hE : isR E) : zsh E 36 = (20, 8) := congrFun hE.1 36
theorem cR_36 {E : zE} (hE : isR E) : 36 < zN E := by rw [hE.2]; decide
theorem sR_37 {E : zE} (hE : isR E) : zsh E 37 = (23, 64) := congrFun hE.1 37
theorem cR_37 {E : zE} (hE : isR E) : 37 < zN E := by rw [hE.2]; decide
theorem sR_38 {E : zE} (hE : isR E) : zsh E 38 = (23, 6) := congrFun hE.1 38
theorem cR_38 {E : zE} (hE : isR E) : 38 < zN E := by rw [hE.2]; decide
theorem sR_39 {E : zE} (hE : isR E) : zsh E 39 = (20, 8) := congrFun hE.1 39
theorem cR_39 {E : zE} (hE : isR E) : 39 < zN E := by rw [hE.2]; decide
theorem sR_40 {E : zE} (hE : isR E) : zsh E 40 = (20, 9) := congrFun hE.1 40
theorem cR_40 {E : zE} (hE : isR E) : 40 < zN E := by rw [hE.2]; decide
theorem sR_41 {E : zE} (hE : isR E) : zsh E 41 = (20, 8) := congrFun hE.1 41
theorem cR_41 {E : zE} (hE : isR E) : 41 < zN E := by rw [hE.2]; decide
