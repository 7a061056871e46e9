set_option maxRecDepth 20000 in
theorem eX6_push {E : zE} (hE : isC E) {d : Nat} {x1 : Int} {h : zH} {K : zH → Prop} (hyp :
  ((72 ≤ (h 6 1) →
    K h) ∧
  (¬ (72 ≤ (h 6 1)) →
    ((0 : Int) ≤ h 6 1 ∧ h 6 1 < (72 : Int)) ∧
    ∀ h_2 : zH, h_2 = hset h 7 ((h 6 1).toNat) x1 →
    ∀ h_3 : zH, h_3 = hset h_2 6 1 (w32 ((h_2 6 1) + 1)) →
    K h_3))) :
  zCV E mX6_push d [zR 6, zI x1] h K := by
  refine zC_in (L0 := [zR 6, zI x1]) pn_X6 rfl (Nat.le_of_ble_eq_true rfl) ?_
  refine z_aload_n dX6_push_0 rfl ?_
  refine gf_X6_15 dX6_push_1 rfl (sC_6 hE) (cC_6 hE) ?_
  refine z_aload_n dX6_push_4 rfl ?_
  refine gf_X6_9 (c2 := 7) dX6_push_5 rfl (sC_6 hE) (cC_6 hE) rfl ?_
  refine z_alen dX6_push_8 (sC_7 hE) (by decide) (by decide) (by decide) (cC_7 hE) ?_
  refine z_icmp_ge (tgt := 32) dX6_push_9 (by decide) (fun c_1 => ?_) (fun c_1 => ?_)
  · have hyp := hyp.1 c_1
    exact z_vret dX6_push_32 rfl ⟨rfl, hyp⟩
  · have hyp := hyp.2 c_1
    refine z_aload_n dX6_push_12 rfl ?_
    refine gf_X6_9 (c2 := 7) dX6_push_13 rfl (sC_6 hE) (cC_6 hE) rfl ?_
    refine z_aload_n dX6_push_16 rfl ?_
    refine gf_X6_15 dX6_push_17 rfl (sC_6 hE) (cC_6 hE) ?_
    refine z_iload_n dX6_push_20 rfl ?_
    obtain ⟨⟨hi0, hi1⟩, hyp⟩ := hyp
    refine z_iastore dX6_push_21 (sC_7 hE) (cC_7 hE) hi0 hi1 ?_
    generalize eh_2 : hset h 7 _ x1 = h_2
    have hyp := hyp h_2 eh_2.symm
    refine z_aload_n dX6_push_22 rfl ?_
    refine z_dup dX6_push_23 rfl ?_
    refine gf_X6_15 dX6_push_24 rfl (sC_6 hE) (cC_6 hE) ?_
    refine z_iconst dX6_push_27 (r32d rfl) ?_
    refine z_iadd dX6_push_28 ?_
    refine pf_X6_15 dX6_push_29 rfl (sC_6 hE) (cC_6 hE) ?_
    generalize eh_3 : hset h_2 6 1 _ = h_3
    have hyp := hyp h_3 eh_3.symm
    exact z_vret dX6_push_32 rfl ⟨rfl, hyp⟩
set_option maxRecDepth 20000 in
theorem bX6_rankOf_141 {E : zE} (hE : isC E) {d : Nat} {h : zH} {K : Int → zH → Prop} (hyp :
  K 0 h) :
  zG E mX6_rankOf d 141 [zU] [] h (qI K) := by
  refine z_iconst dX6_rankOf_141 (r32d rfl) ?_
  exact z_iret dX6_rankOf_142 rfl ⟨_, rfl, hyp⟩
set_option maxRecDepth 20000 in
theorem eX6_rankOf {E : zE} (hE : isC E) {d : Nat} {x0 : Int} {h : zH} {K : Int → zH → Prop} (hyp :
  ((x0 = 7 ∨ x0 = 8) →
      K 5 h) ∧
  ((x0 = 9 ∨ x0 = 10) →
      K 6 h) ∧
  ((x0 = 11 ∨ x0 = 12 ∨ x0 = 13 ∨ x0 = 14 ∨ x0 = 15 ∨ x0 = 16) →
      K 4 h) ∧
  ((x0 = 32) →
      K 1 h) ∧
  ((x0 = 33) →
      K 2 h) ∧
  ((x0 = 34) →
      K 3 h) ∧
  ((x0 ≠ 7 ∧ x0 ≠ 8 ∧ x0 ≠ 9 ∧ x0 ≠ 10 ∧ x0 ≠ 11 ∧ x0 ≠ 12 ∧ x0 ≠ 13 ∧ x0 ≠ 14 ∧ x0 ≠ 15 ∧ x0 ≠ 16 ∧ x0 ≠ 32 ∧ x0 ≠ 33 ∧ x0 ≠ 34) →
    zG E mX6_rankOf d 141 [zU] [] h (qI K))) :
  zCI E mX6_rankOf d [zI x0] h K := by
  refine zC_in (L0 := [zI x0]) pn_X6 rfl (Nat.le_of_ble_eq_true rfl) ?_
  refine z_iload_n dX6_rankOf_0 rfl ?_
  have hgo : (x0 ≠ 7 ∧ x0 ≠ 8 ∧ x0 ≠ 9 ∧ x0 ≠ 10 ∧ x0 ≠ 11 ∧ x0 ≠ 12 ∧ x0 ≠ 13 ∧ x0 ≠ 14 ∧ x0 ≠ 15 ∧ x0 ≠ 16 ∧ x0 ≠ 32 ∧ x0 ≠ 33 ∧ x0 ≠ 34) → zG E mX6_rankOf d 141 [zI x0] [] h (qI K) := by
    intro hcc
    have hyp := hyp.2.2.2.2.2.2 hcc
    exact z_forget [false] rfl hyp
  by_cases cr : x0 < 7 ∨ 34 < x0
  · exact z_tsOut (tgt := 141) dX6_rankOf_1 cr (by decide) (hgo ⟨tsne cr (by decide) (by decide), tsne cr (by decide) (by decide), tsne cr (by decide) (by decide), tsne cr (by decide) (by decide), tsne cr (by decide) (by decide), tsne cr (by decide) (by decide), tsne cr (by decide) (by decide), tsne cr (by decide) (by decide), tsne cr (by decide) (by decide), tsne cr (by decide) (by decide), tsne cr (by decide) (by decide), tsne cr (by decide) (by decide), tsne cr (by decide) (by decide)⟩)
  by_cases c_1 : x0 = 7 ∨ x0 = 8
  · have hyp := hyp.1 c_1
    have hgo : zG E mX6_rankOf d 136 [zI x0] [] h (qI K) := by
      refine z_iconst dX6_rankOf_136 (r32d rfl) ?_
      exact z_iret dX6_rankOf_137 rfl ⟨_, rfl, hyp⟩
    rcases c_1 with c_1 | c_1
    · exact z_tsIn (i := 0) (tgt := 136) dX6_rankOf_1 (c_1.trans (by decide)) (by decide) rfl (by decide) hgo
    · exact z_tsIn (i := 1) (tgt := 136) dX6_rankOf_1 (c_1.trans (by decide)) (by decide) rfl (by decide) hgo
  by_cases c_2 : x0 = 9 ∨ x0 = 10
  · have hyp := hyp.2.1 c_2
    have hgo : zG E mX6_rankOf d 138 [zI x0] [] h (qI K) := by
      refine z_bipush dX6_rankOf_138 (r32d rfl) (by decide) ?_
      exact z_iret dX6_rankOf_140 rfl ⟨_, rfl, hyp⟩
    rcases c_2 with c_2 | c_2
    · exact z_tsIn (i := 2) (tgt := 138) dX6_rankOf_1 (c_2.trans (by decide)) (by decide) rfl (by decide) hgo
    · exact z_tsIn (i := 3) (tgt := 138) dX6_rankOf_1 (c_2.trans (by decide)) (by decide) rfl (by decide) hgo
  by_cases c_3 : x0 = 11 ∨ x0 = 12 ∨ x0 = 13 ∨ x0 = 14 ∨ x0 = 15 ∨ x0 = 16
  · have hyp := hyp.2.2.1 c_3
    have hgo : zG E mX6_rankOf d 134 [zI x0] [] h (qI K) := by
      refine z_iconst dX6_rankOf_134 (r32d rfl) ?_
      exact z_iret dX6_rankOf_135 rfl ⟨_, rfl, hyp⟩
    rcases c_3 with c_3 | c_3 | c_3 | c_3 | c_3 | c_3
    · exact z_tsIn (i := 4) (tgt := 134) dX6_rankOf_1 (c_3.trans (by decide)) (by decide) rfl (by decide) hgo
    · exact z_tsIn (i := 5) (tgt := 134) dX6_rankOf_1 (c_3.trans (by decide)) (by decide) rfl (by decide) hgo
    · exact z_tsIn (i := 6) (tgt := 134) dX6_rankOf_1 (c_3.trans (by decide)) (by decide) rfl (by decide) hgo
    · exact z_tsIn (i := 7) (tgt := 134) dX6_rankOf_1 (c_3.trans (by decide)) (by decide) rfl (by decide) hgo
    · exact z_tsIn (i := 8) (tgt := 134) dX6_rankOf_1 (c_3.trans (by decide)) (by decide) rfl (by decide) hgo
    · exact z_tsIn (i := 9) (tgt := 134) dX6_rankOf_1 (c_3.trans (by decide)) (by decide) rfl (by decide) hgo
  by_cases c_4 : x0 = 32
  · have hyp := hyp.2.2.2.1 c_4
    have hgo : zG E mX6_rankOf d 128 [zI x0] [] h (qI K) := by
      refine z_iconst dX6_rankOf_128 (r32d rfl) ?_
      exact z_iret dX6_rankOf_129 rfl ⟨_, rfl, hyp⟩
    exact z_tsIn (i := 25) (tgt := 128) dX6_rankOf_1 (c_4.trans (by decide)) (by decide) rfl (by decide) hgo
  by_cases c_5 : x0 = 33
  · have hyp := hyp.2.2.2.2.1 c_5
    have hgo : zG E mX6_rankOf d 130 [zI x0] [] h (qI K) := by
      refine z_iconst dX6_rankOf_130 (r32d rfl) ?_
      exact z_iret dX6_rankOf_131 rfl ⟨_, rfl, hyp⟩
    exact z_tsIn (i := 26) (tgt := 130) dX6_rankOf_1 (c_5.trans (by decide)) (by decide) rfl (by decide) hgo
  by_cases c_6 : x0 = 34
  · have hyp := hyp.2.2.2.2.2.1 c_6
    have hgo : zG E mX6_rankOf d 132 [zI x0] [] h (qI K) := by
      refine z_iconst dX6_rankOf_132 (r32d rfl) ?_
      exact z_iret dX6_rankOf_133 rfl ⟨_, rfl, hyp⟩
    exact z_tsIn (i := 27) (tgt := 132) dX6_rankOf_1 (c_6.trans (by decide)) (by decide) rfl (by decide) hgo
  by_cases c_7 : x0 = 17
  · exact z_tsIn (i := 10) (tgt := 141) dX6_rankOf_1 (c_7.trans (by decide)) (by decide) rfl (by decide) (hgo (by rw [c_7]; decide))
  by_cases c_8 : x0 = 18
  · exact z_tsIn (i := 11) (tgt := 141) dX6_rankOf_1 (c_8.trans (by decide)) (by decide) rfl (by decide) (hgo (by rw [c_8]; decide))
  by_cases c_9 : x0 = 19
  · exact z_tsIn (i := 12) (tgt := 141) dX6_rankOf_1 (c_9.trans (by decide)) (by decide) rfl (by decide) (hgo (by rw [c_9]; decide))
  by_cases c_10 : x0 = 20
  · exact z_tsIn (i := 13) (tgt := 141) dX6_rankOf_1 (c_10.trans (by decide)) (by decide) rfl (by decide) (hgo (by rw [c_10]; decide))
  by_cases c_11 : x0 = 21
  · exact z_tsIn (i := 14) (tgt := 141) dX6_rankOf_1 (c_11.trans (by decide)) (by decide) rfl (by decide) (hgo (by rw [c_11]; decide))
  by_cases c_12 : x0 = 22
  · exact z_tsIn (i := 15) (tgt := 141) dX6_rankOf_1 (c_12.trans (by decide)) (by decide) rfl (by decide) (hgo (by rw [c_12]; decide))
  by_cases c_13 : x0 = 23
  · exact z_tsIn (i := 16) (tgt := 141) dX6_rankOf_1 (c_13.trans (by decide)) (by decide) rfl (by decide) (hgo (by rw [c_13]; decide))
  by_cases c_14 : x0 = 24
  · exact z_tsIn (i := 17) (tgt := 141) dX6_rankOf_1 (c_14.trans (by decide)) (by decide) rfl (by decide) (hgo (by rw [c_14]; decide))
  by_cases c_15 : x0 = 25
  · exact z_tsIn (i := 18) (tgt := 141) dX6_rankOf_1 (c_15.trans (by decide)) (by decide) rfl (by decide) (hgo (by rw [c_15]; decide))
  by_cases c_16 : x0 = 26
  · exact z_tsIn (i := 19) (tgt := 141) dX6_rankOf_1 (c_16.trans (by decide)) (by decide) rfl (by decide) (hgo (by rw [c_16]; decide))
  by_cases c_17 : x0 = 27
  · exact z_tsIn (i := 20) (tgt := 141) dX6_rankOf_1 (c_17.trans (by decide)) (by decide) rfl (by decide) (hgo (by rw [c_17]; decide))
  by_cases c_18 : x0 = 28
  · exact z_tsIn (i := 21) (tgt := 141) dX6_rankOf_1 (c_18.trans (by decide)) (by decide) rfl (by decide) (hgo (by rw [c_18]; decide))
  by_cases c_19 : x0 = 29
  · exact z_tsIn (i := 22) (tgt := 141) dX6_rankOf_1 (c_19.trans (by decide)) (by decide) rfl (by decide) (hgo (by rw [c_19]; decide))
  by_cases c_20 : x0 = 30
  · exact z_tsIn (i := 23) (tgt := 141) dX6_rankOf_1 (c_20.trans (by decide)) (by decide) rfl (by decide) (hgo (by rw [c_20]; decide))
  by_cases c_21 : x0 = 31
  · exact z_tsIn (i := 24) (tgt := 141) dX6_rankOf_1 (c_21.trans (by decide)) (by decide) rfl (by decide) (hgo (by rw [c_21]; decide))
  exact absurd (tsbs (tsbs (tsbs (tsbs (tsbs (tsbs (tsbs (tsbs (tsbs (tsbs (tsbs (tsbs (tsbs (tsbs (tsbs (tsbs (tsbs (tsbs (tsbs (tsbs (tsbs (tsbs (tsbs (tsbs (tsbs (tsbs (tsbs (tsbs (tsb1 cr) (fun z => c_1 (Or.inl z))) (fun z => c_1 (Or.inr (z)))) (fun z => c_2 (Or.inl z))) (fun z => c_2 (Or.inr (z)))) (fun z => c_3 (Or.inl z))) (fun z => c_3 (Or.inr (Or.inl z)))) (fun z => c_3 (Or.inr (Or.inr (Or.inl z))))) (fun z => c_3 (Or.inr (Or.inr (Or.inr (Or.inl z)))))) (fun z => c_3 (Or.inr (Or.inr (Or.inr (Or.inr (Or.inl z))))))) (fun z => c_3 (Or.inr (Or.inr (Or.inr (Or.inr (Or.inr (z)))))))) c_7) c_8) c_9) c_10) c_11) c_12) c_13) c_14) c_15) c_16) c_17) c_18) c_19) c_20) c_21) c_4) c_5) c_6) (tsb2 cr)
set_option maxRecDepth 20000 in
theorem bX6_read_32 {E : zE} (hE : isC E) {r2 : Nat} (hr2 : isRu E r2) {d : Nat} {x3 : Int} {h : zH} {K : Int → zH → Prop} (hyp :
  ((900 < x3 →
    K 0 h) ∧
  (¬ (900 < x3) →
    (((h 6 5) ≠ 0 →
      K 0 h) ∧
    (¬ ((h 6 5) ≠ 0) →
      (((h 6 4) = 0 →
        zCI E mX6_takeSign d [zR 6, zI (h 3 4), zR r2] h (fun r_4 h_4 =>
          zG E mX6_read (d + 1) 71 [zR 6, zR 3, zR r2, zI x3, zU] [zI r_4] h_4 (qI K))) ∧
      (¬ ((h 6 4) = 0) →
        zCI E mX6_takeOperand d [zR 6, zR 3, zR r2] h (fun r_5 h_5 =>
          zG E mX6_read (d + 1) 71 [zR 6, zR 3, zR r2, zI x3, zU] [zI r_5] h_5 (qI K))))))))) :
  zG E mX6_read (d + 1) 32 [zR 6, zR 3, zR r2, zI x3, zU] [] h (qI K) := by
  refine z_iload_n dX6_read_32 rfl ?_
  refine z_sipush dX6_read_33 (r32d rfl) (by decide) ?_
  refine z_icmp_gt (tgt := 98) dX6_read_36 (by decide) (fun c_1 => ?_) (fun c_1 => ?_)
  · have hyp := hyp.1 c_1
    refine z_iconst dX6_read_98 (r32d rfl) ?_
    exact z_iret dX6_read_99 rfl ⟨_, rfl, hyp⟩
  · have hyp := hyp.2 c_1
    refine z_aload_n dX6_read_39 rfl ?_
    refine gf_X6_29 dX6_read_40 rfl (sC_6 hE) (cC_6 hE) ?_
    refine z_if_ne (tgt := 98) dX6_read_43 (by decide) (fun c_2 => ?_) (fun c_2 => ?_)
    · have hyp := hyp.1 c_2
      refine z_iconst dX6_read_98 (r32d rfl) ?_
      exact z_iret dX6_read_99 rfl ⟨_, rfl, hyp⟩
    · have hyp := hyp.2 c_2
      refine z_aload_n dX6_read_46 rfl ?_
      refine gf_X6_25 dX6_read_47 rfl (sC_6 hE) (cC_6 hE) ?_
      refine z_if_eq (tgt := 62) dX6_read_50 (by decide) (fun c_3 => ?_) (fun c_3 => ?_)
      · have hyp := hyp.1 c_3
        refine z_aload_n dX6_read_62 rfl ?_
        refine z_aload_n dX6_read_63 rfl ?_
        refine gf_X6_39 dX6_read_64 rfl (sC_3 hE) (cC_3 hE) ?_
        refine z_aload_n dX6_read_67 rfl ?_
        refine cl_X6_44 dX6_read_68 rfl (sC_6 hE) (cC_6 hE) (Nat.le_of_ble_eq_true rfl) (zC_mono ?_ hyp)
        rintro _ h_4 ⟨r_4, rfl, hyp⟩
        refine ⟨r_4, rfl, ?_⟩
        exact hyp
      · have hyp := hyp.2 c_3
        refine z_aload_n dX6_read_53 rfl ?_
        refine z_aload_n dX6_read_54 rfl ?_
        refine z_aload_n dX6_read_55 rfl ?_
        refine cl_X6_35 dX6_read_56 rfl (sC_6 hE) (cC_6 hE) (Nat.le_of_ble_eq_true rfl) (zC_mono ?_ hyp)
        rintro _ h_5 ⟨r_5, rfl, hyp⟩
        refine ⟨r_5, rfl, ?_⟩
        refine z_goto (tgt := 71) dX6_read_59 (by decide) ?_
        exact hyp
set_option maxRecDepth 20000 in
theorem bX6_read_71 {E : zE} (hE : isC E) {r2 : Nat} (hr2 : isRu E r2) {d : Nat} {x3 s0 : Int} {h : zH} {K : Int → zH → Prop} (hyp :
  ((s0 = 0 →
    (((h 6 5) ≠ 0 →
      ∀ x_3 : Int, x_3 = w32 (x3 + 1) →
      zG E mX6_read (d + 1) 32 [zR 6, zR 3, zR r2, zI x_3, zU] [] h (qI K)) ∧
    (¬ ((h 6 5) ≠ 0) →
      zCV E mX1_advance d [zR 3] h (fun h_4 =>
        ∀ x_5 : Int, x_5 = w32 (x3 + 1) →
        zG E mX6_read (d + 1) 32 [zR 6, zR 3, zR r2, zI x_5, zU] [] h_4 (qI K))))) ∧
  (¬ (s0 = 0) →
    K s0 h))) :
  zG E mX6_read (d + 1) 71 [zR 6, zR 3, zR r2, zI x3, zU] [zI s0] h (qI K) := by
  refine z_istore dX6_read_71 (by decide) rfl ?_
  refine z_iload dX6_read_73 rfl ?_
  refine z_if_eq (tgt := 81) dX6_read_75 (by decide) (fun c_1 => ?_) (fun c_1 => ?_)
  · have hyp := hyp.1 c_1
    refine z_aload_n dX6_read_81 rfl ?_
    refine gf_X6_29 dX6_read_82 rfl (sC_6 hE) (cC_6 hE) ?_
    refine z_if_ne (tgt := 92) dX6_read_85 (by decide) (fun c_2 => ?_) (fun c_2 => ?_)
    · have hyp := hyp.1 c_2
      refine z_iinc dX6_read_92 rfl (by decide) rfl ?_
      generalize ex_3 : w32 (x3 + 1) = x_3
      have hyp := hyp x_3 ex_3.symm
      refine z_goto (tgt := 32) dX6_read_95 (by decide) ?_
      exact z_forget [true, true, true, true, false] rfl hyp
    · have hyp := hyp.2 c_2
      refine z_aload_n dX6_read_88 rfl ?_
      refine cl_X6_48 dX6_read_89 rfl (sC_3 hE) (cC_3 hE) (Nat.le_of_ble_eq_true rfl) (zC_mono ?_ hyp)
      rintro _ h_4 ⟨rfl, hyp⟩
      refine ⟨rfl, ?_⟩
      refine z_iinc dX6_read_92 rfl (by decide) rfl ?_
      generalize ex_5 : w32 (x3 + 1) = x_5
      have hyp := hyp x_5 ex_5.symm
      refine z_goto (tgt := 32) dX6_read_95 (by decide) ?_
      exact z_forget [true, true, true, true, false] rfl hyp
  · have hyp := hyp.2 c_1
    refine z_iload dX6_read_78 rfl ?_
    exact z_iret dX6_read_80 rfl ⟨_, rfl, hyp⟩
set_option maxRecDepth 20000 in
theorem eX6_read {E : zE} (hE : isC E) {r2 : Nat} (hr2 : isRu E r2) {d : Nat} {h : zH} {K : Int → zH → Prop} (hyp :
  ∀ h_1 : zH, h_1 = hset h r2 4 0 →
  ∀ h_2 : zH, h_2 = hset h_1 6 1 0 →
  ∀ h_3 : zH, h_3 = hset h_2 6 2 0 →
  ∀ h_4 : zH, h_4 = hset h_3 6 3 0 →
  ∀ h_5 : zH, h_5 = hset h_4 6 4 1 →
  ∀ h_6 : zH, h_6 = hset h_5 6 5 0 →
  zG E mX6_read (d + 1) 32 [zR 6, zR 3, zR r2, zI 0, zU] [] h_6 (qI K)) :
  zCI E mX6_read (d + 1) [zR 6, zR 3, zR r2] h K := by
  refine zC_in (L0 := [zR 6, zR 3, zR r2, zU, zU]) pn_X6 rfl (Nat.le_of_ble_eq_true rfl) ?_
  refine z_aload_n dX6_read_0 rfl ?_
  refine z_iconst dX6_read_1 (r32d rfl) ?_
  refine pf_X6_32 dX6_read_2 rfl ((hr2.2.1)) (Nat.lt_of_le_of_lt (Nat.le_add_right r2 4) hr2.1) ?_
  generalize eh_1 : hset h r2 4 _ = h_1
  have hyp := hyp h_1 eh_1.symm
  refine z_aload_n dX6_read_5 rfl ?_
  refine z_iconst dX6_read_6 (r32d rfl) ?_
  refine pf_X6_15 dX6_read_7 rfl (sC_6 hE) (cC_6 hE) ?_
  generalize eh_2 : hset h_1 6 1 _ = h_2
  have hyp := hyp h_2 eh_2.symm
  refine z_aload_n dX6_read_10 rfl ?_
  refine z_iconst dX6_read_11 (r32d rfl) ?_
  refine pf_X6_19 dX6_read_12 rfl (sC_6 hE) (cC_6 hE) ?_
  generalize eh_3 : hset h_2 6 2 _ = h_3
  have hyp := hyp h_3 eh_3.symm
  refine z_aload_n dX6_read_15 rfl ?_
  refine z_iconst dX6_read_16 (r32d rfl) ?_
  refine pf_X6_22 dX6_read_17 rfl (sC_6 hE) (cC_6 hE) ?_
  generalize eh_4 : hset h_3 6 3 _ = h_4
  have hyp := hyp h_4 eh_4.symm
  refine z_aload_n dX6_read_20 rfl ?_
  refine z_iconst dX6_read_21 (r32d rfl) ?_
  refine pf_X6_25 dX6_read_22 rfl (sC_6 hE) (cC_6 hE) (Or.inr rfl) ?_
  generalize eh_5 : hset h_4 6 4 _ = h_5
  have hyp := hyp h_5 eh_5.symm
  refine z_aload_n dX6_read_25 rfl ?_
  refine z_iconst dX6_read_26 (r32d rfl) ?_
  refine pf_X6_29 dX6_read_27 rfl (sC_6 hE) (cC_6 hE) (Or.inl rfl) ?_
  generalize eh_6 : hset h_5 6 5 _ = h_6
  have hyp := hyp h_6 eh_6.symm
  refine z_iconst dX6_read_30 (r32d rfl) ?_
  refine z_istore_n dX6_read_31 rfl (by decide) rfl ?_
  exact hyp
set_option maxRecDepth 20000 in
theorem bX6_settle_0 {E : zE} (hE : isC E) {r2 : Nat} (hr2 : isRu E r2) {d : Nat} {x1 : Int} {h : zH} {K : zH → Prop} (hyp :
  (((h 6 1) ≤ 0 →
    K h) ∧
  (¬ ((h 6 1) ≤ 0) →
    ((0 : Int) ≤ w32 ((h 6 1) - 1) ∧ w32 ((h 6 1) - 1) < (72 : Int)) ∧
    zCI E mX6_rankOf d [zI (h 7 (w32 ((h 6 1) - 1)).toNat)] h (fun r_2 h_2 =>
      ((r_2 < x1 →
        K h_2) ∧
      (¬ (r_2 < x1) →
        ∀ h_4 : zH, h_4 = hset h_2 6 1 (w32 ((h_2 6 1) - 1)) →
        ((0 : Int) ≤ h_4 6 1 ∧ h_4 6 1 < (72 : Int)) ∧
        zCV E mX5_put d [zR r2, zI (h_4 7 (h_4 6 1).toNat), zI 0] h_4 (fun h_5 =>
          zG E mX6_settle (d + 1) 0 [zR 6, zI x1, zR r2] [] h_5 (qV K)))))))) :
  zG E mX6_settle (d + 1) 0 [zR 6, zI x1, zR r2] [] h (qV K) := by
  refine z_aload_n dX6_settle_0 rfl ?_
  refine gf_X6_15 dX6_settle_1 rfl (sC_6 hE) (cC_6 hE) ?_
  refine z_if_le (tgt := 52) dX6_settle_4 (by decide) (fun c_1 => ?_) (fun c_1 => ?_)
  · have hyp := hyp.1 c_1
    exact z_vret dX6_settle_52 rfl ⟨rfl, hyp⟩
  · have hyp := hyp.2 c_1
    refine z_aload_n dX6_settle_7 rfl ?_
    refine gf_X6_9 (c2 := 7) dX6_settle_8 rfl (sC_6 hE) (cC_6 hE) rfl ?_
    refine z_aload_n dX6_settle_11 rfl ?_
    refine gf_X6_15 dX6_settle_12 rfl (sC_6 hE) (cC_6 hE) ?_
    refine z_iconst dX6_settle_15 (r32d rfl) ?_
    refine z_isub dX6_settle_16 ?_
    obtain ⟨⟨hi0, hi1⟩, hyp⟩ := hyp
    refine z_iaload dX6_settle_17 (sC_7 hE) (cC_7 hE) hi0 hi1 ?_
    refine cl_X6_55 dX6_settle_18 rfl (Nat.le_of_ble_eq_true rfl) (zC_mono ?_ hyp)
    rintro _ h_2 ⟨r_2, rfl, hyp⟩
    refine ⟨r_2, rfl, ?_⟩
    refine z_iload_n dX6_settle_21 rfl ?_
    refine z_icmp_lt (tgt := 52) dX6_settle_22 (by decide) (fun c_3 => ?_) (fun c_3 => ?_)
    · have hyp := hyp.1 c_3
      exact z_vret dX6_settle_52 rfl ⟨rfl, hyp⟩
    · have hyp := hyp.2 c_3
      refine z_aload_n dX6_settle_25 rfl ?_
      refine z_dup dX6_settle_26 rfl ?_
      refine gf_X6_15 dX6_settle_27 rfl (sC_6 hE) (cC_6 hE) ?_
      refine z_iconst dX6_settle_30 (r32d rfl) ?_
      refine z_isub dX6_settle_31 ?_
      refine pf_X6_15 dX6_settle_32 rfl (sC_6 hE) (cC_6 hE) ?_
      generalize eh_4 : hset h_2 6 1 _ = h_4
      have hyp := hyp h_4 eh_4.symm
      refine z_aload_n dX6_settle_35 rfl ?_
      refine z_aload_n dX6_settle_36 rfl ?_
      refine gf_X6_9 (c2 := 7) dX6_settle_37 rfl (sC_6 hE) (cC_6 hE) rfl ?_
      refine z_aload_n dX6_settle_40 rfl ?_
      refine gf_X6_15 dX6_settle_41 rfl (sC_6 hE) (cC_6 hE) ?_
      obtain ⟨⟨hi0, hi1⟩, hyp⟩ := hyp
      refine z_iaload dX6_settle_44 (sC_7 hE) (cC_7 hE) hi0 hi1 ?_
      refine z_iconst dX6_settle_45 (r32d rfl) ?_
      refine cl_X6_66 dX6_settle_46 rfl ((hr2.2.1)) (Nat.lt_of_le_of_lt (Nat.le_add_right r2 4) hr2.1) (Nat.le_of_ble_eq_true rfl) (zC_mono ?_ hyp)
      rintro _ h_5 ⟨rfl, hyp⟩
      refine ⟨rfl, ?_⟩
      refine z_goto (tgt := 0) dX6_settle_49 (by decide) ?_
      exact hyp
set_option maxRecDepth 20000 in
theorem eX6_settle {E : zE} (hE : isC E) {r2 : Nat} (hr2 : isRu E r2) {d : Nat} {x1 : Int} {h : zH} {K : zH → Prop} (hyp :
  zG E mX6_settle (d + 1) 0 [zR 6, zI x1, zR r2] [] h (qV K)) :
  zCV E mX6_settle (d + 1) [zR 6, zI x1, zR r2] h K := by
  refine zC_in (L0 := [zR 6, zI x1, zR r2]) pn_X6 rfl (Nat.le_of_ble_eq_true rfl) ?_
  exact hyp
set_option maxRecDepth 20000 in
theorem bX6_takeOperand_90 {E : zE} (hE : isC E) {r2 : Nat} (hr2 : isRu E r2) {d : Nat} {x3 x4 : Int} {h : zH} {K : Int → zH → Prop} (hyp :
  ((64 ≤ (h 6 3) →
    K 2 h) ∧
  (¬ (64 ≤ (h 6 3)) →
    ((x3 ≠ 3 →
      zG E mX6_takeOperand (d + 1) 116 [zR 6, zR 3, zR r2, zI x3, zI x4] [] h (qI K)) ∧
    (¬ (x3 ≠ 3) →
      (((h 3 6) ≤ 9999 →
        zG E mX6_takeOperand (d + 1) 116 [zR 6, zR 3, zR r2, zI x3, zI x4] [] h (qI K)) ∧
      (¬ ((h 3 6) ≤ 9999) →
        K 2 h))))))) :
  zG E mX6_takeOperand (d + 1) 90 [zR 6, zR 3, zR r2, zI x3, zI x4] [] h (qI K) := by
  refine z_aload_n dX6_takeOperand_90 rfl ?_
  refine gf_X6_22 dX6_takeOperand_91 rfl (sC_6 hE) (cC_6 hE) ?_
  refine z_bipush dX6_takeOperand_94 (r32d rfl) (by decide) ?_
  refine z_icmp_ge (tgt := 114) dX6_takeOperand_96 (by decide) (fun c_1 => ?_) (fun c_1 => ?_)
  · have hyp := hyp.1 c_1
    refine z_iconst dX6_takeOperand_114 (r32d rfl) ?_
    exact z_iret dX6_takeOperand_115 rfl ⟨_, rfl, hyp⟩
  · have hyp := hyp.2 c_1
    refine z_iload_n dX6_takeOperand_99 rfl ?_
    refine z_iconst dX6_takeOperand_100 (r32d rfl) ?_
    refine z_icmp_ne (tgt := 116) dX6_takeOperand_101 (by decide) (fun c_2 => ?_) (fun c_2 => ?_)
    · have hyp := hyp.1 c_2
      exact hyp
    · have hyp := hyp.2 c_2
      refine z_aload_n dX6_takeOperand_104 rfl ?_
      refine gf_X6_63 dX6_takeOperand_105 rfl (sC_3 hE) (cC_3 hE) ?_
      refine z_sipush dX6_takeOperand_108 (r32d rfl) (by decide) ?_
      refine z_icmp_le (tgt := 116) dX6_takeOperand_111 (by decide) (fun c_3 => ?_) (fun c_3 => ?_)
      · have hyp := hyp.1 c_3
        exact hyp
      · have hyp := hyp.2 c_3
        refine z_iconst dX6_takeOperand_114 (r32d rfl) ?_
        exact z_iret dX6_takeOperand_115 rfl ⟨_, rfl, hyp⟩
set_option maxRecDepth 20000 in
theorem bX6_takeOperand_116 {E : zE} (hE : isC E) {r2 : Nat} (hr2 : isRu E r2) {d : Nat} {x3 x4 : Int} {h : zH} {K : Int → zH → Prop} (hyp :
  ∀ h_1 : zH, h_1 = hset h 6 3 (w32 ((h 6 3) + 1)) →
  ((x4 = 0 →
    zCV E mX5_put d [zR r2, zI x3, zI (h_1 3 6)] h_1 (fun h_3 =>
      ∀ h_4 : zH, h_4 = hset h_3 6 4 0 →
      K 0 h_4)) ∧
  (¬ (x4 = 0) →
    zCV E mX6_push d [zR 6, zI x3] h_1 (fun h_5 =>
      K 0 h_5)))) :
  zG E mX6_takeOperand (d + 1) 116 [zR 6, zR 3, zR r2, zI x3, zI x4] [] h (qI K) := by
  refine z_aload_n dX6_takeOperand_116 rfl ?_
  refine z_dup dX6_takeOperand_117 rfl ?_
  refine gf_X6_22 dX6_takeOperand_118 rfl (sC_6 hE) (cC_6 hE) ?_
  refine z_iconst dX6_takeOperand_121 (r32d rfl) ?_
  refine z_iadd dX6_takeOperand_122 ?_
  refine pf_X6_22 dX6_takeOperand_123 rfl (sC_6 hE) (cC_6 hE) ?_
  generalize eh_1 : hset h 6 3 _ = h_1
  have hyp := hyp h_1 eh_1.symm
  refine z_iload dX6_takeOperand_126 rfl ?_
  refine z_if_eq (tgt := 139) dX6_takeOperand_128 (by decide) (fun c_2 => ?_) (fun c_2 => ?_)
  · have hyp := hyp.1 c_2
    refine z_aload_n dX6_takeOperand_139 rfl ?_
    refine z_iload_n dX6_takeOperand_140 rfl ?_
    refine z_aload_n dX6_takeOperand_141 rfl ?_
    refine gf_X6_63 dX6_takeOperand_142 rfl (sC_3 hE) (cC_3 hE) ?_
    refine cl_X6_66 dX6_takeOperand_145 rfl ((hr2.2.1)) (Nat.lt_of_le_of_lt (Nat.le_add_right r2 4) hr2.1) (Nat.le_of_ble_eq_true rfl) (zC_mono ?_ hyp)
    rintro _ h_3 ⟨rfl, hyp⟩
    refine ⟨rfl, ?_⟩
    refine z_aload_n dX6_takeOperand_148 rfl ?_
    refine z_iconst dX6_takeOperand_149 (r32d rfl) ?_
    refine pf_X6_25 dX6_takeOperand_150 rfl (sC_6 hE) (cC_6 hE) (Or.inl rfl) ?_
    generalize eh_4 : hset h_3 6 4 _ = h_4
    have hyp := hyp h_4 eh_4.symm
    refine z_iconst dX6_takeOperand_153 (r32d rfl) ?_
    exact z_iret dX6_takeOperand_154 rfl ⟨_, rfl, hyp⟩
  · have hyp := hyp.2 c_2
    refine z_aload_n dX6_takeOperand_131 rfl ?_
    refine z_iload_n dX6_takeOperand_132 rfl ?_
    refine cl_X6_51 dX6_takeOperand_133 rfl (sC_6 hE) (cC_6 hE) (Nat.le_of_ble_eq_true rfl) (zC_mono ?_ hyp)
    rintro _ h_5 ⟨rfl, hyp⟩
    refine ⟨rfl, ?_⟩
    refine z_goto (tgt := 153) dX6_takeOperand_136 (by decide) ?_
    refine z_iconst dX6_takeOperand_153 (r32d rfl) ?_
    exact z_iret dX6_takeOperand_154 rfl ⟨_, rfl, hyp⟩
set_option maxRecDepth 20000 in
theorem eX6_takeOperand {E : zE} (hE : isC E) {r2 : Nat} (hr2 : isRu E r2) {d : Nat} {h : zH} {K : Int → zH → Prop} (hyp :
  ∀ x_1 : Int, x_1 = h 3 4 →
  ((x_1 ≠ 5 →
    ((x_1 ≠ 34 →
      zCI E mX5_isOperand d [zI x_1] h (fun r_5 h_5 =>
        ((r_5 ≠ 0 →
          zG E mX6_takeOperand (d + 1) 90 [zR 6, zR 3, zR r2, zI x_1, zI 0] [] h_5 (qI K)) ∧
        (¬ (r_5 ≠ 0) →
          K 1 h_5)))) ∧
    (¬ (x_1 ≠ 34) →
      (((h 6 1) = 0 →
        zG E mX6_takeOperand (d + 1) 90 [zR 6, zR 3, zR r2, zI x_1, zI 1] [] h (qI K)) ∧
      (¬ ((h 6 1) = 0) →
        ((0 : Int) ≤ w32 ((h 6 1) - 1) ∧ w32 ((h 6 1) - 1) < (72 : Int)) ∧
        zCI E mX6_rankOf d [zI (h 7 (w32 ((h 6 1) - 1)).toNat)] h (fun r_9 h_9 =>
          ((3 < r_9 →
            zCI E mX5_isOperand d [zI x_1] h_9 (fun r_12 h_12 =>
              ((r_12 ≠ 0 →
                zG E mX6_takeOperand (d + 1) 90 [zR 6, zR 3, zR r2, zI x_1, zI 0] [] h_12 (qI K)) ∧
              (¬ (r_12 ≠ 0) →
                K 1 h_12)))) ∧
          (¬ (3 < r_9) →
            zG E mX6_takeOperand (d + 1) 90 [zR 6, zR 3, zR r2, zI x_1, zI 1] [] h_9 (qI K))))))))) ∧
  (¬ (x_1 ≠ 5) →
    (((h 6 2) < 8 →
      ∀ h_16 : zH, h_16 = hset h 6 2 (w32 ((h 6 2) + 1)) →
      zCV E mX6_push d [zR 6, zI x_1] h_16 (fun h_17 =>
        K 0 h_17)) ∧
    (¬ ((h 6 2) < 8) →
      K 2 h))))) :
  zCI E mX6_takeOperand (d + 1) [zR 6, zR 3, zR r2] h K := by
  refine zC_in (L0 := [zR 6, zR 3, zR r2, zU, zU]) pn_X6 rfl (Nat.le_of_ble_eq_true rfl) ?_
  refine z_aload_n dX6_takeOperand_0 rfl ?_
  refine gf_X6_39 dX6_takeOperand_1 rfl (sC_3 hE) (cC_3 hE) ?_
  generalize ex_1 : h 3 4 = x_1
  have hyp := hyp x_1 ex_1.symm
  refine z_istore_n dX6_takeOperand_4 rfl (by decide) rfl ?_
  refine z_iload_n dX6_takeOperand_5 rfl ?_
  refine z_iconst dX6_takeOperand_6 (r32d rfl) ?_
  refine z_icmp_ne (tgt := 38) dX6_takeOperand_7 (by decide) (fun c_2 => ?_) (fun c_2 => ?_)
  · have hyp := hyp.1 c_2
    refine z_iload_n dX6_takeOperand_38 rfl ?_
    refine z_bipush dX6_takeOperand_39 (r32d rfl) (by decide) ?_
    refine z_icmp_ne (tgt := 73) dX6_takeOperand_41 (by decide) (fun c_3 => ?_) (fun c_3 => ?_)
    · have hyp := hyp.1 c_3
      refine z_iconst dX6_takeOperand_73 (r32d rfl) ?_
      refine z_istore dX6_takeOperand_74 (by decide) rfl ?_
      refine z_iload dX6_takeOperand_76 rfl ?_
      refine z_if_ne (tgt := 90) dX6_takeOperand_78 (by decide) (fun c_4 => absurd c_4 (by decide)) (fun _ => ?_)
      refine z_iload_n dX6_takeOperand_81 rfl ?_
      refine cl_X6_59 dX6_takeOperand_82 rfl (Nat.le_of_ble_eq_true rfl) (zC_mono ?_ hyp)
      rintro _ h_5 ⟨r_5, rfl, hyp⟩
      refine ⟨r_5, rfl, ?_⟩
      refine z_if_ne (tgt := 90) dX6_takeOperand_85 (by decide) (fun c_6 => ?_) (fun c_6 => ?_)
      · have hyp := hyp.1 c_6
        exact hyp
      · have hyp := hyp.2 c_6
        refine z_iconst dX6_takeOperand_88 (r32d rfl) ?_
        exact z_iret dX6_takeOperand_89 rfl ⟨_, rfl, hyp⟩
    · have hyp := hyp.2 c_3
      refine z_aload_n dX6_takeOperand_44 rfl ?_
      refine gf_X6_15 dX6_takeOperand_45 rfl (sC_6 hE) (cC_6 hE) ?_
      refine z_if_eq (tgt := 69) dX6_takeOperand_48 (by decide) (fun c_7 => ?_) (fun c_7 => ?_)
      · have hyp := hyp.1 c_7
        refine z_iconst dX6_takeOperand_69 (r32d rfl) ?_
        refine z_goto (tgt := 74) dX6_takeOperand_70 (by decide) ?_
        refine z_istore dX6_takeOperand_74 (by decide) rfl ?_
        refine z_iload dX6_takeOperand_76 rfl ?_
        refine z_if_ne (tgt := 90) dX6_takeOperand_78 (by decide) (fun _ => ?_) (fun c_8 => absurd (by decide) c_8)
        exact hyp
      · have hyp := hyp.2 c_7
        refine z_aload_n dX6_takeOperand_51 rfl ?_
        refine gf_X6_9 (c2 := 7) dX6_takeOperand_52 rfl (sC_6 hE) (cC_6 hE) rfl ?_
        refine z_aload_n dX6_takeOperand_55 rfl ?_
        refine gf_X6_15 dX6_takeOperand_56 rfl (sC_6 hE) (cC_6 hE) ?_
        refine z_iconst dX6_takeOperand_59 (r32d rfl) ?_
        refine z_isub dX6_takeOperand_60 ?_
        obtain ⟨⟨hi0, hi1⟩, hyp⟩ := hyp
        refine z_iaload dX6_takeOperand_61 (sC_7 hE) (cC_7 hE) hi0 hi1 ?_
        refine cl_X6_55 dX6_takeOperand_62 rfl (Nat.le_of_ble_eq_true rfl) (zC_mono ?_ hyp)
        rintro _ h_9 ⟨r_9, rfl, hyp⟩
        refine ⟨r_9, rfl, ?_⟩
        refine z_iconst dX6_takeOperand_65 (r32d rfl) ?_
        refine z_icmp_gt (tgt := 73) dX6_takeOperand_66 (by decide) (fun c_10 => ?_) (fun c_10 => ?_)
        · have hyp := hyp.1 c_10
          refine z_iconst dX6_takeOperand_73 (r32d rfl) ?_
          refine z_istore dX6_takeOperand_74 (by decide) rfl ?_
          refine z_iload dX6_takeOperand_76 rfl ?_
          refine z_if_ne (tgt := 90) dX6_takeOperand_78 (by decide) (fun c_11 => absurd c_11 (by decide)) (fun _ => ?_)
          refine z_iload_n dX6_takeOperand_81 rfl ?_
          refine cl_X6_59 dX6_takeOperand_82 rfl (Nat.le_of_ble_eq_true rfl) (zC_mono ?_ hyp)
          rintro _ h_12 ⟨r_12, rfl, hyp⟩
          refine ⟨r_12, rfl, ?_⟩
          refine z_if_ne (tgt := 90) dX6_takeOperand_85 (by decide) (fun c_13 => ?_) (fun c_13 => ?_)
          · have hyp := hyp.1 c_13
            exact hyp
          · have hyp := hyp.2 c_13
            refine z_iconst dX6_takeOperand_88 (r32d rfl) ?_
            exact z_iret dX6_takeOperand_89 rfl ⟨_, rfl, hyp⟩
        · have hyp := hyp.2 c_10
          refine z_iconst dX6_takeOperand_69 (r32d rfl) ?_
          refine z_goto (tgt := 74) dX6_takeOperand_70 (by decide) ?_
          refine z_istore dX6_takeOperand_74 (by decide) rfl ?_
          refine z_iload dX6_takeOperand_76 rfl ?_
          refine z_if_ne (tgt := 90) dX6_takeOperand_78 (by decide) (fun _ => ?_) (fun c_14 => absurd (by decide) c_14)
          exact hyp
  · have hyp := hyp.2 c_2
    refine z_aload_n dX6_takeOperand_10 rfl ?_
    refine gf_X6_19 dX6_takeOperand_11 rfl (sC_6 hE) (cC_6 hE) ?_
    refine z_bipush dX6_takeOperand_14 (r32d rfl) (by decide) ?_
    refine z_icmp_lt (tgt := 21) dX6_takeOperand_16 (by decide) (fun c_15 => ?_) (fun c_15 => ?_)
    · have hyp := hyp.1 c_15
      refine z_aload_n dX6_takeOperand_21 rfl ?_
      refine z_dup dX6_takeOperand_22 rfl ?_
      refine gf_X6_19 dX6_takeOperand_23 rfl (sC_6 hE) (cC_6 hE) ?_
      refine z_iconst dX6_takeOperand_26 (r32d rfl) ?_
      refine z_iadd dX6_takeOperand_27 ?_
      refine pf_X6_19 dX6_takeOperand_28 rfl (sC_6 hE) (cC_6 hE) ?_
      generalize eh_16 : hset h 6 2 _ = h_16
      have hyp := hyp h_16 eh_16.symm
      refine z_aload_n dX6_takeOperand_31 rfl ?_
      refine z_iload_n dX6_takeOperand_32 rfl ?_
      refine cl_X6_51 dX6_takeOperand_33 rfl (sC_6 hE) (cC_6 hE) (Nat.le_of_ble_eq_true rfl) (zC_mono ?_ hyp)
      rintro _ h_17 ⟨rfl, hyp⟩
      refine ⟨rfl, ?_⟩
      refine z_iconst dX6_takeOperand_36 (r32d rfl) ?_
      exact z_iret dX6_takeOperand_37 rfl ⟨_, rfl, hyp⟩
    · have hyp := hyp.2 c_15
      refine z_iconst dX6_takeOperand_19 (r32d rfl) ?_
      exact z_iret dX6_takeOperand_20 rfl ⟨_, rfl, hyp⟩
set_option maxRecDepth 20000 in
theorem bX6_takeSign_59 {E : zE} (hE : isC E) {r2 : Nat} (hr2 : isRu E r2) {d : Nat} {x1 s0 : Int} {h : zH} {K : Int → zH → Prop} (hyp :
  ((s0 ≠ 0 →
    ((s0 ≠ 4 →
      zG E mX6_takeSign (d + 1) 137 [zR 6, zI x1, zR r2, zI s0] [] h (qI K)) ∧
    (¬ (s0 ≠ 4) →
      zCV E mX6_settle d [zR 6, zI 5, zR r2] h (fun h_3 =>
        (((h_3 6 1) ≤ 0 →
          zG E mX6_takeSign (d + 1) 137 [zR 6, zI x1, zR r2, zI s0] [] h_3 (qI K)) ∧
        (¬ ((h_3 6 1) ≤ 0) →
          ((0 : Int) ≤ w32 ((h_3 6 1) - 1) ∧ w32 ((h_3 6 1) - 1) < (72 : Int)) ∧
          zCI E mX6_rankOf d [zI (h_3 7 (w32 ((h_3 6 1) - 1)).toNat)] h_3 (fun r_5 h_5 =>
            ((r_5 ≠ 4 →
              zG E mX6_takeSign (d + 1) 137 [zR 6, zI x1, zR r2, zI s0] [] h_5 (qI K)) ∧
            (¬ (r_5 ≠ 4) →
              K 1 h_5))))))))) ∧
  (¬ (s0 ≠ 0) →
    zCV E mX6_settle d [zR 6, zI 1, zR r2] h (fun h_7 =>
      (((h_7 6 2) ≠ 0 →
        ∀ h_9 : zH, h_9 = hset h_7 6 5 0 →
        (((h_9 6 5) = 0 →
          K 1 h_9) ∧
        (¬ ((h_9 6 5) = 0) →
          K 0 h_9))) ∧
      (¬ ((h_7 6 2) ≠ 0) →
        ∀ h_11 : zH, h_11 = hset h_7 6 5 1 →
        (((h_11 6 5) = 0 →
          K 1 h_11) ∧
        (¬ ((h_11 6 5) = 0) →
          K 0 h_11)))))))) :
  zG E mX6_takeSign (d + 1) 59 [zR 6, zI x1, zR r2, zU] [zI s0] h (qI K) := by
  refine z_istore_n dX6_takeSign_59 rfl (by decide) rfl ?_
  refine z_iload_n dX6_takeSign_60 rfl ?_
  refine z_if_ne (tgt := 99) dX6_takeSign_61 (by decide) (fun c_1 => ?_) (fun c_1 => ?_)
  · have hyp := hyp.1 c_1
    refine z_iload_n dX6_takeSign_99 rfl ?_
    refine z_iconst dX6_takeSign_100 (r32d rfl) ?_
    refine z_icmp_ne (tgt := 137) dX6_takeSign_101 (by decide) (fun c_2 => ?_) (fun c_2 => ?_)
    · have hyp := hyp.1 c_2
      exact hyp
    · have hyp := hyp.2 c_2
      refine z_aload_n dX6_takeSign_104 rfl ?_
      refine z_iconst dX6_takeSign_105 (r32d rfl) ?_
      refine z_aload_n dX6_takeSign_106 rfl ?_
      refine cl_X6_70 dX6_takeSign_107 rfl (sC_6 hE) (cC_6 hE) (Nat.le_of_ble_eq_true rfl) (zC_mono ?_ hyp)
      rintro _ h_3 ⟨rfl, hyp⟩
      refine ⟨rfl, ?_⟩
      refine z_aload_n dX6_takeSign_110 rfl ?_
      refine gf_X6_15 dX6_takeSign_111 rfl (sC_6 hE) (cC_6 hE) ?_
      refine z_if_le (tgt := 137) dX6_takeSign_114 (by decide) (fun c_4 => ?_) (fun c_4 => ?_)
      · have hyp := hyp.1 c_4
        exact hyp
      · have hyp := hyp.2 c_4
        refine z_aload_n dX6_takeSign_117 rfl ?_
        refine gf_X6_9 (c2 := 7) dX6_takeSign_118 rfl (sC_6 hE) (cC_6 hE) rfl ?_
        refine z_aload_n dX6_takeSign_121 rfl ?_
        refine gf_X6_15 dX6_takeSign_122 rfl (sC_6 hE) (cC_6 hE) ?_
        refine z_iconst dX6_takeSign_125 (r32d rfl) ?_
        refine z_isub dX6_takeSign_126 ?_
        obtain ⟨⟨hi0, hi1⟩, hyp⟩ := hyp
        refine z_iaload dX6_takeSign_127 (sC_7 hE) (cC_7 hE) hi0 hi1 ?_
        refine cl_X6_55 dX6_takeSign_128 rfl (Nat.le_of_ble_eq_true rfl) (zC_mono ?_ hyp)
        rintro _ h_5 ⟨r_5, rfl, hyp⟩
        refine ⟨r_5, rfl, ?_⟩
        refine z_iconst dX6_takeSign_131 (r32d rfl) ?_
        refine z_icmp_ne (tgt := 137) dX6_takeSign_132 (by decide) (fun c_6 => ?_) (fun c_6 => ?_)
        · have hyp := hyp.1 c_6
          exact hyp
        · have hyp := hyp.2 c_6
          refine z_iconst dX6_takeSign_135 (r32d rfl) ?_
          exact z_iret dX6_takeSign_136 rfl ⟨_, rfl, hyp⟩
  · have hyp := hyp.2 c_1
    refine z_aload_n dX6_takeSign_64 rfl ?_
    refine z_iconst dX6_takeSign_65 (r32d rfl) ?_
    refine z_aload_n dX6_takeSign_66 rfl ?_
    refine cl_X6_70 dX6_takeSign_67 rfl (sC_6 hE) (cC_6 hE) (Nat.le_of_ble_eq_true rfl) (zC_mono ?_ hyp)
    rintro _ h_7 ⟨rfl, hyp⟩
    refine ⟨rfl, ?_⟩
    refine z_aload_n dX6_takeSign_70 rfl ?_
    refine z_aload_n dX6_takeSign_71 rfl ?_
    refine gf_X6_19 dX6_takeSign_72 rfl (sC_6 hE) (cC_6 hE) ?_
    refine z_if_ne (tgt := 82) dX6_takeSign_75 (by decide) (fun c_8 => ?_) (fun c_8 => ?_)
    · have hyp := hyp.1 c_8
      refine z_iconst dX6_takeSign_82 (r32d rfl) ?_
      refine pf_X6_29 dX6_takeSign_83 rfl (sC_6 hE) (cC_6 hE) (Or.inl rfl) ?_
      generalize eh_9 : hset h_7 6 5 _ = h_9
      have hyp := hyp h_9 eh_9.symm
      refine z_aload_n dX6_takeSign_86 rfl ?_
      refine gf_X6_29 dX6_takeSign_87 rfl (sC_6 hE) (cC_6 hE) ?_
      refine z_if_eq (tgt := 97) dX6_takeSign_90 (by decide) (fun c_10 => ?_) (fun c_10 => ?_)
      · have hyp := hyp.1 c_10
        refine z_iconst dX6_takeSign_97 (r32d rfl) ?_
        exact z_iret dX6_takeSign_98 rfl ⟨_, rfl, hyp⟩
      · have hyp := hyp.2 c_10
        refine z_iconst dX6_takeSign_93 (r32d rfl) ?_
        refine z_goto (tgt := 98) dX6_takeSign_94 (by decide) ?_
        exact z_iret dX6_takeSign_98 rfl ⟨_, rfl, hyp⟩
    · have hyp := hyp.2 c_8
      refine z_iconst dX6_takeSign_78 (r32d rfl) ?_
      refine z_goto (tgt := 83) dX6_takeSign_79 (by decide) ?_
      refine pf_X6_29 dX6_takeSign_83 rfl (sC_6 hE) (cC_6 hE) (Or.inr rfl) ?_
      generalize eh_11 : hset h_7 6 5 _ = h_11
      have hyp := hyp h_11 eh_11.symm
      refine z_aload_n dX6_takeSign_86 rfl ?_
      refine gf_X6_29 dX6_takeSign_87 rfl (sC_6 hE) (cC_6 hE) ?_
      refine z_if_eq (tgt := 97) dX6_takeSign_90 (by decide) (fun c_12 => ?_) (fun c_12 => ?_)
      · have hyp := hyp.1 c_12
        refine z_iconst dX6_takeSign_97 (r32d rfl) ?_
        exact z_iret dX6_takeSign_98 rfl ⟨_, rfl, hyp⟩
      · have hyp := hyp.2 c_12
        refine z_iconst dX6_takeSign_93 (r32d rfl) ?_
        refine z_goto (tgt := 98) dX6_takeSign_94 (by decide) ?_
        exact z_iret dX6_takeSign_98 rfl ⟨_, rfl, hyp⟩
set_option maxRecDepth 20000 in
theorem bX6_takeSign_137 {E : zE} (hE : isC E) {r2 : Nat} (hr2 : isRu E r2) {d : Nat} {x1 x3 : Int} {h : zH} {K : Int → zH → Prop} (hyp :
  (((h 6 3) < 64 →
    ∀ h_2 : zH, h_2 = hset h 6 3 (w32 ((h 6 3) + 1)) →
    zCV E mX6_settle d [zR 6, zI x3, zR r2] h_2 (fun h_3 =>
      zCV E mX6_push d [zR 6, zI x1] h_3 (fun h_4 =>
        ∀ h_5 : zH, h_5 = hset h_4 6 4 1 →
        K 0 h_5))) ∧
  (¬ ((h 6 3) < 64) →
    K 2 h))) :
  zG E mX6_takeSign (d + 1) 137 [zR 6, zI x1, zR r2, zI x3] [] h (qI K) := by
  refine z_aload_n dX6_takeSign_137 rfl ?_
  refine gf_X6_22 dX6_takeSign_138 rfl (sC_6 hE) (cC_6 hE) ?_
  refine z_bipush dX6_takeSign_141 (r32d rfl) (by decide) ?_
  refine z_icmp_lt (tgt := 148) dX6_takeSign_143 (by decide) (fun c_1 => ?_) (fun c_1 => ?_)
  · have hyp := hyp.1 c_1
    refine z_aload_n dX6_takeSign_148 rfl ?_
    refine z_dup dX6_takeSign_149 rfl ?_
    refine gf_X6_22 dX6_takeSign_150 rfl (sC_6 hE) (cC_6 hE) ?_
    refine z_iconst dX6_takeSign_153 (r32d rfl) ?_
    refine z_iadd dX6_takeSign_154 ?_
    refine pf_X6_22 dX6_takeSign_155 rfl (sC_6 hE) (cC_6 hE) ?_
    generalize eh_2 : hset h 6 3 _ = h_2
    have hyp := hyp h_2 eh_2.symm
    refine z_aload_n dX6_takeSign_158 rfl ?_
    refine z_iload_n dX6_takeSign_159 rfl ?_
    refine z_aload_n dX6_takeSign_160 rfl ?_
    refine cl_X6_70 dX6_takeSign_161 rfl (sC_6 hE) (cC_6 hE) (Nat.le_of_ble_eq_true rfl) (zC_mono ?_ hyp)
    rintro _ h_3 ⟨rfl, hyp⟩
    refine ⟨rfl, ?_⟩
    refine z_aload_n dX6_takeSign_164 rfl ?_
    refine z_iload_n dX6_takeSign_165 rfl ?_
    refine cl_X6_51 dX6_takeSign_166 rfl (sC_6 hE) (cC_6 hE) (Nat.le_of_ble_eq_true rfl) (zC_mono ?_ hyp)
    rintro _ h_4 ⟨rfl, hyp⟩
    refine ⟨rfl, ?_⟩
    refine z_aload_n dX6_takeSign_169 rfl ?_
    refine z_iconst dX6_takeSign_170 (r32d rfl) ?_
    refine pf_X6_25 dX6_takeSign_171 rfl (sC_6 hE) (cC_6 hE) (Or.inr rfl) ?_
    generalize eh_5 : hset h_4 6 4 _ = h_5
    have hyp := hyp h_5 eh_5.symm
    refine z_iconst dX6_takeSign_174 (r32d rfl) ?_
    exact z_iret dX6_takeSign_175 rfl ⟨_, rfl, hyp⟩
  · have hyp := hyp.2 c_1
    refine z_iconst dX6_takeSign_146 (r32d rfl) ?_
    exact z_iret dX6_takeSign_147 rfl ⟨_, rfl, hyp⟩
set_option maxRecDepth 20000 in
theorem eX6_takeSign {E : zE} (hE : isC E) {r2 : Nat} (hr2 : isRu E r2) {d : Nat} {x1 : Int} {h : zH} {K : Int → zH → Prop} (hyp :
  ((x1 ≠ 6 →
    ((x1 ≠ 34 →
      zCI E mX6_rankOf d [zI x1] h (fun r_3 h_3 =>
        zG E mX6_takeSign (d + 1) 59 [zR 6, zI x1, zR r2, zU] [zI r_3] h_3 (qI K))) ∧
    (¬ (x1 ≠ 34) →
      zG E mX6_takeSign (d + 1) 59 [zR 6, zI x1, zR r2, zU] [zI 0] h (qI K)))) ∧
  (¬ (x1 ≠ 6) →
    (((h 6 2) ≤ 0 →
      ((x1 ≠ 34 →
        zCI E mX6_rankOf d [zI x1] h (fun r_6 h_6 =>
          zG E mX6_takeSign (d + 1) 59 [zR 6, zI x1, zR r2, zU] [zI r_6] h_6 (qI K))) ∧
      (¬ (x1 ≠ 34) →
        zG E mX6_takeSign (d + 1) 59 [zR 6, zI x1, zR r2, zU] [zI 0] h (qI K)))) ∧
    (¬ ((h 6 2) ≤ 0) →
      zCV E mX6_settle d [zR 6, zI 1, zR r2] h (fun h_7 =>
        ∀ h_8 : zH, h_8 = hset h_7 6 1 (max (w32 ((h_7 6 1) - 1)) 0) →
        ∀ h_9 : zH, h_9 = hset h_8 6 2 (w32 ((h_8 6 2) - 1)) →
        K 0 h_9)))))) :
  zCI E mX6_takeSign (d + 1) [zR 6, zI x1, zR r2] h K := by
  refine zC_in (L0 := [zR 6, zI x1, zR r2, zU]) pn_X6 rfl (Nat.le_of_ble_eq_true rfl) ?_
  refine z_iload_n dX6_takeSign_0 rfl ?_
  refine z_bipush dX6_takeSign_1 (r32d rfl) (by decide) ?_
  refine z_icmp_ne (tgt := 45) dX6_takeSign_3 (by decide) (fun c_1 => ?_) (fun c_1 => ?_)
  · have hyp := hyp.1 c_1
    refine z_iload_n dX6_takeSign_45 rfl ?_
    refine z_bipush dX6_takeSign_46 (r32d rfl) (by decide) ?_
    refine z_icmp_ne (tgt := 55) dX6_takeSign_48 (by decide) (fun c_2 => ?_) (fun c_2 => ?_)
    · have hyp := hyp.1 c_2
      refine z_iload_n dX6_takeSign_55 rfl ?_
      refine cl_X6_55 dX6_takeSign_56 rfl (Nat.le_of_ble_eq_true rfl) (zC_mono ?_ hyp)
      rintro _ h_3 ⟨r_3, rfl, hyp⟩
      refine ⟨r_3, rfl, ?_⟩
      exact hyp
    · have hyp := hyp.2 c_2
      refine z_iconst dX6_takeSign_51 (r32d rfl) ?_
      refine z_goto (tgt := 59) dX6_takeSign_52 (by decide) ?_
      exact hyp
  · have hyp := hyp.2 c_1
    refine z_aload_n dX6_takeSign_6 rfl ?_
    refine gf_X6_19 dX6_takeSign_7 rfl (sC_6 hE) (cC_6 hE) ?_
    refine z_if_le (tgt := 45) dX6_takeSign_10 (by decide) (fun c_4 => ?_) (fun c_4 => ?_)
    · have hyp := hyp.1 c_4
      refine z_iload_n dX6_takeSign_45 rfl ?_
      refine z_bipush dX6_takeSign_46 (r32d rfl) (by decide) ?_
      refine z_icmp_ne (tgt := 55) dX6_takeSign_48 (by decide) (fun c_5 => ?_) (fun c_5 => ?_)
      · have hyp := hyp.1 c_5
        refine z_iload_n dX6_takeSign_55 rfl ?_
        refine cl_X6_55 dX6_takeSign_56 rfl (Nat.le_of_ble_eq_true rfl) (zC_mono ?_ hyp)
        rintro _ h_6 ⟨r_6, rfl, hyp⟩
        refine ⟨r_6, rfl, ?_⟩
        exact hyp
      · have hyp := hyp.2 c_5
        refine z_iconst dX6_takeSign_51 (r32d rfl) ?_
        refine z_goto (tgt := 59) dX6_takeSign_52 (by decide) ?_
        exact hyp
    · have hyp := hyp.2 c_4
      refine z_aload_n dX6_takeSign_13 rfl ?_
      refine z_iconst dX6_takeSign_14 (r32d rfl) ?_
      refine z_aload_n dX6_takeSign_15 rfl ?_
      refine cl_X6_70 dX6_takeSign_16 rfl (sC_6 hE) (cC_6 hE) (Nat.le_of_ble_eq_true rfl) (zC_mono ?_ hyp)
      rintro _ h_7 ⟨rfl, hyp⟩
      refine ⟨rfl, ?_⟩
      refine z_aload_n dX6_takeSign_19 rfl ?_
      refine z_aload_n dX6_takeSign_20 rfl ?_
      refine gf_X6_15 dX6_takeSign_21 rfl (sC_6 hE) (cC_6 hE) ?_
      refine z_iconst dX6_takeSign_24 (r32d rfl) ?_
      refine z_isub dX6_takeSign_25 ?_
      refine z_iconst dX6_takeSign_26 (r32d rfl) ?_
      refine cl_X6_74 dX6_takeSign_27 rfl (Nat.le_of_ble_eq_true rfl) ?_
      refine pf_X6_15 dX6_takeSign_30 rfl (sC_6 hE) (cC_6 hE) ?_
      generalize eh_8 : hset h_7 6 1 _ = h_8
      have hyp := hyp h_8 eh_8.symm
      refine z_aload_n dX6_takeSign_33 rfl ?_
      refine z_dup dX6_takeSign_34 rfl ?_
      refine gf_X6_19 dX6_takeSign_35 rfl (sC_6 hE) (cC_6 hE) ?_
      refine z_iconst dX6_takeSign_38 (r32d rfl) ?_
      refine z_isub dX6_takeSign_39 ?_
      refine pf_X6_19 dX6_takeSign_40 rfl (sC_6 hE) (cC_6 hE) ?_
      generalize eh_9 : hset h_8 6 2 _ = h_9
      have hyp := hyp h_9 eh_9.symm
      refine z_iconst dX6_takeSign_43 (r32d rfl) ?_
      exact z_iret dX6_takeSign_44 rfl ⟨_, rfl, hyp⟩
