set_option maxRecDepth 20000 in
theorem bX4_read_31 {E : zE} (hE : isC E) {r3 : Nat} (hr3 : isSu E r3) {d : Nat} {x2 x4 : Int} {h : zH} {K : Int → zH → Prop} (hyp :
  ((x2 < x4 →
    K 1 h) ∧
  (¬ (x2 < x4) →
    (((h 3 4) = 0 →
      K 1 h) ∧
    (¬ ((h 3 4) = 0) →
      zCI E mX4_readLine d [zR 2, zR r3] h (fun r_3 h_3 =>
        ((r_3 ≠ 0 →
          (((h_3 3 4) = 4 →
            zCV E mX1_advance d [zR 3] h_3 (fun h_6 =>
              ∀ h_7 : zH, h_7 = hset h_6 2 4 (w32 ((h_6 2 4) + 1)) →
              ∀ x_8 : Int, x_8 = w32 (x4 + 1) →
              zG E mX4_read (d + 1) 31 [zR 2, zU, zI x2, zR r3, zI x_8] [] h_7 (qI K))) ∧
          (¬ ((h_3 3 4) = 4) →
            zCI E mX4_refuse d [zR 2, zI 1] h_3 (fun r_9 h_9 =>
              (r_9 = 0 ∨ r_9 = 1) ∧ K r_9 h_9)))) ∧
        (¬ (r_3 ≠ 0) →
          K 0 h_3)))))))) :
  zG E mX4_read (d + 1) 31 [zR 2, zU, zI x2, zR r3, zI x4] [] h (qI K) := by
  refine z_iload dX4_read_31 rfl ?_
  refine z_iload_n dX4_read_33 rfl ?_
  refine z_icmp_gt (tgt := 97) dX4_read_34 (by decide) (fun c_1 => ?_) (fun c_1 => ?_)
  · have hyp := hyp.1 c_1
    refine z_iconst dX4_read_97 (r32d rfl) ?_
    exact z_zret dX4_read_98 rfl (Or.inr rfl) ⟨_, rfl, hyp⟩
  · have hyp := hyp.2 c_1
    refine z_aload_n dX4_read_37 rfl ?_
    refine gf_X4_12 (c2 := 3) dX4_read_38 rfl (sC_2 hE) (cC_2 hE) rfl ?_
    refine gf_X4_47 dX4_read_41 rfl (sC_3 hE) (cC_3 hE) ?_
    refine z_if_eq (tgt := 97) dX4_read_44 (by decide) (fun c_2 => ?_) (fun c_2 => ?_)
    · have hyp := hyp.1 c_2
      refine z_iconst dX4_read_97 (r32d rfl) ?_
      exact z_zret dX4_read_98 rfl (Or.inr rfl) ⟨_, rfl, hyp⟩
    · have hyp := hyp.2 c_2
      refine z_aload_n dX4_read_47 rfl ?_
      refine z_aload_n dX4_read_48 rfl ?_
      refine cl_X4_50 dX4_read_49 rfl (sC_2 hE) (cC_2 hE) (Nat.le_of_ble_eq_true rfl) (zC_mono ?_ hyp)
      rintro _ h_3 ⟨r_3, rfl, hyp⟩
      refine ⟨r_3, rfl, ?_⟩
      refine z_if_ne (tgt := 57) dX4_read_52 (by decide) (fun c_4 => ?_) (fun c_4 => ?_)
      · have hyp := hyp.1 c_4
        refine z_aload_n dX4_read_57 rfl ?_
        refine gf_X4_12 (c2 := 3) dX4_read_58 rfl (sC_2 hE) (cC_2 hE) rfl ?_
        refine gf_X4_47 dX4_read_61 rfl (sC_3 hE) (cC_3 hE) ?_
        refine z_iconst dX4_read_64 (r32d rfl) ?_
        refine z_icmp_eq (tgt := 74) dX4_read_65 (by decide) (fun c_5 => ?_) (fun c_5 => ?_)
        · have hyp := hyp.1 c_5
          refine z_aload_n dX4_read_74 rfl ?_
          refine gf_X4_12 (c2 := 3) dX4_read_75 rfl (sC_2 hE) (cC_2 hE) rfl ?_
          refine cl_X4_58 dX4_read_78 rfl (sC_3 hE) (cC_3 hE) (Nat.le_of_ble_eq_true rfl) (zC_mono ?_ hyp)
          rintro _ h_6 ⟨rfl, hyp⟩
          refine ⟨rfl, ?_⟩
          refine z_aload_n dX4_read_81 rfl ?_
          refine z_dup dX4_read_82 rfl ?_
          refine gf_X4_32 dX4_read_83 rfl (sC_2 hE) (cC_2 hE) ?_
          refine z_iconst dX4_read_86 (r32d rfl) ?_
          refine z_iadd dX4_read_87 ?_
          refine pf_X4_32 dX4_read_88 rfl (sC_2 hE) (cC_2 hE) ?_
          generalize eh_7 : hset h_6 2 4 _ = h_7
          have hyp := hyp h_7 eh_7.symm
          refine z_iinc dX4_read_91 rfl (by decide) rfl ?_
          generalize ex_8 : w32 (x4 + 1) = x_8
          have hyp := hyp x_8 ex_8.symm
          refine z_goto (tgt := 31) dX4_read_94 (by decide) ?_
          exact hyp
        · have hyp := hyp.2 c_5
          refine z_aload_n dX4_read_68 rfl ?_
          refine z_iconst dX4_read_69 (r32d rfl) ?_
          refine cl_X4_54 dX4_read_70 rfl (sC_2 hE) (cC_2 hE) (Nat.le_of_ble_eq_true rfl) (zC_mono ?_ hyp)
          rintro _ h_9 ⟨r_9, rfl, hyp⟩
          refine ⟨r_9, rfl, ?_⟩
          exact z_zret dX4_read_73 rfl hyp.1 ⟨_, rfl, hyp.2⟩
      · have hyp := hyp.2 c_4
        refine z_iconst dX4_read_55 (r32d rfl) ?_
        exact z_zret dX4_read_56 rfl (Or.inl rfl) ⟨_, rfl, hyp⟩
set_option maxRecDepth 20000 in
theorem eX4_read {E : zE} (hE : isC E) {r3 : Nat} (hr3 : isSu E r3) {d : Nat} {x2 : Int} {h : zH} {K : Int → zH → Prop} (hyp :
  ∀ h_1 : zH, h_1 = hset h 2 2 0 →
  ∀ h_2 : zH, h_2 = hset h_1 2 3 (-1) →
  ∀ h_3 : zH, h_3 = hset h_2 2 4 0 →
  zCV E mX8_clear d [zR r3] h_3 (fun h_4 =>
    zCV E mX1_begin d [zR 3, zR 1, zI x2] h_4 (fun h_5 =>
      zG E mX4_read (d + 1) 31 [zR 2, zU, zI x2, zR r3, zI 0] [] h_5 (qI K)))) :
  zCI E mX4_read (d + 1) [zR 2, zR 1, zI x2, zR r3] h K := by
  refine zC_in (L0 := [zR 2, zR 1, zI x2, zR r3, zU]) pn_X4 rfl (Nat.le_of_ble_eq_true rfl) ?_
  refine z_aload_n dX4_read_0 rfl ?_
  refine z_iconst dX4_read_1 (r32d rfl) ?_
  refine pf_X4_25 dX4_read_2 rfl (sC_2 hE) (cC_2 hE) ?_
  generalize eh_1 : hset h 2 2 _ = h_1
  have hyp := hyp h_1 eh_1.symm
  refine z_aload_n dX4_read_5 rfl ?_
  refine z_iconst dX4_read_6 (r32d rfl) ?_
  refine pf_X4_29 dX4_read_7 rfl (sC_2 hE) (cC_2 hE) ?_
  generalize eh_2 : hset h_1 2 3 _ = h_2
  have hyp := hyp h_2 eh_2.symm
  refine z_aload_n dX4_read_10 rfl ?_
  refine z_iconst dX4_read_11 (r32d rfl) ?_
  refine pf_X4_32 dX4_read_12 rfl (sC_2 hE) (cC_2 hE) ?_
  generalize eh_3 : hset h_2 2 4 _ = h_3
  have hyp := hyp h_3 eh_3.symm
  refine z_aload_n dX4_read_15 rfl ?_
  refine cl_X4_38 dX4_read_16 rfl ((hr3.2.1)) (Nat.lt_of_le_of_lt (Nat.le_add_right r3 18) hr3.1) (Nat.le_of_ble_eq_true rfl) (zC_mono ?_ hyp)
  rintro _ h_4 ⟨rfl, hyp⟩
  refine ⟨rfl, ?_⟩
  refine z_aload_n dX4_read_19 rfl ?_
  refine gf_X4_12 (c2 := 3) dX4_read_20 rfl (sC_2 hE) (cC_2 hE) rfl ?_
  refine z_aload_n dX4_read_23 rfl ?_
  refine z_iload_n dX4_read_24 rfl ?_
  refine cl_X4_43 dX4_read_25 rfl (sC_3 hE) (cC_3 hE) (Nat.le_of_ble_eq_true rfl) (zC_mono ?_ hyp)
  rintro _ h_5 ⟨rfl, hyp⟩
  refine ⟨rfl, ?_⟩
  refine z_iconst dX4_read_28 (r32d rfl) ?_
  refine z_istore dX4_read_29 (by decide) rfl ?_
  exact z_forget [true, false, true, true, true] rfl hyp
set_option maxRecDepth 20000 in
theorem eX4_readGrid {E : zE} (hE : isC E) {r1 : Nat} (hr1 : isSu E r1) {d : Nat} {h : zH} {K : Int → zH → Prop} (hyp :
  (((h r1 12) = 0 →
    ∀ h_2 : zH, h_2 = hset h r1 12 1 →
    zCV E mX1_advance d [zR 3] h_2 (fun h_3 =>
      zCI E mX4_readNumber d [zR 2, zI 0, zI 9] h_3 (fun r_4 h_4 =>
        ((r_4 ≠ 0 →
          ∀ h_6 : zH, h_6 = hset h_4 r1 14 (h_4 2 5) →
          zCI E mX4_readNumber d [zR 2, zI 1, zI 20] h_6 (fun r_7 h_7 =>
            ((r_7 ≠ 0 →
              ∀ h_9 : zH, h_9 = hset h_7 r1 15 (h_7 2 5) →
              K 1 h_9) ∧
            (¬ (r_7 ≠ 0) →
              K 0 h_7)))) ∧
        (¬ (r_4 ≠ 0) →
          K 0 h_4))))) ∧
  (¬ ((h r1 12) = 0) →
    zCI E mX4_refuse d [zR 2, zI 3] h (fun r_10 h_10 =>
      (r_10 = 0 ∨ r_10 = 1) ∧ K r_10 h_10)))) :
  zCI E mX4_readGrid (d + 1) [zR 2, zR r1] h K := by
  refine zC_in (L0 := [zR 2, zR r1]) pn_X4 rfl (Nat.le_of_ble_eq_true rfl) ?_
  refine z_aload_n dX4_readGrid_0 rfl ?_
  refine gf_X4_170 dX4_readGrid_1 rfl ((hr1.2.1)) (Nat.lt_of_le_of_lt (Nat.le_add_right r1 18) hr1.1) ?_
  refine z_if_eq (tgt := 13) dX4_readGrid_4 (by decide) (fun c_1 => ?_) (fun c_1 => ?_)
  · have hyp := hyp.1 c_1
    refine z_aload_n dX4_readGrid_13 rfl ?_
    refine z_iconst dX4_readGrid_14 (r32d rfl) ?_
    refine pf_X4_170 dX4_readGrid_15 rfl ((hr1.2.1)) (Nat.lt_of_le_of_lt (Nat.le_add_right r1 18) hr1.1) (Or.inr rfl) ?_
    generalize eh_2 : hset h r1 12 _ = h_2
    have hyp := hyp h_2 eh_2.symm
    refine z_aload_n dX4_readGrid_18 rfl ?_
    refine gf_X4_12 (c2 := 3) dX4_readGrid_19 rfl (sC_2 hE) (cC_2 hE) rfl ?_
    refine cl_X4_58 dX4_readGrid_22 rfl (sC_3 hE) (cC_3 hE) (Nat.le_of_ble_eq_true rfl) (zC_mono ?_ hyp)
    rintro _ h_3 ⟨rfl, hyp⟩
    refine ⟨rfl, ?_⟩
    refine z_aload_n dX4_readGrid_25 rfl ?_
    refine z_iconst dX4_readGrid_26 (r32d rfl) ?_
    refine z_bipush dX4_readGrid_27 (r32d rfl) (by decide) ?_
    refine cl_X4_135 dX4_readGrid_29 rfl (sC_2 hE) (cC_2 hE) (Nat.le_of_ble_eq_true rfl) (zC_mono ?_ hyp)
    rintro _ h_4 ⟨r_4, rfl, hyp⟩
    refine ⟨r_4, rfl, ?_⟩
    refine z_if_ne (tgt := 37) dX4_readGrid_32 (by decide) (fun c_5 => ?_) (fun c_5 => ?_)
    · have hyp := hyp.1 c_5
      refine z_aload_n dX4_readGrid_37 rfl ?_
      refine z_aload_n dX4_readGrid_38 rfl ?_
      refine gf_X4_35 dX4_readGrid_39 rfl (sC_2 hE) (cC_2 hE) ?_
      refine pf_X4_173 dX4_readGrid_42 rfl ((hr1.2.1)) (Nat.lt_of_le_of_lt (Nat.le_add_right r1 18) hr1.1) ?_
      generalize eh_6 : hset h_4 r1 14 _ = h_6
      have hyp := hyp h_6 eh_6.symm
      refine z_aload_n dX4_readGrid_45 rfl ?_
      refine z_iconst dX4_readGrid_46 (r32d rfl) ?_
      refine z_bipush dX4_readGrid_47 (r32d rfl) (by decide) ?_
      refine cl_X4_135 dX4_readGrid_49 rfl (sC_2 hE) (cC_2 hE) (Nat.le_of_ble_eq_true rfl) (zC_mono ?_ hyp)
      rintro _ h_7 ⟨r_7, rfl, hyp⟩
      refine ⟨r_7, rfl, ?_⟩
      refine z_if_ne (tgt := 57) dX4_readGrid_52 (by decide) (fun c_8 => ?_) (fun c_8 => ?_)
      · have hyp := hyp.1 c_8
        refine z_aload_n dX4_readGrid_57 rfl ?_
        refine z_aload_n dX4_readGrid_58 rfl ?_
        refine gf_X4_35 dX4_readGrid_59 rfl (sC_2 hE) (cC_2 hE) ?_
        refine pf_X4_176 dX4_readGrid_62 rfl ((hr1.2.1)) (Nat.lt_of_le_of_lt (Nat.le_add_right r1 18) hr1.1) ?_
        generalize eh_9 : hset h_7 r1 15 _ = h_9
        have hyp := hyp h_9 eh_9.symm
        refine z_iconst dX4_readGrid_65 (r32d rfl) ?_
        exact z_zret dX4_readGrid_66 rfl (Or.inr rfl) ⟨_, rfl, hyp⟩
      · have hyp := hyp.2 c_8
        refine z_iconst dX4_readGrid_55 (r32d rfl) ?_
        exact z_zret dX4_readGrid_56 rfl (Or.inl rfl) ⟨_, rfl, hyp⟩
    · have hyp := hyp.2 c_5
      refine z_iconst dX4_readGrid_35 (r32d rfl) ?_
      exact z_zret dX4_readGrid_36 rfl (Or.inl rfl) ⟨_, rfl, hyp⟩
  · have hyp := hyp.2 c_1
    refine z_aload_n dX4_readGrid_7 rfl ?_
    refine z_iconst dX4_readGrid_8 (r32d rfl) ?_
    refine cl_X4_54 dX4_readGrid_9 rfl (sC_2 hE) (cC_2 hE) (Nat.le_of_ble_eq_true rfl) (zC_mono ?_ hyp)
    rintro _ h_10 ⟨r_10, rfl, hyp⟩
    refine ⟨r_10, rfl, ?_⟩
    exact z_zret dX4_readGrid_12 rfl hyp.1 ⟨_, rfl, hyp.2⟩
set_option maxRecDepth 20000 in
theorem eX4_readHead {E : zE} (hE : isC E) {r1 nr1 : Nat} (hr1 : isNm E r1 nr1) {d : Nat} {h : zH} {K : Int → zH → Prop} (hyp :
  zCI E mX2_isFull d [zR r1] h (fun r_1 h_1 =>
    ((r_1 = 0 →
      zCV E mX1_advance d [zR 3] h_1 (fun h_3 =>
        (((h_3 3 4) = 2 →
          zCI E mX2_find d [zR r1, zI (h_3 3 6)] h_3 (fun r_5 h_5 =>
            ((r_5 = (-1) →
              zCI E mX2_put d [zR r1, zI (h_5 3 6)] h_5 (fun r_7 h_7 =>
                ∀ h_8 : zH, h_8 = hset h_7 2 5 r_7 →
                zCV E mX1_advance d [zR 3] h_8 (fun h_9 =>
                  K 1 h_9))) ∧
            (¬ (r_5 = (-1)) →
              zCI E mX4_refuse d [zR 2, zI 3] h_5 (fun r_10 h_10 =>
                (r_10 = 0 ∨ r_10 = 1) ∧ K r_10 h_10))))) ∧
        (¬ ((h_3 3 4) = 2) →
          zCI E mX4_refuse d [zR 2, zI 1] h_3 (fun r_11 h_11 =>
            (r_11 = 0 ∨ r_11 = 1) ∧ K r_11 h_11))))) ∧
    (¬ (r_1 = 0) →
      zCI E mX4_refuse d [zR 2, zI 2] h_1 (fun r_12 h_12 =>
        (r_12 = 0 ∨ r_12 = 1) ∧ K r_12 h_12))))) :
  zCI E mX4_readHead (d + 1) [zR 2, zR r1] h K := by
  refine zC_in (L0 := [zR 2, zR r1]) pn_X4 rfl (Nat.le_of_ble_eq_true rfl) ?_
  refine z_aload_n dX4_readHead_0 rfl ?_
  refine cl_X4_88 dX4_readHead_1 rfl ((hr1.2.1)) (Nat.lt_of_le_of_lt (Nat.le_add_right r1 1) hr1.1) (Nat.le_of_ble_eq_true rfl) (zC_mono ?_ hyp)
  rintro _ h_1 ⟨r_1, rfl, hyp⟩
  refine ⟨r_1, rfl, ?_⟩
  refine z_if_eq (tgt := 13) dX4_readHead_4 (by decide) (fun c_2 => ?_) (fun c_2 => ?_)
  · have hyp := hyp.1 c_2
    refine z_aload_n dX4_readHead_13 rfl ?_
    refine gf_X4_12 (c2 := 3) dX4_readHead_14 rfl (sC_2 hE) (cC_2 hE) rfl ?_
    refine cl_X4_58 dX4_readHead_17 rfl (sC_3 hE) (cC_3 hE) (Nat.le_of_ble_eq_true rfl) (zC_mono ?_ hyp)
    rintro _ h_3 ⟨rfl, hyp⟩
    refine ⟨rfl, ?_⟩
    refine z_aload_n dX4_readHead_20 rfl ?_
    refine gf_X4_12 (c2 := 3) dX4_readHead_21 rfl (sC_2 hE) (cC_2 hE) rfl ?_
    refine gf_X4_47 dX4_readHead_24 rfl (sC_3 hE) (cC_3 hE) ?_
    refine z_iconst dX4_readHead_27 (r32d rfl) ?_
    refine z_icmp_eq (tgt := 37) dX4_readHead_28 (by decide) (fun c_4 => ?_) (fun c_4 => ?_)
    · have hyp := hyp.1 c_4
      refine z_aload_n dX4_readHead_37 rfl ?_
      refine z_aload_n dX4_readHead_38 rfl ?_
      refine gf_X4_12 (c2 := 3) dX4_readHead_39 rfl (sC_2 hE) (cC_2 hE) rfl ?_
      refine gf_X4_94 dX4_readHead_42 rfl (sC_3 hE) (cC_3 hE) ?_
      refine cl_X4_97 dX4_readHead_45 rfl ((hr1.2.1)) (Nat.lt_of_le_of_lt (Nat.le_add_right r1 1) hr1.1) (Nat.le_of_ble_eq_true rfl) (zC_mono ?_ hyp)
      rintro _ h_5 ⟨r_5, rfl, hyp⟩
      refine ⟨r_5, rfl, ?_⟩
      refine z_iconst dX4_readHead_48 (r32d rfl) ?_
      refine z_icmp_eq (tgt := 58) dX4_readHead_49 (by decide) (fun c_6 => ?_) (fun c_6 => ?_)
      · have hyp := hyp.1 c_6
        refine z_aload_n dX4_readHead_58 rfl ?_
        refine z_aload_n dX4_readHead_59 rfl ?_
        refine z_aload_n dX4_readHead_60 rfl ?_
        refine gf_X4_12 (c2 := 3) dX4_readHead_61 rfl (sC_2 hE) (cC_2 hE) rfl ?_
        refine gf_X4_94 dX4_readHead_64 rfl (sC_3 hE) (cC_3 hE) ?_
        refine cl_X4_101 dX4_readHead_67 rfl ((hr1.2.1)) (Nat.lt_of_le_of_lt (Nat.le_add_right r1 1) hr1.1) (Nat.le_of_ble_eq_true rfl) (zC_mono ?_ hyp)
        rintro _ h_7 ⟨r_7, rfl, hyp⟩
        refine ⟨r_7, rfl, ?_⟩
        refine pf_X4_35 dX4_readHead_70 rfl (sC_2 hE) (cC_2 hE) ?_
        generalize eh_8 : hset h_7 2 5 _ = h_8
        have hyp := hyp h_8 eh_8.symm
        refine z_aload_n dX4_readHead_73 rfl ?_
        refine gf_X4_12 (c2 := 3) dX4_readHead_74 rfl (sC_2 hE) (cC_2 hE) rfl ?_
        refine cl_X4_58 dX4_readHead_77 rfl (sC_3 hE) (cC_3 hE) (Nat.le_of_ble_eq_true rfl) (zC_mono ?_ hyp)
        rintro _ h_9 ⟨rfl, hyp⟩
        refine ⟨rfl, ?_⟩
        refine z_iconst dX4_readHead_80 (r32d rfl) ?_
        exact z_zret dX4_readHead_81 rfl (Or.inr rfl) ⟨_, rfl, hyp⟩
      · have hyp := hyp.2 c_6
        refine z_aload_n dX4_readHead_52 rfl ?_
        refine z_iconst dX4_readHead_53 (r32d rfl) ?_
        refine cl_X4_54 dX4_readHead_54 rfl (sC_2 hE) (cC_2 hE) (Nat.le_of_ble_eq_true rfl) (zC_mono ?_ hyp)
        rintro _ h_10 ⟨r_10, rfl, hyp⟩
        refine ⟨r_10, rfl, ?_⟩
        exact z_zret dX4_readHead_57 rfl hyp.1 ⟨_, rfl, hyp.2⟩
    · have hyp := hyp.2 c_4
      refine z_aload_n dX4_readHead_31 rfl ?_
      refine z_iconst dX4_readHead_32 (r32d rfl) ?_
      refine cl_X4_54 dX4_readHead_33 rfl (sC_2 hE) (cC_2 hE) (Nat.le_of_ble_eq_true rfl) (zC_mono ?_ hyp)
      rintro _ h_11 ⟨r_11, rfl, hyp⟩
      refine ⟨r_11, rfl, ?_⟩
      exact z_zret dX4_readHead_36 rfl hyp.1 ⟨_, rfl, hyp.2⟩
  · have hyp := hyp.2 c_2
    refine z_aload_n dX4_readHead_7 rfl ?_
    refine z_iconst dX4_readHead_8 (r32d rfl) ?_
    refine cl_X4_54 dX4_readHead_9 rfl (sC_2 hE) (cC_2 hE) (Nat.le_of_ble_eq_true rfl) (zC_mono ?_ hyp)
    rintro _ h_12 ⟨r_12, rfl, hyp⟩
    refine ⟨r_12, rfl, ?_⟩
    exact z_zret dX4_readHead_12 rfl hyp.1 ⟨_, rfl, hyp.2⟩
set_option maxRecDepth 20000 in
theorem bX4_readLine_113 {E : zE} (hE : isC E) {r1 : Nat} (hr1 : isSu E r1) {d : Nat} {h : zH} {K : Int → zH → Prop} (hyp :
  zCI E mX4_refuse d [zR 2, zI 1] h (fun r_1 h_1 =>
    (r_1 = 0 ∨ r_1 = 1) ∧ K r_1 h_1)) :
  zG E mX4_readLine (d + 1) 113 [zR 2, zU] [] h (qI K) := by
  refine z_aload_n dX4_readLine_113 rfl ?_
  refine z_iconst dX4_readLine_114 (r32d rfl) ?_
  refine cl_X4_54 dX4_readLine_115 rfl (sC_2 hE) (cC_2 hE) (Nat.le_of_ble_eq_true rfl) (zC_mono ?_ hyp)
  rintro _ h_1 ⟨r_1, rfl, hyp⟩
  refine ⟨r_1, rfl, ?_⟩
  exact z_zret dX4_readLine_118 rfl hyp.1 ⟨_, rfl, hyp.2⟩
set_option maxRecDepth 20000 in
theorem eX4_readLine {E : zE} (hE : isC E) {r1 : Nat} (hr1 : isSu E r1) {d : Nat} {h : zH} {K : Int → zH → Prop} (hyp :
  (((h 3 4) = 20) →
      zCI E mX4_readHead d [zR 2, zR (r1 + 1)] h (fun r_2 h_2 =>
        (r_2 = 0 ∨ r_2 = 1) ∧ K r_2 h_2)) ∧
  (((h 3 4) = 21) →
      zCI E mX4_readRing d [zR 2, zR r1] h (fun r_4 h_4 =>
        (r_4 = 0 ∨ r_4 = 1) ∧ K r_4 h_4)) ∧
  (((h 3 4) = 26) →
      zCI E mX4_readWay d [zR 2, zR r1] h (fun r_6 h_6 =>
        (r_6 = 0 ∨ r_6 = 1) ∧ K r_6 h_6)) ∧
  (((h 3 4) = 27) →
      zCI E mX4_readRule d [zR 2, zR r1] h (fun r_8 h_8 =>
        (r_8 = 0 ∨ r_8 = 1) ∧ K r_8 h_8)) ∧
  (((h 3 4) = 28) →
      zCI E mX4_readSaying d [zR 2, zR r1] h (fun r_10 h_10 =>
        (r_10 = 0 ∨ r_10 = 1) ∧ K r_10 h_10)) ∧
  (((h 3 4) = 30) →
      zCI E mX4_readGrid d [zR 2, zR r1] h (fun r_12 h_12 =>
        (r_12 = 0 ∨ r_12 = 1) ∧ K r_12 h_12)) ∧
  (((h 3 4) = 31) →
      zCI E mX4_readSlack d [zR 2, zR r1] h (fun r_14 h_14 =>
        (r_14 = 0 ∨ r_14 = 1) ∧ K r_14 h_14)) ∧
  (((h 3 4) ≠ 20 ∧ (h 3 4) ≠ 21 ∧ (h 3 4) ≠ 26 ∧ (h 3 4) ≠ 27 ∧ (h 3 4) ≠ 28 ∧ (h 3 4) ≠ 30 ∧ (h 3 4) ≠ 31) →
    zG E mX4_readLine (d + 1) 113 [zR 2, zU] [] h (qI K))) :
  zCI E mX4_readLine (d + 1) [zR 2, zR r1] h K := by
  refine zC_in (L0 := [zR 2, zR r1]) pn_X4 rfl (Nat.le_of_ble_eq_true rfl) ?_
  refine z_aload_n dX4_readLine_0 rfl ?_
  refine gf_X4_12 (c2 := 3) dX4_readLine_1 rfl (sC_2 hE) (cC_2 hE) rfl ?_
  refine gf_X4_47 dX4_readLine_4 rfl (sC_3 hE) (cC_3 hE) ?_
  have hgo : ((h 3 4) ≠ 20 ∧ (h 3 4) ≠ 21 ∧ (h 3 4) ≠ 26 ∧ (h 3 4) ≠ 27 ∧ (h 3 4) ≠ 28 ∧ (h 3 4) ≠ 30 ∧ (h 3 4) ≠ 31) → zG E mX4_readLine (d + 1) 113 [zR 2, zR r1] [] h (qI K) := by
    intro hcc
    have hyp := hyp.2.2.2.2.2.2.2 hcc
    exact z_forget [true, false] rfl hyp
  by_cases cr : (h 3 4) < 20 ∨ 31 < (h 3 4)
  · exact z_tsOut (tgt := 113) dX4_readLine_7 cr (by decide) (hgo ⟨tsne cr (by decide) (by decide), tsne cr (by decide) (by decide), tsne cr (by decide) (by decide), tsne cr (by decide) (by decide), tsne cr (by decide) (by decide), tsne cr (by decide) (by decide), tsne cr (by decide) (by decide)⟩)
  by_cases c_1 : (h 3 4) = 20
  · have hyp := hyp.1 c_1
    have hgo : zG E mX4_readLine (d + 1) 68 [zR 2, zR r1] [] h (qI K) := by
      refine z_aload_n dX4_readLine_68 rfl ?_
      refine z_aload_n dX4_readLine_69 rfl ?_
      refine gf_X4_62 (c2 := (r1 + 1)) dX4_readLine_70 rfl ((hr1.2.1)) (Nat.lt_of_le_of_lt (Nat.le_add_right r1 18) hr1.1) rfl ?_
      refine cl_X4_66 dX4_readLine_73 rfl (sC_2 hE) (cC_2 hE) (Nat.le_of_ble_eq_true rfl) (zC_mono ?_ hyp)
      rintro _ h_2 ⟨r_2, rfl, hyp⟩
      refine ⟨r_2, rfl, ?_⟩
      exact z_zret dX4_readLine_76 rfl hyp.1 ⟨_, rfl, hyp.2⟩
    exact z_tsIn (i := 0) (tgt := 68) dX4_readLine_7 (c_1.trans (by decide)) (by decide) rfl (by decide) hgo
  by_cases c_3 : (h 3 4) = 21
  · have hyp := hyp.2.1 c_3
    have hgo : zG E mX4_readLine (d + 1) 77 [zR 2, zR r1] [] h (qI K) := by
      refine z_aload_n dX4_readLine_77 rfl ?_
      refine z_aload_n dX4_readLine_78 rfl ?_
      refine cl_X4_70 dX4_readLine_79 rfl (sC_2 hE) (cC_2 hE) (Nat.le_of_ble_eq_true rfl) (zC_mono ?_ hyp)
      rintro _ h_4 ⟨r_4, rfl, hyp⟩
      refine ⟨r_4, rfl, ?_⟩
      exact z_zret dX4_readLine_82 rfl hyp.1 ⟨_, rfl, hyp.2⟩
    exact z_tsIn (i := 1) (tgt := 77) dX4_readLine_7 (c_3.trans (by decide)) (by decide) rfl (by decide) hgo
  by_cases c_5 : (h 3 4) = 26
  · have hyp := hyp.2.2.1 c_5
    have hgo : zG E mX4_readLine (d + 1) 83 [zR 2, zR r1] [] h (qI K) := by
      refine z_aload_n dX4_readLine_83 rfl ?_
      refine z_aload_n dX4_readLine_84 rfl ?_
      refine cl_X4_73 dX4_readLine_85 rfl (sC_2 hE) (cC_2 hE) (Nat.le_of_ble_eq_true rfl) (zC_mono ?_ hyp)
      rintro _ h_6 ⟨r_6, rfl, hyp⟩
      refine ⟨r_6, rfl, ?_⟩
      exact z_zret dX4_readLine_88 rfl hyp.1 ⟨_, rfl, hyp.2⟩
    exact z_tsIn (i := 6) (tgt := 83) dX4_readLine_7 (c_5.trans (by decide)) (by decide) rfl (by decide) hgo
  by_cases c_7 : (h 3 4) = 27
  · have hyp := hyp.2.2.2.1 c_7
    have hgo : zG E mX4_readLine (d + 1) 89 [zR 2, zR r1] [] h (qI K) := by
      refine z_aload_n dX4_readLine_89 rfl ?_
      refine z_aload_n dX4_readLine_90 rfl ?_
      refine cl_X4_76 dX4_readLine_91 rfl (sC_2 hE) (cC_2 hE) (Nat.le_of_ble_eq_true rfl) (zC_mono ?_ hyp)
      rintro _ h_8 ⟨r_8, rfl, hyp⟩
      refine ⟨r_8, rfl, ?_⟩
      exact z_zret dX4_readLine_94 rfl hyp.1 ⟨_, rfl, hyp.2⟩
    exact z_tsIn (i := 7) (tgt := 89) dX4_readLine_7 (c_7.trans (by decide)) (by decide) rfl (by decide) hgo
  by_cases c_9 : (h 3 4) = 28
  · have hyp := hyp.2.2.2.2.1 c_9
    have hgo : zG E mX4_readLine (d + 1) 95 [zR 2, zR r1] [] h (qI K) := by
      refine z_aload_n dX4_readLine_95 rfl ?_
      refine z_aload_n dX4_readLine_96 rfl ?_
      refine cl_X4_79 dX4_readLine_97 rfl (sC_2 hE) (cC_2 hE) (Nat.le_of_ble_eq_true rfl) (zC_mono ?_ hyp)
      rintro _ h_10 ⟨r_10, rfl, hyp⟩
      refine ⟨r_10, rfl, ?_⟩
      exact z_zret dX4_readLine_100 rfl hyp.1 ⟨_, rfl, hyp.2⟩
    exact z_tsIn (i := 8) (tgt := 95) dX4_readLine_7 (c_9.trans (by decide)) (by decide) rfl (by decide) hgo
  by_cases c_11 : (h 3 4) = 30
  · have hyp := hyp.2.2.2.2.2.1 c_11
    have hgo : zG E mX4_readLine (d + 1) 101 [zR 2, zR r1] [] h (qI K) := by
      refine z_aload_n dX4_readLine_101 rfl ?_
      refine z_aload_n dX4_readLine_102 rfl ?_
      refine cl_X4_82 dX4_readLine_103 rfl (sC_2 hE) (cC_2 hE) (Nat.le_of_ble_eq_true rfl) (zC_mono ?_ hyp)
      rintro _ h_12 ⟨r_12, rfl, hyp⟩
      refine ⟨r_12, rfl, ?_⟩
      exact z_zret dX4_readLine_106 rfl hyp.1 ⟨_, rfl, hyp.2⟩
    exact z_tsIn (i := 10) (tgt := 101) dX4_readLine_7 (c_11.trans (by decide)) (by decide) rfl (by decide) hgo
  by_cases c_13 : (h 3 4) = 31
  · have hyp := hyp.2.2.2.2.2.2.1 c_13
    have hgo : zG E mX4_readLine (d + 1) 107 [zR 2, zR r1] [] h (qI K) := by
      refine z_aload_n dX4_readLine_107 rfl ?_
      refine z_aload_n dX4_readLine_108 rfl ?_
      refine cl_X4_85 dX4_readLine_109 rfl (sC_2 hE) (cC_2 hE) (Nat.le_of_ble_eq_true rfl) (zC_mono ?_ hyp)
      rintro _ h_14 ⟨r_14, rfl, hyp⟩
      refine ⟨r_14, rfl, ?_⟩
      exact z_zret dX4_readLine_112 rfl hyp.1 ⟨_, rfl, hyp.2⟩
    exact z_tsIn (i := 11) (tgt := 107) dX4_readLine_7 (c_13.trans (by decide)) (by decide) rfl (by decide) hgo
  by_cases c_15 : (h 3 4) = 22
  · exact z_tsIn (i := 2) (tgt := 113) dX4_readLine_7 (c_15.trans (by decide)) (by decide) rfl (by decide) (hgo (by rw [c_15]; decide))
  by_cases c_16 : (h 3 4) = 23
  · exact z_tsIn (i := 3) (tgt := 113) dX4_readLine_7 (c_16.trans (by decide)) (by decide) rfl (by decide) (hgo (by rw [c_16]; decide))
  by_cases c_17 : (h 3 4) = 24
  · exact z_tsIn (i := 4) (tgt := 113) dX4_readLine_7 (c_17.trans (by decide)) (by decide) rfl (by decide) (hgo (by rw [c_17]; decide))
  by_cases c_18 : (h 3 4) = 25
  · exact z_tsIn (i := 5) (tgt := 113) dX4_readLine_7 (c_18.trans (by decide)) (by decide) rfl (by decide) (hgo (by rw [c_18]; decide))
  by_cases c_19 : (h 3 4) = 29
  · exact z_tsIn (i := 9) (tgt := 113) dX4_readLine_7 (c_19.trans (by decide)) (by decide) rfl (by decide) (hgo (by rw [c_19]; decide))
  exact absurd (tsbs (tsbs (tsbs (tsbs (tsbs (tsbs (tsbs (tsbs (tsbs (tsbs (tsbs (tsbs (tsb1 cr) c_1) c_3) c_15) c_16) c_17) c_18) c_5) c_7) c_9) c_19) c_11) c_13) (tsb2 cr)
set_option maxRecDepth 20000 in
theorem eX4_readMeasurer {E : zE} (hE : isC E) {r1 nr1 : Nat} (hr1 : isNm E r1 nr1) {d : Nat} {h : zH} {K : Int → zH → Prop} (hyp :
  (((h 3 4) = 2 →
    zCI E mX2_find d [zR r1, zI (h 3 6)] h (fun r_2 h_2 =>
      ∀ h_3 : zH, h_3 = hset h_2 2 5 r_2 →
      (((h_3 2 5) ≠ (-1) →
        zCV E mX1_advance d [zR 3] h_3 (fun h_5 =>
          K 1 h_5)) ∧
      (¬ ((h_3 2 5) ≠ (-1)) →
        zCI E mX2_isFull d [zR r1] h_3 (fun r_6 h_6 =>
          ((r_6 = 0 →
            zCI E mX2_put d [zR r1, zI (h_6 3 6)] h_6 (fun r_8 h_8 =>
              ∀ h_9 : zH, h_9 = hset h_8 2 5 r_8 →
              zCV E mX1_advance d [zR 3] h_9 (fun h_10 =>
                K 1 h_10))) ∧
          (¬ (r_6 = 0) →
            zCI E mX4_refuse d [zR 2, zI 2] h_6 (fun r_11 h_11 =>
              (r_11 = 0 ∨ r_11 = 1) ∧ K r_11 h_11)))))))) ∧
  (¬ ((h 3 4) = 2) →
    zCI E mX4_refuse d [zR 2, zI 1] h (fun r_12 h_12 =>
      (r_12 = 0 ∨ r_12 = 1) ∧ K r_12 h_12)))) :
  zCI E mX4_readMeasurer (d + 1) [zR 2, zR r1] h K := by
  refine zC_in (L0 := [zR 2, zR r1]) pn_X4 rfl (Nat.le_of_ble_eq_true rfl) ?_
  refine z_aload_n dX4_readMeasurer_0 rfl ?_
  refine gf_X4_12 (c2 := 3) dX4_readMeasurer_1 rfl (sC_2 hE) (cC_2 hE) rfl ?_
  refine gf_X4_47 dX4_readMeasurer_4 rfl (sC_3 hE) (cC_3 hE) ?_
  refine z_iconst dX4_readMeasurer_7 (r32d rfl) ?_
  refine z_icmp_eq (tgt := 17) dX4_readMeasurer_8 (by decide) (fun c_1 => ?_) (fun c_1 => ?_)
  · have hyp := hyp.1 c_1
    refine z_aload_n dX4_readMeasurer_17 rfl ?_
    refine z_aload_n dX4_readMeasurer_18 rfl ?_
    refine z_aload_n dX4_readMeasurer_19 rfl ?_
    refine gf_X4_12 (c2 := 3) dX4_readMeasurer_20 rfl (sC_2 hE) (cC_2 hE) rfl ?_
    refine gf_X4_94 dX4_readMeasurer_23 rfl (sC_3 hE) (cC_3 hE) ?_
    refine cl_X4_97 dX4_readMeasurer_26 rfl ((hr1.2.1)) (Nat.lt_of_le_of_lt (Nat.le_add_right r1 1) hr1.1) (Nat.le_of_ble_eq_true rfl) (zC_mono ?_ hyp)
    rintro _ h_2 ⟨r_2, rfl, hyp⟩
    refine ⟨r_2, rfl, ?_⟩
    refine pf_X4_35 dX4_readMeasurer_29 rfl (sC_2 hE) (cC_2 hE) ?_
    generalize eh_3 : hset h_2 2 5 _ = h_3
    have hyp := hyp h_3 eh_3.symm
    refine z_aload_n dX4_readMeasurer_32 rfl ?_
    refine gf_X4_35 dX4_readMeasurer_33 rfl (sC_2 hE) (cC_2 hE) ?_
    refine z_iconst dX4_readMeasurer_36 (r32d rfl) ?_
    refine z_icmp_ne (tgt := 68) dX4_readMeasurer_37 (by decide) (fun c_4 => ?_) (fun c_4 => ?_)
    · have hyp := hyp.1 c_4
      refine z_aload_n dX4_readMeasurer_68 rfl ?_
      refine gf_X4_12 (c2 := 3) dX4_readMeasurer_69 rfl (sC_2 hE) (cC_2 hE) rfl ?_
      refine cl_X4_58 dX4_readMeasurer_72 rfl (sC_3 hE) (cC_3 hE) (Nat.le_of_ble_eq_true rfl) (zC_mono ?_ hyp)
      rintro _ h_5 ⟨rfl, hyp⟩
      refine ⟨rfl, ?_⟩
      refine z_iconst dX4_readMeasurer_75 (r32d rfl) ?_
      exact z_zret dX4_readMeasurer_76 rfl (Or.inr rfl) ⟨_, rfl, hyp⟩
    · have hyp := hyp.2 c_4
      refine z_aload_n dX4_readMeasurer_40 rfl ?_
      refine cl_X4_88 dX4_readMeasurer_41 rfl ((hr1.2.1)) (Nat.lt_of_le_of_lt (Nat.le_add_right r1 1) hr1.1) (Nat.le_of_ble_eq_true rfl) (zC_mono ?_ hyp)
      rintro _ h_6 ⟨r_6, rfl, hyp⟩
      refine ⟨r_6, rfl, ?_⟩
      refine z_if_eq (tgt := 53) dX4_readMeasurer_44 (by decide) (fun c_7 => ?_) (fun c_7 => ?_)
      · have hyp := hyp.1 c_7
        refine z_aload_n dX4_readMeasurer_53 rfl ?_
        refine z_aload_n dX4_readMeasurer_54 rfl ?_
        refine z_aload_n dX4_readMeasurer_55 rfl ?_
        refine gf_X4_12 (c2 := 3) dX4_readMeasurer_56 rfl (sC_2 hE) (cC_2 hE) rfl ?_
        refine gf_X4_94 dX4_readMeasurer_59 rfl (sC_3 hE) (cC_3 hE) ?_
        refine cl_X4_101 dX4_readMeasurer_62 rfl ((hr1.2.1)) (Nat.lt_of_le_of_lt (Nat.le_add_right r1 1) hr1.1) (Nat.le_of_ble_eq_true rfl) (zC_mono ?_ hyp)
        rintro _ h_8 ⟨r_8, rfl, hyp⟩
        refine ⟨r_8, rfl, ?_⟩
        refine pf_X4_35 dX4_readMeasurer_65 rfl (sC_2 hE) (cC_2 hE) ?_
        generalize eh_9 : hset h_8 2 5 _ = h_9
        have hyp := hyp h_9 eh_9.symm
        refine z_aload_n dX4_readMeasurer_68 rfl ?_
        refine gf_X4_12 (c2 := 3) dX4_readMeasurer_69 rfl (sC_2 hE) (cC_2 hE) rfl ?_
        refine cl_X4_58 dX4_readMeasurer_72 rfl (sC_3 hE) (cC_3 hE) (Nat.le_of_ble_eq_true rfl) (zC_mono ?_ hyp)
        rintro _ h_10 ⟨rfl, hyp⟩
        refine ⟨rfl, ?_⟩
        refine z_iconst dX4_readMeasurer_75 (r32d rfl) ?_
        exact z_zret dX4_readMeasurer_76 rfl (Or.inr rfl) ⟨_, rfl, hyp⟩
      · have hyp := hyp.2 c_7
        refine z_aload_n dX4_readMeasurer_47 rfl ?_
        refine z_iconst dX4_readMeasurer_48 (r32d rfl) ?_
        refine cl_X4_54 dX4_readMeasurer_49 rfl (sC_2 hE) (cC_2 hE) (Nat.le_of_ble_eq_true rfl) (zC_mono ?_ hyp)
        rintro _ h_11 ⟨r_11, rfl, hyp⟩
        refine ⟨r_11, rfl, ?_⟩
        exact z_zret dX4_readMeasurer_52 rfl hyp.1 ⟨_, rfl, hyp.2⟩
  · have hyp := hyp.2 c_1
    refine z_aload_n dX4_readMeasurer_11 rfl ?_
    refine z_iconst dX4_readMeasurer_12 (r32d rfl) ?_
    refine cl_X4_54 dX4_readMeasurer_13 rfl (sC_2 hE) (cC_2 hE) (Nat.le_of_ble_eq_true rfl) (zC_mono ?_ hyp)
    rintro _ h_12 ⟨r_12, rfl, hyp⟩
    refine ⟨r_12, rfl, ?_⟩
    exact z_zret dX4_readMeasurer_16 rfl hyp.1 ⟨_, rfl, hyp.2⟩
set_option maxRecDepth 20000 in
theorem bX4_readNumber_33 {E : zE} (hE : isC E) {d : Nat} {x1 x2 x3 : Int} {h : zH} {K : Int → zH → Prop} (hyp :
  (((h 3 4) = 3 →
    ((x3 = 0 →
      zG E mX4_readNumber (d + 1) 73 [zR 2, zI x1, zI x2, zU] [zI (h 3 6), zR 2] h (qI K)) ∧
    (¬ (x3 = 0) →
      zG E mX4_readNumber (d + 1) 73 [zR 2, zI x1, zI x2, zU] [zI (w32 (-(h 3 6))), zR 2] h (qI K)))) ∧
  (¬ ((h 3 4) = 3) →
    zCI E mX4_refuse d [zR 2, zI 1] h (fun r_3 h_3 =>
      (r_3 = 0 ∨ r_3 = 1) ∧ K r_3 h_3)))) :
  zG E mX4_readNumber (d + 1) 33 [zR 2, zI x1, zI x2, zI x3] [] h (qI K) := by
  refine z_aload_n dX4_readNumber_33 rfl ?_
  refine gf_X4_12 (c2 := 3) dX4_readNumber_34 rfl (sC_2 hE) (cC_2 hE) rfl ?_
  refine gf_X4_47 dX4_readNumber_37 rfl (sC_3 hE) (cC_3 hE) ?_
  refine z_iconst dX4_readNumber_40 (r32d rfl) ?_
  refine z_icmp_eq (tgt := 50) dX4_readNumber_41 (by decide) (fun c_1 => ?_) (fun c_1 => ?_)
  · have hyp := hyp.1 c_1
    refine z_aload_n dX4_readNumber_50 rfl ?_
    refine z_iload_n dX4_readNumber_51 rfl ?_
    refine z_if_eq (tgt := 66) dX4_readNumber_52 (by decide) (fun c_2 => ?_) (fun c_2 => ?_)
    · have hyp := hyp.1 c_2
      refine z_aload_n dX4_readNumber_66 rfl ?_
      refine gf_X4_12 (c2 := 3) dX4_readNumber_67 rfl (sC_2 hE) (cC_2 hE) rfl ?_
      refine gf_X4_94 dX4_readNumber_70 rfl (sC_3 hE) (cC_3 hE) ?_
      exact z_forget [true, true, true, false] rfl hyp
    · have hyp := hyp.2 c_2
      refine z_aload_n dX4_readNumber_55 rfl ?_
      refine gf_X4_12 (c2 := 3) dX4_readNumber_56 rfl (sC_2 hE) (cC_2 hE) rfl ?_
      refine gf_X4_94 dX4_readNumber_59 rfl (sC_3 hE) (cC_3 hE) ?_
      refine z_ineg dX4_readNumber_62 ?_
      refine z_goto (tgt := 73) dX4_readNumber_63 (by decide) ?_
      exact z_forget [true, true, true, false] rfl hyp
  · have hyp := hyp.2 c_1
    refine z_aload_n dX4_readNumber_44 rfl ?_
    refine z_iconst dX4_readNumber_45 (r32d rfl) ?_
    refine cl_X4_54 dX4_readNumber_46 rfl (sC_2 hE) (cC_2 hE) (Nat.le_of_ble_eq_true rfl) (zC_mono ?_ hyp)
    rintro _ h_3 ⟨r_3, rfl, hyp⟩
    refine ⟨r_3, rfl, ?_⟩
    exact z_zret dX4_readNumber_49 rfl hyp.1 ⟨_, rfl, hyp.2⟩
set_option maxRecDepth 20000 in
theorem bX4_readNumber_73 {E : zE} (hE : isC E) {d : Nat} {x1 x2 s0 : Int} {h : zH} {K : Int → zH → Prop} (hyp :
  ∀ h_1 : zH, h_1 = hset h 2 5 s0 →
  zCI E mX9_isBeyond d [zI (h_1 2 5), zI x1, zI x2] h_1 (fun r_2 h_2 =>
    ((r_2 = 0 →
      zCV E mX1_advance d [zR 3] h_2 (fun h_4 =>
        K 1 h_4)) ∧
    (¬ (r_2 = 0) →
      zCI E mX4_refuse d [zR 2, zI 2] h_2 (fun r_5 h_5 =>
        (r_5 = 0 ∨ r_5 = 1) ∧ K r_5 h_5))))) :
  zG E mX4_readNumber (d + 1) 73 [zR 2, zI x1, zI x2, zU] [zI s0, zR 2] h (qI K) := by
  refine pf_X4_35 dX4_readNumber_73 rfl (sC_2 hE) (cC_2 hE) ?_
  generalize eh_1 : hset h 2 5 _ = h_1
  have hyp := hyp h_1 eh_1.symm
  refine z_aload_n dX4_readNumber_76 rfl ?_
  refine gf_X4_35 dX4_readNumber_77 rfl (sC_2 hE) (cC_2 hE) ?_
  refine z_iload_n dX4_readNumber_80 rfl ?_
  refine z_iload_n dX4_readNumber_81 rfl ?_
  refine cl_X4_104 dX4_readNumber_82 rfl (Nat.le_of_ble_eq_true rfl) (zC_mono ?_ hyp)
  rintro _ h_2 ⟨r_2, rfl, hyp⟩
  refine ⟨r_2, rfl, ?_⟩
  refine z_if_eq (tgt := 94) dX4_readNumber_85 (by decide) (fun c_3 => ?_) (fun c_3 => ?_)
  · have hyp := hyp.1 c_3
    refine z_aload_n dX4_readNumber_94 rfl ?_
    refine gf_X4_12 (c2 := 3) dX4_readNumber_95 rfl (sC_2 hE) (cC_2 hE) rfl ?_
    refine cl_X4_58 dX4_readNumber_98 rfl (sC_3 hE) (cC_3 hE) (Nat.le_of_ble_eq_true rfl) (zC_mono ?_ hyp)
    rintro _ h_4 ⟨rfl, hyp⟩
    refine ⟨rfl, ?_⟩
    refine z_iconst dX4_readNumber_101 (r32d rfl) ?_
    exact z_zret dX4_readNumber_102 rfl (Or.inr rfl) ⟨_, rfl, hyp⟩
  · have hyp := hyp.2 c_3
    refine z_aload_n dX4_readNumber_88 rfl ?_
    refine z_iconst dX4_readNumber_89 (r32d rfl) ?_
    refine cl_X4_54 dX4_readNumber_90 rfl (sC_2 hE) (cC_2 hE) (Nat.le_of_ble_eq_true rfl) (zC_mono ?_ hyp)
    rintro _ h_5 ⟨r_5, rfl, hyp⟩
    refine ⟨r_5, rfl, ?_⟩
    exact z_zret dX4_readNumber_93 rfl hyp.1 ⟨_, rfl, hyp.2⟩
set_option maxRecDepth 20000 in
theorem eX4_readNumber {E : zE} (hE : isC E) {d : Nat} {x1 x2 : Int} {h : zH} {K : Int → zH → Prop} (hyp :
  ((0 ≤ x1 →
    zG E mX4_readNumber (d + 1) 33 [zR 2, zI x1, zI x2, zI 0] [] h (qI K)) ∧
  (¬ (0 ≤ x1) →
    (((h 3 4) ≠ 8 →
      zG E mX4_readNumber (d + 1) 33 [zR 2, zI x1, zI x2, zI 0] [] h (qI K)) ∧
    (¬ ((h 3 4) ≠ 8) →
      zCV E mX1_advance d [zR 3] h (fun h_6 =>
        zG E mX4_readNumber (d + 1) 33 [zR 2, zI x1, zI x2, zI 1] [] h_6 (qI K))))))) :
  zCI E mX4_readNumber (d + 1) [zR 2, zI x1, zI x2] h K := by
  refine zC_in (L0 := [zR 2, zI x1, zI x2, zU]) pn_X4 rfl (Nat.le_of_ble_eq_true rfl) ?_
  refine z_iload_n dX4_readNumber_0 rfl ?_
  refine z_if_ge (tgt := 20) dX4_readNumber_1 (by decide) (fun c_1 => ?_) (fun c_1 => ?_)
  · have hyp := hyp.1 c_1
    refine z_iconst dX4_readNumber_20 (r32d rfl) ?_
    refine z_istore_n dX4_readNumber_21 rfl (by decide) rfl ?_
    refine z_iload_n dX4_readNumber_22 rfl ?_
    refine z_if_eq (tgt := 33) dX4_readNumber_23 (by decide) (fun _ => ?_) (fun c_2 => absurd (by decide) c_2)
    exact hyp
  · have hyp := hyp.2 c_1
    refine z_aload_n dX4_readNumber_4 rfl ?_
    refine gf_X4_12 (c2 := 3) dX4_readNumber_5 rfl (sC_2 hE) (cC_2 hE) rfl ?_
    refine gf_X4_47 dX4_readNumber_8 rfl (sC_3 hE) (cC_3 hE) ?_
    refine z_bipush dX4_readNumber_11 (r32d rfl) (by decide) ?_
    refine z_icmp_ne (tgt := 20) dX4_readNumber_13 (by decide) (fun c_3 => ?_) (fun c_3 => ?_)
    · have hyp := hyp.1 c_3
      refine z_iconst dX4_readNumber_20 (r32d rfl) ?_
      refine z_istore_n dX4_readNumber_21 rfl (by decide) rfl ?_
      refine z_iload_n dX4_readNumber_22 rfl ?_
      refine z_if_eq (tgt := 33) dX4_readNumber_23 (by decide) (fun _ => ?_) (fun c_4 => absurd (by decide) c_4)
      exact hyp
    · have hyp := hyp.2 c_3
      refine z_iconst dX4_readNumber_16 (r32d rfl) ?_
      refine z_goto (tgt := 21) dX4_readNumber_17 (by decide) ?_
      refine z_istore_n dX4_readNumber_21 rfl (by decide) rfl ?_
      refine z_iload_n dX4_readNumber_22 rfl ?_
      refine z_if_eq (tgt := 33) dX4_readNumber_23 (by decide) (fun c_5 => absurd c_5 (by decide)) (fun _ => ?_)
      refine z_aload_n dX4_readNumber_26 rfl ?_
      refine gf_X4_12 (c2 := 3) dX4_readNumber_27 rfl (sC_2 hE) (cC_2 hE) rfl ?_
      refine cl_X4_58 dX4_readNumber_30 rfl (sC_3 hE) (cC_3 hE) (Nat.le_of_ble_eq_true rfl) (zC_mono ?_ hyp)
      rintro _ h_6 ⟨rfl, hyp⟩
      refine ⟨rfl, ?_⟩
      exact hyp
set_option maxRecDepth 20000 in
theorem bX4_readRing_51 {E : zE} (hE : isC E) {r1 : Nat} (hr1 : isSu E r1) {d : Nat} {x2 x3 : Int} {h : zH} {K : Int → zH → Prop} (hyp :
  ((10 < x3 →
    K 1 h) ∧
  (¬ (10 < x3) →
    (((h 3 4) ≠ 22 →
      K 1 h) ∧
    (¬ ((h 3 4) ≠ 22) →
      ((x3 ≠ 10 →
        zCV E mX1_advance d [zR 3] h (fun h_4 =>
          zCI E mX9_stoneAt d [zI x2, zI x3] h_4 (fun r_5 h_5 =>
            zCI E mX4_readStone d [zR 2, zR (r1 + 11), zI r_5] h_5 (fun r_6 h_6 =>
              ((r_6 ≠ 0 →
                ((0 : Int) ≤ x2 ∧ x2 < (8 : Int)) ∧
                ∀ h_8 : zH, h_8 = hset h_6 (r1 + 10) (x2.toNat) (w32 (x3 + 1)) →
                ∀ x_9 : Int, x_9 = w32 (x3 + 1) →
                zG E mX4_readRing (d + 1) 51 [zR 2, zR r1, zI x2, zI x_9] [] h_8 (qI K)) ∧
              (¬ (r_6 ≠ 0) →
                K 0 h_6)))))) ∧
      (¬ (x3 ≠ 10) →
        zCI E mX4_refuse d [zR 2, zI 2] h (fun r_10 h_10 =>
          (r_10 = 0 ∨ r_10 = 1) ∧ K r_10 h_10)))))))) :
  zG E mX4_readRing (d + 1) 51 [zR 2, zR r1, zI x2, zI x3] [] h (qI K) := by
  refine z_iload_n dX4_readRing_51 rfl ?_
  refine z_bipush dX4_readRing_52 (r32d rfl) (by decide) ?_
  refine z_icmp_gt (tgt := 121) dX4_readRing_54 (by decide) (fun c_1 => ?_) (fun c_1 => ?_)
  · have hyp := hyp.1 c_1
    refine z_iconst dX4_readRing_121 (r32d rfl) ?_
    exact z_zret dX4_readRing_122 rfl (Or.inr rfl) ⟨_, rfl, hyp⟩
  · have hyp := hyp.2 c_1
    refine z_aload_n dX4_readRing_57 rfl ?_
    refine gf_X4_12 (c2 := 3) dX4_readRing_58 rfl (sC_2 hE) (cC_2 hE) rfl ?_
    refine gf_X4_47 dX4_readRing_61 rfl (sC_3 hE) (cC_3 hE) ?_
    refine z_bipush dX4_readRing_64 (r32d rfl) (by decide) ?_
    refine z_icmp_ne (tgt := 121) dX4_readRing_66 (by decide) (fun c_2 => ?_) (fun c_2 => ?_)
    · have hyp := hyp.1 c_2
      refine z_iconst dX4_readRing_121 (r32d rfl) ?_
      exact z_zret dX4_readRing_122 rfl (Or.inr rfl) ⟨_, rfl, hyp⟩
    · have hyp := hyp.2 c_2
      refine z_iload_n dX4_readRing_69 rfl ?_
      refine z_bipush dX4_readRing_70 (r32d rfl) (by decide) ?_
      refine z_icmp_ne (tgt := 81) dX4_readRing_72 (by decide) (fun c_3 => ?_) (fun c_3 => ?_)
      · have hyp := hyp.1 c_3
        refine z_aload_n dX4_readRing_81 rfl ?_
        refine gf_X4_12 (c2 := 3) dX4_readRing_82 rfl (sC_2 hE) (cC_2 hE) rfl ?_
        refine cl_X4_58 dX4_readRing_85 rfl (sC_3 hE) (cC_3 hE) (Nat.le_of_ble_eq_true rfl) (zC_mono ?_ hyp)
        rintro _ h_4 ⟨rfl, hyp⟩
        refine ⟨rfl, ?_⟩
        refine z_aload_n dX4_readRing_88 rfl ?_
        refine z_aload_n dX4_readRing_89 rfl ?_
        refine gf_X4_121 (c2 := (r1 + 11)) dX4_readRing_90 rfl ((hr1.2.1)) (Nat.lt_of_le_of_lt (Nat.le_add_right r1 18) hr1.1) rfl ?_
        refine z_iload_n dX4_readRing_93 rfl ?_
        refine z_iload_n dX4_readRing_94 rfl ?_
        refine cl_X4_124 dX4_readRing_95 rfl (Nat.le_of_ble_eq_true rfl) (zC_mono ?_ hyp)
        rintro _ h_5 ⟨r_5, rfl, hyp⟩
        refine ⟨r_5, rfl, ?_⟩
        refine cl_X4_128 dX4_readRing_98 rfl (sC_2 hE) (cC_2 hE) (Nat.le_of_ble_eq_true rfl) (zC_mono ?_ hyp)
        rintro _ h_6 ⟨r_6, rfl, hyp⟩
        refine ⟨r_6, rfl, ?_⟩
        refine z_if_ne (tgt := 106) dX4_readRing_101 (by decide) (fun c_7 => ?_) (fun c_7 => ?_)
        · have hyp := hyp.1 c_7
          refine z_aload_n dX4_readRing_106 rfl ?_
          refine gf_X4_132 (c2 := (r1 + 10)) dX4_readRing_107 rfl ((hr1.2.1)) (Nat.lt_of_le_of_lt (Nat.le_add_right r1 18) hr1.1) rfl ?_
          refine z_iload_n dX4_readRing_110 rfl ?_
          refine z_iload_n dX4_readRing_111 rfl ?_
          refine z_iconst dX4_readRing_112 (r32d rfl) ?_
          refine z_iadd dX4_readRing_113 ?_
          obtain ⟨⟨hi0, hi1⟩, hyp⟩ := hyp
          refine z_iastore dX4_readRing_114 ((hr1.2.2.2.2.2.2.2.1)) (Nat.lt_of_le_of_lt (Nat.add_le_add_left (Nat.le_of_ble_eq_true rfl : 10 ≤ 18) r1) hr1.1) hi0 hi1 ?_
          generalize eh_8 : hset h_6 (r1 + 10) _ (w32 (x3 + 1)) = h_8
          have hyp := hyp h_8 eh_8.symm
          refine z_iinc dX4_readRing_115 rfl (by decide) rfl ?_
          generalize ex_9 : w32 (x3 + 1) = x_9
          have hyp := hyp x_9 ex_9.symm
          refine z_goto (tgt := 51) dX4_readRing_118 (by decide) ?_
          exact hyp
        · have hyp := hyp.2 c_7
          refine z_iconst dX4_readRing_104 (r32d rfl) ?_
          exact z_zret dX4_readRing_105 rfl (Or.inl rfl) ⟨_, rfl, hyp⟩
      · have hyp := hyp.2 c_3
        refine z_aload_n dX4_readRing_75 rfl ?_
        refine z_iconst dX4_readRing_76 (r32d rfl) ?_
        refine cl_X4_54 dX4_readRing_77 rfl (sC_2 hE) (cC_2 hE) (Nat.le_of_ble_eq_true rfl) (zC_mono ?_ hyp)
        rintro _ h_10 ⟨r_10, rfl, hyp⟩
        refine ⟨r_10, rfl, ?_⟩
        exact z_zret dX4_readRing_80 rfl hyp.1 ⟨_, rfl, hyp.2⟩
set_option maxRecDepth 20000 in
theorem eX4_readRing {E : zE} (hE : isC E) {r1 : Nat} (hr1 : isSu E r1) {d : Nat} {h : zH} {K : Int → zH → Prop} (hyp :
  zCI E mX4_readHead d [zR 2, zR (r1 + 3)] h (fun r_1 h_1 =>
    ((r_1 ≠ 0 →
      ∀ x_3 : Int, x_3 = h_1 2 5 →
      zCI E mX4_readToldName d [zR 2, zR (r1 + 1)] h_1 (fun r_4 h_4 =>
        ((r_4 = 0 →
          K 0 h_4) ∧
        (¬ (r_4 = 0) →
          zCI E mX8_hasRing d [zR r1, zI x_3] h_4 (fun r_6 h_6 =>
            ((r_6 ≠ 0 →
              ((0 : Int) ≤ x_3 ∧ x_3 < (8 : Int)) ∧
              ∀ h_8 : zH, h_8 = hset h_6 (r1 + 9) (x_3.toNat) (h_6 2 5) →
              zG E mX4_readRing (d + 1) 51 [zR 2, zR r1, zI x_3, zI 0] [] h_8 (qI K)) ∧
            (¬ (r_6 ≠ 0) →
              K 0 h_6))))))) ∧
    (¬ (r_1 ≠ 0) →
      K 0 h_1)))) :
  zCI E mX4_readRing (d + 1) [zR 2, zR r1] h K := by
  refine zC_in (L0 := [zR 2, zR r1, zU, zU]) pn_X4 rfl (Nat.le_of_ble_eq_true rfl) ?_
  refine z_aload_n dX4_readRing_0 rfl ?_
  refine z_aload_n dX4_readRing_1 rfl ?_
  refine gf_X4_108 (c2 := (r1 + 3)) dX4_readRing_2 rfl ((hr1.2.1)) (Nat.lt_of_le_of_lt (Nat.le_add_right r1 18) hr1.1) rfl ?_
  refine cl_X4_66 dX4_readRing_5 rfl (sC_2 hE) (cC_2 hE) (Nat.le_of_ble_eq_true rfl) (zC_mono ?_ hyp)
  rintro _ h_1 ⟨r_1, rfl, hyp⟩
  refine ⟨r_1, rfl, ?_⟩
  refine z_if_ne (tgt := 13) dX4_readRing_8 (by decide) (fun c_2 => ?_) (fun c_2 => ?_)
  · have hyp := hyp.1 c_2
    refine z_aload_n dX4_readRing_13 rfl ?_
    refine gf_X4_35 dX4_readRing_14 rfl (sC_2 hE) (cC_2 hE) ?_
    generalize ex_3 : h_1 2 5 = x_3
    have hyp := hyp x_3 ex_3.symm
    refine z_istore_n dX4_readRing_17 rfl (by decide) rfl ?_
    refine z_aload_n dX4_readRing_18 rfl ?_
    refine z_aload_n dX4_readRing_19 rfl ?_
    refine gf_X4_62 (c2 := (r1 + 1)) dX4_readRing_20 rfl ((hr1.2.1)) (Nat.lt_of_le_of_lt (Nat.le_add_right r1 18) hr1.1) rfl ?_
    refine cl_X4_111 dX4_readRing_23 rfl (sC_2 hE) (cC_2 hE) (Nat.le_of_ble_eq_true rfl) (zC_mono ?_ hyp)
    rintro _ h_4 ⟨r_4, rfl, hyp⟩
    refine ⟨r_4, rfl, ?_⟩
    refine z_if_eq (tgt := 37) dX4_readRing_26 (by decide) (fun c_5 => ?_) (fun c_5 => ?_)
    · have hyp := hyp.1 c_5
      refine z_iconst dX4_readRing_37 (r32d rfl) ?_
      exact z_zret dX4_readRing_38 rfl (Or.inl rfl) ⟨_, rfl, hyp⟩
    · have hyp := hyp.2 c_5
      refine z_aload_n dX4_readRing_29 rfl ?_
      refine z_iload_n dX4_readRing_30 rfl ?_
      refine cl_X4_114 dX4_readRing_31 rfl ((hr1.2.1)) (Nat.lt_of_le_of_lt (Nat.le_add_right r1 18) hr1.1) (Nat.le_of_ble_eq_true rfl) (zC_mono ?_ hyp)
      rintro _ h_6 ⟨r_6, rfl, hyp⟩
      refine ⟨r_6, rfl, ?_⟩
      refine z_if_ne (tgt := 39) dX4_readRing_34 (by decide) (fun c_7 => ?_) (fun c_7 => ?_)
      · have hyp := hyp.1 c_7
        refine z_aload_n dX4_readRing_39 rfl ?_
        refine gf_X4_117 (c2 := (r1 + 9)) dX4_readRing_40 rfl ((hr1.2.1)) (Nat.lt_of_le_of_lt (Nat.le_add_right r1 18) hr1.1) rfl ?_
        refine z_iload_n dX4_readRing_43 rfl ?_
        refine z_aload_n dX4_readRing_44 rfl ?_
        refine gf_X4_35 dX4_readRing_45 rfl (sC_2 hE) (cC_2 hE) ?_
        obtain ⟨⟨hi0, hi1⟩, hyp⟩ := hyp
        refine z_iastore dX4_readRing_48 ((hr1.2.2.2.2.2.2.1)) (Nat.lt_of_le_of_lt (Nat.add_le_add_left (Nat.le_of_ble_eq_true rfl : 9 ≤ 18) r1) hr1.1) hi0 hi1 ?_
        generalize eh_8 : hset h_6 (r1 + 9) _ (h_6 2 5) = h_8
        have hyp := hyp h_8 eh_8.symm
        refine z_iconst dX4_readRing_49 (r32d rfl) ?_
        refine z_istore_n dX4_readRing_50 rfl (by decide) rfl ?_
        exact hyp
      · have hyp := hyp.2 c_7
        refine z_iconst dX4_readRing_37 (r32d rfl) ?_
        exact z_zret dX4_readRing_38 rfl (Or.inl rfl) ⟨_, rfl, hyp⟩
  · have hyp := hyp.2 c_2
    refine z_iconst dX4_readRing_11 (r32d rfl) ?_
    exact z_zret dX4_readRing_12 rfl (Or.inl rfl) ⟨_, rfl, hyp⟩
set_option maxRecDepth 20000 in
theorem eX4_readRule {E : zE} (hE : isC E) {r1 : Nat} (hr1 : isSu E r1) {d : Nat} {h : zH} {K : Int → zH → Prop} (hyp :
  (((h r1 11) = 0 →
    zCV E mX1_advance d [zR 3] h (fun h_2 =>
      zCI E mX6_read d [zR 6, zR 3, zR (r1 + 14)] h_2 (fun r_3 h_3 =>
        ((r_3 = 0 →
          ∀ h_5 : zH, h_5 = hset h_3 r1 11 1 →
          K 1 h_5) ∧
        (¬ (r_3 = 0) →
          zCI E mX4_refuse d [zR 2, zI r_3] h_3 (fun r_6 h_6 =>
            (r_6 = 0 ∨ r_6 = 1) ∧ K r_6 h_6)))))) ∧
  (¬ ((h r1 11) = 0) →
    zCI E mX4_refuse d [zR 2, zI 3] h (fun r_7 h_7 =>
      (r_7 = 0 ∨ r_7 = 1) ∧ K r_7 h_7)))) :
  zCI E mX4_readRule (d + 1) [zR 2, zR r1] h K := by
  refine zC_in (L0 := [zR 2, zR r1, zU]) pn_X4 rfl (Nat.le_of_ble_eq_true rfl) ?_
  refine z_aload_n dX4_readRule_0 rfl ?_
  refine gf_X4_145 dX4_readRule_1 rfl ((hr1.2.1)) (Nat.lt_of_le_of_lt (Nat.le_add_right r1 18) hr1.1) ?_
  refine z_if_eq (tgt := 13) dX4_readRule_4 (by decide) (fun c_1 => ?_) (fun c_1 => ?_)
  · have hyp := hyp.1 c_1
    refine z_aload_n dX4_readRule_13 rfl ?_
    refine gf_X4_12 (c2 := 3) dX4_readRule_14 rfl (sC_2 hE) (cC_2 hE) rfl ?_
    refine cl_X4_58 dX4_readRule_17 rfl (sC_3 hE) (cC_3 hE) (Nat.le_of_ble_eq_true rfl) (zC_mono ?_ hyp)
    rintro _ h_2 ⟨rfl, hyp⟩
    refine ⟨rfl, ?_⟩
    refine z_aload_n dX4_readRule_20 rfl ?_
    refine gf_X4_21 (c2 := 6) dX4_readRule_21 rfl (sC_2 hE) (cC_2 hE) rfl ?_
    refine z_aload_n dX4_readRule_24 rfl ?_
    refine gf_X4_12 (c2 := 3) dX4_readRule_25 rfl (sC_2 hE) (cC_2 hE) rfl ?_
    refine z_aload_n dX4_readRule_28 rfl ?_
    refine gf_X4_149 (c2 := (r1 + 14)) dX4_readRule_29 rfl ((hr1.2.1)) (Nat.lt_of_le_of_lt (Nat.le_add_right r1 18) hr1.1) rfl ?_
    refine cl_X4_153 dX4_readRule_32 rfl (sC_6 hE) (cC_6 hE) (Nat.le_of_ble_eq_true rfl) (zC_mono ?_ hyp)
    rintro _ h_3 ⟨r_3, rfl, hyp⟩
    refine ⟨r_3, rfl, ?_⟩
    refine z_istore_n dX4_readRule_35 rfl (by decide) rfl ?_
    refine z_iload_n dX4_readRule_36 rfl ?_
    refine z_if_eq (tgt := 46) dX4_readRule_37 (by decide) (fun c_4 => ?_) (fun c_4 => ?_)
    · have hyp := hyp.1 c_4
      refine z_aload_n dX4_readRule_46 rfl ?_
      refine z_iconst dX4_readRule_47 (r32d rfl) ?_
      refine pf_X4_145 dX4_readRule_48 rfl ((hr1.2.1)) (Nat.lt_of_le_of_lt (Nat.le_add_right r1 18) hr1.1) (Or.inr rfl) ?_
      generalize eh_5 : hset h_3 r1 11 _ = h_5
      have hyp := hyp h_5 eh_5.symm
      refine z_iconst dX4_readRule_51 (r32d rfl) ?_
      exact z_zret dX4_readRule_52 rfl (Or.inr rfl) ⟨_, rfl, hyp⟩
    · have hyp := hyp.2 c_4
      refine z_aload_n dX4_readRule_40 rfl ?_
      refine z_iload_n dX4_readRule_41 rfl ?_
      refine cl_X4_54 dX4_readRule_42 rfl (sC_2 hE) (cC_2 hE) (Nat.le_of_ble_eq_true rfl) (zC_mono ?_ hyp)
      rintro _ h_6 ⟨r_6, rfl, hyp⟩
      refine ⟨r_6, rfl, ?_⟩
      exact z_zret dX4_readRule_45 rfl hyp.1 ⟨_, rfl, hyp.2⟩
  · have hyp := hyp.2 c_1
    refine z_aload_n dX4_readRule_7 rfl ?_
    refine z_iconst dX4_readRule_8 (r32d rfl) ?_
    refine cl_X4_54 dX4_readRule_9 rfl (sC_2 hE) (cC_2 hE) (Nat.le_of_ble_eq_true rfl) (zC_mono ?_ hyp)
    rintro _ h_7 ⟨r_7, rfl, hyp⟩
    refine ⟨r_7, rfl, ?_⟩
    exact z_zret dX4_readRule_12 rfl hyp.1 ⟨_, rfl, hyp.2⟩
set_option maxRecDepth 20000 in
theorem bX4_readSaying_133 {E : zE} (hE : isC E) {r1 : Nat} (hr1 : isSu E r1) {d : Nat} {s0 s1 : Int} {h : zH} {K : Int → zH → Prop} (hyp :
  ((0 : Int) ≤ s1 ∧ s1 < (80 : Int)) ∧
  ∀ h_1 : zH, h_1 = hset h (r1 + 13) (s1.toNat) s0 →
  (((h_1 3 4) ≠ 29 →
    ∀ h_3 : zH, h_3 = hset h_1 r1 9 (w32 ((h_1 r1 9) + 1)) →
    K 1 h_3) ∧
  (¬ ((h_1 3 4) ≠ 29) →
    zCV E mX1_advance d [zR 3] h_1 (fun h_4 =>
      ∀ h_5 : zH, h_5 = hset h_4 r1 9 (w32 ((h_4 r1 9) + 1)) →
      K 1 h_5)))) :
  zG E mX4_readSaying (d + 1) 133 [zR 2, zR r1, zU] [zI s0, zI s1, zR (r1 + 13)] h (qI K) := by
  obtain ⟨⟨hi0, hi1⟩, hyp⟩ := hyp
  refine z_iastore dX4_readSaying_133 ((hr1.2.2.2.2.2.2.2.2.2.2.1)) (Nat.lt_of_le_of_lt (Nat.add_le_add_left (Nat.le_of_ble_eq_true rfl : 13 ≤ 18) r1) hr1.1) hi0 hi1 ?_
  generalize eh_1 : hset h (r1 + 13) _ s0 = h_1
  have hyp := hyp h_1 eh_1.symm
  refine z_aload_n dX4_readSaying_134 rfl ?_
  refine gf_X4_12 (c2 := 3) dX4_readSaying_135 rfl (sC_2 hE) (cC_2 hE) rfl ?_
  refine gf_X4_47 dX4_readSaying_138 rfl (sC_3 hE) (cC_3 hE) ?_
  refine z_bipush dX4_readSaying_141 (r32d rfl) (by decide) ?_
  refine z_icmp_ne (tgt := 153) dX4_readSaying_143 (by decide) (fun c_2 => ?_) (fun c_2 => ?_)
  · have hyp := hyp.1 c_2
    refine z_aload_n dX4_readSaying_153 rfl ?_
    refine z_dup dX4_readSaying_154 rfl ?_
    refine gf_X4_157 dX4_readSaying_155 rfl ((hr1.2.1)) (Nat.lt_of_le_of_lt (Nat.le_add_right r1 18) hr1.1) ?_
    refine z_iconst dX4_readSaying_158 (r32d rfl) ?_
    refine z_iadd dX4_readSaying_159 ?_
    refine pf_X4_157 dX4_readSaying_160 rfl ((hr1.2.1)) (Nat.lt_of_le_of_lt (Nat.le_add_right r1 18) hr1.1) ?_
    generalize eh_3 : hset h_1 r1 9 _ = h_3
    have hyp := hyp h_3 eh_3.symm
    refine z_iconst dX4_readSaying_163 (r32d rfl) ?_
    exact z_zret dX4_readSaying_164 rfl (Or.inr rfl) ⟨_, rfl, hyp⟩
  · have hyp := hyp.2 c_2
    refine z_aload_n dX4_readSaying_146 rfl ?_
    refine gf_X4_12 (c2 := 3) dX4_readSaying_147 rfl (sC_2 hE) (cC_2 hE) rfl ?_
    refine cl_X4_58 dX4_readSaying_150 rfl (sC_3 hE) (cC_3 hE) (Nat.le_of_ble_eq_true rfl) (zC_mono ?_ hyp)
    rintro _ h_4 ⟨rfl, hyp⟩
    refine ⟨rfl, ?_⟩
    refine z_aload_n dX4_readSaying_153 rfl ?_
    refine z_dup dX4_readSaying_154 rfl ?_
    refine gf_X4_157 dX4_readSaying_155 rfl ((hr1.2.1)) (Nat.lt_of_le_of_lt (Nat.le_add_right r1 18) hr1.1) ?_
    refine z_iconst dX4_readSaying_158 (r32d rfl) ?_
    refine z_iadd dX4_readSaying_159 ?_
    refine pf_X4_157 dX4_readSaying_160 rfl ((hr1.2.1)) (Nat.lt_of_le_of_lt (Nat.le_add_right r1 18) hr1.1) ?_
    generalize eh_5 : hset h_4 r1 9 _ = h_5
    have hyp := hyp h_5 eh_5.symm
    refine z_iconst dX4_readSaying_163 (r32d rfl) ?_
    exact z_zret dX4_readSaying_164 rfl (Or.inr rfl) ⟨_, rfl, hyp⟩
set_option maxRecDepth 20000 in
theorem eX4_readSaying {E : zE} (hE : isC E) {r1 : Nat} (hr1 : isSu E r1) {d : Nat} {h : zH} {K : Int → zH → Prop} (hyp :
  ∀ x_1 : Int, x_1 = w32 ((h r1 9) * 4) →
  ((x_1 < 0 →
    zCI E mX4_refuse d [zR 2, zI 2] h (fun r_3 h_3 =>
      (r_3 = 0 ∨ r_3 = 1) ∧ K r_3 h_3)) ∧
  (¬ (x_1 < 0) →
    (((w32 (x_1 + 4)) ≤ 80 →
      zCV E mX1_advance d [zR 3] h (fun h_5 =>
        zCI E mX4_readMeasurer d [zR 2, zR (r1 + 7)] h_5 (fun r_6 h_6 =>
          ((r_6 ≠ 0 →
            ((0 : Int) ≤ w32 (x_1 + 0) ∧ w32 (x_1 + 0) < (80 : Int)) ∧
            ∀ h_8 : zH, h_8 = hset h_6 (r1 + 13) ((w32 (x_1 + 0)).toNat) (h_6 2 5) →
            zCI E mX4_readToldName d [zR 2, zR (r1 + 3)] h_8 (fun r_9 h_9 =>
              ((r_9 ≠ 0 →
                ((0 : Int) ≤ w32 (x_1 + 1) ∧ w32 (x_1 + 1) < (80 : Int)) ∧
                ∀ h_11 : zH, h_11 = hset h_9 (r1 + 13) ((w32 (x_1 + 1)).toNat) (h_9 2 5) →
                zCI E mX4_readNumber d [zR 2, zI 1, zI 99999] h_11 (fun r_12 h_12 =>
                  ((r_12 ≠ 0 →
                    ((0 : Int) ≤ w32 (x_1 + 2) ∧ w32 (x_1 + 2) < (80 : Int)) ∧
                    ∀ h_14 : zH, h_14 = hset h_12 (r1 + 13) ((w32 (x_1 + 2)).toNat) (h_12 2 5) →
                    (((h_14 3 4) ≠ 29 →
                      zG E mX4_readSaying (d + 1) 133 [zR 2, zR r1, zU] [zI 0, zI (w32 (x_1 + 3)), zR (r1 + 13)] h_14 (qI K)) ∧
                    (¬ ((h_14 3 4) ≠ 29) →
                      zG E mX4_readSaying (d + 1) 133 [zR 2, zR r1, zU] [zI 1, zI (w32 (x_1 + 3)), zR (r1 + 13)] h_14 (qI K)))) ∧
                  (¬ (r_12 ≠ 0) →
                    K 0 h_12)))) ∧
              (¬ (r_9 ≠ 0) →
                K 0 h_9)))) ∧
          (¬ (r_6 ≠ 0) →
            K 0 h_6))))) ∧
    (¬ ((w32 (x_1 + 4)) ≤ 80) →
      zCI E mX4_refuse d [zR 2, zI 2] h (fun r_16 h_16 =>
        (r_16 = 0 ∨ r_16 = 1) ∧ K r_16 h_16)))))) :
  zCI E mX4_readSaying (d + 1) [zR 2, zR r1] h K := by
  refine zC_in (L0 := [zR 2, zR r1, zU]) pn_X4 rfl (Nat.le_of_ble_eq_true rfl) ?_
  refine z_aload_n dX4_readSaying_0 rfl ?_
  refine gf_X4_157 dX4_readSaying_1 rfl ((hr1.2.1)) (Nat.lt_of_le_of_lt (Nat.le_add_right r1 18) hr1.1) ?_
  refine z_iconst dX4_readSaying_4 (r32d rfl) ?_
  refine z_imul dX4_readSaying_5 ?_
  generalize ex_1 : w32 ((h r1 9) * 4) = x_1
  have hyp := hyp x_1 ex_1.symm
  refine z_istore_n dX4_readSaying_6 rfl (by decide) rfl ?_
  refine z_iload_n dX4_readSaying_7 rfl ?_
  refine z_if_lt (tgt := 22) dX4_readSaying_8 (by decide) (fun c_2 => ?_) (fun c_2 => ?_)
  · have hyp := hyp.1 c_2
    refine z_aload_n dX4_readSaying_22 rfl ?_
    refine z_iconst dX4_readSaying_23 (r32d rfl) ?_
    refine cl_X4_54 dX4_readSaying_24 rfl (sC_2 hE) (cC_2 hE) (Nat.le_of_ble_eq_true rfl) (zC_mono ?_ hyp)
    rintro _ h_3 ⟨r_3, rfl, hyp⟩
    refine ⟨r_3, rfl, ?_⟩
    exact z_zret dX4_readSaying_27 rfl hyp.1 ⟨_, rfl, hyp.2⟩
  · have hyp := hyp.2 c_2
    refine z_iload_n dX4_readSaying_11 rfl ?_
    refine z_iconst dX4_readSaying_12 (r32d rfl) ?_
    refine z_iadd dX4_readSaying_13 ?_
    refine z_aload_n dX4_readSaying_14 rfl ?_
    refine gf_X4_160 (c2 := (r1 + 13)) dX4_readSaying_15 rfl ((hr1.2.1)) (Nat.lt_of_le_of_lt (Nat.le_add_right r1 18) hr1.1) rfl ?_
    refine z_alen dX4_readSaying_18 ((hr1.2.2.2.2.2.2.2.2.2.2.1)) (by decide) (by decide) (by decide) (Nat.lt_of_le_of_lt (Nat.add_le_add_left (Nat.le_of_ble_eq_true rfl : 13 ≤ 18) r1) hr1.1) ?_
    refine z_icmp_le (tgt := 28) dX4_readSaying_19 (by decide) (fun c_4 => ?_) (fun c_4 => ?_)
    · have hyp := hyp.1 c_4
      refine z_aload_n dX4_readSaying_28 rfl ?_
      refine gf_X4_12 (c2 := 3) dX4_readSaying_29 rfl (sC_2 hE) (cC_2 hE) rfl ?_
      refine cl_X4_58 dX4_readSaying_32 rfl (sC_3 hE) (cC_3 hE) (Nat.le_of_ble_eq_true rfl) (zC_mono ?_ hyp)
      rintro _ h_5 ⟨rfl, hyp⟩
      refine ⟨rfl, ?_⟩
      refine z_aload_n dX4_readSaying_35 rfl ?_
      refine z_aload_n dX4_readSaying_36 rfl ?_
      refine gf_X4_163 (c2 := (r1 + 7)) dX4_readSaying_37 rfl ((hr1.2.1)) (Nat.lt_of_le_of_lt (Nat.le_add_right r1 18) hr1.1) rfl ?_
      refine cl_X4_166 dX4_readSaying_40 rfl (sC_2 hE) (cC_2 hE) (Nat.le_of_ble_eq_true rfl) (zC_mono ?_ hyp)
      rintro _ h_6 ⟨r_6, rfl, hyp⟩
      refine ⟨r_6, rfl, ?_⟩
      refine z_if_ne (tgt := 48) dX4_readSaying_43 (by decide) (fun c_7 => ?_) (fun c_7 => ?_)
      · have hyp := hyp.1 c_7
        refine z_aload_n dX4_readSaying_48 rfl ?_
        refine gf_X4_160 (c2 := (r1 + 13)) dX4_readSaying_49 rfl ((hr1.2.1)) (Nat.lt_of_le_of_lt (Nat.le_add_right r1 18) hr1.1) rfl ?_
        refine z_iload_n dX4_readSaying_52 rfl ?_
        refine z_iconst dX4_readSaying_53 (r32d rfl) ?_
        refine z_iadd dX4_readSaying_54 ?_
        refine z_aload_n dX4_readSaying_55 rfl ?_
        refine gf_X4_35 dX4_readSaying_56 rfl (sC_2 hE) (cC_2 hE) ?_
        obtain ⟨⟨hi0, hi1⟩, hyp⟩ := hyp
        refine z_iastore dX4_readSaying_59 ((hr1.2.2.2.2.2.2.2.2.2.2.1)) (Nat.lt_of_le_of_lt (Nat.add_le_add_left (Nat.le_of_ble_eq_true rfl : 13 ≤ 18) r1) hr1.1) hi0 hi1 ?_
        generalize eh_8 : hset h_6 (r1 + 13) _ (h_6 2 5) = h_8
        have hyp := hyp h_8 eh_8.symm
        refine z_aload_n dX4_readSaying_60 rfl ?_
        refine z_aload_n dX4_readSaying_61 rfl ?_
        refine gf_X4_108 (c2 := (r1 + 3)) dX4_readSaying_62 rfl ((hr1.2.1)) (Nat.lt_of_le_of_lt (Nat.le_add_right r1 18) hr1.1) rfl ?_
        refine cl_X4_111 dX4_readSaying_65 rfl (sC_2 hE) (cC_2 hE) (Nat.le_of_ble_eq_true rfl) (zC_mono ?_ hyp)
        rintro _ h_9 ⟨r_9, rfl, hyp⟩
        refine ⟨r_9, rfl, ?_⟩
        refine z_if_ne (tgt := 73) dX4_readSaying_68 (by decide) (fun c_10 => ?_) (fun c_10 => ?_)
        · have hyp := hyp.1 c_10
          refine z_aload_n dX4_readSaying_73 rfl ?_
          refine gf_X4_160 (c2 := (r1 + 13)) dX4_readSaying_74 rfl ((hr1.2.1)) (Nat.lt_of_le_of_lt (Nat.le_add_right r1 18) hr1.1) rfl ?_
          refine z_iload_n dX4_readSaying_77 rfl ?_
          refine z_iconst dX4_readSaying_78 (r32d rfl) ?_
          refine z_iadd dX4_readSaying_79 ?_
          refine z_aload_n dX4_readSaying_80 rfl ?_
          refine gf_X4_35 dX4_readSaying_81 rfl (sC_2 hE) (cC_2 hE) ?_
          obtain ⟨⟨hi0, hi1⟩, hyp⟩ := hyp
          refine z_iastore dX4_readSaying_84 ((hr1.2.2.2.2.2.2.2.2.2.2.1)) (Nat.lt_of_le_of_lt (Nat.add_le_add_left (Nat.le_of_ble_eq_true rfl : 13 ≤ 18) r1) hr1.1) hi0 hi1 ?_
          generalize eh_11 : hset h_9 (r1 + 13) _ (h_9 2 5) = h_11
          have hyp := hyp h_11 eh_11.symm
          refine z_aload_n dX4_readSaying_85 rfl ?_
          refine z_iconst dX4_readSaying_86 (r32d rfl) ?_
          refine z_ldc (x := 99999) dX4_readSaying_87 rfl wk_X4_169 (by decide) (r32d rfl) ?_
          refine cl_X4_135 dX4_readSaying_89 rfl (sC_2 hE) (cC_2 hE) (Nat.le_of_ble_eq_true rfl) (zC_mono ?_ hyp)
          rintro _ h_12 ⟨r_12, rfl, hyp⟩
          refine ⟨r_12, rfl, ?_⟩
          refine z_if_ne (tgt := 97) dX4_readSaying_92 (by decide) (fun c_13 => ?_) (fun c_13 => ?_)
          · have hyp := hyp.1 c_13
            refine z_aload_n dX4_readSaying_97 rfl ?_
            refine gf_X4_160 (c2 := (r1 + 13)) dX4_readSaying_98 rfl ((hr1.2.1)) (Nat.lt_of_le_of_lt (Nat.le_add_right r1 18) hr1.1) rfl ?_
            refine z_iload_n dX4_readSaying_101 rfl ?_
            refine z_iconst dX4_readSaying_102 (r32d rfl) ?_
            refine z_iadd dX4_readSaying_103 ?_
            refine z_aload_n dX4_readSaying_104 rfl ?_
            refine gf_X4_35 dX4_readSaying_105 rfl (sC_2 hE) (cC_2 hE) ?_
            obtain ⟨⟨hi0, hi1⟩, hyp⟩ := hyp
            refine z_iastore dX4_readSaying_108 ((hr1.2.2.2.2.2.2.2.2.2.2.1)) (Nat.lt_of_le_of_lt (Nat.add_le_add_left (Nat.le_of_ble_eq_true rfl : 13 ≤ 18) r1) hr1.1) hi0 hi1 ?_
            generalize eh_14 : hset h_12 (r1 + 13) _ (h_12 2 5) = h_14
            have hyp := hyp h_14 eh_14.symm
            refine z_aload_n dX4_readSaying_109 rfl ?_
            refine gf_X4_160 (c2 := (r1 + 13)) dX4_readSaying_110 rfl ((hr1.2.1)) (Nat.lt_of_le_of_lt (Nat.le_add_right r1 18) hr1.1) rfl ?_
            refine z_iload_n dX4_readSaying_113 rfl ?_
            refine z_iconst dX4_readSaying_114 (r32d rfl) ?_
            refine z_iadd dX4_readSaying_115 ?_
            refine z_aload_n dX4_readSaying_116 rfl ?_
            refine gf_X4_12 (c2 := 3) dX4_readSaying_117 rfl (sC_2 hE) (cC_2 hE) rfl ?_
            refine gf_X4_47 dX4_readSaying_120 rfl (sC_3 hE) (cC_3 hE) ?_
            refine z_bipush dX4_readSaying_123 (r32d rfl) (by decide) ?_
            refine z_icmp_ne (tgt := 132) dX4_readSaying_125 (by decide) (fun c_15 => ?_) (fun c_15 => ?_)
            · have hyp := hyp.1 c_15
              refine z_iconst dX4_readSaying_132 (r32d rfl) ?_
              exact z_forget [true, true, false] rfl hyp
            · have hyp := hyp.2 c_15
              refine z_iconst dX4_readSaying_128 (r32d rfl) ?_
              refine z_goto (tgt := 133) dX4_readSaying_129 (by decide) ?_
              exact z_forget [true, true, false] rfl hyp
          · have hyp := hyp.2 c_13
            refine z_iconst dX4_readSaying_95 (r32d rfl) ?_
            exact z_zret dX4_readSaying_96 rfl (Or.inl rfl) ⟨_, rfl, hyp⟩
        · have hyp := hyp.2 c_10
          refine z_iconst dX4_readSaying_71 (r32d rfl) ?_
          exact z_zret dX4_readSaying_72 rfl (Or.inl rfl) ⟨_, rfl, hyp⟩
      · have hyp := hyp.2 c_7
        refine z_iconst dX4_readSaying_46 (r32d rfl) ?_
        exact z_zret dX4_readSaying_47 rfl (Or.inl rfl) ⟨_, rfl, hyp⟩
    · have hyp := hyp.2 c_4
      refine z_aload_n dX4_readSaying_22 rfl ?_
      refine z_iconst dX4_readSaying_23 (r32d rfl) ?_
      refine cl_X4_54 dX4_readSaying_24 rfl (sC_2 hE) (cC_2 hE) (Nat.le_of_ble_eq_true rfl) (zC_mono ?_ hyp)
      rintro _ h_16 ⟨r_16, rfl, hyp⟩
      refine ⟨r_16, rfl, ?_⟩
      exact z_zret dX4_readSaying_27 rfl hyp.1 ⟨_, rfl, hyp.2⟩
set_option maxRecDepth 20000 in
theorem eX4_readSlack {E : zE} (hE : isC E) {r1 : Nat} (hr1 : isSu E r1) {d : Nat} {h : zH} {K : Int → zH → Prop} (hyp :
  (((h r1 13) = 0 →
    ∀ h_2 : zH, h_2 = hset h r1 13 1 →
    zCV E mX1_advance d [zR 3] h_2 (fun h_3 =>
      zCI E mX4_readNumber d [zR 2, zI 0, zI 9999] h_3 (fun r_4 h_4 =>
        ((r_4 ≠ 0 →
          ∀ h_6 : zH, h_6 = hset h_4 r1 16 (h_4 2 5) →
          K 1 h_6) ∧
        (¬ (r_4 ≠ 0) →
          K 0 h_4))))) ∧
  (¬ ((h r1 13) = 0) →
    zCI E mX4_refuse d [zR 2, zI 3] h (fun r_7 h_7 =>
      (r_7 = 0 ∨ r_7 = 1) ∧ K r_7 h_7)))) :
  zCI E mX4_readSlack (d + 1) [zR 2, zR r1] h K := by
  refine zC_in (L0 := [zR 2, zR r1]) pn_X4 rfl (Nat.le_of_ble_eq_true rfl) ?_
  refine z_aload_n dX4_readSlack_0 rfl ?_
  refine gf_X4_179 dX4_readSlack_1 rfl ((hr1.2.1)) (Nat.lt_of_le_of_lt (Nat.le_add_right r1 18) hr1.1) ?_
  refine z_if_eq (tgt := 13) dX4_readSlack_4 (by decide) (fun c_1 => ?_) (fun c_1 => ?_)
  · have hyp := hyp.1 c_1
    refine z_aload_n dX4_readSlack_13 rfl ?_
    refine z_iconst dX4_readSlack_14 (r32d rfl) ?_
    refine pf_X4_179 dX4_readSlack_15 rfl ((hr1.2.1)) (Nat.lt_of_le_of_lt (Nat.le_add_right r1 18) hr1.1) (Or.inr rfl) ?_
    generalize eh_2 : hset h r1 13 _ = h_2
    have hyp := hyp h_2 eh_2.symm
    refine z_aload_n dX4_readSlack_18 rfl ?_
    refine gf_X4_12 (c2 := 3) dX4_readSlack_19 rfl (sC_2 hE) (cC_2 hE) rfl ?_
    refine cl_X4_58 dX4_readSlack_22 rfl (sC_3 hE) (cC_3 hE) (Nat.le_of_ble_eq_true rfl) (zC_mono ?_ hyp)
    rintro _ h_3 ⟨rfl, hyp⟩
    refine ⟨rfl, ?_⟩
    refine z_aload_n dX4_readSlack_25 rfl ?_
    refine z_iconst dX4_readSlack_26 (r32d rfl) ?_
    refine z_sipush dX4_readSlack_27 (r32d rfl) (by decide) ?_
    refine cl_X4_135 dX4_readSlack_30 rfl (sC_2 hE) (cC_2 hE) (Nat.le_of_ble_eq_true rfl) (zC_mono ?_ hyp)
    rintro _ h_4 ⟨r_4, rfl, hyp⟩
    refine ⟨r_4, rfl, ?_⟩
    refine z_if_ne (tgt := 38) dX4_readSlack_33 (by decide) (fun c_5 => ?_) (fun c_5 => ?_)
    · have hyp := hyp.1 c_5
      refine z_aload_n dX4_readSlack_38 rfl ?_
      refine z_aload_n dX4_readSlack_39 rfl ?_
      refine gf_X4_35 dX4_readSlack_40 rfl (sC_2 hE) (cC_2 hE) ?_
      refine pf_X4_182 dX4_readSlack_43 rfl ((hr1.2.1)) (Nat.lt_of_le_of_lt (Nat.le_add_right r1 18) hr1.1) ?_
      generalize eh_6 : hset h_4 r1 16 _ = h_6
      have hyp := hyp h_6 eh_6.symm
      refine z_iconst dX4_readSlack_46 (r32d rfl) ?_
      exact z_zret dX4_readSlack_47 rfl (Or.inr rfl) ⟨_, rfl, hyp⟩
    · have hyp := hyp.2 c_5
      refine z_iconst dX4_readSlack_36 (r32d rfl) ?_
      exact z_zret dX4_readSlack_37 rfl (Or.inl rfl) ⟨_, rfl, hyp⟩
  · have hyp := hyp.2 c_1
    refine z_aload_n dX4_readSlack_7 rfl ?_
    refine z_iconst dX4_readSlack_8 (r32d rfl) ?_
    refine cl_X4_54 dX4_readSlack_9 rfl (sC_2 hE) (cC_2 hE) (Nat.le_of_ble_eq_true rfl) (zC_mono ?_ hyp)
    rintro _ h_7 ⟨r_7, rfl, hyp⟩
    refine ⟨r_7, rfl, ?_⟩
    exact z_zret dX4_readSlack_12 rfl hyp.1 ⟨_, rfl, hyp.2⟩
set_option maxRecDepth 20000 in
theorem bX4_readStone_17 {E : zE} (hE : isC E) {a1 : Nat} (ha1 : zsh E a1 = (20, 480) ∧ a1 < zN E) {d : Nat} {x2 x3 : Int} {h : zH} {K : Int → zH → Prop} (hyp :
  ((6 ≤ x3 →
    zG E mX4_readStone (d + 1) 37 [zR 2, zR a1, zI x2, zI 0, zU] [] h (qI K)) ∧
  (¬ (6 ≤ x3) →
    ((0 : Int) ≤ w32 (x2 + x3) ∧ w32 (x2 + x3) < (480 : Int)) ∧
    ∀ h_2 : zH, h_2 = hset h a1 ((w32 (x2 + x3)).toNat) 0 →
    ∀ x_3 : Int, x_3 = w32 (x3 + 1) →
    zG E mX4_readStone (d + 1) 17 [zR 2, zR a1, zI x2, zI x_3, zU] [] h_2 (qI K)))) :
  zG E mX4_readStone (d + 1) 17 [zR 2, zR a1, zI x2, zI x3, zU] [] h (qI K) := by
  refine z_iload_n dX4_readStone_17 rfl ?_
  refine z_bipush dX4_readStone_18 (r32d rfl) (by decide) ?_
  refine z_icmp_ge (tgt := 35) dX4_readStone_20 (by decide) (fun c_1 => ?_) (fun c_1 => ?_)
  · have hyp := hyp.1 c_1
    refine z_iconst dX4_readStone_35 (r32d rfl) ?_
    refine z_istore_n dX4_readStone_36 rfl (by decide) rfl ?_
    exact hyp
  · have hyp := hyp.2 c_1
    refine z_aload_n dX4_readStone_23 rfl ?_
    refine z_iload_n dX4_readStone_24 rfl ?_
    refine z_iload_n dX4_readStone_25 rfl ?_
    refine z_iadd dX4_readStone_26 ?_
    refine z_iconst dX4_readStone_27 (r32d rfl) ?_
    obtain ⟨⟨hi0, hi1⟩, hyp⟩ := hyp
    refine z_iastore dX4_readStone_28 (ha1.1) (ha1.2) hi0 hi1 ?_
    generalize eh_2 : hset h a1 _ 0 = h_2
    have hyp := hyp h_2 eh_2.symm
    refine z_iinc dX4_readStone_29 rfl (by decide) rfl ?_
    generalize ex_3 : w32 (x3 + 1) = x_3
    have hyp := hyp x_3 ex_3.symm
    refine z_goto (tgt := 17) dX4_readStone_32 (by decide) ?_
    exact hyp
set_option maxRecDepth 20000 in
theorem bX4_readStone_37 {E : zE} (hE : isC E) {a1 : Nat} (ha1 : zsh E a1 = (20, 480) ∧ a1 < zN E) {d : Nat} {x2 x3 : Int} {h : zH} {K : Int → zH → Prop} (hyp :
  ((1 < x3 →
    (((h 3 4) ≠ 23 →
      zG E mX4_readStone (d + 1) 104 [zR 2, zR a1, zI x2, zI 0, zI 2] [] h (qI K)) ∧
    (¬ ((h 3 4) ≠ 23) →
      zCV E mX1_advance d [zR 3] h (fun h_5 =>
        zG E mX4_readStone (d + 1) 104 [zR 2, zR a1, zI x2, zI 1, zI 2] [] h_5 (qI K))))) ∧
  (¬ (1 < x3) →
    zCI E mX4_readNumber d [zR 2, zI (-999), zI 999] h (fun r_6 h_6 =>
      ((r_6 ≠ 0 →
        ((0 : Int) ≤ w32 (x2 + x3) ∧ w32 (x2 + x3) < (480 : Int)) ∧
        ∀ h_8 : zH, h_8 = hset h_6 a1 ((w32 (x2 + x3)).toNat) (h_6 2 5) →
        ∀ x_9 : Int, x_9 = w32 (x3 + 1) →
        zG E mX4_readStone (d + 1) 37 [zR 2, zR a1, zI x2, zI x_9, zU] [] h_8 (qI K)) ∧
      (¬ (r_6 ≠ 0) →
        K 0 h_6)))))) :
  zG E mX4_readStone (d + 1) 37 [zR 2, zR a1, zI x2, zI x3, zU] [] h (qI K) := by
  refine z_iload_n dX4_readStone_37 rfl ?_
  refine z_iconst dX4_readStone_38 (r32d rfl) ?_
  refine z_icmp_gt (tgt := 72) dX4_readStone_39 (by decide) (fun c_1 => ?_) (fun c_1 => ?_)
  · have hyp := hyp.1 c_1
    refine z_aload_n dX4_readStone_72 rfl ?_
    refine gf_X4_12 (c2 := 3) dX4_readStone_73 rfl (sC_2 hE) (cC_2 hE) rfl ?_
    refine gf_X4_47 dX4_readStone_76 rfl (sC_3 hE) (cC_3 hE) ?_
    refine z_bipush dX4_readStone_79 (r32d rfl) (by decide) ?_
    refine z_icmp_ne (tgt := 88) dX4_readStone_81 (by decide) (fun c_2 => ?_) (fun c_2 => ?_)
    · have hyp := hyp.1 c_2
      refine z_iconst dX4_readStone_88 (r32d rfl) ?_
      refine z_istore_n dX4_readStone_89 rfl (by decide) rfl ?_
      refine z_iload_n dX4_readStone_90 rfl ?_
      refine z_if_eq (tgt := 101) dX4_readStone_91 (by decide) (fun _ => ?_) (fun c_3 => absurd (by decide) c_3)
      refine z_iconst dX4_readStone_101 (r32d rfl) ?_
      refine z_istore dX4_readStone_102 (by decide) rfl ?_
      exact hyp
    · have hyp := hyp.2 c_2
      refine z_iconst dX4_readStone_84 (r32d rfl) ?_
      refine z_goto (tgt := 89) dX4_readStone_85 (by decide) ?_
      refine z_istore_n dX4_readStone_89 rfl (by decide) rfl ?_
      refine z_iload_n dX4_readStone_90 rfl ?_
      refine z_if_eq (tgt := 101) dX4_readStone_91 (by decide) (fun c_4 => absurd c_4 (by decide)) (fun _ => ?_)
      refine z_aload_n dX4_readStone_94 rfl ?_
      refine gf_X4_12 (c2 := 3) dX4_readStone_95 rfl (sC_2 hE) (cC_2 hE) rfl ?_
      refine cl_X4_58 dX4_readStone_98 rfl (sC_3 hE) (cC_3 hE) (Nat.le_of_ble_eq_true rfl) (zC_mono ?_ hyp)
      rintro _ h_5 ⟨rfl, hyp⟩
      refine ⟨rfl, ?_⟩
      refine z_iconst dX4_readStone_101 (r32d rfl) ?_
      refine z_istore dX4_readStone_102 (by decide) rfl ?_
      exact hyp
  · have hyp := hyp.2 c_1
    refine z_aload_n dX4_readStone_42 rfl ?_
    refine z_sipush dX4_readStone_43 (r32d rfl) (by decide) ?_
    refine z_sipush dX4_readStone_46 (r32d rfl) (by decide) ?_
    refine cl_X4_135 dX4_readStone_49 rfl (sC_2 hE) (cC_2 hE) (Nat.le_of_ble_eq_true rfl) (zC_mono ?_ hyp)
    rintro _ h_6 ⟨r_6, rfl, hyp⟩
    refine ⟨r_6, rfl, ?_⟩
    refine z_if_ne (tgt := 57) dX4_readStone_52 (by decide) (fun c_7 => ?_) (fun c_7 => ?_)
    · have hyp := hyp.1 c_7
      refine z_aload_n dX4_readStone_57 rfl ?_
      refine z_iload_n dX4_readStone_58 rfl ?_
      refine z_iload_n dX4_readStone_59 rfl ?_
      refine z_iadd dX4_readStone_60 ?_
      refine z_aload_n dX4_readStone_61 rfl ?_
      refine gf_X4_35 dX4_readStone_62 rfl (sC_2 hE) (cC_2 hE) ?_
      obtain ⟨⟨hi0, hi1⟩, hyp⟩ := hyp
      refine z_iastore dX4_readStone_65 (ha1.1) (ha1.2) hi0 hi1 ?_
      generalize eh_8 : hset h_6 a1 _ (h_6 2 5) = h_8
      have hyp := hyp h_8 eh_8.symm
      refine z_iinc dX4_readStone_66 rfl (by decide) rfl ?_
      generalize ex_9 : w32 (x3 + 1) = x_9
      have hyp := hyp x_9 ex_9.symm
      refine z_goto (tgt := 37) dX4_readStone_69 (by decide) ?_
      exact hyp
    · have hyp := hyp.2 c_7
      refine z_iconst dX4_readStone_55 (r32d rfl) ?_
      exact z_zret dX4_readStone_56 rfl (Or.inl rfl) ⟨_, rfl, hyp⟩
set_option maxRecDepth 20000 in
theorem bX4_readStone_104 {E : zE} (hE : isC E) {a1 : Nat} (ha1 : zsh E a1 = (20, 480) ∧ a1 < zN E) {d : Nat} {x2 x3 x4 : Int} {h : zH} {K : Int → zH → Prop} (hyp :
  ((x3 = 0 →
    zG E mX4_readStone (d + 1) 143 [zR 2, zR a1, zI x2, zU, zU] [] h (qI K)) ∧
  (¬ (x3 = 0) →
    ((3 < x4 →
      zG E mX4_readStone (d + 1) 143 [zR 2, zR a1, zI x2, zU, zU] [] h (qI K)) ∧
    (¬ (3 < x4) →
      zCI E mX4_readNumber d [zR 2, zI (-99), zI 99] h (fun r_3 h_3 =>
        ((r_3 ≠ 0 →
          ((0 : Int) ≤ w32 (x2 + x4) ∧ w32 (x2 + x4) < (480 : Int)) ∧
          ∀ h_5 : zH, h_5 = hset h_3 a1 ((w32 (x2 + x4)).toNat) (h_3 2 5) →
          ∀ x_6 : Int, x_6 = w32 (x4 + 1) →
          zG E mX4_readStone (d + 1) 104 [zR 2, zR a1, zI x2, zI x3, zI x_6] [] h_5 (qI K)) ∧
        (¬ (r_3 ≠ 0) →
          K 0 h_3)))))))) :
  zG E mX4_readStone (d + 1) 104 [zR 2, zR a1, zI x2, zI x3, zI x4] [] h (qI K) := by
  refine z_iload_n dX4_readStone_104 rfl ?_
  refine z_if_eq (tgt := 143) dX4_readStone_105 (by decide) (fun c_1 => ?_) (fun c_1 => ?_)
  · have hyp := hyp.1 c_1
    exact z_forget [true, true, true, false, false] rfl hyp
  · have hyp := hyp.2 c_1
    refine z_iload dX4_readStone_108 rfl ?_
    refine z_iconst dX4_readStone_110 (r32d rfl) ?_
    refine z_icmp_gt (tgt := 143) dX4_readStone_111 (by decide) (fun c_2 => ?_) (fun c_2 => ?_)
    · have hyp := hyp.1 c_2
      exact z_forget [true, true, true, false, false] rfl hyp
    · have hyp := hyp.2 c_2
      refine z_aload_n dX4_readStone_114 rfl ?_
      refine z_bipush dX4_readStone_115 (r32d rfl) (by decide) ?_
      refine z_bipush dX4_readStone_117 (r32d rfl) (by decide) ?_
      refine cl_X4_135 dX4_readStone_119 rfl (sC_2 hE) (cC_2 hE) (Nat.le_of_ble_eq_true rfl) (zC_mono ?_ hyp)
      rintro _ h_3 ⟨r_3, rfl, hyp⟩
      refine ⟨r_3, rfl, ?_⟩
      refine z_if_ne (tgt := 127) dX4_readStone_122 (by decide) (fun c_4 => ?_) (fun c_4 => ?_)
      · have hyp := hyp.1 c_4
        refine z_aload_n dX4_readStone_127 rfl ?_
        refine z_iload_n dX4_readStone_128 rfl ?_
        refine z_iload dX4_readStone_129 rfl ?_
        refine z_iadd dX4_readStone_131 ?_
        refine z_aload_n dX4_readStone_132 rfl ?_
        refine gf_X4_35 dX4_readStone_133 rfl (sC_2 hE) (cC_2 hE) ?_
        obtain ⟨⟨hi0, hi1⟩, hyp⟩ := hyp
        refine z_iastore dX4_readStone_136 (ha1.1) (ha1.2) hi0 hi1 ?_
        generalize eh_5 : hset h_3 a1 _ (h_3 2 5) = h_5
        have hyp := hyp h_5 eh_5.symm
        refine z_iinc dX4_readStone_137 rfl (by decide) rfl ?_
        generalize ex_6 : w32 (x4 + 1) = x_6
        have hyp := hyp x_6 ex_6.symm
        refine z_goto (tgt := 104) dX4_readStone_140 (by decide) ?_
        exact hyp
      · have hyp := hyp.2 c_4
        refine z_iconst dX4_readStone_125 (r32d rfl) ?_
        exact z_zret dX4_readStone_126 rfl (Or.inl rfl) ⟨_, rfl, hyp⟩
set_option maxRecDepth 20000 in
theorem bX4_readStone_143 {E : zE} (hE : isC E) {a1 : Nat} (ha1 : zsh E a1 = (20, 480) ∧ a1 < zN E) {d : Nat} {x2 : Int} {h : zH} {K : Int → zH → Prop} (hyp :
  (((h 3 4) ≠ 24 →
    zG E mX4_readStone (d + 1) 168 [zR 2, zR a1, zI x2, zU, zU] [] h (qI K)) ∧
  (¬ ((h 3 4) ≠ 24) →
    ((0 : Int) ≤ w32 (x2 + 4) ∧ w32 (x2 + 4) < (480 : Int)) ∧
    ∀ h_2 : zH, h_2 = hset h a1 ((w32 (x2 + 4)).toNat) 1 →
    zCV E mX1_advance d [zR 3] h_2 (fun h_3 =>
      zG E mX4_readStone (d + 1) 168 [zR 2, zR a1, zI x2, zU, zU] [] h_3 (qI K))))) :
  zG E mX4_readStone (d + 1) 143 [zR 2, zR a1, zI x2, zU, zU] [] h (qI K) := by
  refine z_aload_n dX4_readStone_143 rfl ?_
  refine gf_X4_12 (c2 := 3) dX4_readStone_144 rfl (sC_2 hE) (cC_2 hE) rfl ?_
  refine gf_X4_47 dX4_readStone_147 rfl (sC_3 hE) (cC_3 hE) ?_
  refine z_bipush dX4_readStone_150 (r32d rfl) (by decide) ?_
  refine z_icmp_ne (tgt := 168) dX4_readStone_152 (by decide) (fun c_1 => ?_) (fun c_1 => ?_)
  · have hyp := hyp.1 c_1
    exact hyp
  · have hyp := hyp.2 c_1
    refine z_aload_n dX4_readStone_155 rfl ?_
    refine z_iload_n dX4_readStone_156 rfl ?_
    refine z_iconst dX4_readStone_157 (r32d rfl) ?_
    refine z_iadd dX4_readStone_158 ?_
    refine z_iconst dX4_readStone_159 (r32d rfl) ?_
    obtain ⟨⟨hi0, hi1⟩, hyp⟩ := hyp
    refine z_iastore dX4_readStone_160 (ha1.1) (ha1.2) hi0 hi1 ?_
    generalize eh_2 : hset h a1 _ 1 = h_2
    have hyp := hyp h_2 eh_2.symm
    refine z_aload_n dX4_readStone_161 rfl ?_
    refine gf_X4_12 (c2 := 3) dX4_readStone_162 rfl (sC_2 hE) (cC_2 hE) rfl ?_
    refine cl_X4_58 dX4_readStone_165 rfl (sC_3 hE) (cC_3 hE) (Nat.le_of_ble_eq_true rfl) (zC_mono ?_ hyp)
    rintro _ h_3 ⟨rfl, hyp⟩
    refine ⟨rfl, ?_⟩
    exact hyp
set_option maxRecDepth 20000 in
theorem bX4_readStone_168 {E : zE} (hE : isC E) {a1 : Nat} (ha1 : zsh E a1 = (20, 480) ∧ a1 < zN E) {d : Nat} {x2 : Int} {h : zH} {K : Int → zH → Prop} (hyp :
  (((h 3 4) ≠ 25 →
    K 1 h) ∧
  (¬ ((h 3 4) ≠ 25) →
    ((0 : Int) ≤ w32 (x2 + 5) ∧ w32 (x2 + 5) < (480 : Int)) ∧
    ∀ h_2 : zH, h_2 = hset h a1 ((w32 (x2 + 5)).toNat) 1 →
    zCV E mX1_advance d [zR 3] h_2 (fun h_3 =>
      K 1 h_3)))) :
  zG E mX4_readStone (d + 1) 168 [zR 2, zR a1, zI x2, zU, zU] [] h (qI K) := by
  refine z_aload_n dX4_readStone_168 rfl ?_
  refine gf_X4_12 (c2 := 3) dX4_readStone_169 rfl (sC_2 hE) (cC_2 hE) rfl ?_
  refine gf_X4_47 dX4_readStone_172 rfl (sC_3 hE) (cC_3 hE) ?_
  refine z_bipush dX4_readStone_175 (r32d rfl) (by decide) ?_
  refine z_icmp_ne (tgt := 193) dX4_readStone_177 (by decide) (fun c_1 => ?_) (fun c_1 => ?_)
  · have hyp := hyp.1 c_1
    refine z_iconst dX4_readStone_193 (r32d rfl) ?_
    exact z_zret dX4_readStone_194 rfl (Or.inr rfl) ⟨_, rfl, hyp⟩
  · have hyp := hyp.2 c_1
    refine z_aload_n dX4_readStone_180 rfl ?_
    refine z_iload_n dX4_readStone_181 rfl ?_
    refine z_iconst dX4_readStone_182 (r32d rfl) ?_
    refine z_iadd dX4_readStone_183 ?_
    refine z_iconst dX4_readStone_184 (r32d rfl) ?_
    obtain ⟨⟨hi0, hi1⟩, hyp⟩ := hyp
    refine z_iastore dX4_readStone_185 (ha1.1) (ha1.2) hi0 hi1 ?_
    generalize eh_2 : hset h a1 _ 1 = h_2
    have hyp := hyp h_2 eh_2.symm
    refine z_aload_n dX4_readStone_186 rfl ?_
    refine gf_X4_12 (c2 := 3) dX4_readStone_187 rfl (sC_2 hE) (cC_2 hE) rfl ?_
    refine cl_X4_58 dX4_readStone_190 rfl (sC_3 hE) (cC_3 hE) (Nat.le_of_ble_eq_true rfl) (zC_mono ?_ hyp)
    rintro _ h_3 ⟨rfl, hyp⟩
    refine ⟨rfl, ?_⟩
    refine z_iconst dX4_readStone_193 (r32d rfl) ?_
    exact z_zret dX4_readStone_194 rfl (Or.inr rfl) ⟨_, rfl, hyp⟩
set_option maxRecDepth 20000 in
theorem eX4_readStone {E : zE} (hE : isC E) {a1 : Nat} (ha1 : zsh E a1 = (20, 480) ∧ a1 < zN E) {d : Nat} {x2 : Int} {h : zH} {K : Int → zH → Prop} (hyp :
  ((x2 < 0 →
    K 0 h) ∧
  (¬ (x2 < 0) →
    (((w32 (x2 + 6)) ≤ 480 →
      zG E mX4_readStone (d + 1) 17 [zR 2, zR a1, zI x2, zI 0, zU] [] h (qI K)) ∧
    (¬ ((w32 (x2 + 6)) ≤ 480) →
      K 0 h))))) :
  zCI E mX4_readStone (d + 1) [zR 2, zR a1, zI x2] h K := by
  refine zC_in (L0 := [zR 2, zR a1, zI x2, zU, zU]) pn_X4 rfl (Nat.le_of_ble_eq_true rfl) ?_
  refine z_iload_n dX4_readStone_0 rfl ?_
  refine z_if_lt (tgt := 13) dX4_readStone_1 (by decide) (fun c_1 => ?_) (fun c_1 => ?_)
  · have hyp := hyp.1 c_1
    refine z_iconst dX4_readStone_13 (r32d rfl) ?_
    exact z_zret dX4_readStone_14 rfl (Or.inl rfl) ⟨_, rfl, hyp⟩
  · have hyp := hyp.2 c_1
    refine z_iload_n dX4_readStone_4 rfl ?_
    refine z_bipush dX4_readStone_5 (r32d rfl) (by decide) ?_
    refine z_iadd dX4_readStone_7 ?_
    refine z_aload_n dX4_readStone_8 rfl ?_
    refine z_alen dX4_readStone_9 (ha1.1) (by decide) (by decide) (by decide) (ha1.2) ?_
    refine z_icmp_le (tgt := 15) dX4_readStone_10 (by decide) (fun c_2 => ?_) (fun c_2 => ?_)
    · have hyp := hyp.1 c_2
      refine z_iconst dX4_readStone_15 (r32d rfl) ?_
      refine z_istore_n dX4_readStone_16 rfl (by decide) rfl ?_
      exact hyp
    · have hyp := hyp.2 c_2
      refine z_iconst dX4_readStone_13 (r32d rfl) ?_
      exact z_zret dX4_readStone_14 rfl (Or.inl rfl) ⟨_, rfl, hyp⟩
set_option maxRecDepth 20000 in
theorem eX4_readToldName {E : zE} (hE : isC E) {r1 nr1 : Nat} (hr1 : isNm E r1 nr1) {d : Nat} {h : zH} {K : Int → zH → Prop} (hyp :
  (((h 3 4) = 2 →
    zCI E mX2_find d [zR r1, zI (h 3 6)] h (fun r_2 h_2 =>
      ∀ h_3 : zH, h_3 = hset h_2 2 5 r_2 →
      (((h_3 2 5) ≠ (-1) →
        zCV E mX1_advance d [zR 3] h_3 (fun h_5 =>
          K 1 h_5)) ∧
      (¬ ((h_3 2 5) ≠ (-1)) →
        zCI E mX4_refuse d [zR 2, zI 4] h_3 (fun r_6 h_6 =>
          (r_6 = 0 ∨ r_6 = 1) ∧ K r_6 h_6))))) ∧
  (¬ ((h 3 4) = 2) →
    zCI E mX4_refuse d [zR 2, zI 1] h (fun r_7 h_7 =>
      (r_7 = 0 ∨ r_7 = 1) ∧ K r_7 h_7)))) :
  zCI E mX4_readToldName (d + 1) [zR 2, zR r1] h K := by
  refine zC_in (L0 := [zR 2, zR r1]) pn_X4 rfl (Nat.le_of_ble_eq_true rfl) ?_
  refine z_aload_n dX4_readToldName_0 rfl ?_
  refine gf_X4_12 (c2 := 3) dX4_readToldName_1 rfl (sC_2 hE) (cC_2 hE) rfl ?_
  refine gf_X4_47 dX4_readToldName_4 rfl (sC_3 hE) (cC_3 hE) ?_
  refine z_iconst dX4_readToldName_7 (r32d rfl) ?_
  refine z_icmp_eq (tgt := 17) dX4_readToldName_8 (by decide) (fun c_1 => ?_) (fun c_1 => ?_)
  · have hyp := hyp.1 c_1
    refine z_aload_n dX4_readToldName_17 rfl ?_
    refine z_aload_n dX4_readToldName_18 rfl ?_
    refine z_aload_n dX4_readToldName_19 rfl ?_
    refine gf_X4_12 (c2 := 3) dX4_readToldName_20 rfl (sC_2 hE) (cC_2 hE) rfl ?_
    refine gf_X4_94 dX4_readToldName_23 rfl (sC_3 hE) (cC_3 hE) ?_
    refine cl_X4_97 dX4_readToldName_26 rfl ((hr1.2.1)) (Nat.lt_of_le_of_lt (Nat.le_add_right r1 1) hr1.1) (Nat.le_of_ble_eq_true rfl) (zC_mono ?_ hyp)
    rintro _ h_2 ⟨r_2, rfl, hyp⟩
    refine ⟨r_2, rfl, ?_⟩
    refine pf_X4_35 dX4_readToldName_29 rfl (sC_2 hE) (cC_2 hE) ?_
    generalize eh_3 : hset h_2 2 5 _ = h_3
    have hyp := hyp h_3 eh_3.symm
    refine z_aload_n dX4_readToldName_32 rfl ?_
    refine gf_X4_35 dX4_readToldName_33 rfl (sC_2 hE) (cC_2 hE) ?_
    refine z_iconst dX4_readToldName_36 (r32d rfl) ?_
    refine z_icmp_ne (tgt := 46) dX4_readToldName_37 (by decide) (fun c_4 => ?_) (fun c_4 => ?_)
    · have hyp := hyp.1 c_4
      refine z_aload_n dX4_readToldName_46 rfl ?_
      refine gf_X4_12 (c2 := 3) dX4_readToldName_47 rfl (sC_2 hE) (cC_2 hE) rfl ?_
      refine cl_X4_58 dX4_readToldName_50 rfl (sC_3 hE) (cC_3 hE) (Nat.le_of_ble_eq_true rfl) (zC_mono ?_ hyp)
      rintro _ h_5 ⟨rfl, hyp⟩
      refine ⟨rfl, ?_⟩
      refine z_iconst dX4_readToldName_53 (r32d rfl) ?_
      exact z_zret dX4_readToldName_54 rfl (Or.inr rfl) ⟨_, rfl, hyp⟩
    · have hyp := hyp.2 c_4
      refine z_aload_n dX4_readToldName_40 rfl ?_
      refine z_iconst dX4_readToldName_41 (r32d rfl) ?_
      refine cl_X4_54 dX4_readToldName_42 rfl (sC_2 hE) (cC_2 hE) (Nat.le_of_ble_eq_true rfl) (zC_mono ?_ hyp)
      rintro _ h_6 ⟨r_6, rfl, hyp⟩
      refine ⟨r_6, rfl, ?_⟩
      exact z_zret dX4_readToldName_45 rfl hyp.1 ⟨_, rfl, hyp.2⟩
  · have hyp := hyp.2 c_1
    refine z_aload_n dX4_readToldName_11 rfl ?_
    refine z_iconst dX4_readToldName_12 (r32d rfl) ?_
    refine cl_X4_54 dX4_readToldName_13 rfl (sC_2 hE) (cC_2 hE) (Nat.le_of_ble_eq_true rfl) (zC_mono ?_ hyp)
    rintro _ h_7 ⟨r_7, rfl, hyp⟩
    refine ⟨r_7, rfl, ?_⟩
    exact z_zret dX4_readToldName_16 rfl hyp.1 ⟨_, rfl, hyp.2⟩
set_option maxRecDepth 20000 in
theorem bX4_readWay_41 {E : zE} (hE : isC E) {r1 : Nat} (hr1 : isSu E r1) {d : Nat} {x2 x3 : Int} {h : zH} {K : Int → zH → Prop} (hyp :
  ((7 ≤ x3 →
    K 1 h) ∧
  (¬ (7 ≤ x3) →
    ((x3 ≠ 0 →
      zG E mX4_readWay (d + 1) 57 [zR 2, zR r1, zI x2, zI x3] [zI 0, zR 2] h (qI K)) ∧
    (¬ (x3 ≠ 0) →
      zG E mX4_readWay (d + 1) 57 [zR 2, zR r1, zI x2, zI x3] [zI 1, zR 2] h (qI K)))))) :
  zG E mX4_readWay (d + 1) 41 [zR 2, zR r1, zI x2, zI x3] [] h (qI K) := by
  refine z_iload_n dX4_readWay_41 rfl ?_
  refine z_bipush dX4_readWay_42 (r32d rfl) (by decide) ?_
  refine z_icmp_ge (tgt := 85) dX4_readWay_44 (by decide) (fun c_1 => ?_) (fun c_1 => ?_)
  · have hyp := hyp.1 c_1
    refine z_iconst dX4_readWay_85 (r32d rfl) ?_
    exact z_zret dX4_readWay_86 rfl (Or.inr rfl) ⟨_, rfl, hyp⟩
  · have hyp := hyp.2 c_1
    refine z_aload_n dX4_readWay_47 rfl ?_
    refine z_iload_n dX4_readWay_48 rfl ?_
    refine z_if_ne (tgt := 56) dX4_readWay_49 (by decide) (fun c_2 => ?_) (fun c_2 => ?_)
    · have hyp := hyp.1 c_2
      refine z_iconst dX4_readWay_56 (r32d rfl) ?_
      exact hyp
    · have hyp := hyp.2 c_2
      refine z_iconst dX4_readWay_52 (r32d rfl) ?_
      refine z_goto (tgt := 57) dX4_readWay_53 (by decide) ?_
      exact hyp
set_option maxRecDepth 20000 in
theorem bX4_readWay_57 {E : zE} (hE : isC E) {r1 : Nat} (hr1 : isSu E r1) {d : Nat} {x2 x3 s0 : Int} {h : zH} {K : Int → zH → Prop} (hyp :
  zCI E mX4_readNumber d [zR 2, zI s0, zI 99] h (fun r_1 h_1 =>
    ((r_1 ≠ 0 →
      ((0 : Int) ≤ w32 (x2 + x3) ∧ w32 (x2 + x3) < (35 : Int)) ∧
      ∀ h_3 : zH, h_3 = hset h_1 (r1 + 12) ((w32 (x2 + x3)).toNat) (h_1 2 5) →
      ∀ x_4 : Int, x_4 = w32 (x3 + 1) →
      zG E mX4_readWay (d + 1) 41 [zR 2, zR r1, zI x2, zI x_4] [] h_3 (qI K)) ∧
    (¬ (r_1 ≠ 0) →
      K 0 h_1)))) :
  zG E mX4_readWay (d + 1) 57 [zR 2, zR r1, zI x2, zI x3] [zI s0, zR 2] h (qI K) := by
  refine z_bipush dX4_readWay_57 (r32d rfl) (by decide) ?_
  refine cl_X4_135 dX4_readWay_59 rfl (sC_2 hE) (cC_2 hE) (Nat.le_of_ble_eq_true rfl) (zC_mono ?_ hyp)
  rintro _ h_1 ⟨r_1, rfl, hyp⟩
  refine ⟨r_1, rfl, ?_⟩
  refine z_if_ne (tgt := 67) dX4_readWay_62 (by decide) (fun c_2 => ?_) (fun c_2 => ?_)
  · have hyp := hyp.1 c_2
    refine z_aload_n dX4_readWay_67 rfl ?_
    refine gf_X4_142 (c2 := (r1 + 12)) dX4_readWay_68 rfl ((hr1.2.1)) (Nat.lt_of_le_of_lt (Nat.le_add_right r1 18) hr1.1) rfl ?_
    refine z_iload_n dX4_readWay_71 rfl ?_
    refine z_iload_n dX4_readWay_72 rfl ?_
    refine z_iadd dX4_readWay_73 ?_
    refine z_aload_n dX4_readWay_74 rfl ?_
    refine gf_X4_35 dX4_readWay_75 rfl (sC_2 hE) (cC_2 hE) ?_
    obtain ⟨⟨hi0, hi1⟩, hyp⟩ := hyp
    refine z_iastore dX4_readWay_78 ((hr1.2.2.2.2.2.2.2.2.2.1)) (Nat.lt_of_le_of_lt (Nat.add_le_add_left (Nat.le_of_ble_eq_true rfl : 12 ≤ 18) r1) hr1.1) hi0 hi1 ?_
    generalize eh_3 : hset h_1 (r1 + 12) _ (h_1 2 5) = h_3
    have hyp := hyp h_3 eh_3.symm
    refine z_iinc dX4_readWay_79 rfl (by decide) rfl ?_
    generalize ex_4 : w32 (x3 + 1) = x_4
    have hyp := hyp x_4 ex_4.symm
    refine z_goto (tgt := 41) dX4_readWay_82 (by decide) ?_
    exact hyp
  · have hyp := hyp.2 c_2
    refine z_iconst dX4_readWay_65 (r32d rfl) ?_
    exact z_zret dX4_readWay_66 rfl (Or.inl rfl) ⟨_, rfl, hyp⟩
set_option maxRecDepth 20000 in
theorem eX4_readWay {E : zE} (hE : isC E) {r1 : Nat} (hr1 : isSu E r1) {d : Nat} {h : zH} {K : Int → zH → Prop} (hyp :
  zCI E mX4_readHead d [zR 2, zR (r1 + 5)] h (fun r_1 h_1 =>
    ((r_1 ≠ 0 →
      ∀ x_3 : Int, x_3 = w32 ((h_1 2 5) * 7) →
      ((x_3 < 0 →
        K 0 h_1) ∧
      (¬ (x_3 < 0) →
        (((w32 (x_3 + 7)) ≤ 35 →
          zG E mX4_readWay (d + 1) 41 [zR 2, zR r1, zI x_3, zI 0] [] h_1 (qI K)) ∧
        (¬ ((w32 (x_3 + 7)) ≤ 35) →
          K 0 h_1))))) ∧
    (¬ (r_1 ≠ 0) →
      K 0 h_1)))) :
  zCI E mX4_readWay (d + 1) [zR 2, zR r1] h K := by
  refine zC_in (L0 := [zR 2, zR r1, zU, zU]) pn_X4 rfl (Nat.le_of_ble_eq_true rfl) ?_
  refine z_aload_n dX4_readWay_0 rfl ?_
  refine z_aload_n dX4_readWay_1 rfl ?_
  refine gf_X4_139 (c2 := (r1 + 5)) dX4_readWay_2 rfl ((hr1.2.1)) (Nat.lt_of_le_of_lt (Nat.le_add_right r1 18) hr1.1) rfl ?_
  refine cl_X4_66 dX4_readWay_5 rfl (sC_2 hE) (cC_2 hE) (Nat.le_of_ble_eq_true rfl) (zC_mono ?_ hyp)
  rintro _ h_1 ⟨r_1, rfl, hyp⟩
  refine ⟨r_1, rfl, ?_⟩
  refine z_if_ne (tgt := 13) dX4_readWay_8 (by decide) (fun c_2 => ?_) (fun c_2 => ?_)
  · have hyp := hyp.1 c_2
    refine z_aload_n dX4_readWay_13 rfl ?_
    refine gf_X4_35 dX4_readWay_14 rfl (sC_2 hE) (cC_2 hE) ?_
    refine z_bipush dX4_readWay_17 (r32d rfl) (by decide) ?_
    refine z_imul dX4_readWay_19 ?_
    generalize ex_3 : w32 ((h_1 2 5) * 7) = x_3
    have hyp := hyp x_3 ex_3.symm
    refine z_istore_n dX4_readWay_20 rfl (by decide) rfl ?_
    refine z_iload_n dX4_readWay_21 rfl ?_
    refine z_if_lt (tgt := 37) dX4_readWay_22 (by decide) (fun c_4 => ?_) (fun c_4 => ?_)
    · have hyp := hyp.1 c_4
      refine z_iconst dX4_readWay_37 (r32d rfl) ?_
      exact z_zret dX4_readWay_38 rfl (Or.inl rfl) ⟨_, rfl, hyp⟩
    · have hyp := hyp.2 c_4
      refine z_iload_n dX4_readWay_25 rfl ?_
      refine z_bipush dX4_readWay_26 (r32d rfl) (by decide) ?_
      refine z_iadd dX4_readWay_28 ?_
      refine z_aload_n dX4_readWay_29 rfl ?_
      refine gf_X4_142 (c2 := (r1 + 12)) dX4_readWay_30 rfl ((hr1.2.1)) (Nat.lt_of_le_of_lt (Nat.le_add_right r1 18) hr1.1) rfl ?_
      refine z_alen dX4_readWay_33 ((hr1.2.2.2.2.2.2.2.2.2.1)) (by decide) (by decide) (by decide) (Nat.lt_of_le_of_lt (Nat.add_le_add_left (Nat.le_of_ble_eq_true rfl : 12 ≤ 18) r1) hr1.1) ?_
      refine z_icmp_le (tgt := 39) dX4_readWay_34 (by decide) (fun c_5 => ?_) (fun c_5 => ?_)
      · have hyp := hyp.1 c_5
        refine z_iconst dX4_readWay_39 (r32d rfl) ?_
        refine z_istore_n dX4_readWay_40 rfl (by decide) rfl ?_
        exact hyp
      · have hyp := hyp.2 c_5
        refine z_iconst dX4_readWay_37 (r32d rfl) ?_
        exact z_zret dX4_readWay_38 rfl (Or.inl rfl) ⟨_, rfl, hyp⟩
  · have hyp := hyp.2 c_2
    refine z_iconst dX4_readWay_11 (r32d rfl) ?_
    exact z_zret dX4_readWay_12 rfl (Or.inl rfl) ⟨_, rfl, hyp⟩
set_option maxRecDepth 20000 in
theorem eX4_refuse {E : zE} (hE : isC E) {d : Nat} {x1 : Int} {h : zH} {K : Int → zH → Prop} (hyp :
  ∀ h_1 : zH, h_1 = hset h 2 2 x1 →
  ∀ h_2 : zH, h_2 = hset h_1 2 3 (h_1 3 5) →
  K 0 h_2) :
  zCI E mX4_refuse d [zR 2, zI x1] h K := by
  refine zC_in (L0 := [zR 2, zI x1]) pn_X4 rfl (Nat.le_of_ble_eq_true rfl) ?_
  refine z_aload_n dX4_refuse_0 rfl ?_
  refine z_iload_n dX4_refuse_1 rfl ?_
  refine pf_X4_25 dX4_refuse_2 rfl (sC_2 hE) (cC_2 hE) ?_
  generalize eh_1 : hset h 2 2 _ = h_1
  have hyp := hyp h_1 eh_1.symm
  refine z_aload_n dX4_refuse_5 rfl ?_
  refine z_aload_n dX4_refuse_6 rfl ?_
  refine gf_X4_12 (c2 := 3) dX4_refuse_7 rfl (sC_2 hE) (cC_2 hE) rfl ?_
  refine gf_X4_61 dX4_refuse_10 rfl (sC_3 hE) (cC_3 hE) ?_
  refine pf_X4_29 dX4_refuse_13 rfl (sC_2 hE) (cC_2 hE) ?_
  generalize eh_2 : hset h_1 2 3 _ = h_2
  have hyp := hyp h_2 eh_2.symm
  refine z_iconst dX4_refuse_16 (r32d rfl) ?_
  exact z_zret dX4_refuse_17 rfl (Or.inl rfl) ⟨_, rfl, hyp⟩
