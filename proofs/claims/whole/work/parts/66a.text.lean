/-! ===== texts: the JDK's own members over the two constants ===== -/
section ZText
variable {l : Launch} {E : zE}
def rmS (k : Nat) : Room := { frames := k + 1, cells := 0, slots := 0, locals := 32 * (k + 1) }
def nA : Nat → Prop := fun _ => False
def sQ (r : Int32) : Array Value → State → Outcome → State → Prop := va_Qi (fun x (_ : Unit) => x = r) (fun _ _ => True) nA
def sQv : Array Value → State → Outcome → State → Prop := va_Qv (fun (_ : Unit) => True) (fun _ _ => True) nA
def sTx (E : zE) (U : State) (H : Heap) : Prop := vk_S 2 zTlen zTbyt (zTK E) (zTV E) (zA E) U H ∧ va_Z RJ0 "COMPACT_STRINGS" "Z" (.int 1) (zA E) U H ∧ va_Z RJ3 "SIOOBE_FORMATTER" "Ljava/util/function/BiFunction;" (zrv E zFm) (zA E) U H
theorem zSt.tx {U : State} {H : Heap} (h : zSt E U H) : sTx E U H := ⟨h.2.2.2.1, h.2.2.2.2.2.2.1, h.2.2.2.2.2.2.2⟩
theorem sTx.use {s U : State} {H : Heap} {locs : List Loc} (h : sTx E s s.heap) (hS : va_S (zA E) s.heap H locs) (hW : s.WarmedH U.vm) (hU : U.heap = H) : sTx E U U.heap := by
  rw [hU]
  exact ⟨vk_S.moved hW.alike (h.1.kept (fun a ha hn => hS.2.1 a ha hn)), va_Z.moved hW.alike (h.2.1.kept (fun a ha hn => hS.2.1 a ha hn)), va_Z.moved hW.alike (h.2.2.kept (fun a ha hn => hS.2.1 a ha hn))⟩
theorem sTx.blind {U : State} {g : JFrame} {mk : MethodId} {a : Array Value} (h : sTx E U U.heap) : sTx E (U.calling g mk a) (U.calling g mk a).heap :=
  ⟨vk_S.moved (u := U) (U := U.calling g mk a) (Vm.Alike.refl U.vm) h.1, va_Z.moved (u := U) (U := U.calling g mk a) (Vm.Alike.refl U.vm) h.2.1, va_Z.moved (u := U) (U := U.calling g mk a) (Vm.Alike.refl U.vm) h.2.2⟩
theorem va_S.nA {A : Nat → Prop} {H0 H : Heap} {locs : List Loc} (h : va_S nA H0 H locs) : va_S A H0 H locs := ⟨h.1, fun q a _ => h.2.1 q a (fun z => z), fun q hq => (h.2.2 q hq).elim⟩
theorem zFm_v : zrv E zFm = .null ∨ ∃ a, zrv E zFm = .ref a := by
  show (if zTK E 9 = 0 then Value.null else .ref (zTV E 9)) = .null ∨ _
  by_cases q : zTK E 9 = 0
  · exact Or.inl (if_pos q)
  · exact Or.inr ⟨zTV E 9, if_neg q⟩
theorem nA_blind {as : List Value} : FrameBlind (va_Pc as (fun _ => True)) := fun _ _ _ _ q => ⟨q.1, trivial⟩
theorem sT_blind {as : List Value} : FrameBlind (va_Pc as (fun U => sTx E U U.heap)) := fun _ _ _ _ q => ⟨q.1, q.2.blind⟩
set_option maxRecDepth 100000 in
theorem wt1728 : Cond.fieldLink RJ0 9 RJ0 "value" "[B" ∈ ztb := List.mem_filter.mpr ⟨List.mem_append_right _ (List.mem_of_getElem? (i := 1728) rfl), rfl⟩
set_option maxRecDepth 100000 in
theorem wt1729 : Cond.fieldLink RJ0 15 RJ0 "coder" "B" ∈ ztb := List.mem_filter.mpr ⟨List.mem_append_right _ (List.mem_of_getElem? (i := 1729) rfl), rfl⟩
set_option maxRecDepth 100000 in
theorem wt56 : Cond.fieldLink RJ0 38 RJ0 "COMPACT_STRINGS" "Z" ∈ ztb := List.mem_filter.mpr ⟨List.mem_append_right _ (List.mem_of_getElem? (i := 56) rfl), rfl⟩
set_option maxRecDepth 100000 in
theorem wt72 : Cond.fieldLink RJ0 1053 RJ3 "SIOOBE_FORMATTER" "Ljava/util/function/BiFunction;" ∈ ztb := List.mem_filter.mpr ⟨List.mem_append_right _ (List.mem_of_getElem? (i := 72) rfl), rfl⟩
set_option maxRecDepth 100000 in
theorem wt49 : Cond.instanceMethod mJ0_length_8abf5.1 ∈ ztb := List.mem_filter.mpr ⟨List.mem_append_right _ (List.mem_of_getElem? (i := 49) rfl), rfl⟩
set_option maxRecDepth 100000 in
theorem wt50 : Cond.selects RJ0 mJ0_length_8abf5.1 mJ0_length_8abf5.1 ∈ ztb := List.mem_filter.mpr ⟨List.mem_append_right _ (List.mem_of_getElem? (i := 50) rfl), rfl⟩
set_option maxRecDepth 100000 in
theorem wt52 : Cond.methodLink RJ0 335 mJ0_coder_7d493.1 ∈ ztb := List.mem_filter.mpr ⟨List.mem_append_right _ (List.mem_of_getElem? (i := 52) rfl), rfl⟩
set_option maxRecDepth 100000 in
theorem wt53 : Cond.instanceMethod mJ0_coder_7d493.1 ∈ ztb := List.mem_filter.mpr ⟨List.mem_append_right _ (List.mem_of_getElem? (i := 53) rfl), rfl⟩
set_option maxRecDepth 100000 in
theorem wt54 : Cond.selects RJ0 mJ0_coder_7d493.1 mJ0_coder_7d493.1 ∈ ztb := List.mem_filter.mpr ⟨List.mem_append_right _ (List.mem_of_getElem? (i := 54) rfl), rfl⟩
set_option maxRecDepth 100000 in
theorem wt59 : Cond.instanceMethod mJ0_charAt_5068e.1 ∈ ztb := List.mem_filter.mpr ⟨List.mem_append_right _ (List.mem_of_getElem? (i := 59) rfl), rfl⟩
set_option maxRecDepth 100000 in
theorem wt60 : Cond.selects RJ0 mJ0_charAt_5068e.1 mJ0_charAt_5068e.1 ∈ ztb := List.mem_filter.mpr ⟨List.mem_append_right _ (List.mem_of_getElem? (i := 60) rfl), rfl⟩
set_option maxRecDepth 100000 in
theorem wt62 : Cond.methodLink RJ0 492 mJ0_isLatin1_aae02.1 ∈ ztb := List.mem_filter.mpr ⟨List.mem_append_right _ (List.mem_of_getElem? (i := 62) rfl), rfl⟩
set_option maxRecDepth 100000 in
theorem wt63 : Cond.instanceMethod mJ0_isLatin1_aae02.1 ∈ ztb := List.mem_filter.mpr ⟨List.mem_append_right _ (List.mem_of_getElem? (i := 63) rfl), rfl⟩
set_option maxRecDepth 100000 in
theorem wt64 : Cond.selects RJ0 mJ0_isLatin1_aae02.1 mJ0_isLatin1_aae02.1 ∈ ztb := List.mem_filter.mpr ⟨List.mem_append_right _ (List.mem_of_getElem? (i := 64) rfl), rfl⟩
set_option maxRecDepth 100000 in
theorem wt48 : Cond.methodLink RX1 41 mJ0_length_8abf5.1 ∈ ztb := List.mem_filter.mpr ⟨List.mem_append_right _ (List.mem_of_getElem? (i := 48) rfl), rfl⟩
set_option maxRecDepth 100000 in
theorem wt58 : Cond.methodLink RX1 46 mJ0_charAt_5068e.1 ∈ ztb := List.mem_filter.mpr ⟨List.mem_append_right _ (List.mem_of_getElem? (i := 58) rfl), rfl⟩
set_option maxRecDepth 100000 in
theorem wt1338 : Cond.methodLink RX10 198 mJ0_length_8abf5.1 ∈ ztb := List.mem_filter.mpr ⟨List.mem_append_right _ (List.mem_of_getElem? (i := 1338) rfl), rfl⟩
set_option maxRecDepth 100000 in
theorem wt1339 : Cond.methodLink RX10 203 mJ0_charAt_5068e.1 ∈ ztb := List.mem_filter.mpr ⟨List.mem_append_right _ (List.mem_of_getElem? (i := 1339) rfl), rfl⟩
/-- the letters of a constant -/
def tCh (t k : Nat) : Int32 := (zTbyt.getD t []).getD k 0
theorem tx_all : ∀ t, t < 2 → zTlen.getD t 0 = (zTbyt.getD t []).length ∧ (zTbyt.getD t []).length < 2 ^ 31 ∧ ∀ b ∈ zTbyt.getD t [], (((b &&& 255).toUInt32 % 65536).toInt32 = b ∧ (b.toUInt32 % 65536).toInt32 = b ∧ 0 ≤ b) := by decide +kernel
theorem tCh_ok {t k : Nat} (ht : t < 2) (hk : k < zTlen.getD t 0) : ((tCh t k &&& 255).toUInt32 % 65536).toInt32 = tCh t k ∧ (((tCh t k).toUInt32 % 65536).toInt32 = tCh t k ∧ 0 ≤ tCh t k) := by
  obtain ⟨h1, h2, h3⟩ := tx_all t ht
  have hm : tCh t k ∈ zTbyt.getD t [] := by
    unfold tCh
    rw [h1] at hk
    clear h1 h2 h3
    generalize zTbyt.getD t [] = W at hk ⊢
    rw [List.getD_eq_getElem?_getD, List.getElem?_eq_getElem hk, Option.getD_some]
    exact List.getElem_mem hk
  exact h3 _ hm
theorem tCh_nar {t k : Nat} (ht : t < 2) (hk : k < zTlen.getD t 0) : narrow .char (.int (tCh t k)) = .int (tCh t k) := by
  have h := (tCh_ok ht hk).2.1
  show Value.int (((tCh t k).toUInt32 % 65536).toInt32) = _
  rw [h]
theorem tlen_lt {t : Nat} (ht : t < 2) : zTlen.getD t 0 < 2147483648 := by
  obtain ⟨h1, h2, h3⟩ := tx_all t ht
  omega
theorem S_chk3 {i n : Int32} {v : Value} (hv : v = .null ∨ ∃ a, v = .ref a) (h0 : ¬ i < 0) (h1 : i < n) : Met l mJ3_checkIndex_8e157.1 (zws mJ3_checkIndex_8e157) (rmS 0) (va_Pc [.int i, .int n, v] (fun _ => True)) (sQ i) 0 0 nA := by
  have key : ∀ w : Value, w.category = 1 → w = v → Met l mJ3_checkIndex_8e157.1 (zws mJ3_checkIndex_8e157) (rmS 0) (va_Pc [.int i, .int n, v] (fun _ => True)) (sQ i) 0 0 nA := by
    intro w hw e
    subst e
    refine Met.ofW (cc := cJ3_checkIndex_8e157) (maxL := 3) (ret := some .int) pn_J3 rfl ?_
    intro p e s m args below meth c s₁ B hml hv'
    obtain ⟨rfl, -⟩ := hv'
    have hx := B.exec
    have hb := B.bytes
    have hlocks := B.notSynchronized
    rw [lg_entry_eq]
    have hl := lv_entry ([.int i, .int n, w]) (n := 3) (by rcases hv with rfl | ⟨a, rfl⟩ <;> exact Nat.le_of_ble_eq_true rfl)
    generalize (lg_sl ([.int i, .int n, w]) ++ List.replicate (3 - (lg_sl ([.int i, .int n, w])).length) Slot.unset).toArray = ls at hl ⊢
    refine lv_iload_n hx hb dJ3_checkIndex_8e157_0 rfl (lv_at hl 0 rfl) ?_
    refine lv_if_lt (tgt := 9) hx hb dJ3_checkIndex_8e157_1 (by decide) (fun z => absurd z h0) (fun _ => ?_)
    refine lv_iload_n hx hb dJ3_checkIndex_8e157_4 rfl (lv_at hl 0 rfl) ?_
    refine lv_iload_n hx hb dJ3_checkIndex_8e157_5 rfl (lv_at hl 1 rfl) ?_
    refine lv_icmp_lt (tgt := 16) hx hb dJ3_checkIndex_8e157_6 (by decide) (fun _ => ?_) (fun z => absurd h1 z)
    refine lv_iload_n hx hb dJ3_checkIndex_8e157_16 rfl (lv_at hl 0 rfl) ?_
    exact W.iret hx hb B.returns (fun t ht _ => ⟨⟨i, (), rfl, rfl, trivial⟩, va_S.rf.F ht⟩) (fun _ h => by cases h) dJ3_checkIndex_8e157_17 hlocks
  refine key v ?_ rfl
  rcases hv with rfl | ⟨a, rfl⟩ <;> rfl
theorem S_chk {i n : Int32} (h0 : ¬ i < 0) (h1 : i < n) : Met l mJ0_checkIndex_df160.1 (zws mJ0_checkIndex_df160) (rmS 1) (va_Pc [.int i, .int n] (fun U => sTx E U U.heap)) sQv 0 0 nA := by
  refine Met.ofW (cc := cJ0_checkIndex_df160) (maxL := 2) (ret := none) pn_J0 rfl ?_
  intro p e s m args below meth c s₁ B hml hv'
  obtain ⟨rfl, hT⟩ := hv'
  have hx := B.exec
  have hb := B.bytes
  have hlocks := B.notSynchronized
  have hts := atoms_spec (ws := zws mJ0_checkIndex_df160) B.pre
  have hown : s.vm.findClass RJ0 = some m.cls := findClass_of_methodNamed B.named
  have tb : ∀ w ∈ ztb, w.before ([.int i, .int n] : List Value).toArray s = true := fun w hw => hts w (List.mem_cons_of_mem _ hw)
  rw [lg_entry_eq]
  have hl := lv_entry ([.int i, .int n]) (n := 2) (Nat.le_of_ble_eq_true rfl)
  generalize (lg_sl ([.int i, .int n]) ++ List.replicate (2 - (lg_sl ([.int i, .int n])).length) Slot.unset).toArray = ls at hl ⊢
  refine lv_iload_n hx hb dJ0_checkIndex_df160_0 rfl (lv_at hl 0 rfl) ?_
  refine lv_iload_n hx hb dJ0_checkIndex_df160_1 rfl (lv_at hl 1 rfl) ?_
  refine va_gets hx hb hT.2.2 va_S.rf hown (tb _ wt72) (fun x q => q) dJ0_checkIndex_df160_2 ?_
  refine va_calli (H0 := s.heap) (A0 := nA) (va_runS (As := [.int i, .int n, zrv E zFm]) (rest := []) ⟨hx, hb, hml, hown, hts⟩ (S_chk3 zFm_v h0 h1) ⟨callB_of 3 hts (zgood wc_J3_checkIndex_8e157) rfl rfl rfl (tb _ wi_J3) (tb _ wm_J0_1059) wy_J3_checkIndex_8e157 ⟨Nat.le_of_ble_eq_true rfl, Nat.le_of_ble_eq_true rfl⟩, tb _ ws_J3_checkIndex_8e157⟩ ⟨nA_blind, fun U _ _ => ⟨rfl, trivial⟩⟩ rfl rfl hl.1 rfl (lv_room (Nat.le_of_ble_eq_true rfl)) dJ0_checkIndex_df160_5 ⟨Nat.le_of_ble_eq_true rfl, Nat.le_of_ble_eq_true rfl⟩) va_S.rf (fun _ _ z => z) (fun _ z => z) (fun r u t H1 locs1 ht hvm hw hB hz1 hk1 hS => ?_)
  refine lv_pop hx hb dJ0_checkIndex_df160_8 rfl ?_
  exact W.vret hx hb B.returns (fun t ht _ => ⟨⟨(), rfl, trivial, trivial⟩, hS.F ht⟩) hS.2.2 dJ0_checkIndex_df160_9 hlocks
theorem S_lat {t k : Nat} (ht2 : t < 2) (hk : k < zTlen.getD t 0) : Met l mJ1_charAt_3b067.1 (zws mJ1_charAt_3b067) (rmS 2) (va_Pc [.ref (zTV E t), .int (Int32.ofNat k)] (fun U => sTx E U U.heap)) (sQ (tCh t k)) 0 0 nA := by
  have hlt := tlen_lt ht2
  have k0 : ¬ Int32.ofNat k < 0 := by
    rw [Int32.lt_iff_toInt_lt, Int32.toInt_ofNat_of_lt (by omega)]
    simp
  have k1 : Int32.ofNat k < Int32.ofNat (zTlen.getD t 0) := by
    rw [Int32.lt_iff_toInt_lt, Int32.toInt_ofNat_of_lt (by omega), Int32.toInt_ofNat_of_lt (by omega)]
    omega
  have kc : (Int32.ofNat k).toNatClampNeg = k := by
    show (Int32.ofNat k).toInt.toNat = k
    rw [Int32.toInt_ofNat_of_lt (by omega)]
    omega
  refine Met.ofW (cc := cJ1_charAt_3b067) (maxL := 2) (ret := some .char) pn_J1 rfl ?_
  intro p e s m args below meth c s₁ B hml hv'
  obtain ⟨rfl, hT⟩ := hv'
  have hx := B.exec
  have hb := B.bytes
  have hlocks := B.notSynchronized
  have hts := atoms_spec (ws := zws mJ1_charAt_3b067) B.pre
  have hown : s.vm.findClass RJ1 = some m.cls := findClass_of_methodNamed B.named
  have tb : ∀ w ∈ ztb, w.before ([.ref (zTV E t), .int (Int32.ofNat k)] : List Value).toArray s = true := fun w hw => hts w (List.mem_cons_of_mem _ hw)
  have hTT := (hT.1.1 t ht2).2.2.2
  rw [lg_entry_eq]
  have hl := lv_entry ([.ref (zTV E t), .int (Int32.ofNat k)]) (n := 2) (Nat.le_of_ble_eq_true rfl)
  generalize (lg_sl ([.ref (zTV E t), .int (Int32.ofNat k)]) ++ List.replicate (2 - (lg_sl ([.ref (zTV E t), .int (Int32.ofNat k)])).length) Slot.unset).toArray = ls at hl ⊢
  refine lv_iload_n hx hb dJ1_charAt_3b067_0 rfl (lv_at hl 1 rfl) ?_
  refine lv_aload_n hx hb dJ1_charAt_3b067_1 rfl (lv_at hl 0 rfl) ?_
  refine va_tlen hx hb hTT va_S.rf rfl dJ1_charAt_3b067_2 ?_
  refine va_callv (H0 := s.heap) (A0 := nA) (va_runS (As := [.int (Int32.ofNat k), .int (Int32.ofNat (zTlen.getD t 0))]) (rest := []) ⟨hx, hb, hml, hown, hts⟩ (S_chk (E := E) k0 k1) ⟨callB_of 2 hts (zgood wc_J0_checkIndex_df160) rfl rfl rfl (tb _ wi_J0) (tb _ wm_J1_9) wy_J0_checkIndex_df160 ⟨Nat.le_of_ble_eq_true rfl, Nat.le_of_ble_eq_true rfl⟩, tb _ ws_J0_checkIndex_df160⟩ ⟨sT_blind, fun U hU hW => ⟨rfl, hT.use va_S.rf hW hU⟩⟩ rfl rfl hl.1 rfl (lv_room (Nat.le_of_ble_eq_true rfl)) dJ1_charAt_3b067_3 ⟨Nat.le_of_ble_eq_true rfl, Nat.le_of_ble_eq_true rfl⟩) va_S.rf (fun _ _ z => z) (fun _ z => z) (fun u tt H1 locs1 ht hvm hw hB hz1 hk1 hS => ?_)
  refine lv_aload_n hx hb dJ1_charAt_3b067_6 rfl (lv_at hl 0 rfl) ?_
  refine lv_iload_n hx hb dJ1_charAt_3b067_7 rfl (lv_at hl 1 rfl) ?_
  refine va_tb hx hb hTT hS.nA (vp_in_iff.mpr ⟨by have := Int32.not_lt.mp k0; have := Int32.le_iff_toInt_le.mp this; simpa using this, by rw [Int32.toInt_ofNat_of_lt (by omega)]; omega⟩) (v := .int (tCh t k)) (by rw [kc]; rfl) dJ1_charAt_3b067_8 ?_
  refine lv_sipush (v := 255) hx hb dJ1_charAt_3b067_9 (by decide) ?_
  refine lv_iand hx hb dJ1_charAt_3b067_12 ?_
  refine lv_i2c (v := tCh t k) hx hb dJ1_charAt_3b067_13 (tCh_ok ht2 hk).1 ?_
  exact W.zret hx hb B.returns (tCh_nar ht2 hk) (fun t' ht' _ => ⟨⟨tCh t k, (), rfl, rfl, trivial⟩, hS.F ht'⟩) hS.2.2 dJ1_charAt_3b067_14 hlocks
theorem S_isL {t : Nat} (ht2 : t < 2) : Met l mJ0_isLatin1_aae02.1 (zws mJ0_isLatin1_aae02) (rmS 0) (va_Pc [.ref (zTK E t)] (fun U => sTx E U U.heap)) (sQ 1) 0 0 nA := by
  refine Met.ofW (cc := cJ0_isLatin1_aae02) (maxL := 1) (ret := some .boolean) pn_J0 rfl ?_
  intro p e s m args below meth c s₁ B hml hv'
  obtain ⟨rfl, hT⟩ := hv'
  have hx := B.exec
  have hb := B.bytes
  have hlocks := B.notSynchronized
  have hts := atoms_spec (ws := zws mJ0_isLatin1_aae02) B.pre
  have hown : s.vm.findClass RJ0 = some m.cls := findClass_of_methodNamed B.named
  have tb : ∀ w ∈ ztb, w.before ([.ref (zTK E t)] : List Value).toArray s = true := fun w hw => hts w (List.mem_cons_of_mem _ hw)
  rw [lg_entry_eq]
  have hl := lv_entry ([.ref (zTK E t)]) (n := 1) (Nat.le_of_ble_eq_true rfl)
  generalize (lg_sl ([.ref (zTK E t)]) ++ List.replicate (1 - (lg_sl ([.ref (zTK E t)])).length) Slot.unset).toArray = ls at hl ⊢
  refine va_gets hx hb hT.2.1 va_S.rf hown (tb _ wt56) (fun x q => q) dJ0_isLatin1_aae02_0 ?_
  refine lv_if_eq (tgt := 17) hx hb dJ0_isLatin1_aae02_3 (by decide) (fun z => absurd z (by decide)) (fun _ => ?_)
  refine lv_aload_n hx hb dJ0_isLatin1_aae02_6 rfl (lv_at hl 0 rfl) ?_
  refine vk_getf hx hb (hT.1.1 t ht2).2.1 va_S.rf hown (tb _ wt1729) (fun x q => q) dJ0_isLatin1_aae02_7 ?_
  refine lv_if_ne (tgt := 17) hx hb dJ0_isLatin1_aae02_10 (by decide) (fun z => absurd rfl z) (fun _ => ?_)
  refine lv_iconst (v := 1) hx hb dJ0_isLatin1_aae02_13 (by decide) ?_
  refine lv_goto (tgt := 18) hx hb dJ0_isLatin1_aae02_14 (by decide) ?_
  exact W.zret hx hb B.returns (by decide) (fun t' ht' _ => ⟨⟨1, (), rfl, rfl, trivial⟩, va_S.rf.F ht'⟩) (fun _ h => by cases h) dJ0_isLatin1_aae02_18 hlocks
theorem S_cod {t : Nat} (ht2 : t < 2) : Met l mJ0_coder_7d493.1 (zws mJ0_coder_7d493) (rmS 0) (va_Pc [.ref (zTK E t)] (fun U => sTx E U U.heap)) (sQ 0) 0 0 nA := by
  refine Met.ofW (cc := cJ0_coder_7d493) (maxL := 1) (ret := some .byte) pn_J0 rfl ?_
  intro p e s m args below meth c s₁ B hml hv'
  obtain ⟨rfl, hT⟩ := hv'
  have hx := B.exec
  have hb := B.bytes
  have hlocks := B.notSynchronized
  have hts := atoms_spec (ws := zws mJ0_coder_7d493) B.pre
  have hown : s.vm.findClass RJ0 = some m.cls := findClass_of_methodNamed B.named
  have tb : ∀ w ∈ ztb, w.before ([.ref (zTK E t)] : List Value).toArray s = true := fun w hw => hts w (List.mem_cons_of_mem _ hw)
  rw [lg_entry_eq]
  have hl := lv_entry ([.ref (zTK E t)]) (n := 1) (Nat.le_of_ble_eq_true rfl)
  generalize (lg_sl ([.ref (zTK E t)]) ++ List.replicate (1 - (lg_sl ([.ref (zTK E t)])).length) Slot.unset).toArray = ls at hl ⊢
  refine va_gets hx hb hT.2.1 va_S.rf hown (tb _ wt56) (fun x q => q) dJ0_coder_7d493_0 ?_
  refine lv_if_eq (tgt := 13) hx hb dJ0_coder_7d493_3 (by decide) (fun z => absurd z (by decide)) (fun _ => ?_)
  refine lv_aload_n hx hb dJ0_coder_7d493_6 rfl (lv_at hl 0 rfl) ?_
  refine vk_getf hx hb (hT.1.1 t ht2).2.1 va_S.rf hown (tb _ wt1729) (fun x q => q) dJ0_coder_7d493_7 ?_
  refine lv_goto (tgt := 14) hx hb dJ0_coder_7d493_10 (by decide) ?_
  exact W.zret hx hb B.returns (by decide) (fun t' ht' _ => ⟨⟨0, (), rfl, rfl, trivial⟩, va_S.rf.F ht'⟩) (fun _ h => by cases h) dJ0_coder_7d493_14 hlocks
theorem S_len {t : Nat} (ht2 : t < 2) : Met l mJ0_length_8abf5.1 (zws mJ0_length_8abf5) (rmS 1) (va_Pc [.ref (zTK E t)] (fun U => sTx E U U.heap)) (sQ (Int32.ofNat (zTlen.getD t 0))) 0 0 nA := by
  refine Met.ofW (cc := cJ0_length_8abf5) (maxL := 1) (ret := some .int) pn_J0 rfl ?_
  intro p e s m args below meth c s₁ B hml hv'
  obtain ⟨rfl, hT⟩ := hv'
  have hx := B.exec
  have hb := B.bytes
  have hlocks := B.notSynchronized
  have hts := atoms_spec (ws := zws mJ0_length_8abf5) B.pre
  have hown : s.vm.findClass RJ0 = some m.cls := findClass_of_methodNamed B.named
  have tb : ∀ w ∈ ztb, w.before ([.ref (zTK E t)] : List Value).toArray s = true := fun w hw => hts w (List.mem_cons_of_mem _ hw)
  rw [lg_entry_eq]
  have hl := lv_entry ([.ref (zTK E t)]) (n := 1) (Nat.le_of_ble_eq_true rfl)
  generalize (lg_sl ([.ref (zTK E t)]) ++ List.replicate (1 - (lg_sl ([.ref (zTK E t)])).length) Slot.unset).toArray = ls at hl ⊢
  refine lv_aload_n hx hb dJ0_length_8abf5_0 rfl (lv_at hl 0 rfl) ?_
  refine vk_getf hx hb (hT.1.1 t ht2).2.2.1 va_S.rf hown (tb _ wt1728) (fun x q => q) dJ0_length_8abf5_1 ?_
  refine va_tlen hx hb (hT.1.1 t ht2).2.2.2 va_S.rf rfl dJ0_length_8abf5_4 ?_
  refine lv_aload_n hx hb dJ0_length_8abf5_5 rfl (lv_at hl 0 rfl) ?_
  refine va_calli (H0 := s.heap) (A0 := nA) (va_runV (C := RJ0) (b := zTK E t) (As := []) (rest := [.int (Int32.ofNat (zTlen.getD t 0))]) ⟨hx, hb, hml, hown, hts⟩ (S_cod (E := E) ht2) ⟨callB_of 0 hts (zgood wc_J0_coder_7d493) rfl rfl rfl (tb _ wi_J0) (tb _ wt52) wy_J0_coder_7d493 ⟨Nat.le_of_ble_eq_true rfl, Nat.le_of_ble_eq_true rfl⟩, tb _ wt53, tb _ wt54⟩ ⟨sT_blind, vk_recv hT.1 ht2 va_S.rf, fun U hU hW => ⟨rfl, hT.use va_S.rf hW hU⟩⟩ rfl rfl hl.1 rfl (lv_room (Nat.le_of_ble_eq_true rfl)) dJ0_length_8abf5_6 ⟨Nat.le_of_ble_eq_true rfl, Nat.le_of_ble_eq_true rfl⟩) va_S.rf (fun _ _ z => z) (fun _ z => z) (fun r u tt H1 locs1 ht hvm hw hB hz1 hk1 hS => ?_)
  subst hw
  refine lv_ishr hx hb dJ0_length_8abf5_9 ?_
  have e0 : ∀ z : Int32, z >>> ((0 : Int32) &&& 31) = z := fun z => by
    rw [show ((0 : Int32) &&& 31) = 0 by decide, Int32.shiftRight_zero]
  rw [e0]
  exact W.iret hx hb B.returns (fun t' ht' _ => ⟨⟨_, (), rfl, rfl, trivial⟩, hS.F ht'⟩) hS.2.2 dJ0_length_8abf5_10 hlocks
theorem S_chr {t k : Nat} (ht2 : t < 2) (hk : k < zTlen.getD t 0) : Met l mJ0_charAt_5068e.1 (zws mJ0_charAt_5068e) (rmS 3) (va_Pc [.ref (zTK E t), .int (Int32.ofNat k)] (fun U => sTx E U U.heap)) (sQ (tCh t k)) 0 0 nA := by
  refine Met.ofW (cc := cJ0_charAt_5068e) (maxL := 2) (ret := some .char) pn_J0 rfl ?_
  intro p e s m args below meth c s₁ B hml hv'
  obtain ⟨rfl, hT⟩ := hv'
  have hx := B.exec
  have hb := B.bytes
  have hlocks := B.notSynchronized
  have hts := atoms_spec (ws := zws mJ0_charAt_5068e) B.pre
  have hown : s.vm.findClass RJ0 = some m.cls := findClass_of_methodNamed B.named
  have tb : ∀ w ∈ ztb, w.before ([.ref (zTK E t), .int (Int32.ofNat k)] : List Value).toArray s = true := fun w hw => hts w (List.mem_cons_of_mem _ hw)
  rw [lg_entry_eq]
  have hl := lv_entry ([.ref (zTK E t), .int (Int32.ofNat k)]) (n := 2) (Nat.le_of_ble_eq_true rfl)
  generalize (lg_sl ([.ref (zTK E t), .int (Int32.ofNat k)]) ++ List.replicate (2 - (lg_sl ([.ref (zTK E t), .int (Int32.ofNat k)])).length) Slot.unset).toArray = ls at hl ⊢
  refine lv_aload_n hx hb dJ0_charAt_5068e_0 rfl (lv_at hl 0 rfl) ?_
  refine va_calli (H0 := s.heap) (A0 := nA) (va_runV (C := RJ0) (b := zTK E t) (As := []) (rest := []) ⟨hx, hb, hml, hown, hts⟩ (S_isL (E := E) ht2) ⟨callB_of 0 hts (zgood wc_J0_isLatin1_aae02) rfl rfl rfl (tb _ wi_J0) (tb _ wt62) wy_J0_isLatin1_aae02 ⟨Nat.le_of_ble_eq_true rfl, Nat.le_of_ble_eq_true rfl⟩, tb _ wt63, tb _ wt64⟩ ⟨sT_blind, vk_recv hT.1 ht2 va_S.rf, fun U hU hW => ⟨rfl, hT.use va_S.rf hW hU⟩⟩ rfl rfl hl.1 rfl (lv_room (Nat.le_of_ble_eq_true rfl)) dJ0_charAt_5068e_1 ⟨Nat.le_of_ble_eq_true rfl, Nat.le_of_ble_eq_true rfl⟩) va_S.rf (fun _ _ z => z) (fun _ z => z) (fun r u tt H1 locs1 ht hvm hw hB hz1 hk1 hS => ?_)
  subst hw
  refine lv_if_eq (tgt := 16) hx hb dJ0_charAt_5068e_4 (by decide) (fun z => absurd z (by decide)) (fun _ => ?_)
  refine lv_aload_n hx hb dJ0_charAt_5068e_7 rfl (lv_at hl 0 rfl) ?_
  refine vk_getf hx hb (hT.1.1 t ht2).2.2.1 hS.nA hown (tb _ wt1728) (fun x q => q) dJ0_charAt_5068e_8 ?_
  refine lv_iload_n hx hb dJ0_charAt_5068e_11 rfl (lv_at hl 1 rfl) ?_
  refine va_calli (H0 := s.heap) (A0 := nA) (va_runS (As := [.ref (zTV E t), .int (Int32.ofNat k)]) (rest := []) ⟨hx, hb, hml, hown, hts⟩ (S_lat (E := E) ht2 hk) ⟨callB_of 2 hts (zgood wc_J1_charAt_3b067) rfl rfl rfl (tb _ wi_J1) (tb _ wm_J0_495) wy_J1_charAt_3b067 ⟨Nat.le_of_ble_eq_true rfl, Nat.le_of_ble_eq_true rfl⟩, tb _ ws_J1_charAt_3b067⟩ ⟨sT_blind, fun U hU hW => ⟨rfl, hT.use hS.nA hW hU⟩⟩ rfl rfl hl.1 rfl (lv_room (Nat.le_of_ble_eq_true rfl)) dJ0_charAt_5068e_12 ⟨Nat.le_of_ble_eq_true rfl, Nat.le_of_ble_eq_true rfl⟩) hS (fun _ _ z => z) (fun _ z => z) (fun r u tt H1 locs1 ht hvm hw hB hz1 hk1 hS => ?_)
  subst hw
  exact W.zret hx hb B.returns (tCh_nar ht2 hk) (fun t' ht' _ => ⟨⟨tCh t k, (), rfl, rfl, trivial⟩, hS.F ht'⟩) hS.2.2 dJ0_charAt_5068e_15 hlocks
end ZText
section ZTextG
variable {E : zE} {M : zM} {d pc : Nat} {L st : List zV} {h : zH} {Q : List zV → zH → Prop}
theorem zP_kept {H H1 : Heap} (P : va_P (zD E) vwCl (zw E h) H) (hk : ∀ q : Nat, q < H.size → ¬ nA q → H1[q]? = H[q]?) : va_P (zD E) vwCl (zw E h) H1 :=
  P.kept (fun k q hq => hk _ (P k q hq).lt (fun z => z))
theorem z_ldcS {ix t : Nat} {tx : String} (hd : decode M.2.1 pc = .ok (.ldc ix, 2)) (hZ : ∀ U : State, zSt E U U.heap → vk_R M.1.cls ix tx (zTK E t) U) (k : zG E M d (pc + 2) L (zT t :: st) h Q) : zG E M d pc L st h Q := by
  intro oL oS oH p e s m args below meth c H ls locs C P S V
  exact va_ldcS (q := zTK E t) C.1 C.2.1 C.2.2.2.2.1 (hZ s C.2.2.2.2.2.2.2) hd (k oL (zokS_cons.mpr ⟨zok_t, oS⟩) oH p e s m args below meth c H ls locs C P S V)
theorem z_slen {ix t : Nat} (hd : decode M.2.1 pc = .ok (.invokevirtual ix, 3)) (ht : t < 2) (hlk : Cond.methodLink M.1.cls ix mJ0_length_8abf5.1 ∈ ztb) (h8 : ((st.map (zrv E)).map fun v => v.category).sum ≤ 8) (k : zG E M d (pc + 3) L (zI (zTlen.getD t 0 : Nat) :: st) h Q) : zG E M d pc L (zT t :: st) h Q := by
  intro oL oS oH p e s m args below meth c H ls locs C P S V
  have o1 := zokS_cons.mp oS
  have hts := C.2.2.2.2.2.1
  have tb : ∀ w ∈ ztb, w.before args s = true := fun w hw => hts w (List.mem_cons_of_mem _ hw)
  have hT := C.2.2.2.2.2.2.2.tx
  have hlt := tlen_lt ht
  refine va_calli (H0 := s.heap) (A0 := zA E) (va_runV (C := RJ0) (b := zTK E t) (As := []) (rest := st.map (zrv E)) (g := F0 m pc ls ((zT t :: st).map (zrv E))) ⟨C.1, C.2.1, C.2.2.2.1, C.2.2.2.2.1, hts⟩ (S_len (E := E) ht) ⟨callB_of 0 hts (zgood wc_J0_length_8abf5) rfl rfl rfl (tb _ wi_J0) (tb _ hlk) wy_J0_length_8abf5 ⟨by simp [rmS, zrm], by simp only [rmS, zrm]; omega⟩, tb _ wt49, tb _ wt50⟩ ⟨sT_blind, vk_recv hT.1 ht S, fun U hU hW => ⟨rfl, hT.use S hW hU⟩⟩ rfl rfl V.1 rfl (lv_room h8) hd ⟨by simp [zrm], by simp [zrm]⟩) S (fun _ _ z => z.elim) (fun _ z => z.elim) (fun r u tt H1 locs1 ht' hvm hw hB hz1 hk1 hS => ?_)
  subst hw
  have kk := k oL (zokS_cons.mpr ⟨zok_i ⟨by omega, by omega⟩, o1.2⟩) oH p e s m args below meth c H1 ls locs1 C (zP_kept P hk1) hS V
  have e1 : Int32.ofNat (zTlen.getD t 0) = Int32.ofInt ((zTlen.getD t 0 : Nat) : Int) := Int32.ofInt_eq_ofNat.symm
  rw [e1]
  exact kk
def tChZ (t k : Nat) : Int := (tCh t k).toInt
theorem z_schr {ix t k : Nat} {x : Int} (hd : decode M.2.1 pc = .ok (.invokevirtual ix, 3)) (ht : t < 2) (hx : x = (k : Int)) (hk : k < zTlen.getD t 0) (hlk : Cond.methodLink M.1.cls ix mJ0_charAt_5068e.1 ∈ ztb) (h8 : ((st.map (zrv E)).map fun v => v.category).sum ≤ 8) (kk : zG E M d (pc + 3) L (zI (tChZ t k) :: st) h Q) : zG E M d pc L (zI x :: zT t :: st) h Q := by
  intro oL oS oH p e s m args below meth c H ls locs C P S V
  have o1 := zokS_cons.mp (zokS_cons.mp oS).2
  have hts := C.2.2.2.2.2.1
  have tb : ∀ w ∈ ztb, w.before args s = true := fun w hw => hts w (List.mem_cons_of_mem _ hw)
  have hT := C.2.2.2.2.2.2.2.tx
  have e1 : Int32.ofInt x = Int32.ofNat k := by rw [hx]; exact Int32.ofInt_eq_ofNat
  refine va_calli (H0 := s.heap) (A0 := zA E) (va_runV (C := RJ0) (b := zTK E t) (As := [.int (Int32.ofNat k)]) (rest := st.map (zrv E)) (g := F0 m pc ls ((zI x :: zT t :: st).map (zrv E))) ⟨C.1, C.2.1, C.2.2.2.1, C.2.2.2.2.1, hts⟩ (S_chr (E := E) ht hk) ⟨callB_of 1 hts (zgood wc_J0_charAt_5068e) rfl rfl rfl (tb _ wi_J0) (tb _ hlk) wy_J0_charAt_5068e ⟨by simp [rmS, zrm], by simp only [rmS, zrm]; omega⟩, tb _ wt59, tb _ wt60⟩ ⟨sT_blind, vk_recv hT.1 ht S, fun U hU hW => ⟨rfl, hT.use S hW hU⟩⟩ rfl rfl V.1 (by show Value.int (Int32.ofInt x) :: _ = _; rw [e1]; rfl) (lv_room h8) hd ⟨by simp [zrm], by simp [zrm]⟩) S (fun _ _ z => z.elim) (fun _ z => z.elim) (fun r u tt H1 locs1 ht' hvm hw hB hz1 hk1 hS => ?_)
  subst hw
  have k2 := kk oL (zokS_cons.mpr ⟨zok_i (i32_r _), o1.2⟩) oH p e s m args below meth c H1 ls locs1 C (zP_kept P hk1) hS V
  have e2 : tCh t k = Int32.ofInt (tChZ t k) := (i32_self _).symm
  rw [e2]
  exact k2
end ZTextG
