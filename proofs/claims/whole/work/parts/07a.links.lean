/-! ===== words by their places; methods; a rule a field; a rule a call ===== -/
theorem inz0 : ∀ w ∈ u_ws RX0 TX0 13, w ∈ ztb := by decide +kernel
theorem inz1 : ∀ w ∈ u_ws RX1 TX1 7, w ∈ ztb := by decide +kernel
theorem inz2 : ∀ w ∈ u_ws RX2 TX2 2, w ∈ ztb := by decide +kernel
theorem inz3 : ∀ w ∈ u_ws RX3 TX3 6, w ∈ ztb := by decide +kernel
theorem inz4 : ∀ w ∈ u_ws RX4 TX4 6, w ∈ ztb := by decide +kernel
theorem inz5 : ∀ w ∈ u_ws RX5 TX5 5, w ∈ ztb := by decide +kernel
theorem inz6 : ∀ w ∈ u_ws RX6 TX6 6, w ∈ ztb := by decide +kernel
theorem inz7 : ∀ w ∈ u_ws RX7 TX7 2, w ∈ ztb := by decide +kernel
theorem inz8 : ∀ w ∈ u_ws RX8 TX8 17, w ∈ ztb := by decide +kernel
theorem inz9 : ∀ w ∈ u_ws RX9 TX9 14, w ∈ ztb := by decide +kernel
theorem inz10 : ∀ w ∈ u_ws RX10 TX10 86, w ∈ ztb := by decide +kernel
theorem pn_X0 : plainName RX0 = true := by decide +kernel
set_option maxRecDepth 100000 in
theorem wi_X0 : Cond.initialized RX0 ∈ ztb := List.mem_filter.mpr ⟨List.mem_append_right _ (List.mem_of_getElem? (i := 14) rfl), rfl⟩
theorem pn_X1 : plainName RX1 = true := by decide +kernel
set_option maxRecDepth 100000 in
theorem wi_X1 : Cond.initialized RX1 ∈ ztb := List.mem_filter.mpr ⟨List.mem_append_right _ (List.mem_of_getElem? (i := 3) rfl), rfl⟩
theorem pn_X2 : plainName RX2 = true := by decide +kernel
set_option maxRecDepth 100000 in
theorem wi_X2 : Cond.initialized RX2 ∈ ztb := List.mem_filter.mpr ⟨List.mem_append_right _ (List.mem_of_getElem? (i := 10) rfl), rfl⟩
theorem pn_X3 : plainName RX3 = true := by decide +kernel
set_option maxRecDepth 100000 in
theorem wi_X3 : Cond.initialized RX3 ∈ ztb := List.mem_filter.mpr ⟨List.mem_append_right _ (List.mem_of_getElem? (i := 13) rfl), rfl⟩
theorem pn_X4 : plainName RX4 = true := by decide +kernel
set_option maxRecDepth 100000 in
theorem wi_X4 : Cond.initialized RX4 ∈ ztb := List.mem_filter.mpr ⟨List.mem_append_right _ (List.mem_of_getElem? (i := 2) rfl), rfl⟩
theorem pn_X5 : plainName RX5 = true := by decide +kernel
set_option maxRecDepth 100000 in
theorem wi_X5 : Cond.initialized RX5 ∈ ztb := List.mem_filter.mpr ⟨List.mem_append_right _ (List.mem_of_getElem? (i := 12) rfl), rfl⟩
theorem pn_X6 : plainName RX6 = true := by decide +kernel
set_option maxRecDepth 100000 in
theorem wi_X6 : Cond.initialized RX6 ∈ ztb := List.mem_filter.mpr ⟨List.mem_append_right _ (List.mem_of_getElem? (i := 8) rfl), rfl⟩
theorem pn_X7 : plainName RX7 = true := by decide +kernel
set_option maxRecDepth 100000 in
theorem wi_X7 : Cond.initialized RX7 ∈ ztb := List.mem_filter.mpr ⟨List.mem_append_right _ (List.mem_of_getElem? (i := 15) rfl), rfl⟩
theorem pn_X8 : plainName RX8 = true := by decide +kernel
set_option maxRecDepth 100000 in
theorem wi_X8 : Cond.initialized RX8 ∈ ztb := List.mem_filter.mpr ⟨List.mem_append_right _ (List.mem_of_getElem? (i := 9) rfl), rfl⟩
theorem pn_X9 : plainName RX9 = true := by decide +kernel
set_option maxRecDepth 100000 in
theorem wi_X9 : Cond.initialized RX9 ∈ ztb := List.mem_filter.mpr ⟨List.mem_append_right _ (List.mem_of_getElem? (i := 1) rfl), rfl⟩
theorem pn_X10 : plainName RX10 = true := by decide +kernel
set_option maxRecDepth 100000 in
theorem wi_X10 : Cond.initialized RX10 ∈ ztb := List.mem_filter.mpr ⟨List.mem_append_right _ (List.mem_of_getElem? (i := 16) rfl), rfl⟩
set_option maxRecDepth 100000 in
theorem wi_J9 : Cond.initialized RJ9 ∈ ztb := List.mem_filter.mpr ⟨List.mem_append_right _ (List.mem_of_getElem? (i := 11) rfl), rfl⟩
theorem pn_J0 : plainName RJ0 = true := by decide +kernel
set_option maxRecDepth 100000 in
theorem wi_J0 : Cond.initialized RJ0 ∈ ztb := List.mem_filter.mpr ⟨List.mem_append_right _ (List.mem_of_getElem? (i := 4) rfl), rfl⟩
theorem pn_J1 : plainName RJ1 = true := by decide +kernel
set_option maxRecDepth 100000 in
theorem wi_J1 : Cond.initialized RJ1 ∈ ztb := List.mem_filter.mpr ⟨List.mem_append_right _ (List.mem_of_getElem? (i := 5) rfl), rfl⟩
theorem pn_J2 : plainName RJ2 = true := by decide +kernel
set_option maxRecDepth 100000 in
theorem wi_J2 : Cond.initialized RJ2 ∈ ztb := List.mem_filter.mpr ⟨List.mem_append_right _ (List.mem_of_getElem? (i := 7) rfl), rfl⟩
theorem pn_J10 : plainName RJ10 = true := by decide +kernel
set_option maxRecDepth 100000 in
theorem wi_J10 : Cond.initialized RJ10 ∈ ztb := List.mem_filter.mpr ⟨List.mem_append_right _ (List.mem_of_getElem? (i := 18) rfl), rfl⟩
theorem pn_J7 : plainName RJ7 = true := by decide +kernel
set_option maxRecDepth 100000 in
theorem wi_J7 : Cond.initialized RJ7 ∈ ztb := List.mem_filter.mpr ⟨List.mem_append_right _ (List.mem_of_getElem? (i := 17) rfl), rfl⟩
theorem pn_J3 : plainName RJ3 = true := by decide +kernel
set_option maxRecDepth 100000 in
theorem wi_J3 : Cond.initialized RJ3 ∈ ztb := List.mem_filter.mpr ⟨List.mem_append_right _ (List.mem_of_getElem? (i := 6) rfl), rfl⟩
theorem pn_L : plainName RL = true := by decide +kernel
set_option maxRecDepth 100000 in
theorem wi_L : Cond.initialized RL ∈ ztb := List.mem_filter.mpr ⟨List.mem_append_right _ (List.mem_of_getElem? (i := 0) rfl), rfl⟩
abbrev mX9_init : zM := (yX9_init, cX9_init, 1, none)
set_option maxRecDepth 100000 in
theorem wc_X9_init : Cond.code mX9_init.1 mX9_init.2.1 mX9_init.2.2.1 mX9_init.2.2.2 ∈ ztb := List.mem_filter.mpr ⟨List.mem_append_right _ (List.mem_of_getElem? (i := 28) rfl), rfl⟩
set_option maxRecDepth 100000 in
theorem wy_X9_init : mX9_init.1.cls ≠ "java/lang/invoke/MethodHandle" ∧ mX9_init.1.cls ≠ "java/lang/invoke/VarHandle" ∧ (parseMethodDescriptor mX9_init.1.desc).map (fun d => d.parameters.length) = some 0 := by decide +kernel
abbrev mX4_init : zM := (yX4_init, cX4_init, 1, none)
set_option maxRecDepth 100000 in
theorem wc_X4_init : Cond.code mX4_init.1 mX4_init.2.1 mX4_init.2.2.1 mX4_init.2.2.2 ∈ ztb := List.mem_filter.mpr ⟨List.mem_append_right _ (List.mem_of_getElem? (i := 36) rfl), rfl⟩
set_option maxRecDepth 100000 in
theorem wy_X4_init : mX4_init.1.cls ≠ "java/lang/invoke/MethodHandle" ∧ mX4_init.1.cls ≠ "java/lang/invoke/VarHandle" ∧ (parseMethodDescriptor mX4_init.1.desc).map (fun d => d.parameters.length) = some 0 := by decide +kernel
abbrev mX1_init : zM := (yX1_init, cX1_init, 1, none)
set_option maxRecDepth 100000 in
theorem wc_X1_init : Cond.code mX1_init.1 mX1_init.2.1 mX1_init.2.2.1 mX1_init.2.2.2 ∈ ztb := List.mem_filter.mpr ⟨List.mem_append_right _ (List.mem_of_getElem? (i := 42) rfl), rfl⟩
set_option maxRecDepth 100000 in
theorem wy_X1_init : mX1_init.1.cls ≠ "java/lang/invoke/MethodHandle" ∧ mX1_init.1.cls ≠ "java/lang/invoke/VarHandle" ∧ (parseMethodDescriptor mX1_init.1.desc).map (fun d => d.parameters.length) = some 0 := by decide +kernel
abbrev mJ0_length_8abf5 : zM := (yJ0_length_8abf5, cJ0_length_8abf5, 1, some .int)
set_option maxRecDepth 100000 in
theorem wc_J0_length_8abf5 : Cond.code mJ0_length_8abf5.1 mJ0_length_8abf5.2.1 mJ0_length_8abf5.2.2.1 mJ0_length_8abf5.2.2.2 ∈ ztb := List.mem_filter.mpr ⟨List.mem_append_right _ (List.mem_of_getElem? (i := 51) rfl), rfl⟩
set_option maxRecDepth 100000 in
theorem wy_J0_length_8abf5 : mJ0_length_8abf5.1.cls ≠ "java/lang/invoke/MethodHandle" ∧ mJ0_length_8abf5.1.cls ≠ "java/lang/invoke/VarHandle" ∧ (parseMethodDescriptor mJ0_length_8abf5.1.desc).map (fun d => d.parameters.length) = some 0 := by decide +kernel
abbrev mJ0_coder_7d493 : zM := (yJ0_coder_7d493, cJ0_coder_7d493, 1, some .byte)
set_option maxRecDepth 100000 in
theorem wc_J0_coder_7d493 : Cond.code mJ0_coder_7d493.1 mJ0_coder_7d493.2.1 mJ0_coder_7d493.2.2.1 mJ0_coder_7d493.2.2.2 ∈ ztb := List.mem_filter.mpr ⟨List.mem_append_right _ (List.mem_of_getElem? (i := 55) rfl), rfl⟩
set_option maxRecDepth 100000 in
theorem wy_J0_coder_7d493 : mJ0_coder_7d493.1.cls ≠ "java/lang/invoke/MethodHandle" ∧ mJ0_coder_7d493.1.cls ≠ "java/lang/invoke/VarHandle" ∧ (parseMethodDescriptor mJ0_coder_7d493.1.desc).map (fun d => d.parameters.length) = some 0 := by decide +kernel
abbrev mJ0_charAt_5068e : zM := (yJ0_charAt_5068e, cJ0_charAt_5068e, 2, some .char)
set_option maxRecDepth 100000 in
theorem wc_J0_charAt_5068e : Cond.code mJ0_charAt_5068e.1 mJ0_charAt_5068e.2.1 mJ0_charAt_5068e.2.2.1 mJ0_charAt_5068e.2.2.2 ∈ ztb := List.mem_filter.mpr ⟨List.mem_append_right _ (List.mem_of_getElem? (i := 61) rfl), rfl⟩
set_option maxRecDepth 100000 in
theorem wy_J0_charAt_5068e : mJ0_charAt_5068e.1.cls ≠ "java/lang/invoke/MethodHandle" ∧ mJ0_charAt_5068e.1.cls ≠ "java/lang/invoke/VarHandle" ∧ (parseMethodDescriptor mJ0_charAt_5068e.1.desc).map (fun d => d.parameters.length) = some 1 := by decide +kernel
abbrev mJ0_isLatin1_aae02 : zM := (yJ0_isLatin1_aae02, cJ0_isLatin1_aae02, 1, some .boolean)
set_option maxRecDepth 100000 in
theorem wc_J0_isLatin1_aae02 : Cond.code mJ0_isLatin1_aae02.1 mJ0_isLatin1_aae02.2.1 mJ0_isLatin1_aae02.2.2.1 mJ0_isLatin1_aae02.2.2.2 ∈ ztb := List.mem_filter.mpr ⟨List.mem_append_right _ (List.mem_of_getElem? (i := 65) rfl), rfl⟩
set_option maxRecDepth 100000 in
theorem wy_J0_isLatin1_aae02 : mJ0_isLatin1_aae02.1.cls ≠ "java/lang/invoke/MethodHandle" ∧ mJ0_isLatin1_aae02.1.cls ≠ "java/lang/invoke/VarHandle" ∧ (parseMethodDescriptor mJ0_isLatin1_aae02.1.desc).map (fun d => d.parameters.length) = some 0 := by decide +kernel
abbrev mJ1_charAt_3b067 : zM := (yJ1_charAt_3b067, cJ1_charAt_3b067, 2, some .char)
set_option maxRecDepth 100000 in
theorem wc_J1_charAt_3b067 : Cond.code mJ1_charAt_3b067.1 mJ1_charAt_3b067.2.1 mJ1_charAt_3b067.2.2.1 mJ1_charAt_3b067.2.2.2 ∈ ztb := List.mem_filter.mpr ⟨List.mem_append_right _ (List.mem_of_getElem? (i := 68) rfl), rfl⟩
set_option maxRecDepth 100000 in
theorem wy_J1_charAt_3b067 : mJ1_charAt_3b067.1.cls ≠ "java/lang/invoke/MethodHandle" ∧ mJ1_charAt_3b067.1.cls ≠ "java/lang/invoke/VarHandle" ∧ (parseMethodDescriptor mJ1_charAt_3b067.1.desc).map (fun d => d.parameters.length) = some 2 := by decide +kernel
abbrev mJ0_checkIndex_df160 : zM := (yJ0_checkIndex_df160, cJ0_checkIndex_df160, 2, none)
set_option maxRecDepth 100000 in
theorem wc_J0_checkIndex_df160 : Cond.code mJ0_checkIndex_df160.1 mJ0_checkIndex_df160.2.1 mJ0_checkIndex_df160.2.2.1 mJ0_checkIndex_df160.2.2.2 ∈ ztb := List.mem_filter.mpr ⟨List.mem_append_right _ (List.mem_of_getElem? (i := 71) rfl), rfl⟩
set_option maxRecDepth 100000 in
theorem wy_J0_checkIndex_df160 : mJ0_checkIndex_df160.1.cls ≠ "java/lang/invoke/MethodHandle" ∧ mJ0_checkIndex_df160.1.cls ≠ "java/lang/invoke/VarHandle" ∧ (parseMethodDescriptor mJ0_checkIndex_df160.1.desc).map (fun d => d.parameters.length) = some 2 := by decide +kernel
abbrev mJ3_checkIndex_8e157 : zM := (yJ3_checkIndex_8e157, cJ3_checkIndex_8e157, 3, some .int)
set_option maxRecDepth 100000 in
theorem wc_J3_checkIndex_8e157 : Cond.code mJ3_checkIndex_8e157.1 mJ3_checkIndex_8e157.2.1 mJ3_checkIndex_8e157.2.2.1 mJ3_checkIndex_8e157.2.2.2 ∈ ztb := List.mem_filter.mpr ⟨List.mem_append_right _ (List.mem_of_getElem? (i := 76) rfl), rfl⟩
set_option maxRecDepth 100000 in
theorem wy_J3_checkIndex_8e157 : mJ3_checkIndex_8e157.1.cls ≠ "java/lang/invoke/MethodHandle" ∧ mJ3_checkIndex_8e157.1.cls ≠ "java/lang/invoke/VarHandle" ∧ (parseMethodDescriptor mJ3_checkIndex_8e157.1.desc).map (fun d => d.parameters.length) = some 3 := by decide +kernel
abbrev mJ2_charAt_3b067 : zM := (yJ2_charAt_3b067, cJ2_charAt_3b067, 2, some .char)
set_option maxRecDepth 100000 in
theorem wc_J2_charAt_3b067 : Cond.code mJ2_charAt_3b067.1 mJ2_charAt_3b067.2.1 mJ2_charAt_3b067.2.2.1 mJ2_charAt_3b067.2.2.2 ∈ ztb := List.mem_filter.mpr ⟨List.mem_append_right _ (List.mem_of_getElem? (i := 79) rfl), rfl⟩
set_option maxRecDepth 100000 in
theorem wy_J2_charAt_3b067 : mJ2_charAt_3b067.1.cls ≠ "java/lang/invoke/MethodHandle" ∧ mJ2_charAt_3b067.1.cls ≠ "java/lang/invoke/VarHandle" ∧ (parseMethodDescriptor mJ2_charAt_3b067.1.desc).map (fun d => d.parameters.length) = some 2 := by decide +kernel
abbrev mJ2_checkIndex_2214a : zM := (yJ2_checkIndex_2214a, cJ2_checkIndex_2214a, 2, none)
set_option maxRecDepth 100000 in
theorem wc_J2_checkIndex_2214a : Cond.code mJ2_checkIndex_2214a.1 mJ2_checkIndex_2214a.2.1 mJ2_checkIndex_2214a.2.2.1 mJ2_checkIndex_2214a.2.2.2 ∈ ztb := List.mem_filter.mpr ⟨List.mem_append_right _ (List.mem_of_getElem? (i := 82) rfl), rfl⟩
set_option maxRecDepth 100000 in
theorem wy_J2_checkIndex_2214a : mJ2_checkIndex_2214a.1.cls ≠ "java/lang/invoke/MethodHandle" ∧ mJ2_checkIndex_2214a.1.cls ≠ "java/lang/invoke/VarHandle" ∧ (parseMethodDescriptor mJ2_checkIndex_2214a.1.desc).map (fun d => d.parameters.length) = some 2 := by decide +kernel
abbrev mJ2_length_9d52b : zM := (yJ2_length_9d52b, cJ2_length_9d52b, 1, some .int)
set_option maxRecDepth 100000 in
theorem wc_J2_length_9d52b : Cond.code mJ2_length_9d52b.1 mJ2_length_9d52b.2.1 mJ2_length_9d52b.2.2.1 mJ2_length_9d52b.2.2.2 ∈ ztb := List.mem_filter.mpr ⟨List.mem_append_right _ (List.mem_of_getElem? (i := 85) rfl), rfl⟩
set_option maxRecDepth 100000 in
theorem wy_J2_length_9d52b : mJ2_length_9d52b.1.cls ≠ "java/lang/invoke/MethodHandle" ∧ mJ2_length_9d52b.1.cls ≠ "java/lang/invoke/VarHandle" ∧ (parseMethodDescriptor mJ2_length_9d52b.1.desc).map (fun d => d.parameters.length) = some 1 := by decide +kernel
abbrev mJ2_getChar_3b067 : zM := (yJ2_getChar_3b067, cJ2_getChar_3b067, 2, some .char)
set_option maxRecDepth 100000 in
theorem wc_J2_getChar_3b067 : Cond.code mJ2_getChar_3b067.1 mJ2_getChar_3b067.2.1 mJ2_getChar_3b067.2.2.1 mJ2_getChar_3b067.2.2.2 ∈ ztb := List.mem_filter.mpr ⟨List.mem_append_right _ (List.mem_of_getElem? (i := 89) rfl), rfl⟩
set_option maxRecDepth 100000 in
theorem wy_J2_getChar_3b067 : mJ2_getChar_3b067.1.cls ≠ "java/lang/invoke/MethodHandle" ∧ mJ2_getChar_3b067.1.cls ≠ "java/lang/invoke/VarHandle" ∧ (parseMethodDescriptor mJ2_getChar_3b067.1.desc).map (fun d => d.parameters.length) = some 2 := by decide +kernel
abbrev mX6_init : zM := (yX6_init, cX6_init, 1, none)
set_option maxRecDepth 100000 in
theorem wc_X6_init : Cond.code mX6_init.1 mX6_init.2.1 mX6_init.2.2.1 mX6_init.2.2.2 ∈ ztb := List.mem_filter.mpr ⟨List.mem_append_right _ (List.mem_of_getElem? (i := 130) rfl), rfl⟩
set_option maxRecDepth 100000 in
theorem wy_X6_init : mX6_init.1.cls ≠ "java/lang/invoke/MethodHandle" ∧ mX6_init.1.cls ≠ "java/lang/invoke/VarHandle" ∧ (parseMethodDescriptor mX6_init.1.desc).map (fun d => d.parameters.length) = some 0 := by decide +kernel
abbrev mX8_init : zM := (yX8_init, cX8_init, 1, none)
set_option maxRecDepth 100000 in
theorem wc_X8_init : Cond.code mX8_init.1 mX8_init.2.1 mX8_init.2.2.1 mX8_init.2.2.2 ∈ ztb := List.mem_filter.mpr ⟨List.mem_append_right _ (List.mem_of_getElem? (i := 177) rfl), rfl⟩
set_option maxRecDepth 100000 in
theorem wy_X8_init : mX8_init.1.cls ≠ "java/lang/invoke/MethodHandle" ∧ mX8_init.1.cls ≠ "java/lang/invoke/VarHandle" ∧ (parseMethodDescriptor mX8_init.1.desc).map (fun d => d.parameters.length) = some 0 := by decide +kernel
abbrev mX2_init : zM := (yX2_init, cX2_init, 2, none)
set_option maxRecDepth 100000 in
theorem wc_X2_init : Cond.code mX2_init.1 mX2_init.2.1 mX2_init.2.2.1 mX2_init.2.2.2 ∈ ztb := List.mem_filter.mpr ⟨List.mem_append_right _ (List.mem_of_getElem? (i := 183) rfl), rfl⟩
set_option maxRecDepth 100000 in
theorem wy_X2_init : mX2_init.1.cls ≠ "java/lang/invoke/MethodHandle" ∧ mX2_init.1.cls ≠ "java/lang/invoke/VarHandle" ∧ (parseMethodDescriptor mX2_init.1.desc).map (fun d => d.parameters.length) = some 1 := by decide +kernel
abbrev mJ9_max_7cf53 : zM := (yJ9_max_7cf53, cJ9_max_7cf53, 2, some .int)
set_option maxRecDepth 100000 in
theorem wc_J9_max_7cf53 : Cond.code mJ9_max_7cf53.1 mJ9_max_7cf53.2.1 mJ9_max_7cf53.2.2.1 mJ9_max_7cf53.2.2.2 ∈ ztb := List.mem_filter.mpr ⟨List.mem_append_right _ (List.mem_of_getElem? (i := 187) rfl), rfl⟩
set_option maxRecDepth 100000 in
theorem wy_J9_max_7cf53 : mJ9_max_7cf53.1.cls ≠ "java/lang/invoke/MethodHandle" ∧ mJ9_max_7cf53.1.cls ≠ "java/lang/invoke/VarHandle" ∧ (parseMethodDescriptor mJ9_max_7cf53.1.desc).map (fun d => d.parameters.length) = some 2 := by decide +kernel
abbrev mX5_init : zM := (yX5_init, cX5_init, 1, none)
set_option maxRecDepth 100000 in
theorem wc_X5_init : Cond.code mX5_init.1 mX5_init.2.1 mX5_init.2.2.1 mX5_init.2.2.2 ∈ ztb := List.mem_filter.mpr ⟨List.mem_append_right _ (List.mem_of_getElem? (i := 201) rfl), rfl⟩
set_option maxRecDepth 100000 in
theorem wy_X5_init : mX5_init.1.cls ≠ "java/lang/invoke/MethodHandle" ∧ mX5_init.1.cls ≠ "java/lang/invoke/VarHandle" ∧ (parseMethodDescriptor mX5_init.1.desc).map (fun d => d.parameters.length) = some 0 := by decide +kernel
abbrev mX3_init : zM := (yX3_init, cX3_init, 1, none)
set_option maxRecDepth 100000 in
theorem wc_X3_init : Cond.code mX3_init.1 mX3_init.2.1 mX3_init.2.2.1 mX3_init.2.2.2 ∈ ztb := List.mem_filter.mpr ⟨List.mem_append_right _ (List.mem_of_getElem? (i := 312) rfl), rfl⟩
set_option maxRecDepth 100000 in
theorem wy_X3_init : mX3_init.1.cls ≠ "java/lang/invoke/MethodHandle" ∧ mX3_init.1.cls ≠ "java/lang/invoke/VarHandle" ∧ (parseMethodDescriptor mX3_init.1.desc).map (fun d => d.parameters.length) = some 0 := by decide +kernel
abbrev mX0_init : zM := (yX0_init, cX0_init, 1, none)
set_option maxRecDepth 100000 in
theorem wc_X0_init : Cond.code mX0_init.1 mX0_init.2.1 mX0_init.2.2.1 mX0_init.2.2.2 ∈ ztb := List.mem_filter.mpr ⟨List.mem_append_right _ (List.mem_of_getElem? (i := 338) rfl), rfl⟩
set_option maxRecDepth 100000 in
theorem wy_X0_init : mX0_init.1.cls ≠ "java/lang/invoke/MethodHandle" ∧ mX0_init.1.cls ≠ "java/lang/invoke/VarHandle" ∧ (parseMethodDescriptor mX0_init.1.desc).map (fun d => d.parameters.length) = some 0 := by decide +kernel
abbrev mX7_init : zM := (yX7_init, cX7_init, 1, none)
set_option maxRecDepth 100000 in
theorem wc_X7_init : Cond.code mX7_init.1 mX7_init.2.1 mX7_init.2.2.1 mX7_init.2.2.2 ∈ ztb := List.mem_filter.mpr ⟨List.mem_append_right _ (List.mem_of_getElem? (i := 390) rfl), rfl⟩
set_option maxRecDepth 100000 in
theorem wy_X7_init : mX7_init.1.cls ≠ "java/lang/invoke/MethodHandle" ∧ mX7_init.1.cls ≠ "java/lang/invoke/VarHandle" ∧ (parseMethodDescriptor mX7_init.1.desc).map (fun d => d.parameters.length) = some 0 := by decide +kernel
abbrev mX9_feed : zM := (yX9_feed, cX9_feed, 6, some .int)
set_option maxRecDepth 100000 in
theorem wc_X9_feed : Cond.code mX9_feed.1 mX9_feed.2.1 mX9_feed.2.2.1 mX9_feed.2.2.2 ∈ ztb := List.mem_filter.mpr ⟨List.mem_append_right _ (List.mem_of_getElem? (i := 448) rfl), rfl⟩
set_option maxRecDepth 100000 in
theorem wy_X9_feed : mX9_feed.1.cls ≠ "java/lang/invoke/MethodHandle" ∧ mX9_feed.1.cls ≠ "java/lang/invoke/VarHandle" ∧ (parseMethodDescriptor mX9_feed.1.desc).map (fun d => d.parameters.length) = some 5 := by decide +kernel
abbrev mX9_putFourBytes : zM := (yX9_putFourBytes, cX9_putFourBytes, 3, none)
set_option maxRecDepth 100000 in
theorem wc_X9_putFourBytes : Cond.code mX9_putFourBytes.1 mX9_putFourBytes.2.1 mX9_putFourBytes.2.2.1 mX9_putFourBytes.2.2.2 ∈ ztb := List.mem_filter.mpr ⟨List.mem_append_right _ (List.mem_of_getElem? (i := 452) rfl), rfl⟩
set_option maxRecDepth 100000 in
theorem wy_X9_putFourBytes : mX9_putFourBytes.1.cls ≠ "java/lang/invoke/MethodHandle" ∧ mX9_putFourBytes.1.cls ≠ "java/lang/invoke/VarHandle" ∧ (parseMethodDescriptor mX9_putFourBytes.1.desc).map (fun d => d.parameters.length) = some 1 := by decide +kernel
abbrev mX9_text : zM := (yX9_text, cX9_text, 3, some .int)
set_option maxRecDepth 100000 in
theorem wc_X9_text : Cond.code mX9_text.1 mX9_text.2.1 mX9_text.2.2.1 mX9_text.2.2.2 ∈ ztb := List.mem_filter.mpr ⟨List.mem_append_right _ (List.mem_of_getElem? (i := 456) rfl), rfl⟩
set_option maxRecDepth 100000 in
theorem wy_X9_text : mX9_text.1.cls ≠ "java/lang/invoke/MethodHandle" ∧ mX9_text.1.cls ≠ "java/lang/invoke/VarHandle" ∧ (parseMethodDescriptor mX9_text.1.desc).map (fun d => d.parameters.length) = some 1 := by decide +kernel
abbrev mX4_read : zM := (yX4_read, cX4_read, 5, some .boolean)
set_option maxRecDepth 100000 in
theorem wc_X4_read : Cond.code mX4_read.1 mX4_read.2.1 mX4_read.2.2.1 mX4_read.2.2.2 ∈ ztb := List.mem_filter.mpr ⟨List.mem_append_right _ (List.mem_of_getElem? (i := 460) rfl), rfl⟩
set_option maxRecDepth 100000 in
theorem wy_X4_read : mX4_read.1.cls ≠ "java/lang/invoke/MethodHandle" ∧ mX4_read.1.cls ≠ "java/lang/invoke/VarHandle" ∧ (parseMethodDescriptor mX4_read.1.desc).map (fun d => d.parameters.length) = some 3 := by decide +kernel
abbrev mX8_clear : zM := (yX8_clear, cX8_clear, 1, none)
set_option maxRecDepth 100000 in
theorem wc_X8_clear : Cond.code mX8_clear.1 mX8_clear.2.1 mX8_clear.2.2.1 mX8_clear.2.2.2 ∈ ztb := List.mem_filter.mpr ⟨List.mem_append_right _ (List.mem_of_getElem? (i := 464) rfl), rfl⟩
set_option maxRecDepth 100000 in
theorem wy_X8_clear : mX8_clear.1.cls ≠ "java/lang/invoke/MethodHandle" ∧ mX8_clear.1.cls ≠ "java/lang/invoke/VarHandle" ∧ (parseMethodDescriptor mX8_clear.1.desc).map (fun d => d.parameters.length) = some 0 := by decide +kernel
abbrev mJ7_fill_53178 : zM := (yJ7_fill_53178, cJ7_fill_53178, 4, none)
set_option maxRecDepth 100000 in
theorem wc_J7_fill_53178 : Cond.code mJ7_fill_53178.1 mJ7_fill_53178.2.1 mJ7_fill_53178.2.2.1 mJ7_fill_53178.2.2.2 ∈ ztb := List.mem_filter.mpr ⟨List.mem_append_right _ (List.mem_of_getElem? (i := 467) rfl), rfl⟩
set_option maxRecDepth 100000 in
theorem wy_J7_fill_53178 : mJ7_fill_53178.1.cls ≠ "java/lang/invoke/MethodHandle" ∧ mJ7_fill_53178.1.cls ≠ "java/lang/invoke/VarHandle" ∧ (parseMethodDescriptor mJ7_fill_53178.1.desc).map (fun d => d.parameters.length) = some 2 := by decide +kernel
abbrev mX1_begin : zM := (yX1_begin, cX1_begin, 3, none)
set_option maxRecDepth 100000 in
theorem wc_X1_begin : Cond.code mX1_begin.1 mX1_begin.2.1 mX1_begin.2.2.1 mX1_begin.2.2.2 ∈ ztb := List.mem_filter.mpr ⟨List.mem_append_right _ (List.mem_of_getElem? (i := 471) rfl), rfl⟩
set_option maxRecDepth 100000 in
theorem wy_X1_begin : mX1_begin.1.cls ≠ "java/lang/invoke/MethodHandle" ∧ mX1_begin.1.cls ≠ "java/lang/invoke/VarHandle" ∧ (parseMethodDescriptor mX1_begin.1.desc).map (fun d => d.parameters.length) = some 2 := by decide +kernel
abbrev mJ9_min_7cf53 : zM := (yJ9_min_7cf53, cJ9_min_7cf53, 2, some .int)
set_option maxRecDepth 100000 in
theorem wc_J9_min_7cf53 : Cond.code mJ9_min_7cf53.1 mJ9_min_7cf53.2.1 mJ9_min_7cf53.2.2.1 mJ9_min_7cf53.2.2.2 ∈ ztb := List.mem_filter.mpr ⟨List.mem_append_right _ (List.mem_of_getElem? (i := 474) rfl), rfl⟩
set_option maxRecDepth 100000 in
theorem wy_J9_min_7cf53 : mJ9_min_7cf53.1.cls ≠ "java/lang/invoke/MethodHandle" ∧ mJ9_min_7cf53.1.cls ≠ "java/lang/invoke/VarHandle" ∧ (parseMethodDescriptor mJ9_min_7cf53.1.desc).map (fun d => d.parameters.length) = some 2 := by decide +kernel
abbrev mX1_advance : zM := (yX1_advance, cX1_advance, 2, none)
set_option maxRecDepth 100000 in
theorem wc_X1_advance : Cond.code mX1_advance.1 mX1_advance.2.1 mX1_advance.2.2.1 mX1_advance.2.2.2 ∈ ztb := List.mem_filter.mpr ⟨List.mem_append_right _ (List.mem_of_getElem? (i := 478) rfl), rfl⟩
set_option maxRecDepth 100000 in
theorem wy_X1_advance : mX1_advance.1.cls ≠ "java/lang/invoke/MethodHandle" ∧ mX1_advance.1.cls ≠ "java/lang/invoke/VarHandle" ∧ (parseMethodDescriptor mX1_advance.1.desc).map (fun d => d.parameters.length) = some 0 := by decide +kernel
abbrev mX1_takeWord : zM := (yX1_takeWord, cX1_takeWord, 4, none)
set_option maxRecDepth 100000 in
theorem wc_X1_takeWord : Cond.code mX1_takeWord.1 mX1_takeWord.2.1 mX1_takeWord.2.2.1 mX1_takeWord.2.2.2 ∈ ztb := List.mem_filter.mpr ⟨List.mem_append_right _ (List.mem_of_getElem? (i := 482) rfl), rfl⟩
set_option maxRecDepth 100000 in
theorem wy_X1_takeWord : mX1_takeWord.1.cls ≠ "java/lang/invoke/MethodHandle" ∧ mX1_takeWord.1.cls ≠ "java/lang/invoke/VarHandle" ∧ (parseMethodDescriptor mX1_takeWord.1.desc).map (fun d => d.parameters.length) = some 0 := by decide +kernel
abbrev mX1_takeNumber : zM := (yX1_takeNumber, cX1_takeNumber, 1, none)
set_option maxRecDepth 100000 in
theorem wc_X1_takeNumber : Cond.code mX1_takeNumber.1 mX1_takeNumber.2.1 mX1_takeNumber.2.2.1 mX1_takeNumber.2.2.2 ∈ ztb := List.mem_filter.mpr ⟨List.mem_append_right _ (List.mem_of_getElem? (i := 486) rfl), rfl⟩
set_option maxRecDepth 100000 in
theorem wy_X1_takeNumber : mX1_takeNumber.1.cls ≠ "java/lang/invoke/MethodHandle" ∧ mX1_takeNumber.1.cls ≠ "java/lang/invoke/VarHandle" ∧ (parseMethodDescriptor mX1_takeNumber.1.desc).map (fun d => d.parameters.length) = some 0 := by decide +kernel
abbrev mX1_takeSign : zM := (yX1_takeSign, cX1_takeSign, 3, none)
set_option maxRecDepth 100000 in
theorem wc_X1_takeSign : Cond.code mX1_takeSign.1 mX1_takeSign.2.1 mX1_takeSign.2.2.1 mX1_takeSign.2.2.2 ∈ ztb := List.mem_filter.mpr ⟨List.mem_append_right _ (List.mem_of_getElem? (i := 491) rfl), rfl⟩
set_option maxRecDepth 100000 in
theorem wy_X1_takeSign : mX1_takeSign.1.cls ≠ "java/lang/invoke/MethodHandle" ∧ mX1_takeSign.1.cls ≠ "java/lang/invoke/VarHandle" ∧ (parseMethodDescriptor mX1_takeSign.1.desc).map (fun d => d.parameters.length) = some 1 := by decide +kernel
abbrev mX4_readLine : zM := (yX4_readLine, cX4_readLine, 2, some .boolean)
set_option maxRecDepth 100000 in
theorem wc_X4_readLine : Cond.code mX4_readLine.1 mX4_readLine.2.1 mX4_readLine.2.2.1 mX4_readLine.2.2.2 ∈ ztb := List.mem_filter.mpr ⟨List.mem_append_right _ (List.mem_of_getElem? (i := 495) rfl), rfl⟩
set_option maxRecDepth 100000 in
theorem wy_X4_readLine : mX4_readLine.1.cls ≠ "java/lang/invoke/MethodHandle" ∧ mX4_readLine.1.cls ≠ "java/lang/invoke/VarHandle" ∧ (parseMethodDescriptor mX4_readLine.1.desc).map (fun d => d.parameters.length) = some 1 := by decide +kernel
abbrev mX4_readHead : zM := (yX4_readHead, cX4_readHead, 2, some .boolean)
set_option maxRecDepth 100000 in
theorem wc_X4_readHead : Cond.code mX4_readHead.1 mX4_readHead.2.1 mX4_readHead.2.2.1 mX4_readHead.2.2.2 ∈ ztb := List.mem_filter.mpr ⟨List.mem_append_right _ (List.mem_of_getElem? (i := 499) rfl), rfl⟩
set_option maxRecDepth 100000 in
theorem wy_X4_readHead : mX4_readHead.1.cls ≠ "java/lang/invoke/MethodHandle" ∧ mX4_readHead.1.cls ≠ "java/lang/invoke/VarHandle" ∧ (parseMethodDescriptor mX4_readHead.1.desc).map (fun d => d.parameters.length) = some 1 := by decide +kernel
abbrev mX2_isFull : zM := (yX2_isFull, cX2_isFull, 1, some .boolean)
set_option maxRecDepth 100000 in
theorem wc_X2_isFull : Cond.code mX2_isFull.1 mX2_isFull.2.1 mX2_isFull.2.2.1 mX2_isFull.2.2.2 ∈ ztb := List.mem_filter.mpr ⟨List.mem_append_right _ (List.mem_of_getElem? (i := 503) rfl), rfl⟩
set_option maxRecDepth 100000 in
theorem wy_X2_isFull : mX2_isFull.1.cls ≠ "java/lang/invoke/MethodHandle" ∧ mX2_isFull.1.cls ≠ "java/lang/invoke/VarHandle" ∧ (parseMethodDescriptor mX2_isFull.1.desc).map (fun d => d.parameters.length) = some 0 := by decide +kernel
abbrev mX4_refuse : zM := (yX4_refuse, cX4_refuse, 2, some .boolean)
set_option maxRecDepth 100000 in
theorem wc_X4_refuse : Cond.code mX4_refuse.1 mX4_refuse.2.1 mX4_refuse.2.2.1 mX4_refuse.2.2.2 ∈ ztb := List.mem_filter.mpr ⟨List.mem_append_right _ (List.mem_of_getElem? (i := 507) rfl), rfl⟩
set_option maxRecDepth 100000 in
theorem wy_X4_refuse : mX4_refuse.1.cls ≠ "java/lang/invoke/MethodHandle" ∧ mX4_refuse.1.cls ≠ "java/lang/invoke/VarHandle" ∧ (parseMethodDescriptor mX4_refuse.1.desc).map (fun d => d.parameters.length) = some 1 := by decide +kernel
abbrev mX2_find : zM := (yX2_find, cX2_find, 3, some .int)
set_option maxRecDepth 100000 in
theorem wc_X2_find : Cond.code mX2_find.1 mX2_find.2.1 mX2_find.2.2.1 mX2_find.2.2.2 ∈ ztb := List.mem_filter.mpr ⟨List.mem_append_right _ (List.mem_of_getElem? (i := 512) rfl), rfl⟩
set_option maxRecDepth 100000 in
theorem wy_X2_find : mX2_find.1.cls ≠ "java/lang/invoke/MethodHandle" ∧ mX2_find.1.cls ≠ "java/lang/invoke/VarHandle" ∧ (parseMethodDescriptor mX2_find.1.desc).map (fun d => d.parameters.length) = some 1 := by decide +kernel
abbrev mX2_put : zM := (yX2_put, cX2_put, 2, some .int)
set_option maxRecDepth 100000 in
theorem wc_X2_put : Cond.code mX2_put.1 mX2_put.2.1 mX2_put.2.2.1 mX2_put.2.2.2 ∈ ztb := List.mem_filter.mpr ⟨List.mem_append_right _ (List.mem_of_getElem? (i := 516) rfl), rfl⟩
set_option maxRecDepth 100000 in
theorem wy_X2_put : mX2_put.1.cls ≠ "java/lang/invoke/MethodHandle" ∧ mX2_put.1.cls ≠ "java/lang/invoke/VarHandle" ∧ (parseMethodDescriptor mX2_put.1.desc).map (fun d => d.parameters.length) = some 1 := by decide +kernel
abbrev mX4_readRing : zM := (yX4_readRing, cX4_readRing, 4, some .boolean)
set_option maxRecDepth 100000 in
theorem wc_X4_readRing : Cond.code mX4_readRing.1 mX4_readRing.2.1 mX4_readRing.2.2.1 mX4_readRing.2.2.2 ∈ ztb := List.mem_filter.mpr ⟨List.mem_append_right _ (List.mem_of_getElem? (i := 521) rfl), rfl⟩
set_option maxRecDepth 100000 in
theorem wy_X4_readRing : mX4_readRing.1.cls ≠ "java/lang/invoke/MethodHandle" ∧ mX4_readRing.1.cls ≠ "java/lang/invoke/VarHandle" ∧ (parseMethodDescriptor mX4_readRing.1.desc).map (fun d => d.parameters.length) = some 1 := by decide +kernel
abbrev mX4_readToldName : zM := (yX4_readToldName, cX4_readToldName, 2, some .boolean)
set_option maxRecDepth 100000 in
theorem wc_X4_readToldName : Cond.code mX4_readToldName.1 mX4_readToldName.2.1 mX4_readToldName.2.2.1 mX4_readToldName.2.2.2 ∈ ztb := List.mem_filter.mpr ⟨List.mem_append_right _ (List.mem_of_getElem? (i := 525) rfl), rfl⟩
set_option maxRecDepth 100000 in
theorem wy_X4_readToldName : mX4_readToldName.1.cls ≠ "java/lang/invoke/MethodHandle" ∧ mX4_readToldName.1.cls ≠ "java/lang/invoke/VarHandle" ∧ (parseMethodDescriptor mX4_readToldName.1.desc).map (fun d => d.parameters.length) = some 1 := by decide +kernel
abbrev mX8_hasRing : zM := (yX8_hasRing, cX8_hasRing, 2, some .boolean)
set_option maxRecDepth 100000 in
theorem wc_X8_hasRing : Cond.code mX8_hasRing.1 mX8_hasRing.2.1 mX8_hasRing.2.2.1 mX8_hasRing.2.2.2 ∈ ztb := List.mem_filter.mpr ⟨List.mem_append_right _ (List.mem_of_getElem? (i := 529) rfl), rfl⟩
set_option maxRecDepth 100000 in
theorem wy_X8_hasRing : mX8_hasRing.1.cls ≠ "java/lang/invoke/MethodHandle" ∧ mX8_hasRing.1.cls ≠ "java/lang/invoke/VarHandle" ∧ (parseMethodDescriptor mX8_hasRing.1.desc).map (fun d => d.parameters.length) = some 1 := by decide +kernel
abbrev mX9_stoneAt : zM := (yX9_stoneAt, cX9_stoneAt, 2, some .int)
set_option maxRecDepth 100000 in
theorem wc_X9_stoneAt : Cond.code mX9_stoneAt.1 mX9_stoneAt.2.1 mX9_stoneAt.2.2.1 mX9_stoneAt.2.2.2 ∈ ztb := List.mem_filter.mpr ⟨List.mem_append_right _ (List.mem_of_getElem? (i := 532) rfl), rfl⟩
set_option maxRecDepth 100000 in
theorem wy_X9_stoneAt : mX9_stoneAt.1.cls ≠ "java/lang/invoke/MethodHandle" ∧ mX9_stoneAt.1.cls ≠ "java/lang/invoke/VarHandle" ∧ (parseMethodDescriptor mX9_stoneAt.1.desc).map (fun d => d.parameters.length) = some 2 := by decide +kernel
abbrev mX4_readStone : zM := (yX4_readStone, cX4_readStone, 5, some .boolean)
set_option maxRecDepth 100000 in
theorem wc_X4_readStone : Cond.code mX4_readStone.1 mX4_readStone.2.1 mX4_readStone.2.2.1 mX4_readStone.2.2.2 ∈ ztb := List.mem_filter.mpr ⟨List.mem_append_right _ (List.mem_of_getElem? (i := 536) rfl), rfl⟩
set_option maxRecDepth 100000 in
theorem wy_X4_readStone : mX4_readStone.1.cls ≠ "java/lang/invoke/MethodHandle" ∧ mX4_readStone.1.cls ≠ "java/lang/invoke/VarHandle" ∧ (parseMethodDescriptor mX4_readStone.1.desc).map (fun d => d.parameters.length) = some 2 := by decide +kernel
abbrev mX4_readNumber : zM := (yX4_readNumber, cX4_readNumber, 4, some .boolean)
set_option maxRecDepth 100000 in
theorem wc_X4_readNumber : Cond.code mX4_readNumber.1 mX4_readNumber.2.1 mX4_readNumber.2.2.1 mX4_readNumber.2.2.2 ∈ ztb := List.mem_filter.mpr ⟨List.mem_append_right _ (List.mem_of_getElem? (i := 540) rfl), rfl⟩
set_option maxRecDepth 100000 in
theorem wy_X4_readNumber : mX4_readNumber.1.cls ≠ "java/lang/invoke/MethodHandle" ∧ mX4_readNumber.1.cls ≠ "java/lang/invoke/VarHandle" ∧ (parseMethodDescriptor mX4_readNumber.1.desc).map (fun d => d.parameters.length) = some 2 := by decide +kernel
abbrev mX9_isBeyond : zM := (yX9_isBeyond, cX9_isBeyond, 3, some .boolean)
set_option maxRecDepth 100000 in
theorem wc_X9_isBeyond : Cond.code mX9_isBeyond.1 mX9_isBeyond.2.1 mX9_isBeyond.2.2.1 mX9_isBeyond.2.2.2 ∈ ztb := List.mem_filter.mpr ⟨List.mem_append_right _ (List.mem_of_getElem? (i := 543) rfl), rfl⟩
set_option maxRecDepth 100000 in
theorem wy_X9_isBeyond : mX9_isBeyond.1.cls ≠ "java/lang/invoke/MethodHandle" ∧ mX9_isBeyond.1.cls ≠ "java/lang/invoke/VarHandle" ∧ (parseMethodDescriptor mX9_isBeyond.1.desc).map (fun d => d.parameters.length) = some 3 := by decide +kernel
abbrev mX4_readWay : zM := (yX4_readWay, cX4_readWay, 4, some .boolean)
set_option maxRecDepth 100000 in
theorem wc_X4_readWay : Cond.code mX4_readWay.1 mX4_readWay.2.1 mX4_readWay.2.2.1 mX4_readWay.2.2.2 ∈ ztb := List.mem_filter.mpr ⟨List.mem_append_right _ (List.mem_of_getElem? (i := 547) rfl), rfl⟩
set_option maxRecDepth 100000 in
theorem wy_X4_readWay : mX4_readWay.1.cls ≠ "java/lang/invoke/MethodHandle" ∧ mX4_readWay.1.cls ≠ "java/lang/invoke/VarHandle" ∧ (parseMethodDescriptor mX4_readWay.1.desc).map (fun d => d.parameters.length) = some 1 := by decide +kernel
abbrev mX4_readRule : zM := (yX4_readRule, cX4_readRule, 3, some .boolean)
set_option maxRecDepth 100000 in
theorem wc_X4_readRule : Cond.code mX4_readRule.1 mX4_readRule.2.1 mX4_readRule.2.2.1 mX4_readRule.2.2.2 ∈ ztb := List.mem_filter.mpr ⟨List.mem_append_right _ (List.mem_of_getElem? (i := 551) rfl), rfl⟩
set_option maxRecDepth 100000 in
theorem wy_X4_readRule : mX4_readRule.1.cls ≠ "java/lang/invoke/MethodHandle" ∧ mX4_readRule.1.cls ≠ "java/lang/invoke/VarHandle" ∧ (parseMethodDescriptor mX4_readRule.1.desc).map (fun d => d.parameters.length) = some 1 := by decide +kernel
abbrev mX6_read : zM := (yX6_read, cX6_read, 5, some .int)
set_option maxRecDepth 100000 in
theorem wc_X6_read : Cond.code mX6_read.1 mX6_read.2.1 mX6_read.2.2.1 mX6_read.2.2.2 ∈ ztb := List.mem_filter.mpr ⟨List.mem_append_right _ (List.mem_of_getElem? (i := 555) rfl), rfl⟩
set_option maxRecDepth 100000 in
theorem wy_X6_read : mX6_read.1.cls ≠ "java/lang/invoke/MethodHandle" ∧ mX6_read.1.cls ≠ "java/lang/invoke/VarHandle" ∧ (parseMethodDescriptor mX6_read.1.desc).map (fun d => d.parameters.length) = some 2 := by decide +kernel
abbrev mX6_takeOperand : zM := (yX6_takeOperand, cX6_takeOperand, 5, some .int)
set_option maxRecDepth 100000 in
theorem wc_X6_takeOperand : Cond.code mX6_takeOperand.1 mX6_takeOperand.2.1 mX6_takeOperand.2.2.1 mX6_takeOperand.2.2.2 ∈ ztb := List.mem_filter.mpr ⟨List.mem_append_right _ (List.mem_of_getElem? (i := 559) rfl), rfl⟩
set_option maxRecDepth 100000 in
theorem wy_X6_takeOperand : mX6_takeOperand.1.cls ≠ "java/lang/invoke/MethodHandle" ∧ mX6_takeOperand.1.cls ≠ "java/lang/invoke/VarHandle" ∧ (parseMethodDescriptor mX6_takeOperand.1.desc).map (fun d => d.parameters.length) = some 2 := by decide +kernel
abbrev mX6_push : zM := (yX6_push, cX6_push, 2, none)
set_option maxRecDepth 100000 in
theorem wc_X6_push : Cond.code mX6_push.1 mX6_push.2.1 mX6_push.2.2.1 mX6_push.2.2.2 ∈ ztb := List.mem_filter.mpr ⟨List.mem_append_right _ (List.mem_of_getElem? (i := 563) rfl), rfl⟩
set_option maxRecDepth 100000 in
theorem wy_X6_push : mX6_push.1.cls ≠ "java/lang/invoke/MethodHandle" ∧ mX6_push.1.cls ≠ "java/lang/invoke/VarHandle" ∧ (parseMethodDescriptor mX6_push.1.desc).map (fun d => d.parameters.length) = some 1 := by decide +kernel
abbrev mX6_rankOf : zM := (yX6_rankOf, cX6_rankOf, 1, some .int)
set_option maxRecDepth 100000 in
theorem wc_X6_rankOf : Cond.code mX6_rankOf.1 mX6_rankOf.2.1 mX6_rankOf.2.2.1 mX6_rankOf.2.2.2 ∈ ztb := List.mem_filter.mpr ⟨List.mem_append_right _ (List.mem_of_getElem? (i := 566) rfl), rfl⟩
set_option maxRecDepth 100000 in
theorem wy_X6_rankOf : mX6_rankOf.1.cls ≠ "java/lang/invoke/MethodHandle" ∧ mX6_rankOf.1.cls ≠ "java/lang/invoke/VarHandle" ∧ (parseMethodDescriptor mX6_rankOf.1.desc).map (fun d => d.parameters.length) = some 1 := by decide +kernel
abbrev mX5_isOperand : zM := (yX5_isOperand, cX5_isOperand, 1, some .boolean)
set_option maxRecDepth 100000 in
theorem wc_X5_isOperand : Cond.code mX5_isOperand.1 mX5_isOperand.2.1 mX5_isOperand.2.2.1 mX5_isOperand.2.2.2 ∈ ztb := List.mem_filter.mpr ⟨List.mem_append_right _ (List.mem_of_getElem? (i := 569) rfl), rfl⟩
set_option maxRecDepth 100000 in
theorem wy_X5_isOperand : mX5_isOperand.1.cls ≠ "java/lang/invoke/MethodHandle" ∧ mX5_isOperand.1.cls ≠ "java/lang/invoke/VarHandle" ∧ (parseMethodDescriptor mX5_isOperand.1.desc).map (fun d => d.parameters.length) = some 1 := by decide +kernel
abbrev mX5_put : zM := (yX5_put, cX5_put, 3, none)
set_option maxRecDepth 100000 in
theorem wc_X5_put : Cond.code mX5_put.1 mX5_put.2.1 mX5_put.2.2.1 mX5_put.2.2.2 ∈ ztb := List.mem_filter.mpr ⟨List.mem_append_right _ (List.mem_of_getElem? (i := 573) rfl), rfl⟩
set_option maxRecDepth 100000 in
theorem wy_X5_put : mX5_put.1.cls ≠ "java/lang/invoke/MethodHandle" ∧ mX5_put.1.cls ≠ "java/lang/invoke/VarHandle" ∧ (parseMethodDescriptor mX5_put.1.desc).map (fun d => d.parameters.length) = some 2 := by decide +kernel
abbrev mX6_takeSign : zM := (yX6_takeSign, cX6_takeSign, 4, some .int)
set_option maxRecDepth 100000 in
theorem wc_X6_takeSign : Cond.code mX6_takeSign.1 mX6_takeSign.2.1 mX6_takeSign.2.2.1 mX6_takeSign.2.2.2 ∈ ztb := List.mem_filter.mpr ⟨List.mem_append_right _ (List.mem_of_getElem? (i := 577) rfl), rfl⟩
set_option maxRecDepth 100000 in
theorem wy_X6_takeSign : mX6_takeSign.1.cls ≠ "java/lang/invoke/MethodHandle" ∧ mX6_takeSign.1.cls ≠ "java/lang/invoke/VarHandle" ∧ (parseMethodDescriptor mX6_takeSign.1.desc).map (fun d => d.parameters.length) = some 2 := by decide +kernel
abbrev mX6_settle : zM := (yX6_settle, cX6_settle, 3, none)
set_option maxRecDepth 100000 in
theorem wc_X6_settle : Cond.code mX6_settle.1 mX6_settle.2.1 mX6_settle.2.2.1 mX6_settle.2.2.2 ∈ ztb := List.mem_filter.mpr ⟨List.mem_append_right _ (List.mem_of_getElem? (i := 581) rfl), rfl⟩
set_option maxRecDepth 100000 in
theorem wy_X6_settle : mX6_settle.1.cls ≠ "java/lang/invoke/MethodHandle" ∧ mX6_settle.1.cls ≠ "java/lang/invoke/VarHandle" ∧ (parseMethodDescriptor mX6_settle.1.desc).map (fun d => d.parameters.length) = some 2 := by decide +kernel
abbrev mX4_readSaying : zM := (yX4_readSaying, cX4_readSaying, 3, some .boolean)
set_option maxRecDepth 100000 in
theorem wc_X4_readSaying : Cond.code mX4_readSaying.1 mX4_readSaying.2.1 mX4_readSaying.2.2.1 mX4_readSaying.2.2.2 ∈ ztb := List.mem_filter.mpr ⟨List.mem_append_right _ (List.mem_of_getElem? (i := 587) rfl), rfl⟩
set_option maxRecDepth 100000 in
theorem wy_X4_readSaying : mX4_readSaying.1.cls ≠ "java/lang/invoke/MethodHandle" ∧ mX4_readSaying.1.cls ≠ "java/lang/invoke/VarHandle" ∧ (parseMethodDescriptor mX4_readSaying.1.desc).map (fun d => d.parameters.length) = some 1 := by decide +kernel
abbrev mX4_readMeasurer : zM := (yX4_readMeasurer, cX4_readMeasurer, 2, some .boolean)
set_option maxRecDepth 100000 in
theorem wc_X4_readMeasurer : Cond.code mX4_readMeasurer.1 mX4_readMeasurer.2.1 mX4_readMeasurer.2.2.1 mX4_readMeasurer.2.2.2 ∈ ztb := List.mem_filter.mpr ⟨List.mem_append_right _ (List.mem_of_getElem? (i := 591) rfl), rfl⟩
set_option maxRecDepth 100000 in
theorem wy_X4_readMeasurer : mX4_readMeasurer.1.cls ≠ "java/lang/invoke/MethodHandle" ∧ mX4_readMeasurer.1.cls ≠ "java/lang/invoke/VarHandle" ∧ (parseMethodDescriptor mX4_readMeasurer.1.desc).map (fun d => d.parameters.length) = some 1 := by decide +kernel
abbrev mX4_readGrid : zM := (yX4_readGrid, cX4_readGrid, 2, some .boolean)
set_option maxRecDepth 100000 in
theorem wc_X4_readGrid : Cond.code mX4_readGrid.1 mX4_readGrid.2.1 mX4_readGrid.2.2.1 mX4_readGrid.2.2.2 ∈ ztb := List.mem_filter.mpr ⟨List.mem_append_right _ (List.mem_of_getElem? (i := 596) rfl), rfl⟩
set_option maxRecDepth 100000 in
theorem wy_X4_readGrid : mX4_readGrid.1.cls ≠ "java/lang/invoke/MethodHandle" ∧ mX4_readGrid.1.cls ≠ "java/lang/invoke/VarHandle" ∧ (parseMethodDescriptor mX4_readGrid.1.desc).map (fun d => d.parameters.length) = some 1 := by decide +kernel
abbrev mX4_readSlack : zM := (yX4_readSlack, cX4_readSlack, 2, some .boolean)
set_option maxRecDepth 100000 in
theorem wc_X4_readSlack : Cond.code mX4_readSlack.1 mX4_readSlack.2.1 mX4_readSlack.2.2.1 mX4_readSlack.2.2.2 ∈ ztb := List.mem_filter.mpr ⟨List.mem_append_right _ (List.mem_of_getElem? (i := 600) rfl), rfl⟩
set_option maxRecDepth 100000 in
theorem wy_X4_readSlack : mX4_readSlack.1.cls ≠ "java/lang/invoke/MethodHandle" ∧ mX4_readSlack.1.cls ≠ "java/lang/invoke/VarHandle" ∧ (parseMethodDescriptor mX4_readSlack.1.desc).map (fun d => d.parameters.length) = some 1 := by decide +kernel
abbrev mX9_learnAnew : zM := (yX9_learnAnew, cX9_learnAnew, 1, none)
set_option maxRecDepth 100000 in
theorem wc_X9_learnAnew : Cond.code mX9_learnAnew.1 mX9_learnAnew.2.1 mX9_learnAnew.2.2.1 mX9_learnAnew.2.2.2 ∈ ztb := List.mem_filter.mpr ⟨List.mem_append_right _ (List.mem_of_getElem? (i := 604) rfl), rfl⟩
set_option maxRecDepth 100000 in
theorem wy_X9_learnAnew : mX9_learnAnew.1.cls ≠ "java/lang/invoke/MethodHandle" ∧ mX9_learnAnew.1.cls ≠ "java/lang/invoke/VarHandle" ∧ (parseMethodDescriptor mX9_learnAnew.1.desc).map (fun d => d.parameters.length) = some 0 := by decide +kernel
abbrev mX9_notesKnown : zM := (yX9_notesKnown, cX9_notesKnown, 1, some .int)
set_option maxRecDepth 100000 in
theorem wc_X9_notesKnown : Cond.code mX9_notesKnown.1 mX9_notesKnown.2.1 mX9_notesKnown.2.2.1 mX9_notesKnown.2.2.2 ∈ ztb := List.mem_filter.mpr ⟨List.mem_append_right _ (List.mem_of_getElem? (i := 608) rfl), rfl⟩
set_option maxRecDepth 100000 in
theorem wy_X9_notesKnown : mX9_notesKnown.1.cls ≠ "java/lang/invoke/MethodHandle" ∧ mX9_notesKnown.1.cls ≠ "java/lang/invoke/VarHandle" ∧ (parseMethodDescriptor mX9_notesKnown.1.desc).map (fun d => d.parameters.length) = some 0 := by decide +kernel
abbrev mX0_learn : zM := (yX0_learn, cX0_learn, 6, none)
set_option maxRecDepth 100000 in
theorem wc_X0_learn : Cond.code mX0_learn.1 mX0_learn.2.1 mX0_learn.2.2.1 mX0_learn.2.2.2 ∈ ztb := List.mem_filter.mpr ⟨List.mem_append_right _ (List.mem_of_getElem? (i := 612) rfl), rfl⟩
set_option maxRecDepth 100000 in
theorem wy_X0_learn : mX0_learn.1.cls ≠ "java/lang/invoke/MethodHandle" ∧ mX0_learn.1.cls ≠ "java/lang/invoke/VarHandle" ∧ (parseMethodDescriptor mX0_learn.1.desc).map (fun d => d.parameters.length) = some 4 := by decide +kernel
abbrev mX3_bring : zM := (yX3_bring, cX3_bring, 6, none)
set_option maxRecDepth 100000 in
theorem wc_X3_bring : Cond.code mX3_bring.1 mX3_bring.2.1 mX3_bring.2.2.1 mX3_bring.2.2.2 ∈ ztb := List.mem_filter.mpr ⟨List.mem_append_right _ (List.mem_of_getElem? (i := 620) rfl), rfl⟩
set_option maxRecDepth 100000 in
theorem wy_X3_bring : mX3_bring.1.cls ≠ "java/lang/invoke/MethodHandle" ∧ mX3_bring.1.cls ≠ "java/lang/invoke/VarHandle" ∧ (parseMethodDescriptor mX3_bring.1.desc).map (fun d => d.parameters.length) = some 2 := by decide +kernel
abbrev mX3_findStruck : zM := (yX3_findStruck, cX3_findStruck, 4, none)
set_option maxRecDepth 100000 in
theorem wc_X3_findStruck : Cond.code mX3_findStruck.1 mX3_findStruck.2.1 mX3_findStruck.2.2.1 mX3_findStruck.2.2.2 ∈ ztb := List.mem_filter.mpr ⟨List.mem_append_right _ (List.mem_of_getElem? (i := 625) rfl), rfl⟩
set_option maxRecDepth 100000 in
theorem wy_X3_findStruck : mX3_findStruck.1.cls ≠ "java/lang/invoke/MethodHandle" ∧ mX3_findStruck.1.cls ≠ "java/lang/invoke/VarHandle" ∧ (parseMethodDescriptor mX3_findStruck.1.desc).map (fun d => d.parameters.length) = some 1 := by decide +kernel
abbrev mX0_setUp : zM := (yX0_setUp, cX0_setUp, 12, none)
set_option maxRecDepth 100000 in
theorem wc_X0_setUp : Cond.code mX0_setUp.1 mX0_setUp.2.1 mX0_setUp.2.2.1 mX0_setUp.2.2.2 ∈ ztb := List.mem_filter.mpr ⟨List.mem_append_right _ (List.mem_of_getElem? (i := 631) rfl), rfl⟩
set_option maxRecDepth 100000 in
theorem wy_X0_setUp : mX0_setUp.1.cls ≠ "java/lang/invoke/MethodHandle" ∧ mX0_setUp.1.cls ≠ "java/lang/invoke/VarHandle" ∧ (parseMethodDescriptor mX0_setUp.1.desc).map (fun d => d.parameters.length) = some 3 := by decide +kernel
abbrev mX9_fault : zM := (yX9_fault, cX9_fault, 2, some .int)
set_option maxRecDepth 100000 in
theorem wc_X9_fault : Cond.code mX9_fault.1 mX9_fault.2.1 mX9_fault.2.2.1 mX9_fault.2.2.2 ∈ ztb := List.mem_filter.mpr ⟨List.mem_append_right _ (List.mem_of_getElem? (i := 636) rfl), rfl⟩
set_option maxRecDepth 100000 in
theorem wy_X9_fault : mX9_fault.1.cls ≠ "java/lang/invoke/MethodHandle" ∧ mX9_fault.1.cls ≠ "java/lang/invoke/VarHandle" ∧ (parseMethodDescriptor mX9_fault.1.desc).map (fun d => d.parameters.length) = some 1 := by decide +kernel
abbrev mX9_named : zM := (yX9_named, cX9_named, 3, some .int)
set_option maxRecDepth 100000 in
theorem wc_X9_named : Cond.code mX9_named.1 mX9_named.2.1 mX9_named.2.2.1 mX9_named.2.2.2 ∈ ztb := List.mem_filter.mpr ⟨List.mem_append_right _ (List.mem_of_getElem? (i := 640) rfl), rfl⟩
set_option maxRecDepth 100000 in
theorem wy_X9_named : mX9_named.1.cls ≠ "java/lang/invoke/MethodHandle" ∧ mX9_named.1.cls ≠ "java/lang/invoke/VarHandle" ∧ (parseMethodDescriptor mX9_named.1.desc).map (fun d => d.parameters.length) = some 2 := by decide +kernel
abbrev mX9_about : zM := (yX9_about, cX9_about, 3, some .int)
set_option maxRecDepth 100000 in
theorem wc_X9_about : Cond.code mX9_about.1 mX9_about.2.1 mX9_about.2.2.1 mX9_about.2.2.2 ∈ ztb := List.mem_filter.mpr ⟨List.mem_append_right _ (List.mem_of_getElem? (i := 645) rfl), rfl⟩
set_option maxRecDepth 100000 in
theorem wy_X9_about : mX9_about.1.cls ≠ "java/lang/invoke/MethodHandle" ∧ mX9_about.1.cls ≠ "java/lang/invoke/VarHandle" ∧ (parseMethodDescriptor mX9_about.1.desc).map (fun d => d.parameters.length) = some 2 := by decide +kernel
abbrev mX9_tape : zM := (yX9_tape, cX9_tape, 5, some .int)
set_option maxRecDepth 100000 in
theorem wc_X9_tape : Cond.code mX9_tape.1 mX9_tape.2.1 mX9_tape.2.2.1 mX9_tape.2.2.2 ∈ ztb := List.mem_filter.mpr ⟨List.mem_append_right _ (List.mem_of_getElem? (i := 650) rfl), rfl⟩
set_option maxRecDepth 100000 in
theorem wy_X9_tape : mX9_tape.1.cls ≠ "java/lang/invoke/MethodHandle" ∧ mX9_tape.1.cls ≠ "java/lang/invoke/VarHandle" ∧ (parseMethodDescriptor mX9_tape.1.desc).map (fun d => d.parameters.length) = some 4 := by decide +kernel
abbrev mX8_hasStone : zM := (yX8_hasStone, cX8_hasStone, 3, some .boolean)
set_option maxRecDepth 100000 in
theorem wc_X8_hasStone : Cond.code mX8_hasStone.1 mX8_hasStone.2.1 mX8_hasStone.2.2.1 mX8_hasStone.2.2.2 ∈ ztb := List.mem_filter.mpr ⟨List.mem_append_right _ (List.mem_of_getElem? (i := 654) rfl), rfl⟩
set_option maxRecDepth 100000 in
theorem wy_X8_hasStone : mX8_hasStone.1.cls ≠ "java/lang/invoke/MethodHandle" ∧ mX8_hasStone.1.cls ≠ "java/lang/invoke/VarHandle" ∧ (parseMethodDescriptor mX8_hasStone.1.desc).map (fun d => d.parameters.length) = some 2 := by decide +kernel
abbrev mX9_takeNote : zM := (yX9_takeNote, cX9_takeNote, 6, some .int)
set_option maxRecDepth 100000 in
theorem wc_X9_takeNote : Cond.code mX9_takeNote.1 mX9_takeNote.2.1 mX9_takeNote.2.2.1 mX9_takeNote.2.2.2 ∈ ztb := List.mem_filter.mpr ⟨List.mem_append_right _ (List.mem_of_getElem? (i := 661) rfl), rfl⟩
set_option maxRecDepth 100000 in
theorem wy_X9_takeNote : mX9_takeNote.1.cls ≠ "java/lang/invoke/MethodHandle" ∧ mX9_takeNote.1.cls ≠ "java/lang/invoke/VarHandle" ∧ (parseMethodDescriptor mX9_takeNote.1.desc).map (fun d => d.parameters.length) = some 4 := by decide +kernel
abbrev mX3_put : zM := (yX3_put, cX3_put, 5, some .int)
set_option maxRecDepth 100000 in
theorem wc_X3_put : Cond.code mX3_put.1 mX3_put.2.1 mX3_put.2.2.1 mX3_put.2.2.2 ∈ ztb := List.mem_filter.mpr ⟨List.mem_append_right _ (List.mem_of_getElem? (i := 665) rfl), rfl⟩
set_option maxRecDepth 100000 in
theorem wy_X3_put : mX3_put.1.cls ≠ "java/lang/invoke/MethodHandle" ∧ mX3_put.1.cls ≠ "java/lang/invoke/VarHandle" ∧ (parseMethodDescriptor mX3_put.1.desc).map (fun d => d.parameters.length) = some 4 := by decide +kernel
abbrev mX9_gone : zM := (yX9_gone, cX9_gone, 4, some .int)
set_option maxRecDepth 100000 in
theorem wc_X9_gone : Cond.code mX9_gone.1 mX9_gone.2.1 mX9_gone.2.2.1 mX9_gone.2.2.2 ∈ ztb := List.mem_filter.mpr ⟨List.mem_append_right _ (List.mem_of_getElem? (i := 669) rfl), rfl⟩
set_option maxRecDepth 100000 in
theorem wy_X9_gone : mX9_gone.1.cls ≠ "java/lang/invoke/MethodHandle" ∧ mX9_gone.1.cls ≠ "java/lang/invoke/VarHandle" ∧ (parseMethodDescriptor mX9_gone.1.desc).map (fun d => d.parameters.length) = some 3 := by decide +kernel
abbrev mX9_strike : zM := (yX9_strike, cX9_strike, 2, some .int)
set_option maxRecDepth 100000 in
theorem wc_X9_strike : Cond.code mX9_strike.1 mX9_strike.2.1 mX9_strike.2.2.1 mX9_strike.2.2.2 ∈ ztb := List.mem_filter.mpr ⟨List.mem_append_right _ (List.mem_of_getElem? (i := 673) rfl), rfl⟩
set_option maxRecDepth 100000 in
theorem wy_X9_strike : mX9_strike.1.cls ≠ "java/lang/invoke/MethodHandle" ∧ mX9_strike.1.cls ≠ "java/lang/invoke/VarHandle" ∧ (parseMethodDescriptor mX9_strike.1.desc).map (fun d => d.parameters.length) = some 1 := by decide +kernel
abbrev mX9_known : zM := (yX9_known, cX9_known, 2, some .boolean)
set_option maxRecDepth 100000 in
theorem wc_X9_known : Cond.code mX9_known.1 mX9_known.2.1 mX9_known.2.2.1 mX9_known.2.2.2 ∈ ztb := List.mem_filter.mpr ⟨List.mem_append_right _ (List.mem_of_getElem? (i := 677) rfl), rfl⟩
set_option maxRecDepth 100000 in
theorem wy_X9_known : mX9_known.1.cls ≠ "java/lang/invoke/MethodHandle" ∧ mX9_known.1.cls ≠ "java/lang/invoke/VarHandle" ∧ (parseMethodDescriptor mX9_known.1.desc).map (fun d => d.parameters.length) = some 1 := by decide +kernel
abbrev mX9_mode : zM := (yX9_mode, cX9_mode, 3, some .boolean)
set_option maxRecDepth 100000 in
theorem wc_X9_mode : Cond.code mX9_mode.1 mX9_mode.2.1 mX9_mode.2.2.1 mX9_mode.2.2.2 ∈ ztb := List.mem_filter.mpr ⟨List.mem_append_right _ (List.mem_of_getElem? (i := 681) rfl), rfl⟩
set_option maxRecDepth 100000 in
theorem wy_X9_mode : mX9_mode.1.cls ≠ "java/lang/invoke/MethodHandle" ∧ mX9_mode.1.cls ≠ "java/lang/invoke/VarHandle" ∧ (parseMethodDescriptor mX9_mode.1.desc).map (fun d => d.parameters.length) = some 2 := by decide +kernel
abbrev mX9_fit : zM := (yX9_fit, cX9_fit, 6, some .int)
set_option maxRecDepth 100000 in
theorem wc_X9_fit : Cond.code mX9_fit.1 mX9_fit.2.1 mX9_fit.2.2.1 mX9_fit.2.2.2 ∈ ztb := List.mem_filter.mpr ⟨List.mem_append_right _ (List.mem_of_getElem? (i := 685) rfl), rfl⟩
set_option maxRecDepth 100000 in
theorem wy_X9_fit : mX9_fit.1.cls ≠ "java/lang/invoke/MethodHandle" ∧ mX9_fit.1.cls ≠ "java/lang/invoke/VarHandle" ∧ (parseMethodDescriptor mX9_fit.1.desc).map (fun d => d.parameters.length) = some 4 := by decide +kernel
abbrev mX0_fitAt : zM := (yX0_fitAt, cX0_fitAt, 3, some .int)
set_option maxRecDepth 100000 in
theorem wc_X0_fitAt : Cond.code mX0_fitAt.1 mX0_fitAt.2.1 mX0_fitAt.2.2.1 mX0_fitAt.2.2.2 ∈ ztb := List.mem_filter.mpr ⟨List.mem_append_right _ (List.mem_of_getElem? (i := 690) rfl), rfl⟩
set_option maxRecDepth 100000 in
theorem wy_X0_fitAt : mX0_fitAt.1.cls ≠ "java/lang/invoke/MethodHandle" ∧ mX0_fitAt.1.cls ≠ "java/lang/invoke/VarHandle" ∧ (parseMethodDescriptor mX0_fitAt.1.desc).map (fun d => d.parameters.length) = some 2 := by decide +kernel
abbrev mX0_isFitted : zM := (yX0_isFitted, cX0_isFitted, 2, some .boolean)
set_option maxRecDepth 100000 in
theorem wc_X0_isFitted : Cond.code mX0_isFitted.1 mX0_isFitted.2.1 mX0_isFitted.2.2.1 mX0_isFitted.2.2.2 ∈ ztb := List.mem_filter.mpr ⟨List.mem_append_right _ (List.mem_of_getElem? (i := 694) rfl), rfl⟩
set_option maxRecDepth 100000 in
theorem wy_X0_isFitted : mX0_isFitted.1.cls ≠ "java/lang/invoke/MethodHandle" ∧ mX0_isFitted.1.cls ≠ "java/lang/invoke/VarHandle" ∧ (parseMethodDescriptor mX0_isFitted.1.desc).map (fun d => d.parameters.length) = some 1 := by decide +kernel
abbrev mX9_isShape : zM := (yX9_isShape, cX9_isShape, 1, some .boolean)
set_option maxRecDepth 100000 in
theorem wc_X9_isShape : Cond.code mX9_isShape.1 mX9_isShape.2.1 mX9_isShape.2.2.1 mX9_isShape.2.2.2 ∈ ztb := List.mem_filter.mpr ⟨List.mem_append_right _ (List.mem_of_getElem? (i := 697) rfl), rfl⟩
set_option maxRecDepth 100000 in
theorem wy_X9_isShape : mX9_isShape.1.cls ≠ "java/lang/invoke/MethodHandle" ∧ mX9_isShape.1.cls ≠ "java/lang/invoke/VarHandle" ∧ (parseMethodDescriptor mX9_isShape.1.desc).map (fun d => d.parameters.length) = some 1 := by decide +kernel
abbrev mX0_workOut : zM := (yX0_workOut, cX0_workOut, 7, none)
set_option maxRecDepth 100000 in
theorem wc_X0_workOut : Cond.code mX0_workOut.1 mX0_workOut.2.1 mX0_workOut.2.2.1 mX0_workOut.2.2.2 ∈ ztb := List.mem_filter.mpr ⟨List.mem_append_right _ (List.mem_of_getElem? (i := 701) rfl), rfl⟩
set_option maxRecDepth 100000 in
theorem wy_X0_workOut : mX0_workOut.1.cls ≠ "java/lang/invoke/MethodHandle" ∧ mX0_workOut.1.cls ≠ "java/lang/invoke/VarHandle" ∧ (parseMethodDescriptor mX0_workOut.1.desc).map (fun d => d.parameters.length) = some 1 := by decide +kernel
abbrev mX0_meanOf : zM := (yX0_meanOf, cX0_meanOf, 6, some .int)
set_option maxRecDepth 100000 in
theorem wc_X0_meanOf : Cond.code mX0_meanOf.1 mX0_meanOf.2.1 mX0_meanOf.2.2.1 mX0_meanOf.2.2.2 ∈ ztb := List.mem_filter.mpr ⟨List.mem_append_right _ (List.mem_of_getElem? (i := 706) rfl), rfl⟩
set_option maxRecDepth 100000 in
theorem wy_X0_meanOf : mX0_meanOf.1.cls ≠ "java/lang/invoke/MethodHandle" ∧ mX0_meanOf.1.cls ≠ "java/lang/invoke/VarHandle" ∧ (parseMethodDescriptor mX0_meanOf.1.desc).map (fun d => d.parameters.length) = some 2 := by decide +kernel
abbrev mJ9_floorDiv_7cf53 : zM := (yJ9_floorDiv_7cf53, cJ9_floorDiv_7cf53, 3, some .int)
set_option maxRecDepth 100000 in
theorem wc_J9_floorDiv_7cf53 : Cond.code mJ9_floorDiv_7cf53.1 mJ9_floorDiv_7cf53.2.1 mJ9_floorDiv_7cf53.2.2.1 mJ9_floorDiv_7cf53.2.2.2 ∈ ztb := List.mem_filter.mpr ⟨List.mem_append_right _ (List.mem_of_getElem? (i := 709) rfl), rfl⟩
set_option maxRecDepth 100000 in
theorem wy_J9_floorDiv_7cf53 : mJ9_floorDiv_7cf53.1.cls ≠ "java/lang/invoke/MethodHandle" ∧ mJ9_floorDiv_7cf53.1.cls ≠ "java/lang/invoke/VarHandle" ∧ (parseMethodDescriptor mJ9_floorDiv_7cf53.1.desc).map (fun d => d.parameters.length) = some 2 := by decide +kernel
abbrev mX0_tryMiddle : zM := (yX0_tryMiddle, cX0_tryMiddle, 11, none)
set_option maxRecDepth 100000 in
theorem wc_X0_tryMiddle : Cond.code mX0_tryMiddle.1 mX0_tryMiddle.2.1 mX0_tryMiddle.2.2.1 mX0_tryMiddle.2.2.2 ∈ ztb := List.mem_filter.mpr ⟨List.mem_append_right _ (List.mem_of_getElem? (i := 713) rfl), rfl⟩
set_option maxRecDepth 100000 in
theorem wy_X0_tryMiddle : mX0_tryMiddle.1.cls ≠ "java/lang/invoke/MethodHandle" ∧ mX0_tryMiddle.1.cls ≠ "java/lang/invoke/VarHandle" ∧ (parseMethodDescriptor mX0_tryMiddle.1.desc).map (fun d => d.parameters.length) = some 4 := by decide +kernel
abbrev mX0_awayBy : zM := (yX0_awayBy, cX0_awayBy, 9, some .long)
set_option maxRecDepth 100000 in
theorem wc_X0_awayBy : Cond.code mX0_awayBy.1 mX0_awayBy.2.1 mX0_awayBy.2.2.1 mX0_awayBy.2.2.2 ∈ ztb := List.mem_filter.mpr ⟨List.mem_append_right _ (List.mem_of_getElem? (i := 718) rfl), rfl⟩
set_option maxRecDepth 100000 in
theorem wy_X0_awayBy : mX0_awayBy.1.cls ≠ "java/lang/invoke/MethodHandle" ∧ mX0_awayBy.1.cls ≠ "java/lang/invoke/VarHandle" ∧ (parseMethodDescriptor mX0_awayBy.1.desc).map (fun d => d.parameters.length) = some 4 := by decide +kernel
abbrev mX9_rootOf : zM := (yX9_rootOf, cX9_rootOf, 9, some .long)
set_option maxRecDepth 100000 in
theorem wc_X9_rootOf : Cond.code mX9_rootOf.1 mX9_rootOf.2.1 mX9_rootOf.2.2.1 mX9_rootOf.2.2.2 ∈ ztb := List.mem_filter.mpr ⟨List.mem_append_right _ (List.mem_of_getElem? (i := 722) rfl), rfl⟩
set_option maxRecDepth 100000 in
theorem wy_X9_rootOf : mX9_rootOf.1.cls ≠ "java/lang/invoke/MethodHandle" ∧ mX9_rootOf.1.cls ≠ "java/lang/invoke/VarHandle" ∧ (parseMethodDescriptor mX9_rootOf.1.desc).map (fun d => d.parameters.length) = some 2 := by decide +kernel
abbrev mJ9_abs_067f4 : zM := (yJ9_abs_067f4, cJ9_abs_067f4, 2, some .long)
set_option maxRecDepth 100000 in
theorem wc_J9_abs_067f4 : Cond.code mJ9_abs_067f4.1 mJ9_abs_067f4.2.1 mJ9_abs_067f4.2.2.1 mJ9_abs_067f4.2.2.2 ∈ ztb := List.mem_filter.mpr ⟨List.mem_append_right _ (List.mem_of_getElem? (i := 726) rfl), rfl⟩
set_option maxRecDepth 100000 in
theorem wy_J9_abs_067f4 : mJ9_abs_067f4.1.cls ≠ "java/lang/invoke/MethodHandle" ∧ mJ9_abs_067f4.1.cls ≠ "java/lang/invoke/VarHandle" ∧ (parseMethodDescriptor mJ9_abs_067f4.1.desc).map (fun d => d.parameters.length) = some 1 := by decide +kernel
abbrev mX9_best : zM := (yX9_best, cX9_best, 5, some .int)
set_option maxRecDepth 100000 in
theorem wc_X9_best : Cond.code mX9_best.1 mX9_best.2.1 mX9_best.2.2.1 mX9_best.2.2.2 ∈ ztb := List.mem_filter.mpr ⟨List.mem_append_right _ (List.mem_of_getElem? (i := 730) rfl), rfl⟩
set_option maxRecDepth 100000 in
theorem wy_X9_best : mX9_best.1.cls ≠ "java/lang/invoke/MethodHandle" ∧ mX9_best.1.cls ≠ "java/lang/invoke/VarHandle" ∧ (parseMethodDescriptor mX9_best.1.desc).map (fun d => d.parameters.length) = some 2 := by decide +kernel
abbrev mX0_bestShape : zM := (yX0_bestShape, cX0_bestShape, 2, some .int)
set_option maxRecDepth 100000 in
theorem wc_X0_bestShape : Cond.code mX0_bestShape.1 mX0_bestShape.2.1 mX0_bestShape.2.2.1 mX0_bestShape.2.2.2 ∈ ztb := List.mem_filter.mpr ⟨List.mem_append_right _ (List.mem_of_getElem? (i := 734) rfl), rfl⟩
set_option maxRecDepth 100000 in
theorem wy_X0_bestShape : mX0_bestShape.1.cls ≠ "java/lang/invoke/MethodHandle" ∧ mX0_bestShape.1.cls ≠ "java/lang/invoke/VarHandle" ∧ (parseMethodDescriptor mX0_bestShape.1.desc).map (fun d => d.parameters.length) = some 1 := by decide +kernel
abbrev mX9_well : zM := (yX9_well, cX9_well, 2, some .int)
set_option maxRecDepth 100000 in
theorem wc_X9_well : Cond.code mX9_well.1 mX9_well.2.1 mX9_well.2.2.1 mX9_well.2.2.2 ∈ ztb := List.mem_filter.mpr ⟨List.mem_append_right _ (List.mem_of_getElem? (i := 738) rfl), rfl⟩
set_option maxRecDepth 100000 in
theorem wy_X9_well : mX9_well.1.cls ≠ "java/lang/invoke/MethodHandle" ∧ mX9_well.1.cls ≠ "java/lang/invoke/VarHandle" ∧ (parseMethodDescriptor mX9_well.1.desc).map (fun d => d.parameters.length) = some 1 := by decide +kernel
abbrev mX0_shapesAsWell : zM := (yX0_shapesAsWell, cX0_shapesAsWell, 6, some .int)
set_option maxRecDepth 100000 in
theorem wc_X0_shapesAsWell : Cond.code mX0_shapesAsWell.1 mX0_shapesAsWell.2.1 mX0_shapesAsWell.2.2.1 mX0_shapesAsWell.2.2.2 ∈ ztb := List.mem_filter.mpr ⟨List.mem_append_right _ (List.mem_of_getElem? (i := 743) rfl), rfl⟩
set_option maxRecDepth 100000 in
theorem wy_X0_shapesAsWell : mX0_shapesAsWell.1.cls ≠ "java/lang/invoke/MethodHandle" ∧ mX0_shapesAsWell.1.cls ≠ "java/lang/invoke/VarHandle" ∧ (parseMethodDescriptor mX0_shapesAsWell.1.desc).map (fun d => d.parameters.length) = some 2 := by decide +kernel
abbrev mX9_span : zM := (yX9_span, cX9_span, 3, some .int)
set_option maxRecDepth 100000 in
theorem wc_X9_span : Cond.code mX9_span.1 mX9_span.2.1 mX9_span.2.2.1 mX9_span.2.2.2 ∈ ztb := List.mem_filter.mpr ⟨List.mem_append_right _ (List.mem_of_getElem? (i := 749) rfl), rfl⟩
set_option maxRecDepth 100000 in
theorem wy_X9_span : mX9_span.1.cls ≠ "java/lang/invoke/MethodHandle" ∧ mX9_span.1.cls ≠ "java/lang/invoke/VarHandle" ∧ (parseMethodDescriptor mX9_span.1.desc).map (fun d => d.parameters.length) = some 2 := by decide +kernel
abbrev mX0_edgeOfSpan : zM := (yX0_edgeOfSpan, cX0_edgeOfSpan, 8, some .int)
set_option maxRecDepth 100000 in
theorem wc_X0_edgeOfSpan : Cond.code mX0_edgeOfSpan.1 mX0_edgeOfSpan.2.1 mX0_edgeOfSpan.2.2.1 mX0_edgeOfSpan.2.2.2 ∈ ztb := List.mem_filter.mpr ⟨List.mem_append_right _ (List.mem_of_getElem? (i := 753) rfl), rfl⟩
set_option maxRecDepth 100000 in
theorem wy_X0_edgeOfSpan : mX0_edgeOfSpan.1.cls ≠ "java/lang/invoke/MethodHandle" ∧ mX0_edgeOfSpan.1.cls ≠ "java/lang/invoke/VarHandle" ∧ (parseMethodDescriptor mX0_edgeOfSpan.1.desc).map (fun d => d.parameters.length) = some 3 := by decide +kernel
abbrev mX9_next : zM := (yX9_next, cX9_next, 5, some .int)
set_option maxRecDepth 100000 in
theorem wc_X9_next : Cond.code mX9_next.1 mX9_next.2.1 mX9_next.2.2.1 mX9_next.2.2.2 ∈ ztb := List.mem_filter.mpr ⟨List.mem_append_right _ (List.mem_of_getElem? (i := 758) rfl), rfl⟩
set_option maxRecDepth 100000 in
theorem wy_X9_next : mX9_next.1.cls ≠ "java/lang/invoke/MethodHandle" ∧ mX9_next.1.cls ≠ "java/lang/invoke/VarHandle" ∧ (parseMethodDescriptor mX9_next.1.desc).map (fun d => d.parameters.length) = some 0 := by decide +kernel
abbrev mX9_whole : zM := (yX9_whole, cX9_whole, 5, some .int)
set_option maxRecDepth 100000 in
theorem wc_X9_whole : Cond.code mX9_whole.1 mX9_whole.2.1 mX9_whole.2.2.1 mX9_whole.2.2.2 ∈ ztb := List.mem_filter.mpr ⟨List.mem_append_right _ (List.mem_of_getElem? (i := 762) rfl), rfl⟩
set_option maxRecDepth 100000 in
theorem wy_X9_whole : mX9_whole.1.cls ≠ "java/lang/invoke/MethodHandle" ∧ mX9_whole.1.cls ≠ "java/lang/invoke/VarHandle" ∧ (parseMethodDescriptor mX9_whole.1.desc).map (fun d => d.parameters.length) = some 3 := by decide +kernel
abbrev mX9_isUnit : zM := (yX9_isUnit, cX9_isUnit, 1, some .boolean)
set_option maxRecDepth 100000 in
theorem wc_X9_isUnit : Cond.code mX9_isUnit.1 mX9_isUnit.2.1 mX9_isUnit.2.2.1 mX9_isUnit.2.2.2 ∈ ztb := List.mem_filter.mpr ⟨List.mem_append_right _ (List.mem_of_getElem? (i := 766) rfl), rfl⟩
set_option maxRecDepth 100000 in
theorem wy_X9_isUnit : mX9_isUnit.1.cls ≠ "java/lang/invoke/MethodHandle" ∧ mX9_isUnit.1.cls ≠ "java/lang/invoke/VarHandle" ∧ (parseMethodDescriptor mX9_isUnit.1.desc).map (fun d => d.parameters.length) = some 1 := by decide +kernel
abbrev mX9_placesOf : zM := (yX9_placesOf, cX9_placesOf, 2, some .int)
set_option maxRecDepth 100000 in
theorem wc_X9_placesOf : Cond.code mX9_placesOf.1 mX9_placesOf.2.1 mX9_placesOf.2.2.1 mX9_placesOf.2.2.2 ∈ ztb := List.mem_filter.mpr ⟨List.mem_append_right _ (List.mem_of_getElem? (i := 769) rfl), rfl⟩
set_option maxRecDepth 100000 in
theorem wy_X9_placesOf : mX9_placesOf.1.cls ≠ "java/lang/invoke/MethodHandle" ∧ mX9_placesOf.1.cls ≠ "java/lang/invoke/VarHandle" ∧ (parseMethodDescriptor mX9_placesOf.1.desc).map (fun d => d.parameters.length) = some 2 := by decide +kernel
abbrev mX9_offBy : zM := (yX9_offBy, cX9_offBy, 3, some .int)
set_option maxRecDepth 100000 in
theorem wc_X9_offBy : Cond.code mX9_offBy.1 mX9_offBy.2.1 mX9_offBy.2.2.1 mX9_offBy.2.2.2 ∈ ztb := List.mem_filter.mpr ⟨List.mem_append_right _ (List.mem_of_getElem? (i := 772) rfl), rfl⟩
set_option maxRecDepth 100000 in
theorem wy_X9_offBy : mX9_offBy.1.cls ≠ "java/lang/invoke/MethodHandle" ∧ mX9_offBy.1.cls ≠ "java/lang/invoke/VarHandle" ∧ (parseMethodDescriptor mX9_offBy.1.desc).map (fun d => d.parameters.length) = some 2 := by decide +kernel
abbrev mX9_timesBy : zM := (yX9_timesBy, cX9_timesBy, 3, some .int)
set_option maxRecDepth 100000 in
theorem wc_X9_timesBy : Cond.code mX9_timesBy.1 mX9_timesBy.2.1 mX9_timesBy.2.2.1 mX9_timesBy.2.2.2 ∈ ztb := List.mem_filter.mpr ⟨List.mem_append_right _ (List.mem_of_getElem? (i := 775) rfl), rfl⟩
set_option maxRecDepth 100000 in
theorem wy_X9_timesBy : mX9_timesBy.1.cls ≠ "java/lang/invoke/MethodHandle" ∧ mX9_timesBy.1.cls ≠ "java/lang/invoke/VarHandle" ∧ (parseMethodDescriptor mX9_timesBy.1.desc).map (fun d => d.parameters.length) = some 2 := by decide +kernel
abbrev mX9_near : zM := (yX9_near, cX9_near, 4, some .int)
set_option maxRecDepth 100000 in
theorem wc_X9_near : Cond.code mX9_near.1 mX9_near.2.1 mX9_near.2.2.1 mX9_near.2.2.2 ∈ ztb := List.mem_filter.mpr ⟨List.mem_append_right _ (List.mem_of_getElem? (i := 779) rfl), rfl⟩
set_option maxRecDepth 100000 in
theorem wy_X9_near : mX9_near.1.cls ≠ "java/lang/invoke/MethodHandle" ∧ mX9_near.1.cls ≠ "java/lang/invoke/VarHandle" ∧ (parseMethodDescriptor mX9_near.1.desc).map (fun d => d.parameters.length) = some 1 := by decide +kernel
abbrev mX9_isNearBy : zM := (yX9_isNearBy, cX9_isNearBy, 4, some .boolean)
set_option maxRecDepth 100000 in
theorem wc_X9_isNearBy : Cond.code mX9_isNearBy.1 mX9_isNearBy.2.1 mX9_isNearBy.2.2.1 mX9_isNearBy.2.2.2 ∈ ztb := List.mem_filter.mpr ⟨List.mem_append_right _ (List.mem_of_getElem? (i := 783) rfl), rfl⟩
set_option maxRecDepth 100000 in
theorem wy_X9_isNearBy : mX9_isNearBy.1.cls ≠ "java/lang/invoke/MethodHandle" ∧ mX9_isNearBy.1.cls ≠ "java/lang/invoke/VarHandle" ∧ (parseMethodDescriptor mX9_isNearBy.1.desc).map (fun d => d.parameters.length) = some 2 := by decide +kernel
abbrev mX0_bestSize : zM := (yX0_bestSize, cX0_bestSize, 2, some .int)
set_option maxRecDepth 100000 in
theorem wc_X0_bestSize : Cond.code mX0_bestSize.1 mX0_bestSize.2.1 mX0_bestSize.2.2.1 mX0_bestSize.2.2.2 ∈ ztb := List.mem_filter.mpr ⟨List.mem_append_right _ (List.mem_of_getElem? (i := 787) rfl), rfl⟩
set_option maxRecDepth 100000 in
theorem wy_X0_bestSize : mX0_bestSize.1.cls ≠ "java/lang/invoke/MethodHandle" ∧ mX0_bestSize.1.cls ≠ "java/lang/invoke/VarHandle" ∧ (parseMethodDescriptor mX0_bestSize.1.desc).map (fun d => d.parameters.length) = some 1 := by decide +kernel
abbrev mX9_isNearAs : zM := (yX9_isNearAs, cX9_isNearAs, 7, some .boolean)
set_option maxRecDepth 100000 in
theorem wc_X9_isNearAs : Cond.code mX9_isNearAs.1 mX9_isNearAs.2.1 mX9_isNearAs.2.2.1 mX9_isNearAs.2.2.2 ∈ ztb := List.mem_filter.mpr ⟨List.mem_append_right _ (List.mem_of_getElem? (i := 791) rfl), rfl⟩
set_option maxRecDepth 100000 in
theorem wy_X9_isNearAs : mX9_isNearAs.1.cls ≠ "java/lang/invoke/MethodHandle" ∧ mX9_isNearAs.1.cls ≠ "java/lang/invoke/VarHandle" ∧ (parseMethodDescriptor mX9_isNearAs.1.desc).map (fun d => d.parameters.length) = some 4 := by decide +kernel
abbrev mX5_holds : zM := (yX5_holds, cX5_holds, 10, some .boolean)
set_option maxRecDepth 100000 in
theorem wc_X5_holds : Cond.code mX5_holds.1 mX5_holds.2.1 mX5_holds.2.2.1 mX5_holds.2.2.2 ∈ ztb := List.mem_filter.mpr ⟨List.mem_append_right _ (List.mem_of_getElem? (i := 795) rfl), rfl⟩
set_option maxRecDepth 100000 in
theorem wy_X5_holds : mX5_holds.1.cls ≠ "java/lang/invoke/MethodHandle" ∧ mX5_holds.1.cls ≠ "java/lang/invoke/VarHandle" ∧ (parseMethodDescriptor mX5_holds.1.desc).map (fun d => d.parameters.length) = some 6 := by decide +kernel
abbrev mX5_isError : zM := (yX5_isError, cX5_isError, 5, some .boolean)
set_option maxRecDepth 100000 in
theorem wc_X5_isError : Cond.code mX5_isError.1 mX5_isError.2.1 mX5_isError.2.2.1 mX5_isError.2.2.2 ∈ ztb := List.mem_filter.mpr ⟨List.mem_append_right _ (List.mem_of_getElem? (i := 799) rfl), rfl⟩
set_option maxRecDepth 100000 in
theorem wy_X5_isError : mX5_isError.1.cls ≠ "java/lang/invoke/MethodHandle" ∧ mX5_isError.1.cls ≠ "java/lang/invoke/VarHandle" ∧ (parseMethodDescriptor mX5_isError.1.desc).map (fun d => d.parameters.length) = some 3 := by decide +kernel
abbrev mX5_join : zM := (yX5_join, cX5_join, 5, some .long)
set_option maxRecDepth 100000 in
theorem wc_X5_join : Cond.code mX5_join.1 mX5_join.2.1 mX5_join.2.2.1 mX5_join.2.2.2 ∈ ztb := List.mem_filter.mpr ⟨List.mem_append_right _ (List.mem_of_getElem? (i := 804) rfl), rfl⟩
set_option maxRecDepth 100000 in
theorem wy_X5_join : mX5_join.1.cls ≠ "java/lang/invoke/MethodHandle" ∧ mX5_join.1.cls ≠ "java/lang/invoke/VarHandle" ∧ (parseMethodDescriptor mX5_join.1.desc).map (fun d => d.parameters.length) = some 3 := by decide +kernel
abbrev mX9_lumps : zM := (yX9_lumps, cX9_lumps, 2, some .int)
set_option maxRecDepth 100000 in
theorem wc_X9_lumps : Cond.code mX9_lumps.1 mX9_lumps.2.1 mX9_lumps.2.2.1 mX9_lumps.2.2.2 ∈ ztb := List.mem_filter.mpr ⟨List.mem_append_right _ (List.mem_of_getElem? (i := 808) rfl), rfl⟩
set_option maxRecDepth 100000 in
theorem wy_X9_lumps : mX9_lumps.1.cls ≠ "java/lang/invoke/MethodHandle" ∧ mX9_lumps.1.cls ≠ "java/lang/invoke/VarHandle" ∧ (parseMethodDescriptor mX9_lumps.1.desc).map (fun d => d.parameters.length) = some 1 := by decide +kernel
abbrev mX9_gather : zM := (yX9_gather, cX9_gather, 5, none)
set_option maxRecDepth 100000 in
theorem wc_X9_gather : Cond.code mX9_gather.1 mX9_gather.2.1 mX9_gather.2.2.1 mX9_gather.2.2.2 ∈ ztb := List.mem_filter.mpr ⟨List.mem_append_right _ (List.mem_of_getElem? (i := 812) rfl), rfl⟩
set_option maxRecDepth 100000 in
theorem wy_X9_gather : mX9_gather.1.cls ≠ "java/lang/invoke/MethodHandle" ∧ mX9_gather.1.cls ≠ "java/lang/invoke/VarHandle" ∧ (parseMethodDescriptor mX9_gather.1.desc).map (fun d => d.parameters.length) = some 2 := by decide +kernel
abbrev mX7_put : zM := (yX7_put, cX7_put, 2, none)
set_option maxRecDepth 100000 in
theorem wc_X7_put : Cond.code mX7_put.1 mX7_put.2.1 mX7_put.2.2.1 mX7_put.2.2.2 ∈ ztb := List.mem_filter.mpr ⟨List.mem_append_right _ (List.mem_of_getElem? (i := 816) rfl), rfl⟩
set_option maxRecDepth 100000 in
theorem wy_X7_put : mX7_put.1.cls ≠ "java/lang/invoke/MethodHandle" ∧ mX7_put.1.cls ≠ "java/lang/invoke/VarHandle" ∧ (parseMethodDescriptor mX7_put.1.desc).map (fun d => d.parameters.length) = some 1 := by decide +kernel
abbrev mX7_sumOfLumps : zM := (yX7_sumOfLumps, cX7_sumOfLumps, 4, some .int)
set_option maxRecDepth 100000 in
theorem wc_X7_sumOfLumps : Cond.code mX7_sumOfLumps.1 mX7_sumOfLumps.2.1 mX7_sumOfLumps.2.2.1 mX7_sumOfLumps.2.2.2 ∈ ztb := List.mem_filter.mpr ⟨List.mem_append_right _ (List.mem_of_getElem? (i := 820) rfl), rfl⟩
set_option maxRecDepth 100000 in
theorem wy_X7_sumOfLumps : mX7_sumOfLumps.1.cls ≠ "java/lang/invoke/MethodHandle" ∧ mX7_sumOfLumps.1.cls ≠ "java/lang/invoke/VarHandle" ∧ (parseMethodDescriptor mX7_sumOfLumps.1.desc).map (fun d => d.parameters.length) = some 1 := by decide +kernel
abbrev mX9_odds : zM := (yX9_odds, cX9_odds, 6, some .int)
set_option maxRecDepth 100000 in
theorem wc_X9_odds : Cond.code mX9_odds.1 mX9_odds.2.1 mX9_odds.2.2.1 mX9_odds.2.2.2 ∈ ztb := List.mem_filter.mpr ⟨List.mem_append_right _ (List.mem_of_getElem? (i := 825) rfl), rfl⟩
set_option maxRecDepth 100000 in
theorem wy_X9_odds : mX9_odds.1.cls ≠ "java/lang/invoke/MethodHandle" ∧ mX9_odds.1.cls ≠ "java/lang/invoke/VarHandle" ∧ (parseMethodDescriptor mX9_odds.1.desc).map (fun d => d.parameters.length) = some 2 := by decide +kernel
abbrev mX0_fittedRings : zM := (yX0_fittedRings, cX0_fittedRings, 3, some .int)
set_option maxRecDepth 100000 in
theorem wc_X0_fittedRings : Cond.code mX0_fittedRings.1 mX0_fittedRings.2.1 mX0_fittedRings.2.2.1 mX0_fittedRings.2.2.2 ∈ ztb := List.mem_filter.mpr ⟨List.mem_append_right _ (List.mem_of_getElem? (i := 829) rfl), rfl⟩
set_option maxRecDepth 100000 in
theorem wy_X0_fittedRings : mX0_fittedRings.1.cls ≠ "java/lang/invoke/MethodHandle" ∧ mX0_fittedRings.1.cls ≠ "java/lang/invoke/VarHandle" ∧ (parseMethodDescriptor mX0_fittedRings.1.desc).map (fun d => d.parameters.length) = some 0 := by decide +kernel
abbrev mJ7_fill_d0a16 : zM := (yJ7_fill_d0a16, cJ7_fill_d0a16, 5, none)
set_option maxRecDepth 100000 in
theorem wc_J7_fill_d0a16 : Cond.code mJ7_fill_d0a16.1 mJ7_fill_d0a16.2.1 mJ7_fill_d0a16.2.2.1 mJ7_fill_d0a16.2.2.2 ∈ ztb := List.mem_filter.mpr ⟨List.mem_append_right _ (List.mem_of_getElem? (i := 832) rfl), rfl⟩
set_option maxRecDepth 100000 in
theorem wy_J7_fill_d0a16 : mJ7_fill_d0a16.1.cls ≠ "java/lang/invoke/MethodHandle" ∧ mJ7_fill_d0a16.1.cls ≠ "java/lang/invoke/VarHandle" ∧ (parseMethodDescriptor mJ7_fill_d0a16.1.desc).map (fun d => d.parameters.length) = some 2 := by decide +kernel
abbrev mX9_nearOnes : zM := (yX9_nearOnes, cX9_nearOnes, 9, some .int)
set_option maxRecDepth 100000 in
theorem wc_X9_nearOnes : Cond.code mX9_nearOnes.1 mX9_nearOnes.2.1 mX9_nearOnes.2.2.1 mX9_nearOnes.2.2.2 ∈ ztb := List.mem_filter.mpr ⟨List.mem_append_right _ (List.mem_of_getElem? (i := 837) rfl), rfl⟩
set_option maxRecDepth 100000 in
theorem wy_X9_nearOnes : mX9_nearOnes.1.cls ≠ "java/lang/invoke/MethodHandle" ∧ mX9_nearOnes.1.cls ≠ "java/lang/invoke/VarHandle" ∧ (parseMethodDescriptor mX9_nearOnes.1.desc).map (fun d => d.parameters.length) = some 2 := by decide +kernel
abbrev mX9_spreadRow : zM := (yX9_spreadRow, cX9_spreadRow, 8, none)
set_option maxRecDepth 100000 in
theorem wc_X9_spreadRow : Cond.code mX9_spreadRow.1 mX9_spreadRow.2.1 mX9_spreadRow.2.2.1 mX9_spreadRow.2.2.2 ∈ ztb := List.mem_filter.mpr ⟨List.mem_append_right _ (List.mem_of_getElem? (i := 841) rfl), rfl⟩
set_option maxRecDepth 100000 in
theorem wy_X9_spreadRow : mX9_spreadRow.1.cls ≠ "java/lang/invoke/MethodHandle" ∧ mX9_spreadRow.1.cls ≠ "java/lang/invoke/VarHandle" ∧ (parseMethodDescriptor mX9_spreadRow.1.desc).map (fun d => d.parameters.length) = some 2 := by decide +kernel
abbrev mX9_chosen : zM := (yX9_chosen, cX9_chosen, 8, some .int)
set_option maxRecDepth 100000 in
theorem wc_X9_chosen : Cond.code mX9_chosen.1 mX9_chosen.2.1 mX9_chosen.2.2.1 mX9_chosen.2.2.2 ∈ ztb := List.mem_filter.mpr ⟨List.mem_append_right _ (List.mem_of_getElem? (i := 845) rfl), rfl⟩
set_option maxRecDepth 100000 in
theorem wy_X9_chosen : mX9_chosen.1.cls ≠ "java/lang/invoke/MethodHandle" ∧ mX9_chosen.1.cls ≠ "java/lang/invoke/VarHandle" ∧ (parseMethodDescriptor mX9_chosen.1.desc).map (fun d => d.parameters.length) = some 2 := by decide +kernel
abbrev mX0_shapeLeastOff : zM := (yX0_shapeLeastOff, cX0_shapeLeastOff, 9, some .int)
set_option maxRecDepth 100000 in
theorem wc_X0_shapeLeastOff : Cond.code mX0_shapeLeastOff.1 mX0_shapeLeastOff.2.1 mX0_shapeLeastOff.2.2.1 mX0_shapeLeastOff.2.2.2 ∈ ztb := List.mem_filter.mpr ⟨List.mem_append_right _ (List.mem_of_getElem? (i := 849) rfl), rfl⟩
set_option maxRecDepth 100000 in
theorem wy_X0_shapeLeastOff : mX0_shapeLeastOff.1.cls ≠ "java/lang/invoke/MethodHandle" ∧ mX0_shapeLeastOff.1.cls ≠ "java/lang/invoke/VarHandle" ∧ (parseMethodDescriptor mX0_shapeLeastOff.1.desc).map (fun d => d.parameters.length) = some 3 := by decide +kernel
abbrev mX9_sort : zM := (yX9_sort, cX9_sort, 4, some .int)
set_option maxRecDepth 100000 in
theorem wc_X9_sort : Cond.code mX9_sort.1 mX9_sort.2.1 mX9_sort.2.2.1 mX9_sort.2.2.2 ∈ ztb := List.mem_filter.mpr ⟨List.mem_append_right _ (List.mem_of_getElem? (i := 854) rfl), rfl⟩
set_option maxRecDepth 100000 in
theorem wy_X9_sort : mX9_sort.1.cls ≠ "java/lang/invoke/MethodHandle" ∧ mX9_sort.1.cls ≠ "java/lang/invoke/VarHandle" ∧ (parseMethodDescriptor mX9_sort.1.desc).map (fun d => d.parameters.length) = some 3 := by decide +kernel
abbrev mX9_hump : zM := (yX9_hump, cX9_hump, 5, some .int)
set_option maxRecDepth 100000 in
theorem wc_X9_hump : Cond.code mX9_hump.1 mX9_hump.2.1 mX9_hump.2.2.1 mX9_hump.2.2.2 ∈ ztb := List.mem_filter.mpr ⟨List.mem_append_right _ (List.mem_of_getElem? (i := 858) rfl), rfl⟩
set_option maxRecDepth 100000 in
theorem wy_X9_hump : mX9_hump.1.cls ≠ "java/lang/invoke/MethodHandle" ∧ mX9_hump.1.cls ≠ "java/lang/invoke/VarHandle" ∧ (parseMethodDescriptor mX9_hump.1.desc).map (fun d => d.parameters.length) = some 2 := by decide +kernel
abbrev mX7_binOf : zM := (yX7_binOf, cX7_binOf, 3, some .int)
set_option maxRecDepth 100000 in
theorem wc_X7_binOf : Cond.code mX7_binOf.1 mX7_binOf.2.1 mX7_binOf.2.2.1 mX7_binOf.2.2.2 ∈ ztb := List.mem_filter.mpr ⟨List.mem_append_right _ (List.mem_of_getElem? (i := 862) rfl), rfl⟩
set_option maxRecDepth 100000 in
theorem wy_X7_binOf : mX7_binOf.1.cls ≠ "java/lang/invoke/MethodHandle" ∧ mX7_binOf.1.cls ≠ "java/lang/invoke/VarHandle" ∧ (parseMethodDescriptor mX7_binOf.1.desc).map (fun d => d.parameters.length) = some 2 := by decide +kernel
abbrev mX9_wander : zM := (yX9_wander, cX9_wander, 8, some .int)
set_option maxRecDepth 100000 in
theorem wc_X9_wander : Cond.code mX9_wander.1 mX9_wander.2.1 mX9_wander.2.2.1 mX9_wander.2.2.2 ∈ ztb := List.mem_filter.mpr ⟨List.mem_append_right _ (List.mem_of_getElem? (i := 867) rfl), rfl⟩
set_option maxRecDepth 100000 in
theorem wy_X9_wander : mX9_wander.1.cls ≠ "java/lang/invoke/MethodHandle" ∧ mX9_wander.1.cls ≠ "java/lang/invoke/VarHandle" ∧ (parseMethodDescriptor mX9_wander.1.desc).map (fun d => d.parameters.length) = some 2 := by decide +kernel
abbrev mX9_unit : zM := (yX9_unit, cX9_unit, 7, some .int)
set_option maxRecDepth 100000 in
theorem wc_X9_unit : Cond.code mX9_unit.1 mX9_unit.2.1 mX9_unit.2.2.1 mX9_unit.2.2.2 ∈ ztb := List.mem_filter.mpr ⟨List.mem_append_right _ (List.mem_of_getElem? (i := 872) rfl), rfl⟩
set_option maxRecDepth 100000 in
theorem wy_X9_unit : mX9_unit.1.cls ≠ "java/lang/invoke/MethodHandle" ∧ mX9_unit.1.cls ≠ "java/lang/invoke/VarHandle" ∧ (parseMethodDescriptor mX9_unit.1.desc).map (fun d => d.parameters.length) = some 4 := by decide +kernel
abbrev mX9_unitsOf : zM := (yX9_unitsOf, cX9_unitsOf, 3, some .int)
set_option maxRecDepth 100000 in
theorem wc_X9_unitsOf : Cond.code mX9_unitsOf.1 mX9_unitsOf.2.1 mX9_unitsOf.2.2.1 mX9_unitsOf.2.2.2 ∈ ztb := List.mem_filter.mpr ⟨List.mem_append_right _ (List.mem_of_getElem? (i := 875) rfl), rfl⟩
set_option maxRecDepth 100000 in
theorem wy_X9_unitsOf : mX9_unitsOf.1.cls ≠ "java/lang/invoke/MethodHandle" ∧ mX9_unitsOf.1.cls ≠ "java/lang/invoke/VarHandle" ∧ (parseMethodDescriptor mX9_unitsOf.1.desc).map (fun d => d.parameters.length) = some 3 := by decide +kernel
abbrev mX7_bestUnit : zM := (yX7_bestUnit, cX7_bestUnit, 11, some .int)
set_option maxRecDepth 100000 in
theorem wc_X7_bestUnit : Cond.code mX7_bestUnit.1 mX7_bestUnit.2.1 mX7_bestUnit.2.2.1 mX7_bestUnit.2.2.2 ∈ ztb := List.mem_filter.mpr ⟨List.mem_append_right _ (List.mem_of_getElem? (i := 879) rfl), rfl⟩
set_option maxRecDepth 100000 in
theorem wy_X7_bestUnit : mX7_bestUnit.1.cls ≠ "java/lang/invoke/MethodHandle" ∧ mX7_bestUnit.1.cls ≠ "java/lang/invoke/VarHandle" ∧ (parseMethodDescriptor mX7_bestUnit.1.desc).map (fun d => d.parameters.length) = some 4 := by decide +kernel
abbrev mX9_any : zM := (yX9_any, cX9_any, 15, some .int)
set_option maxRecDepth 100000 in
theorem wc_X9_any : Cond.code mX9_any.1 mX9_any.2.1 mX9_any.2.2.1 mX9_any.2.2.2 ∈ ztb := List.mem_filter.mpr ⟨List.mem_append_right _ (List.mem_of_getElem? (i := 887) rfl), rfl⟩
set_option maxRecDepth 100000 in
theorem wy_X9_any : mX9_any.1.cls ≠ "java/lang/invoke/MethodHandle" ∧ mX9_any.1.cls ≠ "java/lang/invoke/VarHandle" ∧ (parseMethodDescriptor mX9_any.1.desc).map (fun d => d.parameters.length) = some 6 := by decide +kernel
abbrev mX7_lumpsOfBestUnit : zM := (yX7_lumpsOfBestUnit, cX7_lumpsOfBestUnit, 5, some .int)
set_option maxRecDepth 100000 in
theorem wc_X7_lumpsOfBestUnit : Cond.code mX7_lumpsOfBestUnit.1 mX7_lumpsOfBestUnit.2.1 mX7_lumpsOfBestUnit.2.2.1 mX7_lumpsOfBestUnit.2.2.2 ∈ ztb := List.mem_filter.mpr ⟨List.mem_append_right _ (List.mem_of_getElem? (i := 891) rfl), rfl⟩
set_option maxRecDepth 100000 in
theorem wy_X7_lumpsOfBestUnit : mX7_lumpsOfBestUnit.1.cls ≠ "java/lang/invoke/MethodHandle" ∧ mX7_lumpsOfBestUnit.1.cls ≠ "java/lang/invoke/VarHandle" ∧ (parseMethodDescriptor mX7_lumpsOfBestUnit.1.desc).map (fun d => d.parameters.length) = some 4 := by decide +kernel
abbrev mX9_land : zM := (yX9_land, cX9_land, 6, some .int)
set_option maxRecDepth 100000 in
theorem wc_X9_land : Cond.code mX9_land.1 mX9_land.2.1 mX9_land.2.2.1 mX9_land.2.2.2 ∈ ztb := List.mem_filter.mpr ⟨List.mem_append_right _ (List.mem_of_getElem? (i := 900) rfl), rfl⟩
set_option maxRecDepth 100000 in
theorem wy_X9_land : mX9_land.1.cls ≠ "java/lang/invoke/MethodHandle" ∧ mX9_land.1.cls ≠ "java/lang/invoke/VarHandle" ∧ (parseMethodDescriptor mX9_land.1.desc).map (fun d => d.parameters.length) = some 4 := by decide +kernel
abbrev mX9_apart : zM := (yX9_apart, cX9_apart, 9, some .int)
set_option maxRecDepth 100000 in
theorem wc_X9_apart : Cond.code mX9_apart.1 mX9_apart.2.1 mX9_apart.2.2.1 mX9_apart.2.2.2 ∈ ztb := List.mem_filter.mpr ⟨List.mem_append_right _ (List.mem_of_getElem? (i := 904) rfl), rfl⟩
set_option maxRecDepth 100000 in
theorem wy_X9_apart : mX9_apart.1.cls ≠ "java/lang/invoke/MethodHandle" ∧ mX9_apart.1.cls ≠ "java/lang/invoke/VarHandle" ∧ (parseMethodDescriptor mX9_apart.1.desc).map (fun d => d.parameters.length) = some 3 := by decide +kernel
abbrev mX9_ahead : zM := (yX9_ahead, cX9_ahead, 8, some .int)
set_option maxRecDepth 100000 in
theorem wc_X9_ahead : Cond.code mX9_ahead.1 mX9_ahead.2.1 mX9_ahead.2.2.1 mX9_ahead.2.2.2 ∈ ztb := List.mem_filter.mpr ⟨List.mem_append_right _ (List.mem_of_getElem? (i := 910) rfl), rfl⟩
set_option maxRecDepth 100000 in
theorem wy_X9_ahead : mX9_ahead.1.cls ≠ "java/lang/invoke/MethodHandle" ∧ mX9_ahead.1.cls ≠ "java/lang/invoke/VarHandle" ∧ (parseMethodDescriptor mX9_ahead.1.desc).map (fun d => d.parameters.length) = some 5 := by decide +kernel
abbrev mX9_sizeThen : zM := (yX9_sizeThen, cX9_sizeThen, 2, some .int)
set_option maxRecDepth 100000 in
theorem wc_X9_sizeThen : Cond.code mX9_sizeThen.1 mX9_sizeThen.2.1 mX9_sizeThen.2.2.1 mX9_sizeThen.2.2.2 ∈ ztb := List.mem_filter.mpr ⟨List.mem_append_right _ (List.mem_of_getElem? (i := 914) rfl), rfl⟩
set_option maxRecDepth 100000 in
theorem wy_X9_sizeThen : mX9_sizeThen.1.cls ≠ "java/lang/invoke/MethodHandle" ∧ mX9_sizeThen.1.cls ≠ "java/lang/invoke/VarHandle" ∧ (parseMethodDescriptor mX9_sizeThen.1.desc).map (fun d => d.parameters.length) = some 1 := by decide +kernel
abbrev mX0_isAs : zM := (yX0_isAs, cX0_isAs, 5, some .boolean)
set_option maxRecDepth 100000 in
theorem wc_X0_isAs : Cond.code mX0_isAs.1 mX0_isAs.2.1 mX0_isAs.2.2.1 mX0_isAs.2.2.2 ∈ ztb := List.mem_filter.mpr ⟨List.mem_append_right _ (List.mem_of_getElem? (i := 918) rfl), rfl⟩
set_option maxRecDepth 100000 in
theorem wy_X0_isAs : mX0_isAs.1.cls ≠ "java/lang/invoke/MethodHandle" ∧ mX0_isAs.1.cls ≠ "java/lang/invoke/VarHandle" ∧ (parseMethodDescriptor mX0_isAs.1.desc).map (fun d => d.parameters.length) = some 2 := by decide +kernel
abbrev mX9_countTapedSince : zM := (yX9_countTapedSince, cX9_countTapedSince, 5, some .int)
set_option maxRecDepth 100000 in
theorem wc_X9_countTapedSince : Cond.code mX9_countTapedSince.1 mX9_countTapedSince.2.1 mX9_countTapedSince.2.2.1 mX9_countTapedSince.2.2.2 ∈ ztb := List.mem_filter.mpr ⟨List.mem_append_right _ (List.mem_of_getElem? (i := 922) rfl), rfl⟩
set_option maxRecDepth 100000 in
theorem wy_X9_countTapedSince : mX9_countTapedSince.1.cls ≠ "java/lang/invoke/MethodHandle" ∧ mX9_countTapedSince.1.cls ≠ "java/lang/invoke/VarHandle" ∧ (parseMethodDescriptor mX9_countTapedSince.1.desc).map (fun d => d.parameters.length) = some 2 := by decide +kernel
abbrev mX9_tells : zM := (yX9_tells, cX9_tells, 10, some .long)
set_option maxRecDepth 100000 in
theorem wc_X9_tells : Cond.code mX9_tells.1 mX9_tells.2.1 mX9_tells.2.2.1 mX9_tells.2.2.2 ∈ ztb := List.mem_filter.mpr ⟨List.mem_append_right _ (List.mem_of_getElem? (i := 926) rfl), rfl⟩
set_option maxRecDepth 100000 in
theorem wy_X9_tells : mX9_tells.1.cls ≠ "java/lang/invoke/MethodHandle" ∧ mX9_tells.1.cls ≠ "java/lang/invoke/VarHandle" ∧ (parseMethodDescriptor mX9_tells.1.desc).map (fun d => d.parameters.length) = some 3 := by decide +kernel
abbrev mX8_weightOf : zM := (yX8_weightOf, cX8_weightOf, 8, some .long)
set_option maxRecDepth 100000 in
theorem wc_X8_weightOf : Cond.code mX8_weightOf.1 mX8_weightOf.2.1 mX8_weightOf.2.2.1 mX8_weightOf.2.2.2 ∈ ztb := List.mem_filter.mpr ⟨List.mem_append_right _ (List.mem_of_getElem? (i := 931) rfl), rfl⟩
set_option maxRecDepth 100000 in
theorem wy_X8_weightOf : mX8_weightOf.1.cls ≠ "java/lang/invoke/MethodHandle" ∧ mX8_weightOf.1.cls ≠ "java/lang/invoke/VarHandle" ∧ (parseMethodDescriptor mX8_weightOf.1.desc).map (fun d => d.parameters.length) = some 3 := by decide +kernel
abbrev mX9_inLeastTerms : zM := (yX9_inLeastTerms, cX9_inLeastTerms, 12, some .long)
set_option maxRecDepth 100000 in
theorem wc_X9_inLeastTerms : Cond.code mX9_inLeastTerms.1 mX9_inLeastTerms.2.1 mX9_inLeastTerms.2.2.1 mX9_inLeastTerms.2.2.2 ∈ ztb := List.mem_filter.mpr ⟨List.mem_append_right _ (List.mem_of_getElem? (i := 935) rfl), rfl⟩
set_option maxRecDepth 100000 in
theorem wy_X9_inLeastTerms : mX9_inLeastTerms.1.cls ≠ "java/lang/invoke/MethodHandle" ∧ mX9_inLeastTerms.1.cls ≠ "java/lang/invoke/VarHandle" ∧ (parseMethodDescriptor mX9_inLeastTerms.1.desc).map (fun d => d.parameters.length) = some 3 := by decide +kernel
abbrev mX9_blind : zM := (yX9_blind, cX9_blind, 8, some .int)
set_option maxRecDepth 100000 in
theorem wc_X9_blind : Cond.code mX9_blind.1 mX9_blind.2.1 mX9_blind.2.2.1 mX9_blind.2.2.2 ∈ ztb := List.mem_filter.mpr ⟨List.mem_append_right _ (List.mem_of_getElem? (i := 940) rfl), rfl⟩
set_option maxRecDepth 100000 in
theorem wy_X9_blind : mX9_blind.1.cls ≠ "java/lang/invoke/MethodHandle" ∧ mX9_blind.1.cls ≠ "java/lang/invoke/VarHandle" ∧ (parseMethodDescriptor mX9_blind.1.desc).map (fun d => d.parameters.length) = some 2 := by decide +kernel
abbrev mX8_saidOf : zM := (yX8_saidOf, cX8_saidOf, 4, some .int)
set_option maxRecDepth 100000 in
theorem wc_X8_saidOf : Cond.code mX8_saidOf.1 mX8_saidOf.2.1 mX8_saidOf.2.2.1 mX8_saidOf.2.2.2 ∈ ztb := List.mem_filter.mpr ⟨List.mem_append_right _ (List.mem_of_getElem? (i := 944) rfl), rfl⟩
set_option maxRecDepth 100000 in
theorem wy_X8_saidOf : mX8_saidOf.1.cls ≠ "java/lang/invoke/MethodHandle" ∧ mX8_saidOf.1.cls ≠ "java/lang/invoke/VarHandle" ∧ (parseMethodDescriptor mX8_saidOf.1.desc).map (fun d => d.parameters.length) = some 2 := by decide +kernel
abbrev mX9_lean : zM := (yX9_lean, cX9_lean, 9, some .int)
set_option maxRecDepth 100000 in
theorem wc_X9_lean : Cond.code mX9_lean.1 mX9_lean.2.1 mX9_lean.2.2.1 mX9_lean.2.2.2 ∈ ztb := List.mem_filter.mpr ⟨List.mem_append_right _ (List.mem_of_getElem? (i := 948) rfl), rfl⟩
set_option maxRecDepth 100000 in
theorem wy_X9_lean : mX9_lean.1.cls ≠ "java/lang/invoke/MethodHandle" ∧ mX9_lean.1.cls ≠ "java/lang/invoke/VarHandle" ∧ (parseMethodDescriptor mX9_lean.1.desc).map (fun d => d.parameters.length) = some 2 := by decide +kernel
abbrev mX9_count : zM := (yX9_count, cX9_count, 2, some .int)
set_option maxRecDepth 100000 in
theorem wc_X9_count : Cond.code mX9_count.1 mX9_count.2.1 mX9_count.2.2.1 mX9_count.2.2.2 ∈ ztb := List.mem_filter.mpr ⟨List.mem_append_right _ (List.mem_of_getElem? (i := 952) rfl), rfl⟩
set_option maxRecDepth 100000 in
theorem wy_X9_count : mX9_count.1.cls ≠ "java/lang/invoke/MethodHandle" ∧ mX9_count.1.cls ≠ "java/lang/invoke/VarHandle" ∧ (parseMethodDescriptor mX9_count.1.desc).map (fun d => d.parameters.length) = some 1 := by decide +kernel
abbrev mX9_look : zM := (yX9_look, cX9_look, 4, some .int)
set_option maxRecDepth 100000 in
theorem wc_X9_look : Cond.code mX9_look.1 mX9_look.2.1 mX9_look.2.2.1 mX9_look.2.2.2 ∈ ztb := List.mem_filter.mpr ⟨List.mem_append_right _ (List.mem_of_getElem? (i := 961) rfl), rfl⟩
set_option maxRecDepth 100000 in
theorem wy_X9_look : mX9_look.1.cls ≠ "java/lang/invoke/MethodHandle" ∧ mX9_look.1.cls ≠ "java/lang/invoke/VarHandle" ∧ (parseMethodDescriptor mX9_look.1.desc).map (fun d => d.parameters.length) = some 3 := by decide +kernel
abbrev mX10_init : zM := (yX10_init, cX10_init, 1, none)
set_option maxRecDepth 100000 in
theorem wc_X10_init : Cond.code mX10_init.1 mX10_init.2.1 mX10_init.2.2.1 mX10_init.2.2.2 ∈ ztb := List.mem_filter.mpr ⟨List.mem_append_right _ (List.mem_of_getElem? (i := 1048) rfl), rfl⟩
set_option maxRecDepth 100000 in
theorem wy_X10_init : mX10_init.1.cls ≠ "java/lang/invoke/MethodHandle" ∧ mX10_init.1.cls ≠ "java/lang/invoke/VarHandle" ∧ (parseMethodDescriptor mX10_init.1.desc).map (fun d => d.parameters.length) = some 0 := by decide +kernel
abbrev mX10_thrown : zM := (yX10_thrown, cX10_thrown, 1, some .int)
set_option maxRecDepth 100000 in
theorem wc_X10_thrown : Cond.code mX10_thrown.1 mX10_thrown.2.1 mX10_thrown.2.2.1 mX10_thrown.2.2.2 ∈ ztb := List.mem_filter.mpr ⟨List.mem_append_right _ (List.mem_of_getElem? (i := 1313) rfl), rfl⟩
set_option maxRecDepth 100000 in
theorem wy_X10_thrown : mX10_thrown.1.cls ≠ "java/lang/invoke/MethodHandle" ∧ mX10_thrown.1.cls ≠ "java/lang/invoke/VarHandle" ∧ (parseMethodDescriptor mX10_thrown.1.desc).map (fun d => d.parameters.length) = some 0 := by decide +kernel
abbrev mX10_feed : zM := (yX10_feed, cX10_feed, 8, some .int)
set_option maxRecDepth 100000 in
theorem wc_X10_feed : Cond.code mX10_feed.1 mX10_feed.2.1 mX10_feed.2.2.1 mX10_feed.2.2.2 ∈ ztb := List.mem_filter.mpr ⟨List.mem_append_right _ (List.mem_of_getElem? (i := 1317) rfl), rfl⟩
set_option maxRecDepth 100000 in
theorem wy_X10_feed : mX10_feed.1.cls ≠ "java/lang/invoke/MethodHandle" ∧ mX10_feed.1.cls ≠ "java/lang/invoke/VarHandle" ∧ (parseMethodDescriptor mX10_feed.1.desc).map (fun d => d.parameters.length) = some 5 := by decide +kernel
abbrev mX10_text : zM := (yX10_text, cX10_text, 2, some .int)
set_option maxRecDepth 100000 in
theorem wc_X10_text : Cond.code mX10_text.1 mX10_text.2.1 mX10_text.2.2.1 mX10_text.2.2.2 ∈ ztb := List.mem_filter.mpr ⟨List.mem_append_right _ (List.mem_of_getElem? (i := 1321) rfl), rfl⟩
set_option maxRecDepth 100000 in
theorem wy_X10_text : mX10_text.1.cls ≠ "java/lang/invoke/MethodHandle" ∧ mX10_text.1.cls ≠ "java/lang/invoke/VarHandle" ∧ (parseMethodDescriptor mX10_text.1.desc).map (fun d => d.parameters.length) = some 1 := by decide +kernel
abbrev mX10_token : zM := (yX10_token, cX10_token, 2, none)
set_option maxRecDepth 100000 in
theorem wc_X10_token : Cond.code mX10_token.1 mX10_token.2.1 mX10_token.2.2.1 mX10_token.2.2.2 ∈ ztb := List.mem_filter.mpr ⟨List.mem_append_right _ (List.mem_of_getElem? (i := 1325) rfl), rfl⟩
set_option maxRecDepth 100000 in
theorem wy_X10_token : mX10_token.1.cls ≠ "java/lang/invoke/MethodHandle" ∧ mX10_token.1.cls ≠ "java/lang/invoke/VarHandle" ∧ (parseMethodDescriptor mX10_token.1.desc).map (fun d => d.parameters.length) = some 0 := by decide +kernel
abbrev mX10_here : zM := (yX10_here, cX10_here, 1, some .int)
set_option maxRecDepth 100000 in
theorem wc_X10_here : Cond.code mX10_here.1 mX10_here.2.1 mX10_here.2.2.1 mX10_here.2.2.2 ∈ ztb := List.mem_filter.mpr ⟨List.mem_append_right _ (List.mem_of_getElem? (i := 1329) rfl), rfl⟩
set_option maxRecDepth 100000 in
theorem wy_X10_here : mX10_here.1.cls ≠ "java/lang/invoke/MethodHandle" ∧ mX10_here.1.cls ≠ "java/lang/invoke/VarHandle" ∧ (parseMethodDescriptor mX10_here.1.desc).map (fun d => d.parameters.length) = some 0 := by decide +kernel
abbrev mX10_isSmall : zM := (yX10_isSmall, cX10_isSmall, 1, some .boolean)
set_option maxRecDepth 100000 in
theorem wc_X10_isSmall : Cond.code mX10_isSmall.1 mX10_isSmall.2.1 mX10_isSmall.2.2.1 mX10_isSmall.2.2.2 ∈ ztb := List.mem_filter.mpr ⟨List.mem_append_right _ (List.mem_of_getElem? (i := 1332) rfl), rfl⟩
set_option maxRecDepth 100000 in
theorem wy_X10_isSmall : mX10_isSmall.1.cls ≠ "java/lang/invoke/MethodHandle" ∧ mX10_isSmall.1.cls ≠ "java/lang/invoke/VarHandle" ∧ (parseMethodDescriptor mX10_isSmall.1.desc).map (fun d => d.parameters.length) = some 1 := by decide +kernel
abbrev mX10_word : zM := (yX10_word, cX10_word, 4, some .int)
set_option maxRecDepth 100000 in
theorem wc_X10_word : Cond.code mX10_word.1 mX10_word.2.1 mX10_word.2.2.1 mX10_word.2.2.2 ∈ ztb := List.mem_filter.mpr ⟨List.mem_append_right _ (List.mem_of_getElem? (i := 1336) rfl), rfl⟩
set_option maxRecDepth 100000 in
theorem wy_X10_word : mX10_word.1.cls ≠ "java/lang/invoke/MethodHandle" ∧ mX10_word.1.cls ≠ "java/lang/invoke/VarHandle" ∧ (parseMethodDescriptor mX10_word.1.desc).map (fun d => d.parameters.length) = some 0 := by decide +kernel
abbrev mX10_name : zM := (yX10_name, cX10_name, 2, none)
set_option maxRecDepth 100000 in
theorem wc_X10_name : Cond.code mX10_name.1 mX10_name.2.1 mX10_name.2.2.1 mX10_name.2.2.2 ∈ ztb := List.mem_filter.mpr ⟨List.mem_append_right _ (List.mem_of_getElem? (i := 1343) rfl), rfl⟩
set_option maxRecDepth 100000 in
theorem wy_X10_name : mX10_name.1.cls ≠ "java/lang/invoke/MethodHandle" ∧ mX10_name.1.cls ≠ "java/lang/invoke/VarHandle" ∧ (parseMethodDescriptor mX10_name.1.desc).map (fun d => d.parameters.length) = some 0 := by decide +kernel
abbrev mX10_isDigit : zM := (yX10_isDigit, cX10_isDigit, 1, some .boolean)
set_option maxRecDepth 100000 in
theorem wc_X10_isDigit : Cond.code mX10_isDigit.1 mX10_isDigit.2.1 mX10_isDigit.2.2.1 mX10_isDigit.2.2.2 ∈ ztb := List.mem_filter.mpr ⟨List.mem_append_right _ (List.mem_of_getElem? (i := 1346) rfl), rfl⟩
set_option maxRecDepth 100000 in
theorem wy_X10_isDigit : mX10_isDigit.1.cls ≠ "java/lang/invoke/MethodHandle" ∧ mX10_isDigit.1.cls ≠ "java/lang/invoke/VarHandle" ∧ (parseMethodDescriptor mX10_isDigit.1.desc).map (fun d => d.parameters.length) = some 1 := by decide +kernel
abbrev mX10_sign : zM := (yX10_sign, cX10_sign, 2, none)
set_option maxRecDepth 100000 in
theorem wc_X10_sign : Cond.code mX10_sign.1 mX10_sign.2.1 mX10_sign.2.2.1 mX10_sign.2.2.2 ∈ ztb := List.mem_filter.mpr ⟨List.mem_append_right _ (List.mem_of_getElem? (i := 1351) rfl), rfl⟩
set_option maxRecDepth 100000 in
theorem wy_X10_sign : mX10_sign.1.cls ≠ "java/lang/invoke/MethodHandle" ∧ mX10_sign.1.cls ≠ "java/lang/invoke/VarHandle" ∧ (parseMethodDescriptor mX10_sign.1.desc).map (fun d => d.parameters.length) = some 1 := by decide +kernel
abbrev mX10_line : zM := (yX10_line, cX10_line, 2, none)
set_option maxRecDepth 100000 in
theorem wc_X10_line : Cond.code mX10_line.1 mX10_line.2.1 mX10_line.2.2.1 mX10_line.2.2.2 ∈ ztb := List.mem_filter.mpr ⟨List.mem_append_right _ (List.mem_of_getElem? (i := 1355) rfl), rfl⟩
set_option maxRecDepth 100000 in
theorem wy_X10_line : mX10_line.1.cls ≠ "java/lang/invoke/MethodHandle" ∧ mX10_line.1.cls ≠ "java/lang/invoke/VarHandle" ∧ (parseMethodDescriptor mX10_line.1.desc).map (fun d => d.parameters.length) = some 0 := by decide +kernel
abbrev mX10_wrong : zM := (yX10_wrong, cX10_wrong, 2, none)
set_option maxRecDepth 100000 in
theorem wc_X10_wrong : Cond.code mX10_wrong.1 mX10_wrong.2.1 mX10_wrong.2.2.1 mX10_wrong.2.2.2 ∈ ztb := List.mem_filter.mpr ⟨List.mem_append_right _ (List.mem_of_getElem? (i := 1359) rfl), rfl⟩
set_option maxRecDepth 100000 in
theorem wy_X10_wrong : mX10_wrong.1.cls ≠ "java/lang/invoke/MethodHandle" ∧ mX10_wrong.1.cls ≠ "java/lang/invoke/VarHandle" ∧ (parseMethodDescriptor mX10_wrong.1.desc).map (fun d => d.parameters.length) = some 1 := by decide +kernel
abbrev mX10_isFull : zM := (yX10_isFull, cX10_isFull, 2, some .boolean)
set_option maxRecDepth 100000 in
theorem wc_X10_isFull : Cond.code mX10_isFull.1 mX10_isFull.2.1 mX10_isFull.2.2.1 mX10_isFull.2.2.2 ∈ ztb := List.mem_filter.mpr ⟨List.mem_append_right _ (List.mem_of_getElem? (i := 1363) rfl), rfl⟩
set_option maxRecDepth 100000 in
theorem wy_X10_isFull : mX10_isFull.1.cls ≠ "java/lang/invoke/MethodHandle" ∧ mX10_isFull.1.cls ≠ "java/lang/invoke/VarHandle" ∧ (parseMethodDescriptor mX10_isFull.1.desc).map (fun d => d.parameters.length) = some 1 := by decide +kernel
abbrev mX10_fresh : zM := (yX10_fresh, cX10_fresh, 5, some .int)
set_option maxRecDepth 100000 in
theorem wc_X10_fresh : Cond.code mX10_fresh.1 mX10_fresh.2.1 mX10_fresh.2.2.1 mX10_fresh.2.2.2 ∈ ztb := List.mem_filter.mpr ⟨List.mem_append_right _ (List.mem_of_getElem? (i := 1367) rfl), rfl⟩
set_option maxRecDepth 100000 in
theorem wy_X10_fresh : mX10_fresh.1.cls ≠ "java/lang/invoke/MethodHandle" ∧ mX10_fresh.1.cls ≠ "java/lang/invoke/VarHandle" ∧ (parseMethodDescriptor mX10_fresh.1.desc).map (fun d => d.parameters.length) = some 3 := by decide +kernel
abbrev mX10_found : zM := (yX10_found, cX10_found, 5, some .int)
set_option maxRecDepth 100000 in
theorem wc_X10_found : Cond.code mX10_found.1 mX10_found.2.1 mX10_found.2.2.1 mX10_found.2.2.2 ∈ ztb := List.mem_filter.mpr ⟨List.mem_append_right _ (List.mem_of_getElem? (i := 1370) rfl), rfl⟩
set_option maxRecDepth 100000 in
theorem wy_X10_found : mX10_found.1.cls ≠ "java/lang/invoke/MethodHandle" ∧ mX10_found.1.cls ≠ "java/lang/invoke/VarHandle" ∧ (parseMethodDescriptor mX10_found.1.desc).map (fun d => d.parameters.length) = some 4 := by decide +kernel
abbrev mX10_ringLine : zM := (yX10_ringLine, cX10_ringLine, 4, none)
set_option maxRecDepth 100000 in
theorem wc_X10_ringLine : Cond.code mX10_ringLine.1 mX10_ringLine.2.1 mX10_ringLine.2.2.1 mX10_ringLine.2.2.2 ∈ ztb := List.mem_filter.mpr ⟨List.mem_append_right _ (List.mem_of_getElem? (i := 1374) rfl), rfl⟩
set_option maxRecDepth 100000 in
theorem wy_X10_ringLine : mX10_ringLine.1.cls ≠ "java/lang/invoke/MethodHandle" ∧ mX10_ringLine.1.cls ≠ "java/lang/invoke/VarHandle" ∧ (parseMethodDescriptor mX10_ringLine.1.desc).map (fun d => d.parameters.length) = some 1 := by decide +kernel
abbrev mX10_toldAhead : zM := (yX10_toldAhead, cX10_toldAhead, 5, some .int)
set_option maxRecDepth 100000 in
theorem wc_X10_toldAhead : Cond.code mX10_toldAhead.1 mX10_toldAhead.2.1 mX10_toldAhead.2.2.1 mX10_toldAhead.2.2.2 ∈ ztb := List.mem_filter.mpr ⟨List.mem_append_right _ (List.mem_of_getElem? (i := 1378) rfl), rfl⟩
set_option maxRecDepth 100000 in
theorem wy_X10_toldAhead : mX10_toldAhead.1.cls ≠ "java/lang/invoke/MethodHandle" ∧ mX10_toldAhead.1.cls ≠ "java/lang/invoke/VarHandle" ∧ (parseMethodDescriptor mX10_toldAhead.1.desc).map (fun d => d.parameters.length) = some 3 := by decide +kernel
abbrev mX10_isWord : zM := (yX10_isWord, cX10_isWord, 2, some .boolean)
set_option maxRecDepth 100000 in
theorem wc_X10_isWord : Cond.code mX10_isWord.1 mX10_isWord.2.1 mX10_isWord.2.2.1 mX10_isWord.2.2.2 ∈ ztb := List.mem_filter.mpr ⟨List.mem_append_right _ (List.mem_of_getElem? (i := 1382) rfl), rfl⟩
set_option maxRecDepth 100000 in
theorem wy_X10_isWord : mX10_isWord.1.cls ≠ "java/lang/invoke/MethodHandle" ∧ mX10_isWord.1.cls ≠ "java/lang/invoke/VarHandle" ∧ (parseMethodDescriptor mX10_isWord.1.desc).map (fun d => d.parameters.length) = some 1 := by decide +kernel
abbrev mX10_goOn : zM := (yX10_goOn, cX10_goOn, 1, none)
set_option maxRecDepth 100000 in
theorem wc_X10_goOn : Cond.code mX10_goOn.1 mX10_goOn.2.1 mX10_goOn.2.2.1 mX10_goOn.2.2.2 ∈ ztb := List.mem_filter.mpr ⟨List.mem_append_right _ (List.mem_of_getElem? (i := 1386) rfl), rfl⟩
set_option maxRecDepth 100000 in
theorem wy_X10_goOn : mX10_goOn.1.cls ≠ "java/lang/invoke/MethodHandle" ∧ mX10_goOn.1.cls ≠ "java/lang/invoke/VarHandle" ∧ (parseMethodDescriptor mX10_goOn.1.desc).map (fun d => d.parameters.length) = some 0 := by decide +kernel
abbrev mX10_signed : zM := (yX10_signed, cX10_signed, 4, some .int)
set_option maxRecDepth 100000 in
theorem wc_X10_signed : Cond.code mX10_signed.1 mX10_signed.2.1 mX10_signed.2.2.1 mX10_signed.2.2.2 ∈ ztb := List.mem_filter.mpr ⟨List.mem_append_right _ (List.mem_of_getElem? (i := 1391) rfl), rfl⟩
set_option maxRecDepth 100000 in
theorem wy_X10_signed : mX10_signed.1.cls ≠ "java/lang/invoke/MethodHandle" ∧ mX10_signed.1.cls ≠ "java/lang/invoke/VarHandle" ∧ (parseMethodDescriptor mX10_signed.1.desc).map (fun d => d.parameters.length) = some 1 := by decide +kernel
abbrev mX10_isSign : zM := (yX10_isSign, cX10_isSign, 2, some .boolean)
set_option maxRecDepth 100000 in
theorem wc_X10_isSign : Cond.code mX10_isSign.1 mX10_isSign.2.1 mX10_isSign.2.2.1 mX10_isSign.2.2.2 ∈ ztb := List.mem_filter.mpr ⟨List.mem_append_right _ (List.mem_of_getElem? (i := 1395) rfl), rfl⟩
set_option maxRecDepth 100000 in
theorem wy_X10_isSign : mX10_isSign.1.cls ≠ "java/lang/invoke/MethodHandle" ∧ mX10_isSign.1.cls ≠ "java/lang/invoke/VarHandle" ∧ (parseMethodDescriptor mX10_isSign.1.desc).map (fun d => d.parameters.length) = some 1 := by decide +kernel
abbrev mX10_numeral : zM := (yX10_numeral, cX10_numeral, 4, some .int)
set_option maxRecDepth 100000 in
theorem wc_X10_numeral : Cond.code mX10_numeral.1 mX10_numeral.2.1 mX10_numeral.2.2.1 mX10_numeral.2.2.2 ∈ ztb := List.mem_filter.mpr ⟨List.mem_append_right _ (List.mem_of_getElem? (i := 1399) rfl), rfl⟩
set_option maxRecDepth 100000 in
theorem wy_X10_numeral : mX10_numeral.1.cls ≠ "java/lang/invoke/MethodHandle" ∧ mX10_numeral.1.cls ≠ "java/lang/invoke/VarHandle" ∧ (parseMethodDescriptor mX10_numeral.1.desc).map (fun d => d.parameters.length) = some 2 := by decide +kernel
abbrev mX10_wayLine : zM := (yX10_wayLine, cX10_wayLine, 3, none)
set_option maxRecDepth 100000 in
theorem wc_X10_wayLine : Cond.code mX10_wayLine.1 mX10_wayLine.2.1 mX10_wayLine.2.2.1 mX10_wayLine.2.2.2 ∈ ztb := List.mem_filter.mpr ⟨List.mem_append_right _ (List.mem_of_getElem? (i := 1403) rfl), rfl⟩
set_option maxRecDepth 100000 in
theorem wy_X10_wayLine : mX10_wayLine.1.cls ≠ "java/lang/invoke/MethodHandle" ∧ mX10_wayLine.1.cls ≠ "java/lang/invoke/VarHandle" ∧ (parseMethodDescriptor mX10_wayLine.1.desc).map (fun d => d.parameters.length) = some 1 := by decide +kernel
abbrev mX10_expression : zM := (yX10_expression, cX10_expression, 1, none)
set_option maxRecDepth 100000 in
theorem wc_X10_expression : Cond.code mX10_expression.1 mX10_expression.2.1 mX10_expression.2.2.1 mX10_expression.2.2.2 ∈ ztb := List.mem_filter.mpr ⟨List.mem_append_right _ (List.mem_of_getElem? (i := 1407) rfl), rfl⟩
set_option maxRecDepth 100000 in
theorem wy_X10_expression : mX10_expression.1.cls ≠ "java/lang/invoke/MethodHandle" ∧ mX10_expression.1.cls ≠ "java/lang/invoke/VarHandle" ∧ (parseMethodDescriptor mX10_expression.1.desc).map (fun d => d.parameters.length) = some 0 := by decide +kernel
abbrev mX10_conjunction : zM := (yX10_conjunction, cX10_conjunction, 1, none)
set_option maxRecDepth 100000 in
theorem wc_X10_conjunction : Cond.code mX10_conjunction.1 mX10_conjunction.2.1 mX10_conjunction.2.2.1 mX10_conjunction.2.2.2 ∈ ztb := List.mem_filter.mpr ⟨List.mem_append_right _ (List.mem_of_getElem? (i := 1411) rfl), rfl⟩
set_option maxRecDepth 100000 in
theorem wy_X10_conjunction : mX10_conjunction.1.cls ≠ "java/lang/invoke/MethodHandle" ∧ mX10_conjunction.1.cls ≠ "java/lang/invoke/VarHandle" ∧ (parseMethodDescriptor mX10_conjunction.1.desc).map (fun d => d.parameters.length) = some 0 := by decide +kernel
abbrev mX10_negation : zM := (yX10_negation, cX10_negation, 2, none)
set_option maxRecDepth 100000 in
theorem wc_X10_negation : Cond.code mX10_negation.1 mX10_negation.2.1 mX10_negation.2.2.1 mX10_negation.2.2.2 ∈ ztb := List.mem_filter.mpr ⟨List.mem_append_right _ (List.mem_of_getElem? (i := 1415) rfl), rfl⟩
set_option maxRecDepth 100000 in
theorem wy_X10_negation : mX10_negation.1.cls ≠ "java/lang/invoke/MethodHandle" ∧ mX10_negation.1.cls ≠ "java/lang/invoke/VarHandle" ∧ (parseMethodDescriptor mX10_negation.1.desc).map (fun d => d.parameters.length) = some 0 := by decide +kernel
abbrev mX10_knot : zM := (yX10_knot, cX10_knot, 1, none)
set_option maxRecDepth 100000 in
theorem wc_X10_knot : Cond.code mX10_knot.1 mX10_knot.2.1 mX10_knot.2.2.1 mX10_knot.2.2.2 ∈ ztb := List.mem_filter.mpr ⟨List.mem_append_right _ (List.mem_of_getElem? (i := 1419) rfl), rfl⟩
set_option maxRecDepth 100000 in
theorem wy_X10_knot : mX10_knot.1.cls ≠ "java/lang/invoke/MethodHandle" ∧ mX10_knot.1.cls ≠ "java/lang/invoke/VarHandle" ∧ (parseMethodDescriptor mX10_knot.1.desc).map (fun d => d.parameters.length) = some 0 := by decide +kernel
abbrev mX10_puts : zM := (yX10_puts, cX10_puts, 3, none)
set_option maxRecDepth 100000 in
theorem wc_X10_puts : Cond.code mX10_puts.1 mX10_puts.2.1 mX10_puts.2.2.1 mX10_puts.2.2.2 ∈ ztb := List.mem_filter.mpr ⟨List.mem_append_right _ (List.mem_of_getElem? (i := 1423) rfl), rfl⟩
set_option maxRecDepth 100000 in
theorem wy_X10_puts : mX10_puts.1.cls ≠ "java/lang/invoke/MethodHandle" ∧ mX10_puts.1.cls ≠ "java/lang/invoke/VarHandle" ∧ (parseMethodDescriptor mX10_puts.1.desc).map (fun d => d.parameters.length) = some 2 := by decide +kernel
abbrev mX10_sum : zM := (yX10_sum, cX10_sum, 2, none)
set_option maxRecDepth 100000 in
theorem wc_X10_sum : Cond.code mX10_sum.1 mX10_sum.2.1 mX10_sum.2.2.1 mX10_sum.2.2.2 ∈ ztb := List.mem_filter.mpr ⟨List.mem_append_right _ (List.mem_of_getElem? (i := 1427) rfl), rfl⟩
set_option maxRecDepth 100000 in
theorem wy_X10_sum : mX10_sum.1.cls ≠ "java/lang/invoke/MethodHandle" ∧ mX10_sum.1.cls ≠ "java/lang/invoke/VarHandle" ∧ (parseMethodDescriptor mX10_sum.1.desc).map (fun d => d.parameters.length) = some 0 := by decide +kernel
abbrev mX10_product : zM := (yX10_product, cX10_product, 2, none)
set_option maxRecDepth 100000 in
theorem wc_X10_product : Cond.code mX10_product.1 mX10_product.2.1 mX10_product.2.2.1 mX10_product.2.2.2 ∈ ztb := List.mem_filter.mpr ⟨List.mem_append_right _ (List.mem_of_getElem? (i := 1431) rfl), rfl⟩
set_option maxRecDepth 100000 in
theorem wy_X10_product : mX10_product.1.cls ≠ "java/lang/invoke/MethodHandle" ∧ mX10_product.1.cls ≠ "java/lang/invoke/VarHandle" ∧ (parseMethodDescriptor mX10_product.1.desc).map (fun d => d.parameters.length) = some 0 := by decide +kernel
abbrev mX10_primary : zM := (yX10_primary, cX10_primary, 2, none)
set_option maxRecDepth 100000 in
theorem wc_X10_primary : Cond.code mX10_primary.1 mX10_primary.2.1 mX10_primary.2.2.1 mX10_primary.2.2.2 ∈ ztb := List.mem_filter.mpr ⟨List.mem_append_right _ (List.mem_of_getElem? (i := 1435) rfl), rfl⟩
set_option maxRecDepth 100000 in
theorem wy_X10_primary : mX10_primary.1.cls ≠ "java/lang/invoke/MethodHandle" ∧ mX10_primary.1.cls ≠ "java/lang/invoke/VarHandle" ∧ (parseMethodDescriptor mX10_primary.1.desc).map (fun d => d.parameters.length) = some 0 := by decide +kernel
abbrev mX10_saidLine : zM := (yX10_saidLine, cX10_saidLine, 3, none)
set_option maxRecDepth 100000 in
theorem wc_X10_saidLine : Cond.code mX10_saidLine.1 mX10_saidLine.2.1 mX10_saidLine.2.2.1 mX10_saidLine.2.2.2 ∈ ztb := List.mem_filter.mpr ⟨List.mem_append_right _ (List.mem_of_getElem? (i := 1439) rfl), rfl⟩
set_option maxRecDepth 100000 in
theorem wy_X10_saidLine : mX10_saidLine.1.cls ≠ "java/lang/invoke/MethodHandle" ∧ mX10_saidLine.1.cls ≠ "java/lang/invoke/VarHandle" ∧ (parseMethodDescriptor mX10_saidLine.1.desc).map (fun d => d.parameters.length) = some 1 := by decide +kernel
abbrev mX10_lays : zM := (yX10_lays, cX10_lays, 2, none)
set_option maxRecDepth 100000 in
theorem wc_X10_lays : Cond.code mX10_lays.1 mX10_lays.2.1 mX10_lays.2.2.1 mX10_lays.2.2.2 ∈ ztb := List.mem_filter.mpr ⟨List.mem_append_right _ (List.mem_of_getElem? (i := 1443) rfl), rfl⟩
set_option maxRecDepth 100000 in
theorem wy_X10_lays : mX10_lays.1.cls ≠ "java/lang/invoke/MethodHandle" ∧ mX10_lays.1.cls ≠ "java/lang/invoke/VarHandle" ∧ (parseMethodDescriptor mX10_lays.1.desc).map (fun d => d.parameters.length) = some 0 := by decide +kernel
abbrev mX10_fault : zM := (yX10_fault, cX10_fault, 2, some .int)
set_option maxRecDepth 100000 in
theorem wc_X10_fault : Cond.code mX10_fault.1 mX10_fault.2.1 mX10_fault.2.2.1 mX10_fault.2.2.2 ∈ ztb := List.mem_filter.mpr ⟨List.mem_append_right _ (List.mem_of_getElem? (i := 1447) rfl), rfl⟩
set_option maxRecDepth 100000 in
theorem wy_X10_fault : mX10_fault.1.cls ≠ "java/lang/invoke/MethodHandle" ∧ mX10_fault.1.cls ≠ "java/lang/invoke/VarHandle" ∧ (parseMethodDescriptor mX10_fault.1.desc).map (fun d => d.parameters.length) = some 1 := by decide +kernel
abbrev mX10_named : zM := (yX10_named, cX10_named, 3, some .int)
set_option maxRecDepth 100000 in
theorem wc_X10_named : Cond.code mX10_named.1 mX10_named.2.1 mX10_named.2.2.1 mX10_named.2.2.2 ∈ ztb := List.mem_filter.mpr ⟨List.mem_append_right _ (List.mem_of_getElem? (i := 1451) rfl), rfl⟩
set_option maxRecDepth 100000 in
theorem wy_X10_named : mX10_named.1.cls ≠ "java/lang/invoke/MethodHandle" ∧ mX10_named.1.cls ≠ "java/lang/invoke/VarHandle" ∧ (parseMethodDescriptor mX10_named.1.desc).map (fun d => d.parameters.length) = some 2 := by decide +kernel
abbrev mX10_tape : zM := (yX10_tape, cX10_tape, 5, some .int)
set_option maxRecDepth 100000 in
theorem wc_X10_tape : Cond.code mX10_tape.1 mX10_tape.2.1 mX10_tape.2.2.1 mX10_tape.2.2.2 ∈ ztb := List.mem_filter.mpr ⟨List.mem_append_right _ (List.mem_of_getElem? (i := 1455) rfl), rfl⟩
set_option maxRecDepth 100000 in
theorem wy_X10_tape : mX10_tape.1.cls ≠ "java/lang/invoke/MethodHandle" ∧ mX10_tape.1.cls ≠ "java/lang/invoke/VarHandle" ∧ (parseMethodDescriptor mX10_tape.1.desc).map (fun d => d.parameters.length) = some 4 := by decide +kernel
abbrev mX10_isStone : zM := (yX10_isStone, cX10_isStone, 3, some .boolean)
set_option maxRecDepth 100000 in
theorem wc_X10_isStone : Cond.code mX10_isStone.1 mX10_isStone.2.1 mX10_isStone.2.2.1 mX10_isStone.2.2.2 ∈ ztb := List.mem_filter.mpr ⟨List.mem_append_right _ (List.mem_of_getElem? (i := 1459) rfl), rfl⟩
set_option maxRecDepth 100000 in
theorem wy_X10_isStone : mX10_isStone.1.cls ≠ "java/lang/invoke/MethodHandle" ∧ mX10_isStone.1.cls ≠ "java/lang/invoke/VarHandle" ∧ (parseMethodDescriptor mX10_isStone.1.desc).map (fun d => d.parameters.length) = some 2 := by decide +kernel
abbrev mX10_isPlace : zM := (yX10_isPlace, cX10_isPlace, 1, some .boolean)
set_option maxRecDepth 100000 in
theorem wc_X10_isPlace : Cond.code mX10_isPlace.1 mX10_isPlace.2.1 mX10_isPlace.2.2.1 mX10_isPlace.2.2.2 ∈ ztb := List.mem_filter.mpr ⟨List.mem_append_right _ (List.mem_of_getElem? (i := 1462) rfl), rfl⟩
set_option maxRecDepth 100000 in
theorem wy_X10_isPlace : mX10_isPlace.1.cls ≠ "java/lang/invoke/MethodHandle" ∧ mX10_isPlace.1.cls ≠ "java/lang/invoke/VarHandle" ∧ (parseMethodDescriptor mX10_isPlace.1.desc).map (fun d => d.parameters.length) = some 1 := by decide +kernel
abbrev mX10_noted : zM := (yX10_noted, cX10_noted, 5, some .int)
set_option maxRecDepth 100000 in
theorem wc_X10_noted : Cond.code mX10_noted.1 mX10_noted.2.1 mX10_noted.2.2.1 mX10_noted.2.2.2 ∈ ztb := List.mem_filter.mpr ⟨List.mem_append_right _ (List.mem_of_getElem? (i := 1466) rfl), rfl⟩
set_option maxRecDepth 100000 in
theorem wy_X10_noted : mX10_noted.1.cls ≠ "java/lang/invoke/MethodHandle" ∧ mX10_noted.1.cls ≠ "java/lang/invoke/VarHandle" ∧ (parseMethodDescriptor mX10_noted.1.desc).map (fun d => d.parameters.length) = some 4 := by decide +kernel
abbrev mX10_gone : zM := (yX10_gone, cX10_gone, 4, some .int)
set_option maxRecDepth 100000 in
theorem wc_X10_gone : Cond.code mX10_gone.1 mX10_gone.2.1 mX10_gone.2.2.1 mX10_gone.2.2.2 ∈ ztb := List.mem_filter.mpr ⟨List.mem_append_right _ (List.mem_of_getElem? (i := 1470) rfl), rfl⟩
set_option maxRecDepth 100000 in
theorem wy_X10_gone : mX10_gone.1.cls ≠ "java/lang/invoke/MethodHandle" ∧ mX10_gone.1.cls ≠ "java/lang/invoke/VarHandle" ∧ (parseMethodDescriptor mX10_gone.1.desc).map (fun d => d.parameters.length) = some 3 := by decide +kernel
abbrev mX10_strike : zM := (yX10_strike, cX10_strike, 2, some .int)
set_option maxRecDepth 100000 in
theorem wc_X10_strike : Cond.code mX10_strike.1 mX10_strike.2.1 mX10_strike.2.2.1 mX10_strike.2.2.2 ∈ ztb := List.mem_filter.mpr ⟨List.mem_append_right _ (List.mem_of_getElem? (i := 1474) rfl), rfl⟩
set_option maxRecDepth 100000 in
theorem wy_X10_strike : mX10_strike.1.cls ≠ "java/lang/invoke/MethodHandle" ∧ mX10_strike.1.cls ≠ "java/lang/invoke/VarHandle" ∧ (parseMethodDescriptor mX10_strike.1.desc).map (fun d => d.parameters.length) = some 1 := by decide +kernel
abbrev mX10_known : zM := (yX10_known, cX10_known, 2, some .boolean)
set_option maxRecDepth 100000 in
theorem wc_X10_known : Cond.code mX10_known.1 mX10_known.2.1 mX10_known.2.2.1 mX10_known.2.2.2 ∈ ztb := List.mem_filter.mpr ⟨List.mem_append_right _ (List.mem_of_getElem? (i := 1478) rfl), rfl⟩
set_option maxRecDepth 100000 in
theorem wy_X10_known : mX10_known.1.cls ≠ "java/lang/invoke/MethodHandle" ∧ mX10_known.1.cls ≠ "java/lang/invoke/VarHandle" ∧ (parseMethodDescriptor mX10_known.1.desc).map (fun d => d.parameters.length) = some 1 := by decide +kernel
abbrev mX10_mode : zM := (yX10_mode, cX10_mode, 3, some .boolean)
set_option maxRecDepth 100000 in
theorem wc_X10_mode : Cond.code mX10_mode.1 mX10_mode.2.1 mX10_mode.2.2.1 mX10_mode.2.2.2 ∈ ztb := List.mem_filter.mpr ⟨List.mem_append_right _ (List.mem_of_getElem? (i := 1482) rfl), rfl⟩
set_option maxRecDepth 100000 in
theorem wy_X10_mode : mX10_mode.1.cls ≠ "java/lang/invoke/MethodHandle" ∧ mX10_mode.1.cls ≠ "java/lang/invoke/VarHandle" ∧ (parseMethodDescriptor mX10_mode.1.desc).map (fun d => d.parameters.length) = some 2 := by decide +kernel
abbrev mX10_look : zM := (yX10_look, cX10_look, 5, some .int)
set_option maxRecDepth 100000 in
theorem wc_X10_look : Cond.code mX10_look.1 mX10_look.2.1 mX10_look.2.2.1 mX10_look.2.2.2 ∈ ztb := List.mem_filter.mpr ⟨List.mem_append_right _ (List.mem_of_getElem? (i := 1486) rfl), rfl⟩
set_option maxRecDepth 100000 in
theorem wy_X10_look : mX10_look.1.cls ≠ "java/lang/invoke/MethodHandle" ∧ mX10_look.1.cls ≠ "java/lang/invoke/VarHandle" ∧ (parseMethodDescriptor mX10_look.1.desc).map (fun d => d.parameters.length) = some 3 := by decide +kernel
abbrev mX10_knownNotes : zM := (yX10_knownNotes, cX10_knownNotes, 1, some .int)
set_option maxRecDepth 100000 in
theorem wc_X10_knownNotes : Cond.code mX10_knownNotes.1 mX10_knownNotes.2.1 mX10_knownNotes.2.2.1 mX10_knownNotes.2.2.2 ∈ ztb := List.mem_filter.mpr ⟨List.mem_append_right _ (List.mem_of_getElem? (i := 1490) rfl), rfl⟩
set_option maxRecDepth 100000 in
theorem wy_X10_knownNotes : mX10_knownNotes.1.cls ≠ "java/lang/invoke/MethodHandle" ∧ mX10_knownNotes.1.cls ≠ "java/lang/invoke/VarHandle" ∧ (parseMethodDescriptor mX10_knownNotes.1.desc).map (fun d => d.parameters.length) = some 0 := by decide +kernel
abbrev mX10_stones : zM := (yX10_stones, cX10_stones, 4, none)
set_option maxRecDepth 100000 in
theorem wc_X10_stones : Cond.code mX10_stones.1 mX10_stones.2.1 mX10_stones.2.2.1 mX10_stones.2.2.2 ∈ ztb := List.mem_filter.mpr ⟨List.mem_append_right _ (List.mem_of_getElem? (i := 1494) rfl), rfl⟩
set_option maxRecDepth 100000 in
theorem wy_X10_stones : mX10_stones.1.cls ≠ "java/lang/invoke/MethodHandle" ∧ mX10_stones.1.cls ≠ "java/lang/invoke/VarHandle" ∧ (parseMethodDescriptor mX10_stones.1.desc).map (fun d => d.parameters.length) = some 1 := by decide +kernel
abbrev mX10_about : zM := (yX10_about, cX10_about, 3, some .int)
set_option maxRecDepth 100000 in
theorem wc_X10_about : Cond.code mX10_about.1 mX10_about.2.1 mX10_about.2.2.1 mX10_about.2.2.2 ∈ ztb := List.mem_filter.mpr ⟨List.mem_append_right _ (List.mem_of_getElem? (i := 1498) rfl), rfl⟩
set_option maxRecDepth 100000 in
theorem wy_X10_about : mX10_about.1.cls ≠ "java/lang/invoke/MethodHandle" ∧ mX10_about.1.cls ≠ "java/lang/invoke/VarHandle" ∧ (parseMethodDescriptor mX10_about.1.desc).map (fun d => d.parameters.length) = some 2 := by decide +kernel
abbrev mX10_stands : zM := (yX10_stands, cX10_stands, 4, none)
set_option maxRecDepth 100000 in
theorem wc_X10_stands : Cond.code mX10_stands.1 mX10_stands.2.1 mX10_stands.2.2.1 mX10_stands.2.2.2 ∈ ztb := List.mem_filter.mpr ⟨List.mem_append_right _ (List.mem_of_getElem? (i := 1502) rfl), rfl⟩
set_option maxRecDepth 100000 in
theorem wy_X10_stands : mX10_stands.1.cls ≠ "java/lang/invoke/MethodHandle" ∧ mX10_stands.1.cls ≠ "java/lang/invoke/VarHandle" ∧ (parseMethodDescriptor mX10_stands.1.desc).map (fun d => d.parameters.length) = some 1 := by decide +kernel
abbrev mX10_fit : zM := (yX10_fit, cX10_fit, 5, some .int)
set_option maxRecDepth 100000 in
theorem wc_X10_fit : Cond.code mX10_fit.1 mX10_fit.2.1 mX10_fit.2.2.1 mX10_fit.2.2.2 ∈ ztb := List.mem_filter.mpr ⟨List.mem_append_right _ (List.mem_of_getElem? (i := 1506) rfl), rfl⟩
set_option maxRecDepth 100000 in
theorem wy_X10_fit : mX10_fit.1.cls ≠ "java/lang/invoke/MethodHandle" ∧ mX10_fit.1.cls ≠ "java/lang/invoke/VarHandle" ∧ (parseMethodDescriptor mX10_fit.1.desc).map (fun d => d.parameters.length) = some 4 := by decide +kernel
abbrev mX10_fits : zM := (yX10_fits, cX10_fits, 9, none)
set_option maxRecDepth 100000 in
theorem wc_X10_fits : Cond.code mX10_fits.1 mX10_fits.2.1 mX10_fits.2.2.1 mX10_fits.2.2.2 ∈ ztb := List.mem_filter.mpr ⟨List.mem_append_right _ (List.mem_of_getElem? (i := 1511) rfl), rfl⟩
set_option maxRecDepth 100000 in
theorem wy_X10_fits : mX10_fits.1.cls ≠ "java/lang/invoke/MethodHandle" ∧ mX10_fits.1.cls ≠ "java/lang/invoke/VarHandle" ∧ (parseMethodDescriptor mX10_fits.1.desc).map (fun d => d.parameters.length) = some 2 := by decide +kernel
abbrev mX10_tries : zM := (yX10_tries, cX10_tries, 9, none)
set_option maxRecDepth 100000 in
theorem wc_X10_tries : Cond.code mX10_tries.1 mX10_tries.2.1 mX10_tries.2.2.1 mX10_tries.2.2.2 ∈ ztb := List.mem_filter.mpr ⟨List.mem_append_right _ (List.mem_of_getElem? (i := 1516) rfl), rfl⟩
set_option maxRecDepth 100000 in
theorem wy_X10_tries : mX10_tries.1.cls ≠ "java/lang/invoke/MethodHandle" ∧ mX10_tries.1.cls ≠ "java/lang/invoke/VarHandle" ∧ (parseMethodDescriptor mX10_tries.1.desc).map (fun d => d.parameters.length) = some 4 := by decide +kernel
abbrev mX10_awayFrom : zM := (yX10_awayFrom, cX10_awayFrom, 8, some .int)
set_option maxRecDepth 100000 in
theorem wc_X10_awayFrom : Cond.code mX10_awayFrom.1 mX10_awayFrom.2.1 mX10_awayFrom.2.2.1 mX10_awayFrom.2.2.2 ∈ ztb := List.mem_filter.mpr ⟨List.mem_append_right _ (List.mem_of_getElem? (i := 1520) rfl), rfl⟩
set_option maxRecDepth 100000 in
theorem wy_X10_awayFrom : mX10_awayFrom.1.cls ≠ "java/lang/invoke/MethodHandle" ∧ mX10_awayFrom.1.cls ≠ "java/lang/invoke/VarHandle" ∧ (parseMethodDescriptor mX10_awayFrom.1.desc).map (fun d => d.parameters.length) = some 5 := by decide +kernel
abbrev mX10_stretched : zM := (yX10_stretched, cX10_stretched, 2, some .int)
set_option maxRecDepth 100000 in
theorem wc_X10_stretched : Cond.code mX10_stretched.1 mX10_stretched.2.1 mX10_stretched.2.2.1 mX10_stretched.2.2.2 ∈ ztb := List.mem_filter.mpr ⟨List.mem_append_right _ (List.mem_of_getElem? (i := 1523) rfl), rfl⟩
set_option maxRecDepth 100000 in
theorem wy_X10_stretched : mX10_stretched.1.cls ≠ "java/lang/invoke/MethodHandle" ∧ mX10_stretched.1.cls ≠ "java/lang/invoke/VarHandle" ∧ (parseMethodDescriptor mX10_stretched.1.desc).map (fun d => d.parameters.length) = some 2 := by decide +kernel
abbrev mX10_root : zM := (yX10_root, cX10_root, 8, some .int)
set_option maxRecDepth 100000 in
theorem wc_X10_root : Cond.code mX10_root.1 mX10_root.2.1 mX10_root.2.2.1 mX10_root.2.2.2 ∈ ztb := List.mem_filter.mpr ⟨List.mem_append_right _ (List.mem_of_getElem? (i := 1527) rfl), rfl⟩
set_option maxRecDepth 100000 in
theorem wy_X10_root : mX10_root.1.cls ≠ "java/lang/invoke/MethodHandle" ∧ mX10_root.1.cls ≠ "java/lang/invoke/VarHandle" ∧ (parseMethodDescriptor mX10_root.1.desc).map (fun d => d.parameters.length) = some 1 := by decide +kernel
abbrev mJ9_abs_0f7a4 : zM := (yJ9_abs_0f7a4, cJ9_abs_0f7a4, 1, some .int)
set_option maxRecDepth 100000 in
theorem wc_J9_abs_0f7a4 : Cond.code mJ9_abs_0f7a4.1 mJ9_abs_0f7a4.2.1 mJ9_abs_0f7a4.2.2.1 mJ9_abs_0f7a4.2.2.2 ∈ ztb := List.mem_filter.mpr ⟨List.mem_append_right _ (List.mem_of_getElem? (i := 1532) rfl), rfl⟩
set_option maxRecDepth 100000 in
theorem wy_J9_abs_0f7a4 : mJ9_abs_0f7a4.1.cls ≠ "java/lang/invoke/MethodHandle" ∧ mJ9_abs_0f7a4.1.cls ≠ "java/lang/invoke/VarHandle" ∧ (parseMethodDescriptor mJ9_abs_0f7a4.1.desc).map (fun d => d.parameters.length) = some 1 := by decide +kernel
abbrev mX10_best : zM := (yX10_best, cX10_best, 3, some .int)
set_option maxRecDepth 100000 in
theorem wc_X10_best : Cond.code mX10_best.1 mX10_best.2.1 mX10_best.2.2.1 mX10_best.2.2.2 ∈ ztb := List.mem_filter.mpr ⟨List.mem_append_right _ (List.mem_of_getElem? (i := 1536) rfl), rfl⟩
set_option maxRecDepth 100000 in
theorem wy_X10_best : mX10_best.1.cls ≠ "java/lang/invoke/MethodHandle" ∧ mX10_best.1.cls ≠ "java/lang/invoke/VarHandle" ∧ (parseMethodDescriptor mX10_best.1.desc).map (fun d => d.parameters.length) = some 2 := by decide +kernel
abbrev mX10_isRing : zM := (yX10_isRing, cX10_isRing, 2, some .boolean)
set_option maxRecDepth 100000 in
theorem wc_X10_isRing : Cond.code mX10_isRing.1 mX10_isRing.2.1 mX10_isRing.2.2.1 mX10_isRing.2.2.2 ∈ ztb := List.mem_filter.mpr ⟨List.mem_append_right _ (List.mem_of_getElem? (i := 1540) rfl), rfl⟩
set_option maxRecDepth 100000 in
theorem wy_X10_isRing : mX10_isRing.1.cls ≠ "java/lang/invoke/MethodHandle" ∧ mX10_isRing.1.cls ≠ "java/lang/invoke/VarHandle" ∧ (parseMethodDescriptor mX10_isRing.1.desc).map (fun d => d.parameters.length) = some 1 := by decide +kernel
abbrev mX10_laid : zM := (yX10_laid, cX10_laid, 1, none)
set_option maxRecDepth 100000 in
theorem wc_X10_laid : Cond.code mX10_laid.1 mX10_laid.2.1 mX10_laid.2.2.1 mX10_laid.2.2.2 ∈ ztb := List.mem_filter.mpr ⟨List.mem_append_right _ (List.mem_of_getElem? (i := 1544) rfl), rfl⟩
set_option maxRecDepth 100000 in
theorem wy_X10_laid : mX10_laid.1.cls ≠ "java/lang/invoke/MethodHandle" ∧ mX10_laid.1.cls ≠ "java/lang/invoke/VarHandle" ∧ (parseMethodDescriptor mX10_laid.1.desc).map (fun d => d.parameters.length) = some 0 := by decide +kernel
abbrev mX10_shapes : zM := (yX10_shapes, cX10_shapes, 4, none)
set_option maxRecDepth 100000 in
theorem wc_X10_shapes : Cond.code mX10_shapes.1 mX10_shapes.2.1 mX10_shapes.2.2.1 mX10_shapes.2.2.2 ∈ ztb := List.mem_filter.mpr ⟨List.mem_append_right _ (List.mem_of_getElem? (i := 1548) rfl), rfl⟩
set_option maxRecDepth 100000 in
theorem wy_X10_shapes : mX10_shapes.1.cls ≠ "java/lang/invoke/MethodHandle" ∧ mX10_shapes.1.cls ≠ "java/lang/invoke/VarHandle" ∧ (parseMethodDescriptor mX10_shapes.1.desc).map (fun d => d.parameters.length) = some 1 := by decide +kernel
abbrev mX10_hasFit : zM := (yX10_hasFit, cX10_hasFit, 2, some .boolean)
set_option maxRecDepth 100000 in
theorem wc_X10_hasFit : Cond.code mX10_hasFit.1 mX10_hasFit.2.1 mX10_hasFit.2.2.1 mX10_hasFit.2.2.2 ∈ ztb := List.mem_filter.mpr ⟨List.mem_append_right _ (List.mem_of_getElem? (i := 1552) rfl), rfl⟩
set_option maxRecDepth 100000 in
theorem wy_X10_hasFit : mX10_hasFit.1.cls ≠ "java/lang/invoke/MethodHandle" ∧ mX10_hasFit.1.cls ≠ "java/lang/invoke/VarHandle" ∧ (parseMethodDescriptor mX10_hasFit.1.desc).map (fun d => d.parameters.length) = some 1 := by decide +kernel
abbrev mX10_sizeOf : zM := (yX10_sizeOf, cX10_sizeOf, 2, some .int)
set_option maxRecDepth 100000 in
theorem wc_X10_sizeOf : Cond.code mX10_sizeOf.1 mX10_sizeOf.2.1 mX10_sizeOf.2.2.1 mX10_sizeOf.2.2.2 ∈ ztb := List.mem_filter.mpr ⟨List.mem_append_right _ (List.mem_of_getElem? (i := 1556) rfl), rfl⟩
set_option maxRecDepth 100000 in
theorem wy_X10_sizeOf : mX10_sizeOf.1.cls ≠ "java/lang/invoke/MethodHandle" ∧ mX10_sizeOf.1.cls ≠ "java/lang/invoke/VarHandle" ∧ (parseMethodDescriptor mX10_sizeOf.1.desc).map (fun d => d.parameters.length) = some 1 := by decide +kernel
abbrev mX10_well : zM := (yX10_well, cX10_well, 4, some .int)
set_option maxRecDepth 100000 in
theorem wc_X10_well : Cond.code mX10_well.1 mX10_well.2.1 mX10_well.2.2.1 mX10_well.2.2.2 ∈ ztb := List.mem_filter.mpr ⟨List.mem_append_right _ (List.mem_of_getElem? (i := 1560) rfl), rfl⟩
set_option maxRecDepth 100000 in
theorem wy_X10_well : mX10_well.1.cls ≠ "java/lang/invoke/MethodHandle" ∧ mX10_well.1.cls ≠ "java/lang/invoke/VarHandle" ∧ (parseMethodDescriptor mX10_well.1.desc).map (fun d => d.parameters.length) = some 1 := by decide +kernel
abbrev mX10_isWell : zM := (yX10_isWell, cX10_isWell, 3, some .boolean)
set_option maxRecDepth 100000 in
theorem wc_X10_isWell : Cond.code mX10_isWell.1 mX10_isWell.2.1 mX10_isWell.2.2.1 mX10_isWell.2.2.2 ∈ ztb := List.mem_filter.mpr ⟨List.mem_append_right _ (List.mem_of_getElem? (i := 1564) rfl), rfl⟩
set_option maxRecDepth 100000 in
theorem wy_X10_isWell : mX10_isWell.1.cls ≠ "java/lang/invoke/MethodHandle" ∧ mX10_isWell.1.cls ≠ "java/lang/invoke/VarHandle" ∧ (parseMethodDescriptor mX10_isWell.1.desc).map (fun d => d.parameters.length) = some 2 := by decide +kernel
abbrev mX10_span : zM := (yX10_span, cX10_span, 3, some .int)
set_option maxRecDepth 100000 in
theorem wc_X10_span : Cond.code mX10_span.1 mX10_span.2.1 mX10_span.2.2.1 mX10_span.2.2.2 ∈ ztb := List.mem_filter.mpr ⟨List.mem_append_right _ (List.mem_of_getElem? (i := 1568) rfl), rfl⟩
set_option maxRecDepth 100000 in
theorem wy_X10_span : mX10_span.1.cls ≠ "java/lang/invoke/MethodHandle" ∧ mX10_span.1.cls ≠ "java/lang/invoke/VarHandle" ∧ (parseMethodDescriptor mX10_span.1.desc).map (fun d => d.parameters.length) = some 2 := by decide +kernel
abbrev mX10_spanOf : zM := (yX10_spanOf, cX10_spanOf, 5, some .int)
set_option maxRecDepth 100000 in
theorem wc_X10_spanOf : Cond.code mX10_spanOf.1 mX10_spanOf.2.1 mX10_spanOf.2.2.1 mX10_spanOf.2.2.2 ∈ ztb := List.mem_filter.mpr ⟨List.mem_append_right _ (List.mem_of_getElem? (i := 1572) rfl), rfl⟩
set_option maxRecDepth 100000 in
theorem wy_X10_spanOf : mX10_spanOf.1.cls ≠ "java/lang/invoke/MethodHandle" ∧ mX10_spanOf.1.cls ≠ "java/lang/invoke/VarHandle" ∧ (parseMethodDescriptor mX10_spanOf.1.desc).map (fun d => d.parameters.length) = some 2 := by decide +kernel
abbrev mX10_whole : zM := (yX10_whole, cX10_whole, 4, some .int)
set_option maxRecDepth 100000 in
theorem wc_X10_whole : Cond.code mX10_whole.1 mX10_whole.2.1 mX10_whole.2.2.1 mX10_whole.2.2.2 ∈ ztb := List.mem_filter.mpr ⟨List.mem_append_right _ (List.mem_of_getElem? (i := 1577) rfl), rfl⟩
set_option maxRecDepth 100000 in
theorem wy_X10_whole : mX10_whole.1.cls ≠ "java/lang/invoke/MethodHandle" ∧ mX10_whole.1.cls ≠ "java/lang/invoke/VarHandle" ∧ (parseMethodDescriptor mX10_whole.1.desc).map (fun d => d.parameters.length) = some 3 := by decide +kernel
abbrev mX10_isUnit : zM := (yX10_isUnit, cX10_isUnit, 1, some .boolean)
set_option maxRecDepth 100000 in
theorem wc_X10_isUnit : Cond.code mX10_isUnit.1 mX10_isUnit.2.1 mX10_isUnit.2.2.1 mX10_isUnit.2.2.2 ∈ ztb := List.mem_filter.mpr ⟨List.mem_append_right _ (List.mem_of_getElem? (i := 1581) rfl), rfl⟩
set_option maxRecDepth 100000 in
theorem wy_X10_isUnit : mX10_isUnit.1.cls ≠ "java/lang/invoke/MethodHandle" ∧ mX10_isUnit.1.cls ≠ "java/lang/invoke/VarHandle" ∧ (parseMethodDescriptor mX10_isUnit.1.desc).map (fun d => d.parameters.length) = some 1 := by decide +kernel
abbrev mX10_part : zM := (yX10_part, cX10_part, 2, some .int)
set_option maxRecDepth 100000 in
theorem wc_X10_part : Cond.code mX10_part.1 mX10_part.2.1 mX10_part.2.2.1 mX10_part.2.2.2 ∈ ztb := List.mem_filter.mpr ⟨List.mem_append_right _ (List.mem_of_getElem? (i := 1585) rfl), rfl⟩
set_option maxRecDepth 100000 in
theorem wy_X10_part : mX10_part.1.cls ≠ "java/lang/invoke/MethodHandle" ∧ mX10_part.1.cls ≠ "java/lang/invoke/VarHandle" ∧ (parseMethodDescriptor mX10_part.1.desc).map (fun d => d.parameters.length) = some 1 := by decide +kernel
abbrev mX10_offBy : zM := (yX10_offBy, cX10_offBy, 2, some .int)
set_option maxRecDepth 100000 in
theorem wc_X10_offBy : Cond.code mX10_offBy.1 mX10_offBy.2.1 mX10_offBy.2.2.1 mX10_offBy.2.2.2 ∈ ztb := List.mem_filter.mpr ⟨List.mem_append_right _ (List.mem_of_getElem? (i := 1588) rfl), rfl⟩
set_option maxRecDepth 100000 in
theorem wy_X10_offBy : mX10_offBy.1.cls ≠ "java/lang/invoke/MethodHandle" ∧ mX10_offBy.1.cls ≠ "java/lang/invoke/VarHandle" ∧ (parseMethodDescriptor mX10_offBy.1.desc).map (fun d => d.parameters.length) = some 2 := by decide +kernel
abbrev mX10_timesBy : zM := (yX10_timesBy, cX10_timesBy, 2, some .int)
set_option maxRecDepth 100000 in
theorem wc_X10_timesBy : Cond.code mX10_timesBy.1 mX10_timesBy.2.1 mX10_timesBy.2.2.1 mX10_timesBy.2.2.2 ∈ ztb := List.mem_filter.mpr ⟨List.mem_append_right _ (List.mem_of_getElem? (i := 1591) rfl), rfl⟩
set_option maxRecDepth 100000 in
theorem wy_X10_timesBy : mX10_timesBy.1.cls ≠ "java/lang/invoke/MethodHandle" ∧ mX10_timesBy.1.cls ≠ "java/lang/invoke/VarHandle" ∧ (parseMethodDescriptor mX10_timesBy.1.desc).map (fun d => d.parameters.length) = some 2 := by decide +kernel
abbrev mX10_near : zM := (yX10_near, cX10_near, 4, some .int)
set_option maxRecDepth 100000 in
theorem wc_X10_near : Cond.code mX10_near.1 mX10_near.2.1 mX10_near.2.2.1 mX10_near.2.2.2 ∈ ztb := List.mem_filter.mpr ⟨List.mem_append_right _ (List.mem_of_getElem? (i := 1595) rfl), rfl⟩
set_option maxRecDepth 100000 in
theorem wy_X10_near : mX10_near.1.cls ≠ "java/lang/invoke/MethodHandle" ∧ mX10_near.1.cls ≠ "java/lang/invoke/VarHandle" ∧ (parseMethodDescriptor mX10_near.1.desc).map (fun d => d.parameters.length) = some 1 := by decide +kernel
abbrev mX10_isNear : zM := (yX10_isNear, cX10_isNear, 6, some .boolean)
set_option maxRecDepth 100000 in
theorem wc_X10_isNear : Cond.code mX10_isNear.1 mX10_isNear.2.1 mX10_isNear.2.2.1 mX10_isNear.2.2.2 ∈ ztb := List.mem_filter.mpr ⟨List.mem_append_right _ (List.mem_of_getElem? (i := 1599) rfl), rfl⟩
set_option maxRecDepth 100000 in
theorem wy_X10_isNear : mX10_isNear.1.cls ≠ "java/lang/invoke/MethodHandle" ∧ mX10_isNear.1.cls ≠ "java/lang/invoke/VarHandle" ∧ (parseMethodDescriptor mX10_isNear.1.desc).map (fun d => d.parameters.length) = some 3 := by decide +kernel
abbrev mX10_works : zM := (yX10_works, cX10_works, 8, some .boolean)
set_option maxRecDepth 100000 in
theorem wc_X10_works : Cond.code mX10_works.1 mX10_works.2.1 mX10_works.2.2.1 mX10_works.2.2.2 ∈ ztb := List.mem_filter.mpr ⟨List.mem_append_right _ (List.mem_of_getElem? (i := 1603) rfl), rfl⟩
set_option maxRecDepth 100000 in
theorem wy_X10_works : mX10_works.1.cls ≠ "java/lang/invoke/MethodHandle" ∧ mX10_works.1.cls ≠ "java/lang/invoke/VarHandle" ∧ (parseMethodDescriptor mX10_works.1.desc).map (fun d => d.parameters.length) = some 1 := by decide +kernel
abbrev mX10_is : zM := (yX10_is, cX10_is, 1, some .long)
set_option maxRecDepth 100000 in
theorem wc_X10_is : Cond.code mX10_is.1 mX10_is.2.1 mX10_is.2.2.1 mX10_is.2.2.2 ∈ ztb := List.mem_filter.mpr ⟨List.mem_append_right _ (List.mem_of_getElem? (i := 1606) rfl), rfl⟩
set_option maxRecDepth 100000 in
theorem wy_X10_is : mX10_is.1.cls ≠ "java/lang/invoke/MethodHandle" ∧ mX10_is.1.cls ≠ "java/lang/invoke/VarHandle" ∧ (parseMethodDescriptor mX10_is.1.desc).map (fun d => d.parameters.length) = some 1 := by decide +kernel
abbrev mX10_lumps : zM := (yX10_lumps, cX10_lumps, 2, some .int)
set_option maxRecDepth 100000 in
theorem wc_X10_lumps : Cond.code mX10_lumps.1 mX10_lumps.2.1 mX10_lumps.2.2.1 mX10_lumps.2.2.2 ∈ ztb := List.mem_filter.mpr ⟨List.mem_append_right _ (List.mem_of_getElem? (i := 1613) rfl), rfl⟩
set_option maxRecDepth 100000 in
theorem wy_X10_lumps : mX10_lumps.1.cls ≠ "java/lang/invoke/MethodHandle" ∧ mX10_lumps.1.cls ≠ "java/lang/invoke/VarHandle" ∧ (parseMethodDescriptor mX10_lumps.1.desc).map (fun d => d.parameters.length) = some 1 := by decide +kernel
abbrev mX10_reckon : zM := (yX10_reckon, cX10_reckon, 5, none)
set_option maxRecDepth 100000 in
theorem wc_X10_reckon : Cond.code mX10_reckon.1 mX10_reckon.2.1 mX10_reckon.2.2.1 mX10_reckon.2.2.2 ∈ ztb := List.mem_filter.mpr ⟨List.mem_append_right _ (List.mem_of_getElem? (i := 1617) rfl), rfl⟩
set_option maxRecDepth 100000 in
theorem wy_X10_reckon : mX10_reckon.1.cls ≠ "java/lang/invoke/MethodHandle" ∧ mX10_reckon.1.cls ≠ "java/lang/invoke/VarHandle" ∧ (parseMethodDescriptor mX10_reckon.1.desc).map (fun d => d.parameters.length) = some 2 := by decide +kernel
abbrev mX10_lumpsOf : zM := (yX10_lumpsOf, cX10_lumpsOf, 5, some .int)
set_option maxRecDepth 100000 in
theorem wc_X10_lumpsOf : Cond.code mX10_lumpsOf.1 mX10_lumpsOf.2.1 mX10_lumpsOf.2.2.1 mX10_lumpsOf.2.2.2 ∈ ztb := List.mem_filter.mpr ⟨List.mem_append_right _ (List.mem_of_getElem? (i := 1621) rfl), rfl⟩
set_option maxRecDepth 100000 in
theorem wy_X10_lumpsOf : mX10_lumpsOf.1.cls ≠ "java/lang/invoke/MethodHandle" ∧ mX10_lumpsOf.1.cls ≠ "java/lang/invoke/VarHandle" ∧ (parseMethodDescriptor mX10_lumpsOf.1.desc).map (fun d => d.parameters.length) = some 1 := by decide +kernel
abbrev mX10_unit : zM := (yX10_unit, cX10_unit, 6, some .int)
set_option maxRecDepth 100000 in
theorem wc_X10_unit : Cond.code mX10_unit.1 mX10_unit.2.1 mX10_unit.2.2.1 mX10_unit.2.2.2 ∈ ztb := List.mem_filter.mpr ⟨List.mem_append_right _ (List.mem_of_getElem? (i := 1625) rfl), rfl⟩
set_option maxRecDepth 100000 in
theorem wy_X10_unit : mX10_unit.1.cls ≠ "java/lang/invoke/MethodHandle" ∧ mX10_unit.1.cls ≠ "java/lang/invoke/VarHandle" ∧ (parseMethodDescriptor mX10_unit.1.desc).map (fun d => d.parameters.length) = some 4 := by decide +kernel
abbrev mX10_areUnits : zM := (yX10_areUnits, cX10_areUnits, 4, some .boolean)
set_option maxRecDepth 100000 in
theorem wc_X10_areUnits : Cond.code mX10_areUnits.1 mX10_areUnits.2.1 mX10_areUnits.2.2.1 mX10_areUnits.2.2.2 ∈ ztb := List.mem_filter.mpr ⟨List.mem_append_right _ (List.mem_of_getElem? (i := 1628) rfl), rfl⟩
set_option maxRecDepth 100000 in
theorem wy_X10_areUnits : mX10_areUnits.1.cls ≠ "java/lang/invoke/MethodHandle" ∧ mX10_areUnits.1.cls ≠ "java/lang/invoke/VarHandle" ∧ (parseMethodDescriptor mX10_areUnits.1.desc).map (fun d => d.parameters.length) = some 4 := by decide +kernel
abbrev mX10_bestOf : zM := (yX10_bestOf, cX10_bestOf, 8, some .int)
set_option maxRecDepth 100000 in
theorem wc_X10_bestOf : Cond.code mX10_bestOf.1 mX10_bestOf.2.1 mX10_bestOf.2.2.1 mX10_bestOf.2.2.2 ∈ ztb := List.mem_filter.mpr ⟨List.mem_append_right _ (List.mem_of_getElem? (i := 1632) rfl), rfl⟩
set_option maxRecDepth 100000 in
theorem wy_X10_bestOf : mX10_bestOf.1.cls ≠ "java/lang/invoke/MethodHandle" ∧ mX10_bestOf.1.cls ≠ "java/lang/invoke/VarHandle" ∧ (parseMethodDescriptor mX10_bestOf.1.desc).map (fun d => d.parameters.length) = some 3 := by decide +kernel
abbrev mX10_odds : zM := (yX10_odds, cX10_odds, 8, some .int)
set_option maxRecDepth 100000 in
theorem wc_X10_odds : Cond.code mX10_odds.1 mX10_odds.2.1 mX10_odds.2.2.1 mX10_odds.2.2.2 ∈ ztb := List.mem_filter.mpr ⟨List.mem_append_right _ (List.mem_of_getElem? (i := 1636) rfl), rfl⟩
set_option maxRecDepth 100000 in
theorem wy_X10_odds : mX10_odds.1.cls ≠ "java/lang/invoke/MethodHandle" ∧ mX10_odds.1.cls ≠ "java/lang/invoke/VarHandle" ∧ (parseMethodDescriptor mX10_odds.1.desc).map (fun d => d.parameters.length) = some 2 := by decide +kernel
abbrev mX10_reckonedMany : zM := (yX10_reckonedMany, cX10_reckonedMany, 3, some .int)
set_option maxRecDepth 100000 in
theorem wc_X10_reckonedMany : Cond.code mX10_reckonedMany.1 mX10_reckonedMany.2.1 mX10_reckonedMany.2.2.1 mX10_reckonedMany.2.2.2 ∈ ztb := List.mem_filter.mpr ⟨List.mem_append_right _ (List.mem_of_getElem? (i := 1640) rfl), rfl⟩
set_option maxRecDepth 100000 in
theorem wy_X10_reckonedMany : mX10_reckonedMany.1.cls ≠ "java/lang/invoke/MethodHandle" ∧ mX10_reckonedMany.1.cls ≠ "java/lang/invoke/VarHandle" ∧ (parseMethodDescriptor mX10_reckonedMany.1.desc).map (fun d => d.parameters.length) = some 0 := by decide +kernel
abbrev mX10_any : zM := (yX10_any, cX10_any, 11, some .int)
set_option maxRecDepth 100000 in
theorem wc_X10_any : Cond.code mX10_any.1 mX10_any.2.1 mX10_any.2.2.1 mX10_any.2.2.2 ∈ ztb := List.mem_filter.mpr ⟨List.mem_append_right _ (List.mem_of_getElem? (i := 1645) rfl), rfl⟩
set_option maxRecDepth 100000 in
theorem wy_X10_any : mX10_any.1.cls ≠ "java/lang/invoke/MethodHandle" ∧ mX10_any.1.cls ≠ "java/lang/invoke/VarHandle" ∧ (parseMethodDescriptor mX10_any.1.desc).map (fun d => d.parameters.length) = some 6 := by decide +kernel
abbrev mX10_chosen : zM := (yX10_chosen, cX10_chosen, 8, some .int)
set_option maxRecDepth 100000 in
theorem wc_X10_chosen : Cond.code mX10_chosen.1 mX10_chosen.2.1 mX10_chosen.2.2.1 mX10_chosen.2.2.2 ∈ ztb := List.mem_filter.mpr ⟨List.mem_append_right _ (List.mem_of_getElem? (i := 1651) rfl), rfl⟩
set_option maxRecDepth 100000 in
theorem wy_X10_chosen : mX10_chosen.1.cls ≠ "java/lang/invoke/MethodHandle" ∧ mX10_chosen.1.cls ≠ "java/lang/invoke/VarHandle" ∧ (parseMethodDescriptor mX10_chosen.1.desc).map (fun d => d.parameters.length) = some 2 := by decide +kernel
abbrev mX10_tells : zM := (yX10_tells, cX10_tells, 8, some .long)
set_option maxRecDepth 100000 in
theorem wc_X10_tells : Cond.code mX10_tells.1 mX10_tells.2.1 mX10_tells.2.2.1 mX10_tells.2.2.2 ∈ ztb := List.mem_filter.mpr ⟨List.mem_append_right _ (List.mem_of_getElem? (i := 1655) rfl), rfl⟩
set_option maxRecDepth 100000 in
theorem wy_X10_tells : mX10_tells.1.cls ≠ "java/lang/invoke/MethodHandle" ∧ mX10_tells.1.cls ≠ "java/lang/invoke/VarHandle" ∧ (parseMethodDescriptor mX10_tells.1.desc).map (fun d => d.parameters.length) = some 3 := by decide +kernel
abbrev mX10_toldBy : zM := (yX10_toldBy, cX10_toldBy, 6, some .long)
set_option maxRecDepth 100000 in
theorem wc_X10_toldBy : Cond.code mX10_toldBy.1 mX10_toldBy.2.1 mX10_toldBy.2.2.1 mX10_toldBy.2.2.2 ∈ ztb := List.mem_filter.mpr ⟨List.mem_append_right _ (List.mem_of_getElem? (i := 1660) rfl), rfl⟩
set_option maxRecDepth 100000 in
theorem wy_X10_toldBy : mX10_toldBy.1.cls ≠ "java/lang/invoke/MethodHandle" ∧ mX10_toldBy.1.cls ≠ "java/lang/invoke/VarHandle" ∧ (parseMethodDescriptor mX10_toldBy.1.desc).map (fun d => d.parameters.length) = some 2 := by decide +kernel
abbrev mX10_binOfRing : zM := (yX10_binOfRing, cX10_binOfRing, 4, some .int)
set_option maxRecDepth 100000 in
theorem wc_X10_binOfRing : Cond.code mX10_binOfRing.1 mX10_binOfRing.2.1 mX10_binOfRing.2.2.1 mX10_binOfRing.2.2.2 ∈ ztb := List.mem_filter.mpr ⟨List.mem_append_right _ (List.mem_of_getElem? (i := 1664) rfl), rfl⟩
set_option maxRecDepth 100000 in
theorem wy_X10_binOfRing : mX10_binOfRing.1.cls ≠ "java/lang/invoke/MethodHandle" ∧ mX10_binOfRing.1.cls ≠ "java/lang/invoke/VarHandle" ∧ (parseMethodDescriptor mX10_binOfRing.1.desc).map (fun d => d.parameters.length) = some 2 := by decide +kernel
abbrev mX10_common : zM := (yX10_common, cX10_common, 10, some .long)
set_option maxRecDepth 100000 in
theorem wc_X10_common : Cond.code mX10_common.1 mX10_common.2.1 mX10_common.2.2.1 mX10_common.2.2.2 ∈ ztb := List.mem_filter.mpr ⟨List.mem_append_right _ (List.mem_of_getElem? (i := 1667) rfl), rfl⟩
set_option maxRecDepth 100000 in
theorem wy_X10_common : mX10_common.1.cls ≠ "java/lang/invoke/MethodHandle" ∧ mX10_common.1.cls ≠ "java/lang/invoke/VarHandle" ∧ (parseMethodDescriptor mX10_common.1.desc).map (fun d => d.parameters.length) = some 2 := by decide +kernel
abbrev mX10_hump : zM := (yX10_hump, cX10_hump, 5, some .int)
set_option maxRecDepth 100000 in
theorem wc_X10_hump : Cond.code mX10_hump.1 mX10_hump.2.1 mX10_hump.2.2.1 mX10_hump.2.2.2 ∈ ztb := List.mem_filter.mpr ⟨List.mem_append_right _ (List.mem_of_getElem? (i := 1671) rfl), rfl⟩
set_option maxRecDepth 100000 in
theorem wy_X10_hump : mX10_hump.1.cls ≠ "java/lang/invoke/MethodHandle" ∧ mX10_hump.1.cls ≠ "java/lang/invoke/VarHandle" ∧ (parseMethodDescriptor mX10_hump.1.desc).map (fun d => d.parameters.length) = some 2 := by decide +kernel
abbrev mX10_wander : zM := (yX10_wander, cX10_wander, 7, some .int)
set_option maxRecDepth 100000 in
theorem wc_X10_wander : Cond.code mX10_wander.1 mX10_wander.2.1 mX10_wander.2.2.1 mX10_wander.2.2.2 ∈ ztb := List.mem_filter.mpr ⟨List.mem_append_right _ (List.mem_of_getElem? (i := 1675) rfl), rfl⟩
set_option maxRecDepth 100000 in
theorem wy_X10_wander : mX10_wander.1.cls ≠ "java/lang/invoke/MethodHandle" ∧ mX10_wander.1.cls ≠ "java/lang/invoke/VarHandle" ∧ (parseMethodDescriptor mX10_wander.1.desc).map (fun d => d.parameters.length) = some 2 := by decide +kernel
abbrev mX10_land : zM := (yX10_land, cX10_land, 5, some .int)
set_option maxRecDepth 100000 in
theorem wc_X10_land : Cond.code mX10_land.1 mX10_land.2.1 mX10_land.2.2.1 mX10_land.2.2.2 ∈ ztb := List.mem_filter.mpr ⟨List.mem_append_right _ (List.mem_of_getElem? (i := 1679) rfl), rfl⟩
set_option maxRecDepth 100000 in
theorem wy_X10_land : mX10_land.1.cls ≠ "java/lang/invoke/MethodHandle" ∧ mX10_land.1.cls ≠ "java/lang/invoke/VarHandle" ∧ (parseMethodDescriptor mX10_land.1.desc).map (fun d => d.parameters.length) = some 4 := by decide +kernel
abbrev mX10_landUnit : zM := (yX10_landUnit, cX10_landUnit, 5, some .int)
set_option maxRecDepth 100000 in
theorem wc_X10_landUnit : Cond.code mX10_landUnit.1 mX10_landUnit.2.1 mX10_landUnit.2.2.1 mX10_landUnit.2.2.2 ∈ ztb := List.mem_filter.mpr ⟨List.mem_append_right _ (List.mem_of_getElem? (i := 1683) rfl), rfl⟩
set_option maxRecDepth 100000 in
theorem wy_X10_landUnit : mX10_landUnit.1.cls ≠ "java/lang/invoke/MethodHandle" ∧ mX10_landUnit.1.cls ≠ "java/lang/invoke/VarHandle" ∧ (parseMethodDescriptor mX10_landUnit.1.desc).map (fun d => d.parameters.length) = some 4 := by decide +kernel
abbrev mX10_apart : zM := (yX10_apart, cX10_apart, 8, some .int)
set_option maxRecDepth 100000 in
theorem wc_X10_apart : Cond.code mX10_apart.1 mX10_apart.2.1 mX10_apart.2.2.1 mX10_apart.2.2.2 ∈ ztb := List.mem_filter.mpr ⟨List.mem_append_right _ (List.mem_of_getElem? (i := 1687) rfl), rfl⟩
set_option maxRecDepth 100000 in
theorem wy_X10_apart : mX10_apart.1.cls ≠ "java/lang/invoke/MethodHandle" ∧ mX10_apart.1.cls ≠ "java/lang/invoke/VarHandle" ∧ (parseMethodDescriptor mX10_apart.1.desc).map (fun d => d.parameters.length) = some 3 := by decide +kernel
abbrev mX10_sort : zM := (yX10_sort, cX10_sort, 4, some .int)
set_option maxRecDepth 100000 in
theorem wc_X10_sort : Cond.code mX10_sort.1 mX10_sort.2.1 mX10_sort.2.2.1 mX10_sort.2.2.2 ∈ ztb := List.mem_filter.mpr ⟨List.mem_append_right _ (List.mem_of_getElem? (i := 1691) rfl), rfl⟩
set_option maxRecDepth 100000 in
theorem wy_X10_sort : mX10_sort.1.cls ≠ "java/lang/invoke/MethodHandle" ∧ mX10_sort.1.cls ≠ "java/lang/invoke/VarHandle" ∧ (parseMethodDescriptor mX10_sort.1.desc).map (fun d => d.parameters.length) = some 3 := by decide +kernel
abbrev mX10_blind : zM := (yX10_blind, cX10_blind, 6, some .int)
set_option maxRecDepth 100000 in
theorem wc_X10_blind : Cond.code mX10_blind.1 mX10_blind.2.1 mX10_blind.2.2.1 mX10_blind.2.2.2 ∈ ztb := List.mem_filter.mpr ⟨List.mem_append_right _ (List.mem_of_getElem? (i := 1695) rfl), rfl⟩
set_option maxRecDepth 100000 in
theorem wy_X10_blind : mX10_blind.1.cls ≠ "java/lang/invoke/MethodHandle" ∧ mX10_blind.1.cls ≠ "java/lang/invoke/VarHandle" ∧ (parseMethodDescriptor mX10_blind.1.desc).map (fun d => d.parameters.length) = some 2 := by decide +kernel
abbrev mX10_lean : zM := (yX10_lean, cX10_lean, 9, some .int)
set_option maxRecDepth 100000 in
theorem wc_X10_lean : Cond.code mX10_lean.1 mX10_lean.2.1 mX10_lean.2.2.1 mX10_lean.2.2.2 ∈ ztb := List.mem_filter.mpr ⟨List.mem_append_right _ (List.mem_of_getElem? (i := 1699) rfl), rfl⟩
set_option maxRecDepth 100000 in
theorem wy_X10_lean : mX10_lean.1.cls ≠ "java/lang/invoke/MethodHandle" ∧ mX10_lean.1.cls ≠ "java/lang/invoke/VarHandle" ∧ (parseMethodDescriptor mX10_lean.1.desc).map (fun d => d.parameters.length) = some 2 := by decide +kernel
abbrev mX10_ahead : zM := (yX10_ahead, cX10_ahead, 10, some .int)
set_option maxRecDepth 100000 in
theorem wc_X10_ahead : Cond.code mX10_ahead.1 mX10_ahead.2.1 mX10_ahead.2.2.1 mX10_ahead.2.2.2 ∈ ztb := List.mem_filter.mpr ⟨List.mem_append_right _ (List.mem_of_getElem? (i := 1703) rfl), rfl⟩
set_option maxRecDepth 100000 in
theorem wy_X10_ahead : mX10_ahead.1.cls ≠ "java/lang/invoke/MethodHandle" ∧ mX10_ahead.1.cls ≠ "java/lang/invoke/VarHandle" ∧ (parseMethodDescriptor mX10_ahead.1.desc).map (fun d => d.parameters.length) = some 5 := by decide +kernel
abbrev mX10_next : zM := (yX10_next, cX10_next, 5, some .int)
set_option maxRecDepth 100000 in
theorem wc_X10_next : Cond.code mX10_next.1 mX10_next.2.1 mX10_next.2.2.1 mX10_next.2.2.2 ∈ ztb := List.mem_filter.mpr ⟨List.mem_append_right _ (List.mem_of_getElem? (i := 1707) rfl), rfl⟩
set_option maxRecDepth 100000 in
theorem wy_X10_next : mX10_next.1.cls ≠ "java/lang/invoke/MethodHandle" ∧ mX10_next.1.cls ≠ "java/lang/invoke/VarHandle" ∧ (parseMethodDescriptor mX10_next.1.desc).map (fun d => d.parameters.length) = some 0 := by decide +kernel
abbrev mX10_count : zM := (yX10_count, cX10_count, 2, some .int)
set_option maxRecDepth 100000 in
theorem wc_X10_count : Cond.code mX10_count.1 mX10_count.2.1 mX10_count.2.2.1 mX10_count.2.2.2 ∈ ztb := List.mem_filter.mpr ⟨List.mem_append_right _ (List.mem_of_getElem? (i := 1711) rfl), rfl⟩
set_option maxRecDepth 100000 in
theorem wy_X10_count : mX10_count.1.cls ≠ "java/lang/invoke/MethodHandle" ∧ mX10_count.1.cls ≠ "java/lang/invoke/VarHandle" ∧ (parseMethodDescriptor mX10_count.1.desc).map (fun d => d.parameters.length) = some 1 := by decide +kernel
set_option maxRecDepth 100000 in
theorem wf_X1_15 : Cond.fieldLink RX1 15 (TX1 0).1 (TX1 0).2.1 (TX1 0).2.2.1 ∈ ztb := List.mem_filter.mpr ⟨List.mem_append_right _ (List.mem_of_getElem? (i := 96) rfl), rfl⟩
theorem gf_X1_15 {E : zE} {M : zM} {d pc : Nat} {L st : List zV} {h : zH} {Q : List zV → zH → Prop} {c : Nat} {c2 : Nat} (hd : decode M.2.1 pc = .ok (.getfield 15, 3)) (hM : M.1.cls = RX1) (hs : zsh E c = (1, 7)) (hc : c < zN E) (h2 : c + 1 = c2) (k : zG E M d (pc + 3) L (zR c2 :: st) h Q) : zG E M d pc L (zR c :: st) h Q := z_get (k := 0) (v := zR c2) hd hs hc (by decide) rfl inz1 (by decide) (by rw [hM]; exact wf_X1_15) (by subst h2; rfl) (fun _ => zok_r) k
set_option maxRecDepth 100000 in
theorem wf_X1_19 : Cond.fieldLink RX1 19 (TX1 1).1 (TX1 1).2.1 (TX1 1).2.2.1 ∈ ztb := List.mem_filter.mpr ⟨List.mem_append_right _ (List.mem_of_getElem? (i := 97) rfl), rfl⟩
theorem gf_X1_19 {E : zE} {M : zM} {d pc : Nat} {L st : List zV} {h : zH} {Q : List zV → zH → Prop} {c : Nat} {c2 : Nat} (hd : decode M.2.1 pc = .ok (.getfield 19, 3)) (hM : M.1.cls = RX1) (hs : zsh E c = (1, 7)) (hc : c < zN E) (h2 : h c 1 = Int.ofNat c2) (k : zG E M d (pc + 3) L (zR c2 :: st) h Q) : zG E M d pc L (zR c :: st) h Q := z_get (k := 1) (v := zR c2) hd hs hc (by decide) rfl inz1 (by decide) (by rw [hM]; exact wf_X1_19) (by rw [h2]; rfl) (fun _ => zok_r) k
theorem pf_X1_19 {E : zE} {M : zM} {d pc : Nat} {L st : List zV} {h : zH} {Q : List zV → zH → Prop} {c : Nat} {b : Nat} (hd : decode M.2.1 pc = .ok (.putfield 19, 3)) (hM : M.1.cls = RX1) (hs : zsh E c = (1, 7)) (hc : c < zN E) (hb : b < 100) (k : zG E M d (pc + 3) L st (hset h c 1 (Int.ofNat b)) Q) : zG E M d pc L (zR b :: zR c :: st) h Q := z_put (k := 1) (ty := tyX1 1) (v := zR b) tyX1 tyX1_ok nmX1 hd hs hc (by decide) rfl inz1 (by decide) (by rw [hM]; exact wf_X1_19) rfl (tyX1_ok 1 (by decide)) rfl rfl rfl (fun _ => by unfold r32; simp; omega) k
set_option maxRecDepth 100000 in
theorem wf_X1_23 : Cond.fieldLink RX1 23 (TX1 2).1 (TX1 2).2.1 (TX1 2).2.2.1 ∈ ztb := List.mem_filter.mpr ⟨List.mem_append_right _ (List.mem_of_getElem? (i := 98) rfl), rfl⟩
theorem gf_X1_23 {E : zE} {M : zM} {d pc : Nat} {L st : List zV} {h : zH} {Q : List zV → zH → Prop} {c : Nat} (hd : decode M.2.1 pc = .ok (.getfield 23, 3)) (hM : M.1.cls = RX1) (hs : zsh E c = (1, 7)) (hc : c < zN E) (k : zG E M d (pc + 3) L (zI (h c 2) :: st) h Q) : zG E M d pc L (zR c :: st) h Q := z_get (k := 2) (v := zI (h c 2)) hd hs hc (by decide) rfl inz1 (by decide) (by rw [hM]; exact wf_X1_23) rfl (fun o => zok_i ((o c 2).2 (by rw [hs]; decide))) k
theorem pf_X1_23 {E : zE} {M : zM} {d pc : Nat} {L st : List zV} {h : zH} {Q : List zV → zH → Prop} {c : Nat} {x : Int} (hd : decode M.2.1 pc = .ok (.putfield 23, 3)) (hM : M.1.cls = RX1) (hs : zsh E c = (1, 7)) (hc : c < zN E) (k : zG E M d (pc + 3) L st (hset h c 2 x) Q) : zG E M d pc L (zI x :: zR c :: st) h Q := z_put (k := 2) (ty := tyX1 2) tyX1 tyX1_ok nmX1 hd hs hc (by decide) rfl inz1 (by decide) (by rw [hM]; exact wf_X1_23) rfl (tyX1_ok 2 (by decide)) rfl rfl rfl (fun o => o.1 rfl) k
set_option maxRecDepth 100000 in
theorem wf_X1_27 : Cond.fieldLink RX1 27 (TX1 3).1 (TX1 3).2.1 (TX1 3).2.2.1 ∈ ztb := List.mem_filter.mpr ⟨List.mem_append_right _ (List.mem_of_getElem? (i := 99) rfl), rfl⟩
theorem gf_X1_27 {E : zE} {M : zM} {d pc : Nat} {L st : List zV} {h : zH} {Q : List zV → zH → Prop} {c : Nat} (hd : decode M.2.1 pc = .ok (.getfield 27, 3)) (hM : M.1.cls = RX1) (hs : zsh E c = (1, 7)) (hc : c < zN E) (k : zG E M d (pc + 3) L (zI (h c 3) :: st) h Q) : zG E M d pc L (zR c :: st) h Q := z_get (k := 3) (v := zI (h c 3)) hd hs hc (by decide) rfl inz1 (by decide) (by rw [hM]; exact wf_X1_27) rfl (fun o => zok_i ((o c 3).2 (by rw [hs]; decide))) k
theorem pf_X1_27 {E : zE} {M : zM} {d pc : Nat} {L st : List zV} {h : zH} {Q : List zV → zH → Prop} {c : Nat} {x : Int} (hd : decode M.2.1 pc = .ok (.putfield 27, 3)) (hM : M.1.cls = RX1) (hs : zsh E c = (1, 7)) (hc : c < zN E) (k : zG E M d (pc + 3) L st (hset h c 3 x) Q) : zG E M d pc L (zI x :: zR c :: st) h Q := z_put (k := 3) (ty := tyX1 3) tyX1 tyX1_ok nmX1 hd hs hc (by decide) rfl inz1 (by decide) (by rw [hM]; exact wf_X1_27) rfl (tyX1_ok 3 (by decide)) rfl rfl rfl (fun o => o.1 rfl) k
set_option maxRecDepth 100000 in
theorem wf_X1_30 : Cond.fieldLink RX1 30 (TX1 4).1 (TX1 4).2.1 (TX1 4).2.2.1 ∈ ztb := List.mem_filter.mpr ⟨List.mem_append_right _ (List.mem_of_getElem? (i := 100) rfl), rfl⟩
theorem gf_X1_30 {E : zE} {M : zM} {d pc : Nat} {L st : List zV} {h : zH} {Q : List zV → zH → Prop} {c : Nat} (hd : decode M.2.1 pc = .ok (.getfield 30, 3)) (hM : M.1.cls = RX1) (hs : zsh E c = (1, 7)) (hc : c < zN E) (k : zG E M d (pc + 3) L (zI (h c 4) :: st) h Q) : zG E M d pc L (zR c :: st) h Q := z_get (k := 4) (v := zI (h c 4)) hd hs hc (by decide) rfl inz1 (by decide) (by rw [hM]; exact wf_X1_30) rfl (fun o => zok_i ((o c 4).2 (by rw [hs]; decide))) k
theorem pf_X1_30 {E : zE} {M : zM} {d pc : Nat} {L st : List zV} {h : zH} {Q : List zV → zH → Prop} {c : Nat} {x : Int} (hd : decode M.2.1 pc = .ok (.putfield 30, 3)) (hM : M.1.cls = RX1) (hs : zsh E c = (1, 7)) (hc : c < zN E) (k : zG E M d (pc + 3) L st (hset h c 4 x) Q) : zG E M d pc L (zI x :: zR c :: st) h Q := z_put (k := 4) (ty := tyX1 4) tyX1 tyX1_ok nmX1 hd hs hc (by decide) rfl inz1 (by decide) (by rw [hM]; exact wf_X1_30) rfl (tyX1_ok 4 (by decide)) rfl rfl rfl (fun o => o.1 rfl) k
set_option maxRecDepth 100000 in
theorem wf_X4_47 : Cond.fieldLink RX4 47 (TX1 4).1 (TX1 4).2.1 (TX1 4).2.2.1 ∈ ztb := List.mem_filter.mpr ⟨List.mem_append_right _ (List.mem_of_getElem? (i := 101) rfl), rfl⟩
theorem gf_X4_47 {E : zE} {M : zM} {d pc : Nat} {L st : List zV} {h : zH} {Q : List zV → zH → Prop} {c : Nat} (hd : decode M.2.1 pc = .ok (.getfield 47, 3)) (hM : M.1.cls = RX4) (hs : zsh E c = (1, 7)) (hc : c < zN E) (k : zG E M d (pc + 3) L (zI (h c 4) :: st) h Q) : zG E M d pc L (zR c :: st) h Q := z_get (k := 4) (v := zI (h c 4)) hd hs hc (by decide) rfl inz1 (by decide) (by rw [hM]; exact wf_X4_47) rfl (fun o => zok_i ((o c 4).2 (by rw [hs]; decide))) k
theorem pf_X4_47 {E : zE} {M : zM} {d pc : Nat} {L st : List zV} {h : zH} {Q : List zV → zH → Prop} {c : Nat} {x : Int} (hd : decode M.2.1 pc = .ok (.putfield 47, 3)) (hM : M.1.cls = RX4) (hs : zsh E c = (1, 7)) (hc : c < zN E) (k : zG E M d (pc + 3) L st (hset h c 4 x) Q) : zG E M d pc L (zI x :: zR c :: st) h Q := z_put (k := 4) (ty := tyX1 4) tyX1 tyX1_ok nmX1 hd hs hc (by decide) rfl inz1 (by decide) (by rw [hM]; exact wf_X4_47) rfl (tyX1_ok 4 (by decide)) rfl rfl rfl (fun o => o.1 rfl) k
set_option maxRecDepth 100000 in
theorem wf_X6_39 : Cond.fieldLink RX6 39 (TX1 4).1 (TX1 4).2.1 (TX1 4).2.2.1 ∈ ztb := List.mem_filter.mpr ⟨List.mem_append_right _ (List.mem_of_getElem? (i := 102) rfl), rfl⟩
theorem gf_X6_39 {E : zE} {M : zM} {d pc : Nat} {L st : List zV} {h : zH} {Q : List zV → zH → Prop} {c : Nat} (hd : decode M.2.1 pc = .ok (.getfield 39, 3)) (hM : M.1.cls = RX6) (hs : zsh E c = (1, 7)) (hc : c < zN E) (k : zG E M d (pc + 3) L (zI (h c 4) :: st) h Q) : zG E M d pc L (zR c :: st) h Q := z_get (k := 4) (v := zI (h c 4)) hd hs hc (by decide) rfl inz1 (by decide) (by rw [hM]; exact wf_X6_39) rfl (fun o => zok_i ((o c 4).2 (by rw [hs]; decide))) k
theorem pf_X6_39 {E : zE} {M : zM} {d pc : Nat} {L st : List zV} {h : zH} {Q : List zV → zH → Prop} {c : Nat} {x : Int} (hd : decode M.2.1 pc = .ok (.putfield 39, 3)) (hM : M.1.cls = RX6) (hs : zsh E c = (1, 7)) (hc : c < zN E) (k : zG E M d (pc + 3) L st (hset h c 4 x) Q) : zG E M d pc L (zI x :: zR c :: st) h Q := z_put (k := 4) (ty := tyX1 4) tyX1 tyX1_ok nmX1 hd hs hc (by decide) rfl inz1 (by decide) (by rw [hM]; exact wf_X6_39) rfl (tyX1_ok 4 (by decide)) rfl rfl rfl (fun o => o.1 rfl) k
set_option maxRecDepth 100000 in
theorem wf_X1_33 : Cond.fieldLink RX1 33 (TX1 5).1 (TX1 5).2.1 (TX1 5).2.2.1 ∈ ztb := List.mem_filter.mpr ⟨List.mem_append_right _ (List.mem_of_getElem? (i := 103) rfl), rfl⟩
theorem gf_X1_33 {E : zE} {M : zM} {d pc : Nat} {L st : List zV} {h : zH} {Q : List zV → zH → Prop} {c : Nat} (hd : decode M.2.1 pc = .ok (.getfield 33, 3)) (hM : M.1.cls = RX1) (hs : zsh E c = (1, 7)) (hc : c < zN E) (k : zG E M d (pc + 3) L (zI (h c 5) :: st) h Q) : zG E M d pc L (zR c :: st) h Q := z_get (k := 5) (v := zI (h c 5)) hd hs hc (by decide) rfl inz1 (by decide) (by rw [hM]; exact wf_X1_33) rfl (fun o => zok_i ((o c 5).2 (by rw [hs]; decide))) k
theorem pf_X1_33 {E : zE} {M : zM} {d pc : Nat} {L st : List zV} {h : zH} {Q : List zV → zH → Prop} {c : Nat} {x : Int} (hd : decode M.2.1 pc = .ok (.putfield 33, 3)) (hM : M.1.cls = RX1) (hs : zsh E c = (1, 7)) (hc : c < zN E) (k : zG E M d (pc + 3) L st (hset h c 5 x) Q) : zG E M d pc L (zI x :: zR c :: st) h Q := z_put (k := 5) (ty := tyX1 5) tyX1 tyX1_ok nmX1 hd hs hc (by decide) rfl inz1 (by decide) (by rw [hM]; exact wf_X1_33) rfl (tyX1_ok 5 (by decide)) rfl rfl rfl (fun o => o.1 rfl) k
set_option maxRecDepth 100000 in
theorem wf_X4_61 : Cond.fieldLink RX4 61 (TX1 5).1 (TX1 5).2.1 (TX1 5).2.2.1 ∈ ztb := List.mem_filter.mpr ⟨List.mem_append_right _ (List.mem_of_getElem? (i := 104) rfl), rfl⟩
theorem gf_X4_61 {E : zE} {M : zM} {d pc : Nat} {L st : List zV} {h : zH} {Q : List zV → zH → Prop} {c : Nat} (hd : decode M.2.1 pc = .ok (.getfield 61, 3)) (hM : M.1.cls = RX4) (hs : zsh E c = (1, 7)) (hc : c < zN E) (k : zG E M d (pc + 3) L (zI (h c 5) :: st) h Q) : zG E M d pc L (zR c :: st) h Q := z_get (k := 5) (v := zI (h c 5)) hd hs hc (by decide) rfl inz1 (by decide) (by rw [hM]; exact wf_X4_61) rfl (fun o => zok_i ((o c 5).2 (by rw [hs]; decide))) k
theorem pf_X4_61 {E : zE} {M : zM} {d pc : Nat} {L st : List zV} {h : zH} {Q : List zV → zH → Prop} {c : Nat} {x : Int} (hd : decode M.2.1 pc = .ok (.putfield 61, 3)) (hM : M.1.cls = RX4) (hs : zsh E c = (1, 7)) (hc : c < zN E) (k : zG E M d (pc + 3) L st (hset h c 5 x) Q) : zG E M d pc L (zI x :: zR c :: st) h Q := z_put (k := 5) (ty := tyX1 5) tyX1 tyX1_ok nmX1 hd hs hc (by decide) rfl inz1 (by decide) (by rw [hM]; exact wf_X4_61) rfl (tyX1_ok 5 (by decide)) rfl rfl rfl (fun o => o.1 rfl) k
set_option maxRecDepth 100000 in
theorem wf_X1_36 : Cond.fieldLink RX1 36 (TX1 6).1 (TX1 6).2.1 (TX1 6).2.2.1 ∈ ztb := List.mem_filter.mpr ⟨List.mem_append_right _ (List.mem_of_getElem? (i := 105) rfl), rfl⟩
theorem gf_X1_36 {E : zE} {M : zM} {d pc : Nat} {L st : List zV} {h : zH} {Q : List zV → zH → Prop} {c : Nat} (hd : decode M.2.1 pc = .ok (.getfield 36, 3)) (hM : M.1.cls = RX1) (hs : zsh E c = (1, 7)) (hc : c < zN E) (k : zG E M d (pc + 3) L (zI (h c 6) :: st) h Q) : zG E M d pc L (zR c :: st) h Q := z_get (k := 6) (v := zI (h c 6)) hd hs hc (by decide) rfl inz1 (by decide) (by rw [hM]; exact wf_X1_36) rfl (fun o => zok_i ((o c 6).2 (by rw [hs]; decide))) k
theorem pf_X1_36 {E : zE} {M : zM} {d pc : Nat} {L st : List zV} {h : zH} {Q : List zV → zH → Prop} {c : Nat} {x : Int} (hd : decode M.2.1 pc = .ok (.putfield 36, 3)) (hM : M.1.cls = RX1) (hs : zsh E c = (1, 7)) (hc : c < zN E) (k : zG E M d (pc + 3) L st (hset h c 6 x) Q) : zG E M d pc L (zI x :: zR c :: st) h Q := z_put (k := 6) (ty := tyX1 6) tyX1 tyX1_ok nmX1 hd hs hc (by decide) rfl inz1 (by decide) (by rw [hM]; exact wf_X1_36) rfl (tyX1_ok 6 (by decide)) rfl rfl rfl (fun o => o.1 rfl) k
set_option maxRecDepth 100000 in
theorem wf_X6_63 : Cond.fieldLink RX6 63 (TX1 6).1 (TX1 6).2.1 (TX1 6).2.2.1 ∈ ztb := List.mem_filter.mpr ⟨List.mem_append_right _ (List.mem_of_getElem? (i := 106) rfl), rfl⟩
theorem gf_X6_63 {E : zE} {M : zM} {d pc : Nat} {L st : List zV} {h : zH} {Q : List zV → zH → Prop} {c : Nat} (hd : decode M.2.1 pc = .ok (.getfield 63, 3)) (hM : M.1.cls = RX6) (hs : zsh E c = (1, 7)) (hc : c < zN E) (k : zG E M d (pc + 3) L (zI (h c 6) :: st) h Q) : zG E M d pc L (zR c :: st) h Q := z_get (k := 6) (v := zI (h c 6)) hd hs hc (by decide) rfl inz1 (by decide) (by rw [hM]; exact wf_X6_63) rfl (fun o => zok_i ((o c 6).2 (by rw [hs]; decide))) k
theorem pf_X6_63 {E : zE} {M : zM} {d pc : Nat} {L st : List zV} {h : zH} {Q : List zV → zH → Prop} {c : Nat} {x : Int} (hd : decode M.2.1 pc = .ok (.putfield 63, 3)) (hM : M.1.cls = RX6) (hs : zsh E c = (1, 7)) (hc : c < zN E) (k : zG E M d (pc + 3) L st (hset h c 6 x) Q) : zG E M d pc L (zI x :: zR c :: st) h Q := z_put (k := 6) (ty := tyX1 6) tyX1 tyX1_ok nmX1 hd hs hc (by decide) rfl inz1 (by decide) (by rw [hM]; exact wf_X6_63) rfl (tyX1_ok 6 (by decide)) rfl rfl rfl (fun o => o.1 rfl) k
set_option maxRecDepth 100000 in
theorem wf_X4_94 : Cond.fieldLink RX4 94 (TX1 6).1 (TX1 6).2.1 (TX1 6).2.2.1 ∈ ztb := List.mem_filter.mpr ⟨List.mem_append_right _ (List.mem_of_getElem? (i := 107) rfl), rfl⟩
theorem gf_X4_94 {E : zE} {M : zM} {d pc : Nat} {L st : List zV} {h : zH} {Q : List zV → zH → Prop} {c : Nat} (hd : decode M.2.1 pc = .ok (.getfield 94, 3)) (hM : M.1.cls = RX4) (hs : zsh E c = (1, 7)) (hc : c < zN E) (k : zG E M d (pc + 3) L (zI (h c 6) :: st) h Q) : zG E M d pc L (zR c :: st) h Q := z_get (k := 6) (v := zI (h c 6)) hd hs hc (by decide) rfl inz1 (by decide) (by rw [hM]; exact wf_X4_94) rfl (fun o => zok_i ((o c 6).2 (by rw [hs]; decide))) k
theorem pf_X4_94 {E : zE} {M : zM} {d pc : Nat} {L st : List zV} {h : zH} {Q : List zV → zH → Prop} {c : Nat} {x : Int} (hd : decode M.2.1 pc = .ok (.putfield 94, 3)) (hM : M.1.cls = RX4) (hs : zsh E c = (1, 7)) (hc : c < zN E) (k : zG E M d (pc + 3) L st (hset h c 6 x) Q) : zG E M d pc L (zI x :: zR c :: st) h Q := z_put (k := 6) (ty := tyX1 6) tyX1 tyX1_ok nmX1 hd hs hc (by decide) rfl inz1 (by decide) (by rw [hM]; exact wf_X4_94) rfl (tyX1_ok 6 (by decide)) rfl rfl rfl (fun o => o.1 rfl) k
set_option maxRecDepth 100000 in
theorem wf_X6_9 : Cond.fieldLink RX6 9 (TX6 0).1 (TX6 0).2.1 (TX6 0).2.2.1 ∈ ztb := List.mem_filter.mpr ⟨List.mem_append_right _ (List.mem_of_getElem? (i := 132) rfl), rfl⟩
theorem gf_X6_9 {E : zE} {M : zM} {d pc : Nat} {L st : List zV} {h : zH} {Q : List zV → zH → Prop} {c : Nat} {c2 : Nat} (hd : decode M.2.1 pc = .ok (.getfield 9, 3)) (hM : M.1.cls = RX6) (hs : zsh E c = (6, 6)) (hc : c < zN E) (h2 : c + 1 = c2) (k : zG E M d (pc + 3) L (zR c2 :: st) h Q) : zG E M d pc L (zR c :: st) h Q := z_get (k := 0) (v := zR c2) hd hs hc (by decide) rfl inz6 (by decide) (by rw [hM]; exact wf_X6_9) (by subst h2; rfl) (fun _ => zok_r) k
set_option maxRecDepth 100000 in
theorem wf_X6_15 : Cond.fieldLink RX6 15 (TX6 1).1 (TX6 1).2.1 (TX6 1).2.2.1 ∈ ztb := List.mem_filter.mpr ⟨List.mem_append_right _ (List.mem_of_getElem? (i := 133) rfl), rfl⟩
theorem gf_X6_15 {E : zE} {M : zM} {d pc : Nat} {L st : List zV} {h : zH} {Q : List zV → zH → Prop} {c : Nat} (hd : decode M.2.1 pc = .ok (.getfield 15, 3)) (hM : M.1.cls = RX6) (hs : zsh E c = (6, 6)) (hc : c < zN E) (k : zG E M d (pc + 3) L (zI (h c 1) :: st) h Q) : zG E M d pc L (zR c :: st) h Q := z_get (k := 1) (v := zI (h c 1)) hd hs hc (by decide) rfl inz6 (by decide) (by rw [hM]; exact wf_X6_15) rfl (fun o => zok_i ((o c 1).2 (by rw [hs]; decide))) k
theorem pf_X6_15 {E : zE} {M : zM} {d pc : Nat} {L st : List zV} {h : zH} {Q : List zV → zH → Prop} {c : Nat} {x : Int} (hd : decode M.2.1 pc = .ok (.putfield 15, 3)) (hM : M.1.cls = RX6) (hs : zsh E c = (6, 6)) (hc : c < zN E) (k : zG E M d (pc + 3) L st (hset h c 1 x) Q) : zG E M d pc L (zI x :: zR c :: st) h Q := z_put (k := 1) (ty := tyX6 1) tyX6 tyX6_ok nmX6 hd hs hc (by decide) rfl inz6 (by decide) (by rw [hM]; exact wf_X6_15) rfl (tyX6_ok 1 (by decide)) rfl rfl rfl (fun o => o.1 rfl) k
set_option maxRecDepth 100000 in
theorem wf_X6_19 : Cond.fieldLink RX6 19 (TX6 2).1 (TX6 2).2.1 (TX6 2).2.2.1 ∈ ztb := List.mem_filter.mpr ⟨List.mem_append_right _ (List.mem_of_getElem? (i := 134) rfl), rfl⟩
theorem gf_X6_19 {E : zE} {M : zM} {d pc : Nat} {L st : List zV} {h : zH} {Q : List zV → zH → Prop} {c : Nat} (hd : decode M.2.1 pc = .ok (.getfield 19, 3)) (hM : M.1.cls = RX6) (hs : zsh E c = (6, 6)) (hc : c < zN E) (k : zG E M d (pc + 3) L (zI (h c 2) :: st) h Q) : zG E M d pc L (zR c :: st) h Q := z_get (k := 2) (v := zI (h c 2)) hd hs hc (by decide) rfl inz6 (by decide) (by rw [hM]; exact wf_X6_19) rfl (fun o => zok_i ((o c 2).2 (by rw [hs]; decide))) k
theorem pf_X6_19 {E : zE} {M : zM} {d pc : Nat} {L st : List zV} {h : zH} {Q : List zV → zH → Prop} {c : Nat} {x : Int} (hd : decode M.2.1 pc = .ok (.putfield 19, 3)) (hM : M.1.cls = RX6) (hs : zsh E c = (6, 6)) (hc : c < zN E) (k : zG E M d (pc + 3) L st (hset h c 2 x) Q) : zG E M d pc L (zI x :: zR c :: st) h Q := z_put (k := 2) (ty := tyX6 2) tyX6 tyX6_ok nmX6 hd hs hc (by decide) rfl inz6 (by decide) (by rw [hM]; exact wf_X6_19) rfl (tyX6_ok 2 (by decide)) rfl rfl rfl (fun o => o.1 rfl) k
set_option maxRecDepth 100000 in
theorem wf_X6_22 : Cond.fieldLink RX6 22 (TX6 3).1 (TX6 3).2.1 (TX6 3).2.2.1 ∈ ztb := List.mem_filter.mpr ⟨List.mem_append_right _ (List.mem_of_getElem? (i := 135) rfl), rfl⟩
theorem gf_X6_22 {E : zE} {M : zM} {d pc : Nat} {L st : List zV} {h : zH} {Q : List zV → zH → Prop} {c : Nat} (hd : decode M.2.1 pc = .ok (.getfield 22, 3)) (hM : M.1.cls = RX6) (hs : zsh E c = (6, 6)) (hc : c < zN E) (k : zG E M d (pc + 3) L (zI (h c 3) :: st) h Q) : zG E M d pc L (zR c :: st) h Q := z_get (k := 3) (v := zI (h c 3)) hd hs hc (by decide) rfl inz6 (by decide) (by rw [hM]; exact wf_X6_22) rfl (fun o => zok_i ((o c 3).2 (by rw [hs]; decide))) k
theorem pf_X6_22 {E : zE} {M : zM} {d pc : Nat} {L st : List zV} {h : zH} {Q : List zV → zH → Prop} {c : Nat} {x : Int} (hd : decode M.2.1 pc = .ok (.putfield 22, 3)) (hM : M.1.cls = RX6) (hs : zsh E c = (6, 6)) (hc : c < zN E) (k : zG E M d (pc + 3) L st (hset h c 3 x) Q) : zG E M d pc L (zI x :: zR c :: st) h Q := z_put (k := 3) (ty := tyX6 3) tyX6 tyX6_ok nmX6 hd hs hc (by decide) rfl inz6 (by decide) (by rw [hM]; exact wf_X6_22) rfl (tyX6_ok 3 (by decide)) rfl rfl rfl (fun o => o.1 rfl) k
set_option maxRecDepth 100000 in
theorem wf_X6_25 : Cond.fieldLink RX6 25 (TX6 4).1 (TX6 4).2.1 (TX6 4).2.2.1 ∈ ztb := List.mem_filter.mpr ⟨List.mem_append_right _ (List.mem_of_getElem? (i := 136) rfl), rfl⟩
theorem gf_X6_25 {E : zE} {M : zM} {d pc : Nat} {L st : List zV} {h : zH} {Q : List zV → zH → Prop} {c : Nat} (hd : decode M.2.1 pc = .ok (.getfield 25, 3)) (hM : M.1.cls = RX6) (hs : zsh E c = (6, 6)) (hc : c < zN E) (k : zG E M d (pc + 3) L (zI (h c 4) :: st) h Q) : zG E M d pc L (zR c :: st) h Q := z_get (k := 4) (v := zI (h c 4)) hd hs hc (by decide) rfl inz6 (by decide) (by rw [hM]; exact wf_X6_25) rfl (fun o => zok_i ((o c 4).2 (by rw [hs]; decide))) k
theorem pf_X6_25 {E : zE} {M : zM} {d pc : Nat} {L st : List zV} {h : zH} {Q : List zV → zH → Prop} {c : Nat} {x : Int} (hd : decode M.2.1 pc = .ok (.putfield 25, 3)) (hM : M.1.cls = RX6) (hs : zsh E c = (6, 6)) (hc : c < zN E) (hx : x = 0 ∨ x = 1) (k : zG E M d (pc + 3) L st (hset h c 4 x) Q) : zG E M d pc L (zI x :: zR c :: st) h Q := z_put (k := 4) (ty := tyX6 4) tyX6 tyX6_ok nmX6 hd hs hc (by decide) rfl inz6 (by decide) (by rw [hM]; exact wf_X6_25) rfl (tyX6_ok 4 (by decide)) (r_bool hx).1 (r_bool hx).2 rfl (fun o => o.1 rfl) k
set_option maxRecDepth 100000 in
theorem wf_X6_29 : Cond.fieldLink RX6 29 (TX6 5).1 (TX6 5).2.1 (TX6 5).2.2.1 ∈ ztb := List.mem_filter.mpr ⟨List.mem_append_right _ (List.mem_of_getElem? (i := 137) rfl), rfl⟩
theorem gf_X6_29 {E : zE} {M : zM} {d pc : Nat} {L st : List zV} {h : zH} {Q : List zV → zH → Prop} {c : Nat} (hd : decode M.2.1 pc = .ok (.getfield 29, 3)) (hM : M.1.cls = RX6) (hs : zsh E c = (6, 6)) (hc : c < zN E) (k : zG E M d (pc + 3) L (zI (h c 5) :: st) h Q) : zG E M d pc L (zR c :: st) h Q := z_get (k := 5) (v := zI (h c 5)) hd hs hc (by decide) rfl inz6 (by decide) (by rw [hM]; exact wf_X6_29) rfl (fun o => zok_i ((o c 5).2 (by rw [hs]; decide))) k
theorem pf_X6_29 {E : zE} {M : zM} {d pc : Nat} {L st : List zV} {h : zH} {Q : List zV → zH → Prop} {c : Nat} {x : Int} (hd : decode M.2.1 pc = .ok (.putfield 29, 3)) (hM : M.1.cls = RX6) (hs : zsh E c = (6, 6)) (hc : c < zN E) (hx : x = 0 ∨ x = 1) (k : zG E M d (pc + 3) L st (hset h c 5 x) Q) : zG E M d pc L (zI x :: zR c :: st) h Q := z_put (k := 5) (ty := tyX6 5) tyX6 tyX6_ok nmX6 hd hs hc (by decide) rfl inz6 (by decide) (by rw [hM]; exact wf_X6_29) rfl (tyX6_ok 5 (by decide)) (r_bool hx).1 (r_bool hx).2 rfl (fun o => o.1 rfl) k
set_option maxRecDepth 100000 in
theorem wf_X4_12 : Cond.fieldLink RX4 12 (TX4 0).1 (TX4 0).2.1 (TX4 0).2.2.1 ∈ ztb := List.mem_filter.mpr ⟨List.mem_append_right _ (List.mem_of_getElem? (i := 151) rfl), rfl⟩
theorem gf_X4_12 {E : zE} {M : zM} {d pc : Nat} {L st : List zV} {h : zH} {Q : List zV → zH → Prop} {c : Nat} {c2 : Nat} (hd : decode M.2.1 pc = .ok (.getfield 12, 3)) (hM : M.1.cls = RX4) (hs : zsh E c = (4, 6)) (hc : c < zN E) (h2 : c + 1 = c2) (k : zG E M d (pc + 3) L (zR c2 :: st) h Q) : zG E M d pc L (zR c :: st) h Q := z_get (k := 0) (v := zR c2) hd hs hc (by decide) rfl inz4 (by decide) (by rw [hM]; exact wf_X4_12) (by subst h2; rfl) (fun _ => zok_r) k
set_option maxRecDepth 100000 in
theorem wf_X4_21 : Cond.fieldLink RX4 21 (TX4 1).1 (TX4 1).2.1 (TX4 1).2.2.1 ∈ ztb := List.mem_filter.mpr ⟨List.mem_append_right _ (List.mem_of_getElem? (i := 152) rfl), rfl⟩
theorem gf_X4_21 {E : zE} {M : zM} {d pc : Nat} {L st : List zV} {h : zH} {Q : List zV → zH → Prop} {c : Nat} {c2 : Nat} (hd : decode M.2.1 pc = .ok (.getfield 21, 3)) (hM : M.1.cls = RX4) (hs : zsh E c = (4, 6)) (hc : c < zN E) (h2 : c + 4 = c2) (k : zG E M d (pc + 3) L (zR c2 :: st) h Q) : zG E M d pc L (zR c :: st) h Q := z_get (k := 1) (v := zR c2) hd hs hc (by decide) rfl inz4 (by decide) (by rw [hM]; exact wf_X4_21) (by subst h2; rfl) (fun _ => zok_r) k
set_option maxRecDepth 100000 in
theorem wf_X4_25 : Cond.fieldLink RX4 25 (TX4 2).1 (TX4 2).2.1 (TX4 2).2.2.1 ∈ ztb := List.mem_filter.mpr ⟨List.mem_append_right _ (List.mem_of_getElem? (i := 153) rfl), rfl⟩
theorem gf_X4_25 {E : zE} {M : zM} {d pc : Nat} {L st : List zV} {h : zH} {Q : List zV → zH → Prop} {c : Nat} (hd : decode M.2.1 pc = .ok (.getfield 25, 3)) (hM : M.1.cls = RX4) (hs : zsh E c = (4, 6)) (hc : c < zN E) (k : zG E M d (pc + 3) L (zI (h c 2) :: st) h Q) : zG E M d pc L (zR c :: st) h Q := z_get (k := 2) (v := zI (h c 2)) hd hs hc (by decide) rfl inz4 (by decide) (by rw [hM]; exact wf_X4_25) rfl (fun o => zok_i ((o c 2).2 (by rw [hs]; decide))) k
theorem pf_X4_25 {E : zE} {M : zM} {d pc : Nat} {L st : List zV} {h : zH} {Q : List zV → zH → Prop} {c : Nat} {x : Int} (hd : decode M.2.1 pc = .ok (.putfield 25, 3)) (hM : M.1.cls = RX4) (hs : zsh E c = (4, 6)) (hc : c < zN E) (k : zG E M d (pc + 3) L st (hset h c 2 x) Q) : zG E M d pc L (zI x :: zR c :: st) h Q := z_put (k := 2) (ty := tyX4 2) tyX4 tyX4_ok nmX4 hd hs hc (by decide) rfl inz4 (by decide) (by rw [hM]; exact wf_X4_25) rfl (tyX4_ok 2 (by decide)) rfl rfl rfl (fun o => o.1 rfl) k
set_option maxRecDepth 100000 in
theorem wf_X9_92 : Cond.fieldLink RX9 92 (TX4 2).1 (TX4 2).2.1 (TX4 2).2.2.1 ∈ ztb := List.mem_filter.mpr ⟨List.mem_append_right _ (List.mem_of_getElem? (i := 154) rfl), rfl⟩
theorem gf_X9_92 {E : zE} {M : zM} {d pc : Nat} {L st : List zV} {h : zH} {Q : List zV → zH → Prop} {c : Nat} (hd : decode M.2.1 pc = .ok (.getfield 92, 3)) (hM : M.1.cls = RX9) (hs : zsh E c = (4, 6)) (hc : c < zN E) (k : zG E M d (pc + 3) L (zI (h c 2) :: st) h Q) : zG E M d pc L (zR c :: st) h Q := z_get (k := 2) (v := zI (h c 2)) hd hs hc (by decide) rfl inz4 (by decide) (by rw [hM]; exact wf_X9_92) rfl (fun o => zok_i ((o c 2).2 (by rw [hs]; decide))) k
theorem pf_X9_92 {E : zE} {M : zM} {d pc : Nat} {L st : List zV} {h : zH} {Q : List zV → zH → Prop} {c : Nat} {x : Int} (hd : decode M.2.1 pc = .ok (.putfield 92, 3)) (hM : M.1.cls = RX9) (hs : zsh E c = (4, 6)) (hc : c < zN E) (k : zG E M d (pc + 3) L st (hset h c 2 x) Q) : zG E M d pc L (zI x :: zR c :: st) h Q := z_put (k := 2) (ty := tyX4 2) tyX4 tyX4_ok nmX4 hd hs hc (by decide) rfl inz4 (by decide) (by rw [hM]; exact wf_X9_92) rfl (tyX4_ok 2 (by decide)) rfl rfl rfl (fun o => o.1 rfl) k
set_option maxRecDepth 100000 in
theorem wf_X4_29 : Cond.fieldLink RX4 29 (TX4 3).1 (TX4 3).2.1 (TX4 3).2.2.1 ∈ ztb := List.mem_filter.mpr ⟨List.mem_append_right _ (List.mem_of_getElem? (i := 155) rfl), rfl⟩
theorem gf_X4_29 {E : zE} {M : zM} {d pc : Nat} {L st : List zV} {h : zH} {Q : List zV → zH → Prop} {c : Nat} (hd : decode M.2.1 pc = .ok (.getfield 29, 3)) (hM : M.1.cls = RX4) (hs : zsh E c = (4, 6)) (hc : c < zN E) (k : zG E M d (pc + 3) L (zI (h c 3) :: st) h Q) : zG E M d pc L (zR c :: st) h Q := z_get (k := 3) (v := zI (h c 3)) hd hs hc (by decide) rfl inz4 (by decide) (by rw [hM]; exact wf_X4_29) rfl (fun o => zok_i ((o c 3).2 (by rw [hs]; decide))) k
theorem pf_X4_29 {E : zE} {M : zM} {d pc : Nat} {L st : List zV} {h : zH} {Q : List zV → zH → Prop} {c : Nat} {x : Int} (hd : decode M.2.1 pc = .ok (.putfield 29, 3)) (hM : M.1.cls = RX4) (hs : zsh E c = (4, 6)) (hc : c < zN E) (k : zG E M d (pc + 3) L st (hset h c 3 x) Q) : zG E M d pc L (zI x :: zR c :: st) h Q := z_put (k := 3) (ty := tyX4 3) tyX4 tyX4_ok nmX4 hd hs hc (by decide) rfl inz4 (by decide) (by rw [hM]; exact wf_X4_29) rfl (tyX4_ok 3 (by decide)) rfl rfl rfl (fun o => o.1 rfl) k
set_option maxRecDepth 100000 in
theorem wf_X9_95 : Cond.fieldLink RX9 95 (TX4 3).1 (TX4 3).2.1 (TX4 3).2.2.1 ∈ ztb := List.mem_filter.mpr ⟨List.mem_append_right _ (List.mem_of_getElem? (i := 156) rfl), rfl⟩
theorem gf_X9_95 {E : zE} {M : zM} {d pc : Nat} {L st : List zV} {h : zH} {Q : List zV → zH → Prop} {c : Nat} (hd : decode M.2.1 pc = .ok (.getfield 95, 3)) (hM : M.1.cls = RX9) (hs : zsh E c = (4, 6)) (hc : c < zN E) (k : zG E M d (pc + 3) L (zI (h c 3) :: st) h Q) : zG E M d pc L (zR c :: st) h Q := z_get (k := 3) (v := zI (h c 3)) hd hs hc (by decide) rfl inz4 (by decide) (by rw [hM]; exact wf_X9_95) rfl (fun o => zok_i ((o c 3).2 (by rw [hs]; decide))) k
theorem pf_X9_95 {E : zE} {M : zM} {d pc : Nat} {L st : List zV} {h : zH} {Q : List zV → zH → Prop} {c : Nat} {x : Int} (hd : decode M.2.1 pc = .ok (.putfield 95, 3)) (hM : M.1.cls = RX9) (hs : zsh E c = (4, 6)) (hc : c < zN E) (k : zG E M d (pc + 3) L st (hset h c 3 x) Q) : zG E M d pc L (zI x :: zR c :: st) h Q := z_put (k := 3) (ty := tyX4 3) tyX4 tyX4_ok nmX4 hd hs hc (by decide) rfl inz4 (by decide) (by rw [hM]; exact wf_X9_95) rfl (tyX4_ok 3 (by decide)) rfl rfl rfl (fun o => o.1 rfl) k
set_option maxRecDepth 100000 in
theorem wf_X4_32 : Cond.fieldLink RX4 32 (TX4 4).1 (TX4 4).2.1 (TX4 4).2.2.1 ∈ ztb := List.mem_filter.mpr ⟨List.mem_append_right _ (List.mem_of_getElem? (i := 157) rfl), rfl⟩
theorem gf_X4_32 {E : zE} {M : zM} {d pc : Nat} {L st : List zV} {h : zH} {Q : List zV → zH → Prop} {c : Nat} (hd : decode M.2.1 pc = .ok (.getfield 32, 3)) (hM : M.1.cls = RX4) (hs : zsh E c = (4, 6)) (hc : c < zN E) (k : zG E M d (pc + 3) L (zI (h c 4) :: st) h Q) : zG E M d pc L (zR c :: st) h Q := z_get (k := 4) (v := zI (h c 4)) hd hs hc (by decide) rfl inz4 (by decide) (by rw [hM]; exact wf_X4_32) rfl (fun o => zok_i ((o c 4).2 (by rw [hs]; decide))) k
theorem pf_X4_32 {E : zE} {M : zM} {d pc : Nat} {L st : List zV} {h : zH} {Q : List zV → zH → Prop} {c : Nat} {x : Int} (hd : decode M.2.1 pc = .ok (.putfield 32, 3)) (hM : M.1.cls = RX4) (hs : zsh E c = (4, 6)) (hc : c < zN E) (k : zG E M d (pc + 3) L st (hset h c 4 x) Q) : zG E M d pc L (zI x :: zR c :: st) h Q := z_put (k := 4) (ty := tyX4 4) tyX4 tyX4_ok nmX4 hd hs hc (by decide) rfl inz4 (by decide) (by rw [hM]; exact wf_X4_32) rfl (tyX4_ok 4 (by decide)) rfl rfl rfl (fun o => o.1 rfl) k
set_option maxRecDepth 100000 in
theorem wf_X9_89 : Cond.fieldLink RX9 89 (TX4 4).1 (TX4 4).2.1 (TX4 4).2.2.1 ∈ ztb := List.mem_filter.mpr ⟨List.mem_append_right _ (List.mem_of_getElem? (i := 158) rfl), rfl⟩
theorem gf_X9_89 {E : zE} {M : zM} {d pc : Nat} {L st : List zV} {h : zH} {Q : List zV → zH → Prop} {c : Nat} (hd : decode M.2.1 pc = .ok (.getfield 89, 3)) (hM : M.1.cls = RX9) (hs : zsh E c = (4, 6)) (hc : c < zN E) (k : zG E M d (pc + 3) L (zI (h c 4) :: st) h Q) : zG E M d pc L (zR c :: st) h Q := z_get (k := 4) (v := zI (h c 4)) hd hs hc (by decide) rfl inz4 (by decide) (by rw [hM]; exact wf_X9_89) rfl (fun o => zok_i ((o c 4).2 (by rw [hs]; decide))) k
