abbrev cJ0_length_8abf5 : ByteArray := prog_22_method_54_code
def yJ0_length_8abf5 : MethodName := ⟨"java/lang/String", "length", "()I"⟩
abbrev cJ0_charAt_5068e : ByteArray := prog_22_method_56_code
def yJ0_charAt_5068e : MethodName := ⟨"java/lang/String", "charAt", "(I)C"⟩
abbrev cJ0_coder_7d493 : ByteArray := prog_22_method_152_code
def yJ0_coder_7d493 : MethodName := ⟨"java/lang/String", "coder", "()B"⟩
abbrev cJ0_isLatin1_aae02 : ByteArray := prog_22_method_154_code
def yJ0_isLatin1_aae02 : MethodName := ⟨"java/lang/String", "isLatin1", "()Z"⟩
abbrev cJ0_checkIndex_df160 : ByteArray := prog_22_method_155_code
def yJ0_checkIndex_df160 : MethodName := ⟨"java/lang/String", "checkIndex", "(II)V"⟩
abbrev cJ1_charAt_3b067 : ByteArray := prog_23_method_2_code
def yJ1_charAt_3b067 : MethodName := ⟨"java/lang/StringLatin1", "charAt", "([BI)C"⟩
abbrev cJ3_checkIndex_8e157 : ByteArray := prog_30_method_11_code
def yJ3_checkIndex_8e157 : MethodName := ⟨"jdk/internal/util/Preconditions", "checkIndex", "(IILjava/util/function/BiFunction;)I"⟩
abbrev cX9_addText : ByteArray := prog_11_method_5_code
def yX9_addText : MethodName := ⟨RX9, "addText", "(Ljava/lang/String;)V"⟩
abbrev cX9_write : ByteArray := prog_11_method_3_code
def yX9_write : MethodName := ⟨RX9, "write", "(LShadowHeirs$Island;I)V"⟩
abbrev cX11_slip : ByteArray := prog_1_method_28_code
def yX11_slip : MethodName := ⟨RX11, "slip", "(I)I"⟩
set_option maxRecDepth 100000 in
theorem cal_J0_length_8abf5 : zCal yJ0_length_8abf5 cJ0_length_8abf5 1 (some .int) 0 := ⟨(gw_1 (List.mem_of_getElem? (i := 47) rfl) rfl), (gw_1 (List.mem_of_getElem? (i := 3) (by decide +kernel)) rfl), by decide +kernel⟩
theorem calv_J0_length_8abf5 : zCalV yJ0_length_8abf5 := ⟨(gw_1 (List.mem_of_getElem? (i := 45) (by decide +kernel)) rfl), (gw_1 (List.mem_of_getElem? (i := 46) (by decide +kernel)) rfl)⟩
set_option maxRecDepth 100000 in
theorem cal_J0_charAt_5068e : zCal yJ0_charAt_5068e cJ0_charAt_5068e 2 (some .char) 1 := ⟨(gw_1 (List.mem_of_getElem? (i := 57) rfl) rfl), (gw_1 (List.mem_of_getElem? (i := 3) (by decide +kernel)) rfl), by decide +kernel⟩
theorem calv_J0_charAt_5068e : zCalV yJ0_charAt_5068e := ⟨(gw_1 (List.mem_of_getElem? (i := 55) (by decide +kernel)) rfl), (gw_1 (List.mem_of_getElem? (i := 56) (by decide +kernel)) rfl)⟩
set_option maxRecDepth 100000 in
theorem cal_J0_coder_7d493 : zCal yJ0_coder_7d493 cJ0_coder_7d493 1 (some .byte) 0 := ⟨(gw_1 (List.mem_of_getElem? (i := 51) rfl) rfl), (gw_1 (List.mem_of_getElem? (i := 3) (by decide +kernel)) rfl), by decide +kernel⟩
theorem calv_J0_coder_7d493 : zCalV yJ0_coder_7d493 := ⟨(gw_1 (List.mem_of_getElem? (i := 49) (by decide +kernel)) rfl), (gw_1 (List.mem_of_getElem? (i := 50) (by decide +kernel)) rfl)⟩
set_option maxRecDepth 100000 in
theorem cal_J0_isLatin1_aae02 : zCal yJ0_isLatin1_aae02 cJ0_isLatin1_aae02 1 (some .boolean) 0 := ⟨(gw_1 (List.mem_of_getElem? (i := 61) rfl) rfl), (gw_1 (List.mem_of_getElem? (i := 3) (by decide +kernel)) rfl), by decide +kernel⟩
theorem calv_J0_isLatin1_aae02 : zCalV yJ0_isLatin1_aae02 := ⟨(gw_1 (List.mem_of_getElem? (i := 59) (by decide +kernel)) rfl), (gw_1 (List.mem_of_getElem? (i := 60) (by decide +kernel)) rfl)⟩
set_option maxRecDepth 100000 in
theorem cal_J0_checkIndex_df160 : zCal yJ0_checkIndex_df160 cJ0_checkIndex_df160 2 none 2 := ⟨(gw_1 (List.mem_of_getElem? (i := 67) rfl) rfl), (gw_1 (List.mem_of_getElem? (i := 3) (by decide +kernel)) rfl), by decide +kernel⟩
theorem sta_J0_checkIndex_df160 : Cond.static yJ0_checkIndex_df160 ∈ gw_tbl := (gw_1 (List.mem_of_getElem? (i := 66) (by decide +kernel)) rfl)
set_option maxRecDepth 100000 in
theorem cal_J1_charAt_3b067 : zCal yJ1_charAt_3b067 cJ1_charAt_3b067 2 (some .char) 2 := ⟨(gw_1 (List.mem_of_getElem? (i := 64) rfl) rfl), (gw_1 (List.mem_of_getElem? (i := 4) (by decide +kernel)) rfl), by decide +kernel⟩
theorem sta_J1_charAt_3b067 : Cond.static yJ1_charAt_3b067 ∈ gw_tbl := (gw_1 (List.mem_of_getElem? (i := 63) (by decide +kernel)) rfl)
set_option maxRecDepth 100000 in
theorem cal_J3_checkIndex_8e157 : zCal yJ3_checkIndex_8e157 cJ3_checkIndex_8e157 3 (some .int) 3 := ⟨(gw_1 (List.mem_of_getElem? (i := 72) rfl) rfl), (gw_1 (List.mem_of_getElem? (i := 5) (by decide +kernel)) rfl), by decide +kernel⟩
theorem sta_J3_checkIndex_8e157 : Cond.static yJ3_checkIndex_8e157 ∈ gw_tbl := (gw_1 (List.mem_of_getElem? (i := 71) (by decide +kernel)) rfl)
theorem ml_java_lang_String_335 : zMl "java/lang/String" 335 yJ0_coder_7d493 := Or.inl (gw_1 (List.mem_of_getElem? (i := 48) (by decide +kernel)) rfl)
theorem ml_java_lang_String_492 : zMl "java/lang/String" 492 yJ0_isLatin1_aae02 := Or.inl (gw_1 (List.mem_of_getElem? (i := 58) (by decide +kernel)) rfl)
theorem ml_java_lang_String_495 : zMl "java/lang/String" 495 yJ1_charAt_3b067 := Or.inl (gw_1 (List.mem_of_getElem? (i := 62) (by decide +kernel)) rfl)
theorem ml_java_lang_String_1059 : zMl "java/lang/String" 1059 yJ3_checkIndex_8e157 := Or.inl (gw_1 (List.mem_of_getElem? (i := 70) (by decide +kernel)) rfl)
theorem ml_java_lang_StringLatin1_9 : zMl "java/lang/StringLatin1" 9 yJ0_checkIndex_df160 := Or.inl (gw_1 (List.mem_of_getElem? (i := 65) (by decide +kernel)) rfl)
theorem ml_X9_73 : zMl "ShadowHeirs$Slip" 73 yJ0_length_8abf5 := Or.inl (gw_5 (List.mem_of_getElem? (i := 25) (by decide +kernel)) rfl)
theorem ml_X9_79 : zMl "ShadowHeirs$Slip" 79 yJ0_charAt_5068e := Or.inl (gw_5 (List.mem_of_getElem? (i := 26) (by decide +kernel)) rfl)
set_option maxRecDepth 100000 in
theorem cal_X9_addText : zCal yX9_addText cX9_addText 3 none 1 := ⟨(gw_5 (List.mem_of_getElem? (i := 24) rfl) rfl), (gw_1 (List.mem_of_getElem? (i := 16) (by decide +kernel)) rfl), by decide +kernel⟩
theorem calv_X9_addText : zCalV yX9_addText := ⟨(gw_5 (List.mem_of_getElem? (i := 23) (by decide +kernel)) rfl), (gw_s (y := yX9_addText) (n := 2) (List.mem_of_getElem? (i := 21) (by decide +kernel)))⟩
theorem ml_X9_46 : zMl "ShadowHeirs$Slip" 46 yX9_addText := Or.inl (gw_5 (List.mem_of_getElem? (i := 21) (by decide +kernel)) rfl)
set_option maxRecDepth 100000 in
theorem cal_X9_addName : zCal yX9_addName cX9_addName 5 none 1 := ⟨(gw_5 (List.mem_of_getElem? (i := 14) rfl) rfl), (gw_1 (List.mem_of_getElem? (i := 16) (by decide +kernel)) rfl), by decide +kernel⟩
theorem calv_X9_addName : zCalV yX9_addName := ⟨(gw_5 (List.mem_of_getElem? (i := 13) (by decide +kernel)) rfl), (gw_s (y := yX9_addName) (n := 2) (List.mem_of_getElem? (i := 19) (by decide +kernel)))⟩
theorem ml_X9_40 : zMl "ShadowHeirs$Slip" 40 yX9_addName := Or.inl (gw_5 (List.mem_of_getElem? (i := 11) (by decide +kernel)) rfl)
set_option maxRecDepth 100000 in
theorem cal_X9_addNumber : zCal yX9_addNumber cX9_addNumber 3 none 1 := ⟨(gw_5 (List.mem_of_getElem? (i := 30) rfl) rfl), (gw_1 (List.mem_of_getElem? (i := 16) (by decide +kernel)) rfl), by decide +kernel⟩
theorem calv_X9_addNumber : zCalV yX9_addNumber := ⟨(gw_5 (List.mem_of_getElem? (i := 29) (by decide +kernel)) rfl), (gw_s (y := yX9_addNumber) (n := 2) (List.mem_of_getElem? (i := 22) (by decide +kernel)))⟩
theorem ml_X9_50 : zMl "ShadowHeirs$Slip" 50 yX9_addNumber := Or.inl (gw_5 (List.mem_of_getElem? (i := 27) (by decide +kernel)) rfl)
theorem ml_X9_61 : zMl "ShadowHeirs$Slip" 61 yX3_housesTouching := Or.inl (gw_5 (List.mem_of_getElem? (i := 33) (by decide +kernel)) rfl)
set_option maxRecDepth 100000 in
theorem cal_X9_write : zCal yX9_write cX9_write 6 none 2 := ⟨(gw_5 (List.mem_of_getElem? (i := 10) rfl) rfl), (gw_1 (List.mem_of_getElem? (i := 16) (by decide +kernel)) rfl), by decide +kernel⟩
theorem calv_X9_write : zCalV yX9_write := ⟨(gw_5 (List.mem_of_getElem? (i := 8) (by decide +kernel)) rfl), (gw_5 (List.mem_of_getElem? (i := 9) (by decide +kernel)) rfl)⟩
theorem ml_X11_316 : zMl "ShadowHeirs" 316 yX9_write := Or.inl (gw_5 (List.mem_of_getElem? (i := 7) (by decide +kernel)) rfl)
theorem dJ0_charAt_5068e_0 : decode cJ0_charAt_5068e 0 = .ok (.aload_n 0, 1) := by decide +kernel
theorem dJ0_charAt_5068e_1 : decode cJ0_charAt_5068e 1 = .ok (.invokevirtual 492, 3) := by decide +kernel
theorem dJ0_charAt_5068e_4 : decode cJ0_charAt_5068e 4 = .ok (.ifCond .eq 12, 3) := by decide +kernel
theorem dJ0_charAt_5068e_7 : decode cJ0_charAt_5068e 7 = .ok (.aload_n 0, 1) := by decide +kernel
theorem dJ0_charAt_5068e_8 : decode cJ0_charAt_5068e 8 = .ok (.getfield 9, 3) := by decide +kernel
theorem dJ0_charAt_5068e_11 : decode cJ0_charAt_5068e 11 = .ok (.iload_n 1, 1) := by decide +kernel
theorem dJ0_charAt_5068e_12 : decode cJ0_charAt_5068e 12 = .ok (.invokestatic 495, 3) := by decide +kernel
theorem dJ0_charAt_5068e_15 : decode cJ0_charAt_5068e 15 = .ok (.ireturn, 1) := by decide +kernel
theorem dJ0_charAt_5068e_16 : decode cJ0_charAt_5068e 16 = .ok (.aload_n 0, 1) := by decide +kernel
theorem dJ0_charAt_5068e_17 : decode cJ0_charAt_5068e 17 = .ok (.getfield 9, 3) := by decide +kernel
theorem dJ0_charAt_5068e_20 : decode cJ0_charAt_5068e 20 = .ok (.iload_n 1, 1) := by decide +kernel
theorem dJ0_charAt_5068e_21 : decode cJ0_charAt_5068e 21 = .ok (.invokestatic 498, 3) := by decide +kernel
theorem dJ0_charAt_5068e_24 : decode cJ0_charAt_5068e 24 = .ok (.ireturn, 1) := by decide +kernel
theorem dJ0_checkIndex_df160_0 : decode cJ0_checkIndex_df160 0 = .ok (.iload_n 0, 1) := by decide +kernel
theorem dJ0_checkIndex_df160_1 : decode cJ0_checkIndex_df160 1 = .ok (.iload_n 1, 1) := by decide +kernel
theorem dJ0_checkIndex_df160_2 : decode cJ0_checkIndex_df160 2 = .ok (.getstatic 1053, 3) := by decide +kernel
theorem dJ0_checkIndex_df160_5 : decode cJ0_checkIndex_df160 5 = .ok (.invokestatic 1059, 3) := by decide +kernel
theorem dJ0_checkIndex_df160_8 : decode cJ0_checkIndex_df160 8 = .ok (.pop, 1) := by decide +kernel
theorem dJ0_checkIndex_df160_9 : decode cJ0_checkIndex_df160 9 = .ok (.return_, 1) := by decide +kernel
theorem dJ0_coder_7d493_0 : decode cJ0_coder_7d493 0 = .ok (.getstatic 38, 3) := by decide +kernel
theorem dJ0_coder_7d493_3 : decode cJ0_coder_7d493 3 = .ok (.ifCond .eq 10, 3) := by decide +kernel
theorem dJ0_coder_7d493_6 : decode cJ0_coder_7d493 6 = .ok (.aload_n 0, 1) := by decide +kernel
theorem dJ0_coder_7d493_7 : decode cJ0_coder_7d493 7 = .ok (.getfield 15, 3) := by decide +kernel
theorem dJ0_coder_7d493_10 : decode cJ0_coder_7d493 10 = .ok (.goto 4, 3) := by decide +kernel
theorem dJ0_coder_7d493_13 : decode cJ0_coder_7d493 13 = .ok (.iconst 1, 1) := by decide +kernel
theorem dJ0_coder_7d493_14 : decode cJ0_coder_7d493 14 = .ok (.ireturn, 1) := by decide +kernel
theorem dJ0_isLatin1_aae02_0 : decode cJ0_isLatin1_aae02 0 = .ok (.getstatic 38, 3) := by decide +kernel
theorem dJ0_isLatin1_aae02_3 : decode cJ0_isLatin1_aae02 3 = .ok (.ifCond .eq 14, 3) := by decide +kernel
theorem dJ0_isLatin1_aae02_6 : decode cJ0_isLatin1_aae02 6 = .ok (.aload_n 0, 1) := by decide +kernel
theorem dJ0_isLatin1_aae02_7 : decode cJ0_isLatin1_aae02 7 = .ok (.getfield 15, 3) := by decide +kernel
theorem dJ0_isLatin1_aae02_10 : decode cJ0_isLatin1_aae02 10 = .ok (.ifCond .ne 7, 3) := by decide +kernel
theorem dJ0_isLatin1_aae02_13 : decode cJ0_isLatin1_aae02 13 = .ok (.iconst 1, 1) := by decide +kernel
theorem dJ0_isLatin1_aae02_14 : decode cJ0_isLatin1_aae02 14 = .ok (.goto 4, 3) := by decide +kernel
theorem dJ0_isLatin1_aae02_17 : decode cJ0_isLatin1_aae02 17 = .ok (.iconst 0, 1) := by decide +kernel
theorem dJ0_isLatin1_aae02_18 : decode cJ0_isLatin1_aae02 18 = .ok (.ireturn, 1) := by decide +kernel
theorem dJ0_length_8abf5_0 : decode cJ0_length_8abf5 0 = .ok (.aload_n 0, 1) := by decide +kernel
theorem dJ0_length_8abf5_1 : decode cJ0_length_8abf5 1 = .ok (.getfield 9, 3) := by decide +kernel
theorem dJ0_length_8abf5_4 : decode cJ0_length_8abf5 4 = .ok (.arraylength, 1) := by decide +kernel
theorem dJ0_length_8abf5_5 : decode cJ0_length_8abf5 5 = .ok (.aload_n 0, 1) := by decide +kernel
theorem dJ0_length_8abf5_6 : decode cJ0_length_8abf5 6 = .ok (.invokevirtual 335, 3) := by decide +kernel
theorem dJ0_length_8abf5_9 : decode cJ0_length_8abf5 9 = .ok (.ishr, 1) := by decide +kernel
theorem dJ0_length_8abf5_10 : decode cJ0_length_8abf5 10 = .ok (.ireturn, 1) := by decide +kernel
theorem dJ1_charAt_3b067_0 : decode cJ1_charAt_3b067 0 = .ok (.iload_n 1, 1) := by decide +kernel
theorem dJ1_charAt_3b067_1 : decode cJ1_charAt_3b067 1 = .ok (.aload_n 0, 1) := by decide +kernel
theorem dJ1_charAt_3b067_2 : decode cJ1_charAt_3b067 2 = .ok (.arraylength, 1) := by decide +kernel
theorem dJ1_charAt_3b067_3 : decode cJ1_charAt_3b067 3 = .ok (.invokestatic 9, 3) := by decide +kernel
theorem dJ1_charAt_3b067_6 : decode cJ1_charAt_3b067 6 = .ok (.aload_n 0, 1) := by decide +kernel
theorem dJ1_charAt_3b067_7 : decode cJ1_charAt_3b067 7 = .ok (.iload_n 1, 1) := by decide +kernel
theorem dJ1_charAt_3b067_8 : decode cJ1_charAt_3b067 8 = .ok (.baload, 1) := by decide +kernel
theorem dJ1_charAt_3b067_9 : decode cJ1_charAt_3b067 9 = .ok (.sipush 255, 3) := by decide +kernel
theorem dJ1_charAt_3b067_12 : decode cJ1_charAt_3b067 12 = .ok (.iand, 1) := by decide +kernel
theorem dJ1_charAt_3b067_13 : decode cJ1_charAt_3b067 13 = .ok (.i2c, 1) := by decide +kernel
theorem dJ1_charAt_3b067_14 : decode cJ1_charAt_3b067 14 = .ok (.ireturn, 1) := by decide +kernel
theorem dJ3_checkIndex_8e157_0 : decode cJ3_checkIndex_8e157 0 = .ok (.iload_n 0, 1) := by decide +kernel
theorem dJ3_checkIndex_8e157_1 : decode cJ3_checkIndex_8e157 1 = .ok (.ifCond .lt 8, 3) := by decide +kernel
theorem dJ3_checkIndex_8e157_4 : decode cJ3_checkIndex_8e157 4 = .ok (.iload_n 0, 1) := by decide +kernel
theorem dJ3_checkIndex_8e157_5 : decode cJ3_checkIndex_8e157 5 = .ok (.iload_n 1, 1) := by decide +kernel
theorem dJ3_checkIndex_8e157_6 : decode cJ3_checkIndex_8e157 6 = .ok (.if_icmp .lt 10, 3) := by decide +kernel
theorem dJ3_checkIndex_8e157_9 : decode cJ3_checkIndex_8e157 9 = .ok (.aload_n 2, 1) := by decide +kernel
theorem dJ3_checkIndex_8e157_10 : decode cJ3_checkIndex_8e157 10 = .ok (.iload_n 0, 1) := by decide +kernel
theorem dJ3_checkIndex_8e157_11 : decode cJ3_checkIndex_8e157 11 = .ok (.iload_n 1, 1) := by decide +kernel
theorem dJ3_checkIndex_8e157_12 : decode cJ3_checkIndex_8e157 12 = .ok (.invokestatic 95, 3) := by decide +kernel
theorem dJ3_checkIndex_8e157_15 : decode cJ3_checkIndex_8e157 15 = .ok (.athrow, 1) := by decide +kernel
theorem dJ3_checkIndex_8e157_16 : decode cJ3_checkIndex_8e157 16 = .ok (.iload_n 0, 1) := by decide +kernel
theorem dJ3_checkIndex_8e157_17 : decode cJ3_checkIndex_8e157 17 = .ok (.ireturn, 1) := by decide +kernel
theorem dX11_slip_0 : decode cX11_slip 0 = .ok (.aload_n 0, 1) := by decide +kernel
theorem dX11_slip_1 : decode cX11_slip 1 = .ok (.getfield 19, 3) := by decide +kernel
theorem dX11_slip_4 : decode cX11_slip 4 = .ok (.iload_n 1, 1) := by decide +kernel
theorem dX11_slip_5 : decode cX11_slip 5 = .ok (.invokevirtual 200, 3) := by decide +kernel
theorem dX11_slip_8 : decode cX11_slip 8 = .ok (.ifCond .ne 5, 3) := by decide +kernel
theorem dX11_slip_11 : decode cX11_slip 11 = .ok (.iconst (-1), 1) := by decide +kernel
theorem dX11_slip_12 : decode cX11_slip 12 = .ok (.ireturn, 1) := by decide +kernel
theorem dX11_slip_13 : decode cX11_slip 13 = .ok (.aload_n 0, 1) := by decide +kernel
theorem dX11_slip_14 : decode cX11_slip 14 = .ok (.getfield 102, 3) := by decide +kernel
theorem dX11_slip_17 : decode cX11_slip 17 = .ok (.aload_n 0, 1) := by decide +kernel
theorem dX11_slip_18 : decode cX11_slip 18 = .ok (.getfield 42, 3) := by decide +kernel
theorem dX11_slip_21 : decode cX11_slip 21 = .ok (.iload_n 1, 1) := by decide +kernel
theorem dX11_slip_22 : decode cX11_slip 22 = .ok (.invokevirtual 316, 3) := by decide +kernel
theorem dX11_slip_25 : decode cX11_slip 25 = .ok (.aload_n 0, 1) := by decide +kernel
theorem dX11_slip_26 : decode cX11_slip 26 = .ok (.getfield 102, 3) := by decide +kernel
theorem dX11_slip_29 : decode cX11_slip 29 = .ok (.getfield 320, 3) := by decide +kernel
theorem dX11_slip_32 : decode cX11_slip 32 = .ok (.ireturn, 1) := by decide +kernel
theorem dX9_addText_0 : decode cX9_addText 0 = .ok (.iconst 0, 1) := by decide +kernel
theorem dX9_addText_1 : decode cX9_addText 1 = .ok (.istore_n 2, 1) := by decide +kernel
theorem dX9_addText_2 : decode cX9_addText 2 = .ok (.iload_n 2, 1) := by decide +kernel
theorem dX9_addText_3 : decode cX9_addText 3 = .ok (.aload_n 1, 1) := by decide +kernel
theorem dX9_addText_4 : decode cX9_addText 4 = .ok (.invokevirtual 73, 3) := by decide +kernel
theorem dX9_addText_7 : decode cX9_addText 7 = .ok (.if_icmp .ge 18, 3) := by decide +kernel
theorem dX9_addText_10 : decode cX9_addText 10 = .ok (.aload_n 0, 1) := by decide +kernel
theorem dX9_addText_11 : decode cX9_addText 11 = .ok (.aload_n 1, 1) := by decide +kernel
theorem dX9_addText_12 : decode cX9_addText 12 = .ok (.iload_n 2, 1) := by decide +kernel
theorem dX9_addText_13 : decode cX9_addText 13 = .ok (.invokevirtual 79, 3) := by decide +kernel
theorem dX9_addText_16 : decode cX9_addText 16 = .ok (.invokevirtual 83, 3) := by decide +kernel
theorem dX9_addText_19 : decode cX9_addText 19 = .ok (.iinc 2 1, 3) := by decide +kernel
theorem dX9_addText_22 : decode cX9_addText 22 = .ok (.goto (-20), 3) := by decide +kernel
theorem dX9_addText_25 : decode cX9_addText 25 = .ok (.return_, 1) := by decide +kernel
theorem dX9_write_0 : decode cX9_write 0 = .ok (.aload_n 0, 1) := by decide +kernel
theorem dX9_write_1 : decode cX9_write 1 = .ok (.iconst 0, 1) := by decide +kernel
theorem dX9_write_2 : decode cX9_write 2 = .ok (.putfield 15, 3) := by decide +kernel
theorem dX9_write_5 : decode cX9_write 5 = .ok (.aload_n 1, 1) := by decide +kernel
theorem dX9_write_6 : decode cX9_write 6 = .ok (.getfield 19, 3) := by decide +kernel
theorem dX9_write_9 : decode cX9_write 9 = .ok (.getfield 25, 3) := by decide +kernel
theorem dX9_write_12 : decode cX9_write 12 = .ok (.iload_n 2, 1) := by decide +kernel
theorem dX9_write_13 : decode cX9_write 13 = .ok (.iaload, 1) := by decide +kernel
theorem dX9_write_14 : decode cX9_write 14 = .ok (.istore_n 3, 1) := by decide +kernel
theorem dX9_write_15 : decode cX9_write 15 = .ok (.aload_n 0, 1) := by decide +kernel
theorem dX9_write_16 : decode cX9_write 16 = .ok (.aload_n 1, 1) := by decide +kernel
theorem dX9_write_17 : decode cX9_write 17 = .ok (.getfield 30, 3) := by decide +kernel
theorem dX9_write_20 : decode cX9_write 20 = .ok (.getfield 34, 3) := by decide +kernel
theorem dX9_write_23 : decode cX9_write 23 = .ok (.iload_n 2, 1) := by decide +kernel
theorem dX9_write_24 : decode cX9_write 24 = .ok (.laload, 1) := by decide +kernel
theorem dX9_write_25 : decode cX9_write 25 = .ok (.invokevirtual 40, 3) := by decide +kernel
theorem dX9_write_28 : decode cX9_write 28 = .ok (.aload_n 0, 1) := by decide +kernel
theorem dX9_write_29 : decode cX9_write 29 = .ok (.ldc 44, 2) := by decide +kernel
theorem dX9_write_31 : decode cX9_write 31 = .ok (.invokevirtual 46, 3) := by decide +kernel
theorem dX9_write_34 : decode cX9_write 34 = .ok (.aload_n 0, 1) := by decide +kernel
theorem dX9_write_35 : decode cX9_write 35 = .ok (.iload_n 3, 1) := by decide +kernel
theorem dX9_write_36 : decode cX9_write 36 = .ok (.bipush 8, 2) := by decide +kernel
theorem dX9_write_38 : decode cX9_write 38 = .ok (.irem, 1) := by decide +kernel
theorem dX9_write_39 : decode cX9_write 39 = .ok (.invokevirtual 50, 3) := by decide +kernel
theorem dX9_write_42 : decode cX9_write 42 = .ok (.aload_n 0, 1) := by decide +kernel
theorem dX9_write_43 : decode cX9_write 43 = .ok (.ldc 54, 2) := by decide +kernel
theorem dX9_write_45 : decode cX9_write 45 = .ok (.invokevirtual 46, 3) := by decide +kernel
theorem dX9_write_48 : decode cX9_write 48 = .ok (.aload_n 0, 1) := by decide +kernel
theorem dX9_write_49 : decode cX9_write 49 = .ok (.iload_n 3, 1) := by decide +kernel
theorem dX9_write_50 : decode cX9_write 50 = .ok (.bipush 8, 2) := by decide +kernel
theorem dX9_write_52 : decode cX9_write 52 = .ok (.idiv, 1) := by decide +kernel
theorem dX9_write_53 : decode cX9_write 53 = .ok (.invokevirtual 50, 3) := by decide +kernel
theorem dX9_write_56 : decode cX9_write 56 = .ok (.aload_n 0, 1) := by decide +kernel
theorem dX9_write_57 : decode cX9_write 57 = .ok (.ldc 56, 2) := by decide +kernel
theorem dX9_write_59 : decode cX9_write 59 = .ok (.invokevirtual 46, 3) := by decide +kernel
theorem dX9_write_62 : decode cX9_write 62 = .ok (.aload_n 0, 1) := by decide +kernel
theorem dX9_write_63 : decode cX9_write 63 = .ok (.aload_n 1, 1) := by decide +kernel
theorem dX9_write_64 : decode cX9_write 64 = .ok (.getfield 19, 3) := by decide +kernel
theorem dX9_write_67 : decode cX9_write 67 = .ok (.getfield 58, 3) := by decide +kernel
theorem dX9_write_70 : decode cX9_write 70 = .ok (.iload_n 2, 1) := by decide +kernel
theorem dX9_write_71 : decode cX9_write 71 = .ok (.iaload, 1) := by decide +kernel
theorem dX9_write_72 : decode cX9_write 72 = .ok (.invokevirtual 50, 3) := by decide +kernel
theorem dX9_write_75 : decode cX9_write 75 = .ok (.aload_n 1, 1) := by decide +kernel
theorem dX9_write_76 : decode cX9_write 76 = .ok (.iload_n 3, 1) := by decide +kernel
theorem dX9_write_77 : decode cX9_write 77 = .ok (.invokevirtual 61, 3) := by decide +kernel
theorem dX9_write_80 : decode cX9_write 80 = .ok (.aload_n 1, 1) := by decide +kernel
theorem dX9_write_81 : decode cX9_write 81 = .ok (.getfield 19, 3) := by decide +kernel
theorem dX9_write_84 : decode cX9_write 84 = .ok (.getfield 65, 3) := by decide +kernel
theorem dX9_write_87 : decode cX9_write 87 = .ok (.iconst (-1), 1) := by decide +kernel
theorem dX9_write_88 : decode cX9_write 88 = .ok (.ixor, 1) := by decide +kernel
theorem dX9_write_89 : decode cX9_write 89 = .ok (.iand, 1) := by decide +kernel
theorem dX9_write_90 : decode cX9_write 90 = .ok (.istore 4, 2) := by decide +kernel
theorem dX9_write_92 : decode cX9_write 92 = .ok (.iconst 0, 1) := by decide +kernel
theorem dX9_write_93 : decode cX9_write 93 = .ok (.istore 5, 2) := by decide +kernel
theorem dX9_write_95 : decode cX9_write 95 = .ok (.iload 5, 2) := by decide +kernel
theorem dX9_write_97 : decode cX9_write 97 = .ok (.iconst 5, 1) := by decide +kernel
theorem dX9_write_98 : decode cX9_write 98 = .ok (.if_icmp .ge 41, 3) := by decide +kernel
theorem dX9_write_101 : decode cX9_write 101 = .ok (.iload 4, 2) := by decide +kernel
theorem dX9_write_103 : decode cX9_write 103 = .ok (.iload 5, 2) := by decide +kernel
theorem dX9_write_105 : decode cX9_write 105 = .ok (.ishr, 1) := by decide +kernel
theorem dX9_write_106 : decode cX9_write 106 = .ok (.iconst 1, 1) := by decide +kernel
theorem dX9_write_107 : decode cX9_write 107 = .ok (.iand, 1) := by decide +kernel
theorem dX9_write_108 : decode cX9_write 108 = .ok (.iconst 1, 1) := by decide +kernel
theorem dX9_write_109 : decode cX9_write 109 = .ok (.if_icmp .ne 24, 3) := by decide +kernel
theorem dX9_write_112 : decode cX9_write 112 = .ok (.aload_n 0, 1) := by decide +kernel
theorem dX9_write_113 : decode cX9_write 113 = .ok (.ldc 68, 2) := by decide +kernel
theorem dX9_write_115 : decode cX9_write 115 = .ok (.invokevirtual 46, 3) := by decide +kernel
theorem dX9_write_118 : decode cX9_write 118 = .ok (.aload_n 0, 1) := by decide +kernel
theorem dX9_write_119 : decode cX9_write 119 = .ok (.aload_n 1, 1) := by decide +kernel
theorem dX9_write_120 : decode cX9_write 120 = .ok (.getfield 30, 3) := by decide +kernel
theorem dX9_write_123 : decode cX9_write 123 = .ok (.getfield 70, 3) := by decide +kernel
theorem dX9_write_126 : decode cX9_write 126 = .ok (.iload 5, 2) := by decide +kernel
theorem dX9_write_128 : decode cX9_write 128 = .ok (.laload, 1) := by decide +kernel
theorem dX9_write_129 : decode cX9_write 129 = .ok (.invokevirtual 40, 3) := by decide +kernel
theorem dX9_write_132 : decode cX9_write 132 = .ok (.return_, 1) := by decide +kernel
theorem dX9_write_133 : decode cX9_write 133 = .ok (.iinc 5 1, 3) := by decide +kernel
theorem dX9_write_136 : decode cX9_write 136 = .ok (.goto (-41), 3) := by decide +kernel
theorem dX9_write_139 : decode cX9_write 139 = .ok (.return_, 1) := by decide +kernel
/-! constant texts: a text is its place i < 10 in zStr -/
def zSl (i : Nat) : Int := ((zSlen.getD i 0 : Nat) : Int)
def zSc (i : Nat) (j : Int) : Int := ((zSbyt.getD i []).getD j.toNat 0).toInt
theorem zSl_ir : ∀ i, i < 10 → ir (zSl i) := by decide +kernel
section TEXT
variable {ρ : Type} {X : zM} {Γ : zG} {own : String} {cc : ByteArray} {nL : Nat} {r : ρ} {T A B : Option ρ} {pc : Nat} {lv : List (Nat × Value)} {st : List Value} {mem : zMem}
theorem zj_ldcS (C : zC X Γ own cc nL) {idx : Nat} {tx : String} (i : Nat) (hi : i < 10) (hz : zStr.getD i ("", 0, "") = (own, idx, tx)) (d : decode cc pc = .ok (.ldc idx, 2)) (k : zJ X Γ nL r T (pc + 2) lv (.ref (gS Γ (10 + i)) :: st) mem) : zJ X Γ nL r T pc lv st mem := by
  obtain ⟨p, l, e, R, s, m, args, below, meth, c, cs, sl, Q⟩ := X
  intro h ls H locs hl hS hP hC
  have hR := C.2.2.2.2.2.2.1.2.1 i hi
  rw [hz] at hR
  exact va_ldcS C.1 C.2.1 C.2.2.2.1 hR d (k h ls H locs hl hS hP hC)
theorem zj_gval (C : zC X Γ "java/lang/String" cc nL) {idx i : Nat} (hi : i < 10) (hl : Cond.fieldLink "java/lang/String" idx "java/lang/String" "value" "[B" ∈ gw_tbl) (d : decode cc pc = .ok (.getfield idx, 3)) (k : zJ X Γ nL r T (pc + 3) lv (.ref (gS Γ (30 + i)) :: st) mem) : zJ X Γ nL r T pc lv (.ref (gS Γ (10 + i)) :: st) mem := by
  obtain ⟨p, l, e, R, s, m, args, below, meth, c, cs, sl, Q⟩ := X
  intro h ls H locs hls hS hP hC
  obtain ⟨-, -, hV, -⟩ := C.2.2.2.2.2.2.1.2.2
  exact vk_getf C.1 C.2.1 (hV.1 i hi).2.2.1 hS C.2.2.2.1 (C.2.2.2.2.1 _ hl) (fun _ hx => hx) d (k h ls H locs hls hS hP hC)
theorem zj_gcod (C : zC X Γ "java/lang/String" cc nL) {idx i : Nat} (hi : i < 10) (hl : Cond.fieldLink "java/lang/String" idx "java/lang/String" "coder" "B" ∈ gw_tbl) (d : decode cc pc = .ok (.getfield idx, 3)) (k : zJ X Γ nL r T (pc + 3) lv (.int (i32 0) :: st) mem) : zJ X Γ nL r T pc lv (.ref (gS Γ (10 + i)) :: st) mem := by
  obtain ⟨p, l, e, R, s, m, args, below, meth, c, cs, sl, Q⟩ := X
  intro h ls H locs hls hS hP hC
  obtain ⟨-, -, hV, -⟩ := C.2.2.2.2.2.2.1.2.2
  exact vk_getf C.1 C.2.1 (hV.1 i hi).2.1 hS C.2.2.2.1 (C.2.2.2.2.1 _ hl) (fun _ hx => hx) d (k h ls H locs hls hS hP hC)
theorem zj_gcs (C : zC X Γ own cc nL) {idx : Nat} (hl : Cond.fieldLink own idx "java/lang/String" "COMPACT_STRINGS" "Z" ∈ gw_tbl) (d : decode cc pc = .ok (.getstatic idx, 3)) (k : zJ X Γ nL r T (pc + 3) lv (.int (i32 1) :: st) mem) : zJ X Γ nL r T pc lv st mem := by
  obtain ⟨p, l, e, R, s, m, args, below, meth, c, cs, sl, Q⟩ := X
  intro h ls H locs hls hS hP hC
  obtain ⟨-, -, -, hV, -⟩ := C.2.2.2.2.2.2.1.2.2
  exact va_gets C.1 C.2.1 hV hS C.2.2.2.1 (C.2.2.2.2.1 _ hl) (fun _ hx => hx) d (k h ls H locs hls hS hP hC)
theorem zj_gfm (C : zC X Γ own cc nL) {idx : Nat} (hl : Cond.fieldLink own idx "jdk/internal/util/Preconditions" "SIOOBE_FORMATTER" "Ljava/util/function/BiFunction;" ∈ gw_tbl) (d : decode cc pc = .ok (.getstatic idx, 3)) (k : zJ X Γ nL r T (pc + 3) lv (gV Γ :: st) mem) : zJ X Γ nL r T pc lv st mem := by
  obtain ⟨p, l, e, R, s, m, args, below, meth, c, cs, sl, Q⟩ := X
  intro h ls H locs hls hS hP hC
  obtain ⟨-, -, -, -, hV, -⟩ := C.2.2.2.2.2.2.1.2.2
  exact va_gets C.1 C.2.1 hV hS C.2.2.2.1 (C.2.2.2.2.1 _ hl) (fun _ hx => hx) d (k h ls H locs hls hS hP hC)
theorem zj_blen (C : zC X Γ own cc nL) {i : Nat} (hi : i < 10) (d : decode cc pc = .ok (.arraylength, 1)) (k : zJ X Γ nL r T (pc + 1) lv (.int (i32 (zSl i)) :: st) mem) : zJ X Γ nL r T pc lv (.ref (gS Γ (30 + i)) :: st) mem := by
  obtain ⟨p, l, e, R, s, m, args, below, meth, c, cs, sl, Q⟩ := X
  intro h ls H locs hls hS hP hC
  obtain ⟨-, -, hV, -⟩ := C.2.2.2.2.2.2.1.2.2
  exact va_tlen C.1 C.2.1 (hV.1 i hi).2.2.2 hS (by unfold zSl i32; exact Int32.ofInt_eq_ofNat.symm) d (k h ls H locs hls hS hP hC)
theorem zj_bchar (C : zC X Γ own cc nL) {i : Nat} {j : Int} (hi : i < 10) (hj : ir j) (d : decode cc pc = .ok (.baload, 1)) (k : 0 ≤ j ∧ j < zSl i → zJ X Γ nL r A (pc + 1) lv (.int (i32 (zSc i j)) :: st) mem) : zJ X Γ nL r (if 0 ≤ j ∧ j < zSl i then A else none) pc lv (.int (i32 j) :: .ref (gS Γ (30 + i)) :: st) mem := by
  refine zj_chk (fun hx h => ?_)
  obtain ⟨p, l, e, R, s, m, args, below, meth, c, cs, sl, Q⟩ := X
  intro ls H locs hls hS hP hC
  obtain ⟨-, -, hV, -⟩ := C.2.2.2.2.2.2.1.2.2
  have e2 : (i32 j).toNatClampNeg = j.toNat := zn_nat hj hx.1
  exact va_tb C.1 C.2.1 (hV.1 i hi).2.2.2 hS (by rw [vp_in_iff, i32_toInt hj]; exact hx) (by rw [e2]; unfold zSc; rw [i32_of]) d (k hx h ls H locs hls hS hP hC)
theorem zg_callVT (C : zC X Γ own cc nL) {l : Launch} {D k dd : Nat} {ret0 : Option FieldType} {q0 : Int × zMem} {kd : Nat} (Z : zRt X l Γ D kd ret0 q0) {y : MethodName} {cy : ByteArray} {nY n : Nat} {ret : Option FieldType} {idx i : Nat} {As rest : List Value} {q : Int × zMem} (hy : zCal y cy nY ret n) (hv : zCalV y) (hl : zMl own idx y) (hi : i < 10) (hci : y.cls = "java/lang/String") (hn : As.length = n) (hd : dd + 1 ≤ D ∧ nY ≤ 41) (hrest : (rest.map fun v => v.category).sum ≤ 8) (d : decode cc pc = .ok (.invokevirtual idx, 3)) (hM : zMet l y cy nY ret dd Γ k (.ref (gS Γ (10 + i)) :: As) mem q) (kk : zrk k q.1 → zg X Γ nL (pc + 3) lv ((zrv k q.1).toList ++ rest) q.2) : zg X Γ nL pc lv (As.reverse ++ .ref (gS Γ (10 + i)) :: rest) mem := by
  obtain ⟨p, l', e, R, s, m, args, below, meth, c, cs, sl, Q⟩ := X
  obtain ⟨rfl, rfl, z1, z2, rfl, rfl, zQ⟩ := Z
  intro ls H locs hls hS hP hC
  obtain ⟨x1, x2, x3, x4, x5, x6, x7, x8, x9⟩ := C
  obtain ⟨y1, y2, y3⟩ := hy
  have hroom : (zrm dd).frames + 1 ≤ (zrm D).frames ∧ 8 + (nY + 11) + (zrm dd).locals ≤ (zrm D).locals := by simp only [zrm]; omega
  obtain ⟨-, -, hV, -⟩ := x7.2.2
  have hrecv := vk_recv hV hi hS
  rw [← hci] at hrecv
  have hpre : PreV s H y.cls (gS Γ (10 + i)) (zPre Γ (.ref (gS Γ (10 + i)) :: As) mem) As := ⟨zPre_blind _, hrecv, fun U hU hW => zPre_at x6 x7 x8 x9 hS hP hC hU hW⟩
  have hst : (F0 m pc ls (As.reverse ++ .ref (gS Γ (10 + i)) :: rest)).stack = As.reverse ++ .ref (gS Γ (10 + i)) :: rest := rfl
  rcases hl with hl | ⟨host, hl⟩
  · refine zg_run (va_runV (C := y.cls) (rest := rest) ⟨x1, x2, x3, x4, x5⟩ hM ⟨callB_of n x5 (zws_good y1) rfl rfl rfl (x5 _ y2) (x5 _ hl) y3 hroom, x5 _ hv.1, x5 _ hv.2⟩ hpre rfl hn hls.1 hst (lv_room hrest) d ⟨by simp [zrm], by simp [zrm]⟩) hls hS kk
  · refine zg_run (va_runVN (C := y.cls) (rest := rest) ⟨x1, x2, x3, x4, x5⟩ hM ⟨va_cnB n x5 (zws_good y1) rfl rfl rfl (x7.1 _ hl) (x5 _ y2) y3 hroom, x5 _ hv.1, x5 _ hv.2⟩ hpre rfl hn hls.1 hst (lv_room hrest) d ⟨by simp [zrm], by simp [zrm]⟩) hls hS kk
theorem zj_callTk (C : zC X Γ own cc nL) {l : Launch} {D dd : Nat} {ret0 : Option FieldType} {q0 : Int × zMem} {kd : Nat} (Z : zRt X l Γ D kd ret0 q0) {y : MethodName} {cy : ByteArray} {nY n : Nat} {ret : Option FieldType} {idx i : Nat} (As rest : List Value) {x : Int} {m1 : zMem} (hy : zCal y cy nY ret n) (hv : zCalV y) (hl : zMl own idx y) (hi : i < 10) (hci : y.cls = "java/lang/String") (hn : As.length = n) (hd : dd + 1 ≤ D ∧ nY ≤ 41) (hrest : (rest.map fun v => v.category).sum ≤ 8) (hst : As.reverse ++ .ref (gS Γ (10 + i)) :: rest = st) (d : decode cc pc = .ok (.invokevirtual idx, 3)) (hM : zMet l y cy nY ret dd Γ 1 (.ref (gS Γ (10 + i)) :: As) mem (x, m1)) (kk : zJ X Γ nL r T (pc + 3) lv (.int (i32 x) :: rest) m1) : zJ X Γ nL r T pc lv st mem := by
  subst hst
  exact fun h => zg_callVT C Z hy hv hl hi hci hn hd hrest d hM (fun _ => kk h)
theorem zj_callSik (C : zC X Γ own cc nL) {l : Launch} {D dd : Nat} {ret0 : Option FieldType} {q0 : Int × zMem} {kd : Nat} (Z : zRt X l Γ D kd ret0 q0) {y : MethodName} {cy : ByteArray} {nY n : Nat} {ret : Option FieldType} {idx : Nat} (As rest : List Value) {x : Int} {m1 : zMem} (hy : zCal y cy nY ret n) (hv : Cond.static y ∈ gw_tbl) (hl : zMl own idx y) (hn : As.length = n) (hd : dd + 1 ≤ D ∧ nY ≤ 41) (hrest : (rest.map fun v => v.category).sum ≤ 8) (hst : As.reverse ++ rest = st) (d : decode cc pc = .ok (.invokestatic idx, 3)) (hM : zMet l y cy nY ret dd Γ 1 As mem (x, m1)) (kk : zJ X Γ nL r T (pc + 3) lv (.int (i32 x) :: rest) m1) : zJ X Γ nL r T pc lv st mem := by
  subst hst
  exact fun h => zg_callS C Z hy hv hl hn hd hrest d hM (fun _ => kk h)
theorem zj_callSvk (C : zC X Γ own cc nL) {l : Launch} {D dd : Nat} {ret0 : Option FieldType} {q0 : Int × zMem} {kd : Nat} (Z : zRt X l Γ D kd ret0 q0) {y : MethodName} {cy : ByteArray} {nY n : Nat} {ret : Option FieldType} {idx : Nat} (As rest : List Value) {x : Int} {m1 : zMem} (hy : zCal y cy nY ret n) (hv : Cond.static y ∈ gw_tbl) (hl : zMl own idx y) (hn : As.length = n) (hd : dd + 1 ≤ D ∧ nY ≤ 41) (hrest : (rest.map fun v => v.category).sum ≤ 8) (hst : As.reverse ++ rest = st) (d : decode cc pc = .ok (.invokestatic idx, 3)) (hM : zMet l y cy nY ret dd Γ 0 As mem (x, m1)) (kk : zJ X Γ nL r T (pc + 3) lv rest m1) : zJ X Γ nL r T pc lv st mem := by
  subst hst
  exact fun h => zg_callS C Z hy hv hl hn hd hrest d hM (fun _ => kk h)
theorem zj_callTi (C : zC X Γ own cc nL) {l : Launch} {D dd : Nat} {ret0 : Option FieldType} {q0 : Int × zMem} {kd : Nat} (Z : zRt X l Γ D kd ret0 q0) {y : MethodName} {cy : ByteArray} {nY n : Nat} {ret : Option FieldType} {idx i : Nat} (As rest : List Value) {f : Option (Int × zMem)} {K : Int → zMem → Option ρ} (hy : zCal y cy nY ret n) (hv : zCalV y) (hl : zMl own idx y) (hi : i < 10) (hci : y.cls = "java/lang/String") (hn : As.length = n) (hd : dd + 1 ≤ D ∧ nY ≤ 41) (hrest : (rest.map fun v => v.category).sum ≤ 8) (hst : As.reverse ++ .ref (gS Γ (10 + i)) :: rest = st) (d : decode cc pc = .ok (.invokevirtual idx, 3)) (hM : ∀ q, f = some q → zMet l y cy nY ret dd Γ 1 (.ref (gS Γ (10 + i)) :: As) mem q) (kk : ∀ x m1, ir x → zJ X Γ nL r (K x m1) (pc + 3) lv (.int (i32 x) :: rest) m1) : zJ X Γ nL r (zbind f K) pc lv st mem := by
  subst hst
  exact zj_bind fun q hf h => zg_callVT C Z hy hv hl hi hci hn hd hrest d (hM q hf) (fun hk => kk q.1 q.2 hk h)
theorem zrt_n {l : Launch} {dd : Nat} {q : Int × zMem} {x : Int} {ty : FieldType} (C : zC X Γ own cc nL) (Z : zRt X l Γ dd 1 (some ty) q) (hn : narrow ty (.int (i32 x)) = .int (i32 x)) (hx : ir x) (d : decode cc pc = .ok (.ireturn, 1)) : zJ X Γ nL q (some (x, mem)) pc lv [.int (i32 x)] mem := by
  intro h
  obtain rfl := Option.some.inj h
  obtain ⟨p, l', e, R, s, m, args, below, meth, c, cs, sl, Q⟩ := X
  obtain ⟨rfl, rfl, h1, h2, rfl, rfl, rfl⟩ := Z
  intro ls H locs hls hS hP hC
  exact W.zret C.1 C.2.1 h1 hn (fun t ht hW => ⟨rfl, hx, by rw [ht]; exact hP, hC, hS.F ht⟩) hS.2.2 d h2
theorem zj_i2c (C : zC X Γ own cc nL) {x : Int} (hx : 0 ≤ x ∧ x < 65536) (d : decode cc pc = .ok (.i2c, 1)) (k : zJ X Γ nL r T (pc + 1) lv (.int (i32 x) :: st) mem) : zJ X Γ nL r T pc lv (.int (i32 x) :: st) mem := by
  obtain ⟨p, l, e, R, s, m, args, below, meth, c, cs, sl, Q⟩ := X
  intro h ls H locs hls hS hP hC
  have e1 : (i32 x).toInt = x := i32_toInt ⟨by omega, by omega⟩
  exact lv_i2c C.1 C.2.1 d (lg_i2c_word (by rw [e1]; exact hx.1) (by rw [e1]; exact hx.2)) (k h ls H locs hls hS hP hC)
end TEXT
/-! String.coder, isLatin1, length -/
theorem sf_cs : Cond.fieldLink "java/lang/String" 38 "java/lang/String" "COMPACT_STRINGS" "Z" ∈ gw_tbl := (gw_1 (List.mem_of_getElem? (i := 52) (by decide +kernel)) rfl)
theorem sf_val : Cond.fieldLink "java/lang/String" 9 "java/lang/String" "value" "[B" ∈ gw_tbl := (gw_9 (List.mem_of_getElem? (i := 12) (by decide +kernel)) rfl)
theorem sf_cod : Cond.fieldLink "java/lang/String" 15 "java/lang/String" "coder" "B" ∈ gw_tbl := (gw_9 (List.mem_of_getElem? (i := 13) (by decide +kernel)) rfl)
theorem sf_fm : Cond.fieldLink "java/lang/String" 1053 "jdk/internal/util/Preconditions" "SIOOBE_FORMATTER" "Ljava/util/function/BiFunction;" ∈ gw_tbl := (gw_1 (List.mem_of_getElem? (i := 68) (by decide +kernel)) rfl)
theorem M_J0_coder (l : Launch) (Γ : zG) {i : Nat} (hi : i < 10) (mem : zMem) : zMet l yJ0_coder_7d493 cJ0_coder_7d493 1 (some .byte) 1 Γ 1 [.ref (gS Γ (10 + i))] mem (0, mem) := by
  refine zMet_of (own := "java/lang/String") (by decide) rfl (Nat.le_of_ble_eq_true rfl) (fun X C Z => ?_)
  refine (show zJ X Γ 1 ((0 : Int), mem) (some ((0 : Int), mem)) 0 [(0, .ref (gS Γ (10 + i)))] [] mem from ?_) rfl
  refine zj_gcs C sf_cs dJ0_coder_7d493_0 ?_
  refine zj_cneg (by decide) (zj_if_eq (A := none) C 13 irc_1 dJ0_coder_7d493_3 rfl (fun _ => zj_none) (fun _ => ?_))
  refine zj_aload_n (j := 0) (i := 0) C rfl 0 rfl dJ0_coder_7d493_6 ?_
  refine zj_gcod C hi sf_cod dJ0_coder_7d493_7 ?_
  refine zj_goto (tgt := 14) C dJ0_coder_7d493_10 rfl ?_
  exact zrt_n C Z rfl irc_0 dJ0_coder_7d493_14
theorem M_J0_isLatin1 (l : Launch) (Γ : zG) {i : Nat} (hi : i < 10) (mem : zMem) : zMet l yJ0_isLatin1_aae02 cJ0_isLatin1_aae02 1 (some .boolean) 1 Γ 1 [.ref (gS Γ (10 + i))] mem (1, mem) := by
  refine zMet_of (own := "java/lang/String") (by decide) rfl (Nat.le_of_ble_eq_true rfl) (fun X C Z => ?_)
  refine (show zJ X Γ 1 ((1 : Int), mem) (some ((1 : Int), mem)) 0 [(0, .ref (gS Γ (10 + i)))] [] mem from ?_) rfl
  refine zj_gcs C sf_cs dJ0_isLatin1_aae02_0 ?_
  refine zj_cneg (by decide) (zj_if_eq (A := none) C 17 irc_1 dJ0_isLatin1_aae02_3 rfl (fun _ => zj_none) (fun _ => ?_))
  refine zj_aload_n (j := 0) (i := 0) C rfl 0 rfl dJ0_isLatin1_aae02_6 ?_
  refine zj_gcod C hi sf_cod dJ0_isLatin1_aae02_7 ?_
  refine zj_cpos (by decide) (zj_if_ne (B := none) C 17 irc_0 dJ0_isLatin1_aae02_10 rfl (fun _ => ?_) (fun _ => zj_none))
  refine zj_iconst C 1 dJ0_isLatin1_aae02_13 ?_
  refine zj_goto (tgt := 18) C dJ0_isLatin1_aae02_14 rfl ?_
  exact zrt_z C Z (Or.inr rfl) dJ0_isLatin1_aae02_18
theorem zSl_shr : ∀ i, i < 10 → zshr (zSl i) 0 = zSl i := by decide +kernel
theorem M_J0_length (l : Launch) (Γ : zG) {i : Nat} (hi : i < 10) (mem : zMem) : zMet l yJ0_length_8abf5 cJ0_length_8abf5 1 (some .int) 2 Γ 1 [.ref (gS Γ (10 + i))] mem (zSl i, mem) := by
  refine zMet_of (own := "java/lang/String") (by decide) rfl (Nat.le_of_ble_eq_true rfl) (fun X C Z => ?_)
  refine (show zJ X Γ 1 (zSl i, mem) (some (zSl i, mem)) 0 [(0, .ref (gS Γ (10 + i)))] [] mem from ?_) rfl
  refine zj_aload_n (j := 0) (i := 0) C rfl 0 rfl dJ0_length_8abf5_0 ?_
  refine zj_gval C hi sf_val dJ0_length_8abf5_1 ?_
  refine zj_blen C hi dJ0_length_8abf5_4 ?_
  refine zj_aload_n (j := 0) (i := 0) C rfl 0 rfl dJ0_length_8abf5_5 ?_
  refine zj_callTk C Z [] [.int (i32 (zSl i))] cal_J0_coder_7d493 calv_J0_coder_7d493 ml_java_lang_String_335 hi rfl rfl (by decide) (Nat.le_of_ble_eq_true rfl) rfl dJ0_length_8abf5_6 (M_J0_coder l Γ hi mem) ?_
  refine zj_ishr C dJ0_length_8abf5_9 ?_
  rw [zSl_shr i hi]
  exact zrt_i C Z (zSl_ir i hi) dJ0_length_8abf5_10
/-! charAt -/
theorem M_J3_checkIndex (l : Launch) (Γ : zG) {x n : Int} (hx : ir x) (hn : ir n) (h : 0 ≤ x ∧ x < n) (hV : gV Γ = .null ∨ ∃ a, gV Γ = .ref a) (mem : zMem) : zMet l yJ3_checkIndex_8e157 cJ3_checkIndex_8e157 3 (some .int) 1 Γ 1 [.int (i32 x), .int (i32 n), gV Γ] mem (x, mem) := by
  refine zMet_of (own := "jdk/internal/util/Preconditions") (by decide) rfl (by rcases hV with e | ⟨a, e⟩ <;> rw [e] <;> exact Nat.le_of_ble_eq_true rfl) (fun X C Z => ?_)
  have hl : lv_args 0 [.int (i32 x), .int (i32 n), gV Γ] = [(0, .int (i32 x)), (1, .int (i32 n)), (2, gV Γ)] := rfl
  rw [hl]
  refine (show zJ X Γ 3 (x, mem) (some (x, mem)) 0 [(0, .int (i32 x)), (1, .int (i32 n)), (2, gV Γ)] [] mem from ?_) rfl
  refine zj_iload_n (j := 0) (i := 0) C rfl 0 rfl dJ3_checkIndex_8e157_0 ?_
  refine zj_cneg (c := x < 0) (A := none) (by omega) (zj_if_lt C 9 hx dJ3_checkIndex_8e157_1 rfl (fun _ => zj_none) (fun _ => ?_))
  refine zj_iload_n (j := 0) (i := 0) C rfl 0 rfl dJ3_checkIndex_8e157_4 ?_
  refine zj_iload_n (j := 1) (i := 1) C rfl 1 rfl dJ3_checkIndex_8e157_5 ?_
  refine zj_cpos (c := x < n) (B := none) h.2 (zj_icmp_lt C 16 hx hn dJ3_checkIndex_8e157_6 rfl (fun _ => ?_) (fun _ => zj_none))
  refine zj_iload_n (j := 0) (i := 0) C rfl 0 rfl dJ3_checkIndex_8e157_16 ?_
  exact zrt_i C Z hx dJ3_checkIndex_8e157_17
theorem zE_gV {Γ : zG} {X : zM} {own : String} {cc : ByteArray} {nL : Nat} (C : zC X Γ own cc nL) : gV Γ = .null ∨ ∃ a, gV Γ = .ref a := by
  obtain ⟨p, l, e, R, s, m, args, below, meth, c, cs, sl, Q⟩ := X
  exact C.2.2.2.2.2.2.1.2.2.2.2.2.2.2
theorem M_J0_checkIndex (l : Launch) (Γ : zG) {x n : Int} (hx : ir x) (hn : ir n) (h : 0 ≤ x ∧ x < n) (mem : zMem) : zMet l yJ0_checkIndex_df160 cJ0_checkIndex_df160 2 none 2 Γ 0 [.int (i32 x), .int (i32 n)] mem (0, mem) := by
  refine zMet_of (own := "java/lang/String") (by decide) rfl (Nat.le_of_ble_eq_true rfl) (fun X C Z => ?_)
  refine (show zJ X Γ 2 ((0 : Int), mem) (some ((0 : Int), mem)) 0 [(0, .int (i32 x)), (1, .int (i32 n))] [] mem from ?_) rfl
  refine zj_iload_n (j := 0) (i := 0) C rfl 0 rfl dJ0_checkIndex_df160_0 ?_
  refine zj_iload_n (j := 1) (i := 1) C rfl 1 rfl dJ0_checkIndex_df160_1 ?_
  refine zj_gfm C sf_fm dJ0_checkIndex_df160_2 ?_
  refine zj_callSik C Z [.int (i32 x), .int (i32 n), gV Γ] [] cal_J3_checkIndex_8e157 sta_J3_checkIndex_8e157 ml_java_lang_String_1059 rfl (by decide) (Nat.le_of_ble_eq_true rfl) rfl dJ0_checkIndex_df160_5 (M_J3_checkIndex l Γ hx hn h (zE_gV C) mem) ?_
  refine zj_pop C rfl dJ0_checkIndex_df160_8 ?_
  exact zrt_v C Z dJ0_checkIndex_df160_9
theorem zSc_and : ∀ i, i < 10 → ∀ j, j < zSlen.getD i 0 → (zand (zSc i (j : Nat)) 255 = zSc i (j : Nat) ∧ 0 ≤ zSc i (j : Nat) ∧ zSc i (j : Nat) < 256) := by decide +kernel
theorem zSc_at {i : Nat} (hi : i < 10) {j : Int} (hj : 0 ≤ j ∧ j < zSl i) : zand (zSc i j) 255 = zSc i j ∧ 0 ≤ zSc i j ∧ zSc i j < 256 := by
  have h := zSc_and i hi j.toNat (by have := hj.2; unfold zSl at this; omega)
  rwa [show ((j.toNat : Nat) : Int) = j by omega] at h
theorem M_J1_charAt (l : Launch) (Γ : zG) {i : Nat} {j : Int} (hi : i < 10) (hj : ir j) (h : 0 ≤ j ∧ j < zSl i) (mem : zMem) : zMet l yJ1_charAt_3b067 cJ1_charAt_3b067 2 (some .char) 3 Γ 1 [.ref (gS Γ (30 + i)), .int (i32 j)] mem (zSc i j, mem) := by
  refine zMet_of (own := "java/lang/StringLatin1") (by decide) rfl (Nat.le_of_ble_eq_true rfl) (fun X C Z => ?_)
  refine (show zJ X Γ 2 (zSc i j, mem) (if 0 ≤ j ∧ j < zSl i then some (zSc i j, mem) else none) 0 [(0, .ref (gS Γ (30 + i))), (1, .int (i32 j))] [] mem from ?_) (by rw [if_pos h])
  refine zj_iload_n (j := 1) (i := 1) C rfl 1 rfl dJ1_charAt_3b067_0 ?_
  refine zj_aload_n (j := 0) (i := 0) C rfl 0 rfl dJ1_charAt_3b067_1 ?_
  refine zj_blen C hi dJ1_charAt_3b067_2 ?_
  refine zj_callSvk C Z [.int (i32 j), .int (i32 (zSl i))] [] cal_J0_checkIndex_df160 sta_J0_checkIndex_df160 ml_java_lang_StringLatin1_9 rfl (by decide) (Nat.le_of_ble_eq_true rfl) rfl dJ1_charAt_3b067_3 (M_J0_checkIndex l Γ hj (zSl_ir i hi) h mem) ?_
  refine zj_aload_n (j := 0) (i := 0) C rfl 0 rfl dJ1_charAt_3b067_6 ?_
  refine zj_iload_n (j := 1) (i := 1) C rfl 1 rfl dJ1_charAt_3b067_7 ?_
  refine zj_bchar C hi hj dJ1_charAt_3b067_8 (fun _ => ?_)
  refine zj_sipush C 255 rfl dJ1_charAt_3b067_9 ?_
  refine zj_iand C dJ1_charAt_3b067_12 ?_
  obtain ⟨e1, e2, e3⟩ := zSc_at hi h
  rw [e1]
  refine zj_i2c C ⟨e2, by omega⟩ dJ1_charAt_3b067_13 ?_
  refine zrt_n C Z ?_ ⟨by omega, by omega⟩ dJ1_charAt_3b067_14
  have e4 : i32 (zSc i j) = nI (zSc i j).toNat := by unfold i32 nI; rw [← Int32.ofInt_eq_ofNat]; congr 1; omega
  rw [e4]
  exact (pk_charN (by omega)).1
noncomputable def f_J0_length_8abf5 (i : Nat) (mem : zMem) : Option (Int × zMem) := some (zSl i, mem)
noncomputable def f_J0_charAt_5068e (i : Nat) (j : Int) (mem : zMem) : Option (Int × zMem) := if 0 ≤ j ∧ j < zSl i then some (zSc i j, mem) else none
theorem M_J0_length_8abf5 (l : Launch) (Γ : zG) {i : Nat} (hi : i < 10) (mem : zMem) (q : Int × zMem) (h : f_J0_length_8abf5 i mem = some q) : zMet l yJ0_length_8abf5 cJ0_length_8abf5 1 (some .int) 2 Γ 1 [.ref (gS Γ (10 + i))] mem q := by
  cases h
  exact M_J0_length l Γ hi mem
theorem M_J0_charAt_5068e (l : Launch) (Γ : zG) {i : Nat} (hi : i < 10) {j : Int} (hj : ir j) (mem : zMem) (q : Int × zMem) (h : f_J0_charAt_5068e i j mem = some q) : zMet l yJ0_charAt_5068e cJ0_charAt_5068e 2 (some .char) 4 Γ 1 [.ref (gS Γ (10 + i)), .int (i32 j)] mem q := by
  unfold f_J0_charAt_5068e at h
  by_cases hj2 : 0 ≤ j ∧ j < zSl i
  · rw [if_pos hj2] at h
    cases h
    refine zMet_of (own := "java/lang/String") (by decide) rfl (Nat.le_of_ble_eq_true rfl) (fun X C Z => ?_)
    refine (show zJ X Γ 2 (zSc i j, mem) (some (zSc i j, mem)) 0 [(0, .ref (gS Γ (10 + i))), (1, .int (i32 j))] [] mem from ?_) rfl
    refine zj_aload_n (j := 0) (i := 0) C rfl 0 rfl dJ0_charAt_5068e_0 ?_
    refine zj_callTk C Z [] [] cal_J0_isLatin1_aae02 calv_J0_isLatin1_aae02 ml_java_lang_String_492 hi rfl rfl (by decide) (Nat.le_of_ble_eq_true rfl) rfl dJ0_charAt_5068e_1 (M_J0_isLatin1 l Γ hi mem) ?_
    refine zj_cneg (by decide) (zj_if_eq (A := none) C 16 irc_1 dJ0_charAt_5068e_4 rfl (fun _ => zj_none) (fun _ => ?_))
    refine zj_aload_n (j := 0) (i := 0) C rfl 0 rfl dJ0_charAt_5068e_7 ?_
    refine zj_gval C hi sf_val dJ0_charAt_5068e_8 ?_
    refine zj_iload_n (j := 1) (i := 1) C rfl 1 rfl dJ0_charAt_5068e_11 ?_
    refine zj_callSik C Z [.ref (gS Γ (30 + i)), .int (i32 j)] [] cal_J1_charAt_3b067 sta_J1_charAt_3b067 ml_java_lang_String_495 rfl (by decide) (Nat.le_of_ble_eq_true rfl) rfl dJ0_charAt_5068e_12 (M_J1_charAt l Γ hi hj hj2 mem) ?_
    obtain ⟨e1, e2, e3⟩ := zSc_at hi hj2
    refine zrt_n C Z ?_ ⟨by omega, by omega⟩ dJ0_charAt_5068e_15
    have e4 : i32 (zSc i j) = nI (zSc i j).toNat := by unfold i32 nI; rw [← Int32.ofInt_eq_ofNat]; congr 1; omega
    rw [e4]
    exact (pk_charN (by omega)).1
  · rw [if_neg hj2] at h
    cases h

noncomputable def b_X9_addText_0 (rec : Nat → Int → zMem → Option (Int × zMem)) (s1 : Nat) (v2 : Int) (mem : zMem) : Option (Int × zMem) := zbind (f_J0_length_8abf5 s1 mem) fun y1 m2 => if v2 ≥ y1 then (some (0, m2)) else (zbind (f_J0_charAt_5068e s1 v2 m2) fun y4 m5 => zbind (f_X9_add y4 m5) fun _ m6 => rec s1 (w32 (v2 + 1)) m6)
noncomputable def f_X9_addText_0 : Nat → Nat → Int → zMem → Option (Int × zMem) := zfuel (fun _ _ _ => none) (b_X9_addText_0)
set_option maxHeartbeats 4000000 in
theorem L_X9_addText_0 (l : Launch) {Γ : zG} (F : zFull Γ) {X : zM} {q : Int × zMem} (C : zC X Γ "ShadowHeirs$Slip" cX9_addText 3) (Z : zRt X l Γ 5 0 none q) : ∀ n : Nat, ∀ (s1 : Nat) (v2 : Int) (h_s1 : s1 < 10) (h_v2 : ir v2) (mem : zMem), zJ X Γ 3 q (f_X9_addText_0 n s1 v2 mem) 2 [(0, .ref (zad Γ 102)), (1, .ref (gS Γ (10 + s1))), (2, .int (i32 v2))] [] mem := by
  intro n
  induction n with
  | zero => intros; exact zj_none
  | succ n ih =>
    intro s1 v2 h_s1 h_v2 mem
    show zJ X Γ 3 q (b_X9_addText_0 (f_X9_addText_0 n) s1 v2 mem) _ _ _ _
    unfold b_X9_addText_0
    refine zj_iload_n (j := 2) (i := 2) C rfl 2 rfl dX9_addText_2 ?_
    refine zj_aload_n (j := 1) (i := 1) C rfl 1 rfl dX9_addText_3 ?_
    refine zj_callTi C Z [] [.int (i32 v2)] cal_J0_length_8abf5 calv_J0_length_8abf5 ml_X9_73 h_s1 rfl rfl (by decide) (Nat.le_of_ble_eq_true rfl) rfl dX9_addText_4 (fun q h => M_J0_length_8abf5 l Γ h_s1 mem q h) (fun y1 m2 h_y1 => ?_)
    refine zj_icmp_ge C 25 h_v2 h_y1 dX9_addText_7 rfl (fun c3 => ?_) (fun c3 => ?_)
    · exact zrt_v C Z dX9_addText_25
    · refine zj_aload_n (j := 0) (i := 0) C rfl 0 rfl dX9_addText_10 ?_
      refine zj_aload_n (j := 1) (i := 1) C rfl 1 rfl dX9_addText_11 ?_
      refine zj_iload_n (j := 2) (i := 2) C rfl 2 rfl dX9_addText_12 ?_
      refine zj_callTi C Z [.int (i32 v2)] [.ref (zad Γ 102)] cal_J0_charAt_5068e calv_J0_charAt_5068e ml_X9_79 h_s1 rfl rfl (by decide) (Nat.le_of_ble_eq_true rfl) rfl dX9_addText_13 (fun q h => M_J0_charAt_5068e l Γ h_s1 h_v2 m2 q h) (fun y4 m5 h_y4 => ?_)
      refine zj_callVv C F Z [.int (i32 y4)] [] cal_X9_add calv_X9_add ml_X9_83 zk_102 rfl rfl (by decide) (Nat.le_of_ble_eq_true rfl) rfl dX9_addText_16 (fun q h => M_X9_add l Γ F h_y4 m5 q h) (fun _ m6 _ => ?_)
      refine zj_iinc C 2 [(2, .int (i32 (w32 (v2 + 1)))), (0, .ref (zad Γ 102)), (1, .ref (gS Γ (10 + s1)))] rfl dX9_addText_19 (by decide) rfl ?_
      refine zj_goto (tgt := 2) C dX9_addText_22 rfl ?_
      exact zj_sub [1, 2, 0] rfl (ih s1 (w32 (v2 + 1)) h_s1 (ir_w _) m6)
noncomputable def f_X9_addText (t0 : Nat) (mem : zMem) : Option (Int × zMem) := f_X9_addText_0 zN t0 0 mem
set_option maxHeartbeats 4000000 in
theorem M_X9_addText (l : Launch) (Γ : zG) (F : zFull Γ)  {t0 : Nat} (h_t0 : t0 < 10) (mem : zMem) (q : Int × zMem) (h : f_X9_addText t0 mem = some q) : zMet l yX9_addText cX9_addText 3 none 5 Γ 0 [.ref (zad Γ 102), .ref (gS Γ (10 + t0))] mem q := by
  refine zMet_of (own := "ShadowHeirs$Slip") (by decide) rfl (Nat.le_of_ble_eq_true rfl) (fun X C Z => ?_)
  revert h
  show zJ X Γ 3 q (f_X9_addText t0 mem) 0 [(0, .ref (zad Γ 102)), (1, .ref (gS Γ (10 + t0)))] [] mem
  unfold f_X9_addText
  refine zj_iconst C 0 dX9_addText_0 ?_
  refine zj_istore_n (j := 2) (i := 2) C rfl [(2, .int (i32 0)), (0, .ref (zad Γ 102)), (1, .ref (gS Γ (10 + t0)))] dX9_addText_1 (by decide) rfl ?_
  exact zj_sub [1, 2, 0] rfl ((L_X9_addText_0 l F C Z zN) t0 0 h_t0 irc_0 mem)
noncomputable def b_X9_write_0 (rec : Nat → Int → Int → zMem → Option (Int × zMem)) (r1 : Nat) (v4 : Int) (v5 : Int) (mem : zMem) : Option (Int × zMem) := if v5 ≥ 5 then (some (0, mem)) else (if (zand (zshr v4 v5) 1) = 1 then (zbind (f_X9_addText 6 mem) fun _ m3 => if ix ((sRf r1 0) + 3) v5 then zbind (f_X9_addName (m3 ((sRf r1 0) + 3) v5) m3) fun _ m6 => some (0, m6) else none) else (rec r1 v4 (w32 (v5 + 1)) mem))
noncomputable def f_X9_write_0 : Nat → Nat → Int → Int → zMem → Option (Int × zMem) := zfuel (fun _ _ _ _ => none) (b_X9_write_0)
set_option maxHeartbeats 4000000 in
theorem L_X9_write_0 (l : Launch) {Γ : zG} (F : zFull Γ) {X : zM} {q : Int × zMem} (C : zC X Γ "ShadowHeirs$Slip" cX9_write 6) (Z : zRt X l Γ 6 0 none q) : ∀ n : Nat, ∀ (r1 : Nat) (v4 : Int) (v5 : Int) (h_r1 : zk r1 3) (h_v4 : ir v4) (h_v5 : ir v5) (mem : zMem), zJ X Γ 6 q (f_X9_write_0 n r1 v4 v5 mem) 95 [(0, .ref (zad Γ 102)), (1, .ref (zad Γ r1)), (4, .int (i32 v4)), (5, .int (i32 v5))] [] mem := by
  intro n
  induction n with
  | zero => intros; exact zj_none
  | succ n ih =>
    intro r1 v4 v5 h_r1 h_v4 h_v5 mem
    show zJ X Γ 6 q (b_X9_write_0 (f_X9_write_0 n) r1 v4 v5 mem) _ _ _ _
    unfold b_X9_write_0
    refine zj_iload C 3 rfl dX9_write_95 ?_
    refine zj_iconst C 5 dX9_write_97 ?_
    refine zj_icmp_ge C 139 h_v5 irc_5 dX9_write_98 rfl (fun c1 => ?_) (fun c1 => ?_)
    · exact zrt_v C Z dX9_write_139
    · refine zj_iload C 2 rfl dX9_write_101 ?_
      refine zj_iload C 3 rfl dX9_write_103 ?_
      refine zj_ishr C dX9_write_105 ?_
      refine zj_iconst C 1 dX9_write_106 ?_
      refine zj_iand C dX9_write_107 ?_
      refine zj_iconst C 1 dX9_write_108 ?_
      refine zj_icmp_ne C 133 (ir_toInt _) irc_1 dX9_write_109 rfl (fun c2 => ?_) (fun c2 => ?_)
      · refine zj_aload_n (j := 0) (i := 0) C rfl 0 rfl dX9_write_112 ?_
        refine zj_ldcS C 6 (by decide) rfl dX9_write_113 ?_
        refine zj_callVv C F Z [.ref (gS Γ (10 + 6))] [] cal_X9_addText calv_X9_addText ml_X9_46 zk_102 rfl rfl (by decide) (Nat.le_of_ble_eq_true rfl) rfl dX9_write_115 (fun q h => M_X9_addText l Γ F (by decide) mem q h) (fun _ m3 _ => ?_)
        refine zj_aload_n (j := 0) (i := 0) C rfl 0 rfl dX9_write_118 ?_
        refine zj_aload_n (j := 1) (i := 1) C rfl 1 rfl dX9_write_119 ?_
        refine zj_getR C F h_r1 fl_X9_30 rfl rfl dX9_write_120 ?_
        refine zj_getR C F (zt_3_0 h_r1) fl_X9_70 rfl (rfo_5_7 (zt_3_0 h_r1)) dX9_write_123 ?_
        refine zj_iload C 3 rfl dX9_write_126 ?_
        refine zj_laload C F (zko_5_7 (zt_3_0 h_r1)) h_v5 dX9_write_128 (fun c4 h5 => ?_)
        refine zj_callVv C F Z [.long (i64 (m3 ((sRf r1 0) + 3) v5))] [] cal_X9_addName calv_X9_addName ml_X9_40 zk_102 rfl rfl (by decide) (Nat.le_of_ble_eq_true rfl) rfl dX9_write_129 (fun q h => M_X9_addName l Γ F h5 m3 q h) (fun _ m6 _ => ?_)
        exact zrt_v C Z dX9_write_132
      · refine zj_iinc C 3 [(5, .int (i32 (w32 (v5 + 1)))), (0, .ref (zad Γ 102)), (1, .ref (zad Γ r1)), (4, .int (i32 v4))] rfl dX9_write_133 (by decide) rfl ?_
        refine zj_goto (tgt := 95) C dX9_write_136 rfl ?_
        exact zj_sub [1, 2, 3, 0] rfl (ih r1 v4 (w32 (v5 + 1)) h_r1 h_v4 (ir_w _) mem)
noncomputable def f_X9_write (t0 : Nat) (x1 : Int) (mem : zMem) : Option (Int × zMem) := pipe (zup mem 102 1 0) fun m1 => if ix ((sRf t0 1) + 2) x1 then pipe (m1 ((sRf t0 1) + 2) x1) fun y4 => if ix ((sRf t0 0) + 4) x1 then zbind (f_X9_addName (m1 ((sRf t0 0) + 4) x1) m1) fun _ m7 => zbind (f_X9_addText 3 m7) fun _ m8 => zbind (f_X9_addNumber (zrem y4 8) m8) fun _ m9 => zbind (f_X9_addText 4 m9) fun _ m10 => zbind (f_X9_addNumber (zdiv y4 8) m10) fun _ m11 => zbind (f_X9_addText 5 m11) fun _ m12 => if ix ((sRf t0 1) + 3) x1 then zbind (f_X9_addNumber (m12 ((sRf t0 1) + 3) x1) m12) fun _ m15 => zbind (f_X3_housesTouching t0 y4 m15) fun y16 m17 => pipe (zand y16 (zxor (m17 (sRf t0 1) 4) (-1))) fun y19 => f_X9_write_0 zN t0 y19 0 m17 else none else none else none
set_option maxHeartbeats 4000000 in
theorem M_X9_write (l : Launch) (Γ : zG) (F : zFull Γ)  {t0 : Nat} {x1 : Int} (h_t0 : zk t0 3) (h_x1 : ir x1) (mem : zMem) (q : Int × zMem) (h : f_X9_write t0 x1 mem = some q) : zMet l yX9_write cX9_write 6 none 6 Γ 0 [.ref (zad Γ 102), .ref (zad Γ t0), .int (i32 x1)] mem q := by
  refine zMet_of (own := "ShadowHeirs$Slip") (by decide) rfl (Nat.le_of_ble_eq_true rfl) (fun X C Z => ?_)
  revert h
  show zJ X Γ 6 q (f_X9_write t0 x1 mem) 0 [(0, .ref (zad Γ 102)), (1, .ref (zad Γ t0)), (2, .int (i32 x1))] [] mem
  unfold f_X9_write
  refine zj_aload_n (j := 0) (i := 0) C rfl 0 rfl dX9_write_0 ?_
  refine zj_iconst C 0 dX9_write_1 ?_
  refine zj_putI C F 1 rfl zk_102 fl_X9_15 rfl fp_9_1 irc_0 dX9_write_2 ?_
  refine zj_pipeM (fun m1 e_m1 => ?_)
  refine zj_aload_n (j := 1) (i := 1) C rfl 1 rfl dX9_write_5 ?_
  refine zj_getR C F h_t0 fl_X9_19 rfl rfl dX9_write_6 ?_
  refine zj_getR C F (zt_3_1 h_t0) fl_X9_25 rfl (rfo_7_1 (zt_3_1 h_t0)) dX9_write_9 ?_
  refine zj_iload_n (j := 2) (i := 2) C rfl 2 rfl dX9_write_12 ?_
  refine zj_iaload C F (zko_7_1 (zt_3_1 h_t0)) h_x1 dX9_write_13 (fun c2 h3 => ?_)
  refine zj_pipeI (fun y4 e_y4 => ?_)
  have h_y4 := ir_eq e_y4 h3
  refine zj_istore_n (j := 3) (i := 3) C rfl [(3, .int (i32 y4)), (0, .ref (zad Γ 102)), (1, .ref (zad Γ t0)), (2, .int (i32 x1))] dX9_write_14 (by decide) rfl ?_
  refine zj_aload_n (j := 0) (i := 0) C rfl 1 rfl dX9_write_15 ?_
  refine zj_aload_n (j := 1) (i := 1) C rfl 2 rfl dX9_write_16 ?_
  refine zj_getR C F h_t0 fl_X9_30 rfl rfl dX9_write_17 ?_
  refine zj_getR C F (zt_3_0 h_t0) fl_X9_34 rfl (rfo_5_8 (zt_3_0 h_t0)) dX9_write_20 ?_
  refine zj_iload_n (j := 2) (i := 2) C rfl 3 rfl dX9_write_23 ?_
  refine zj_laload C F (zko_5_8 (zt_3_0 h_t0)) h_x1 dX9_write_24 (fun c5 h6 => ?_)
  refine zj_callVv C F Z [.long (i64 (m1 ((sRf t0 0) + 4) x1))] [] cal_X9_addName calv_X9_addName ml_X9_40 zk_102 rfl rfl (by decide) (Nat.le_of_ble_eq_true rfl) rfl dX9_write_25 (fun q h => M_X9_addName l Γ F h6 m1 q h) (fun _ m7 _ => ?_)
  refine zj_aload_n (j := 0) (i := 0) C rfl 1 rfl dX9_write_28 ?_
  refine zj_ldcS C 3 (by decide) rfl dX9_write_29 ?_
  refine zj_callVv C F Z [.ref (gS Γ (10 + 3))] [] cal_X9_addText calv_X9_addText ml_X9_46 zk_102 rfl rfl (by decide) (Nat.le_of_ble_eq_true rfl) rfl dX9_write_31 (fun q h => M_X9_addText l Γ F (by decide) m7 q h) (fun _ m8 _ => ?_)
  refine zj_aload_n (j := 0) (i := 0) C rfl 1 rfl dX9_write_34 ?_
  refine zj_iload_n (j := 3) (i := 3) C rfl 0 rfl dX9_write_35 ?_
  refine zj_bipush C 8 rfl dX9_write_36 ?_
  refine zj_iremc C (by decide) dX9_write_38 ?_
  refine zj_callVv C F Z [.int (i32 (zrem y4 8))] [] cal_X9_addNumber calv_X9_addNumber ml_X9_50 zk_102 rfl rfl (by decide) (Nat.le_of_ble_eq_true rfl) rfl dX9_write_39 (fun q h => M_X9_addNumber l Γ F (ir_toInt _) m8 q h) (fun _ m9 _ => ?_)
  refine zj_aload_n (j := 0) (i := 0) C rfl 1 rfl dX9_write_42 ?_
  refine zj_ldcS C 4 (by decide) rfl dX9_write_43 ?_
  refine zj_callVv C F Z [.ref (gS Γ (10 + 4))] [] cal_X9_addText calv_X9_addText ml_X9_46 zk_102 rfl rfl (by decide) (Nat.le_of_ble_eq_true rfl) rfl dX9_write_45 (fun q h => M_X9_addText l Γ F (by decide) m9 q h) (fun _ m10 _ => ?_)
  refine zj_aload_n (j := 0) (i := 0) C rfl 1 rfl dX9_write_48 ?_
  refine zj_iload_n (j := 3) (i := 3) C rfl 0 rfl dX9_write_49 ?_
  refine zj_bipush C 8 rfl dX9_write_50 ?_
  refine zj_idivc C (by decide) dX9_write_52 ?_
  refine zj_callVv C F Z [.int (i32 (zdiv y4 8))] [] cal_X9_addNumber calv_X9_addNumber ml_X9_50 zk_102 rfl rfl (by decide) (Nat.le_of_ble_eq_true rfl) rfl dX9_write_53 (fun q h => M_X9_addNumber l Γ F (ir_toInt _) m10 q h) (fun _ m11 _ => ?_)
  refine zj_aload_n (j := 0) (i := 0) C rfl 1 rfl dX9_write_56 ?_
  refine zj_ldcS C 5 (by decide) rfl dX9_write_57 ?_
  refine zj_callVv C F Z [.ref (gS Γ (10 + 5))] [] cal_X9_addText calv_X9_addText ml_X9_46 zk_102 rfl rfl (by decide) (Nat.le_of_ble_eq_true rfl) rfl dX9_write_59 (fun q h => M_X9_addText l Γ F (by decide) m11 q h) (fun _ m12 _ => ?_)
  refine zj_aload_n (j := 0) (i := 0) C rfl 1 rfl dX9_write_62 ?_
  refine zj_aload_n (j := 1) (i := 1) C rfl 2 rfl dX9_write_63 ?_
  refine zj_getR C F h_t0 fl_X9_19 rfl rfl dX9_write_64 ?_
  refine zj_getR C F (zt_3_1 h_t0) fl_X9_58 rfl (rfo_7_2 (zt_3_1 h_t0)) dX9_write_67 ?_
  refine zj_iload_n (j := 2) (i := 2) C rfl 3 rfl dX9_write_70 ?_
  refine zj_iaload C F (zko_7_2 (zt_3_1 h_t0)) h_x1 dX9_write_71 (fun c13 h14 => ?_)
  refine zj_callVv C F Z [.int (i32 (m12 ((sRf t0 1) + 3) x1))] [] cal_X9_addNumber calv_X9_addNumber ml_X9_50 zk_102 rfl rfl (by decide) (Nat.le_of_ble_eq_true rfl) rfl dX9_write_72 (fun q h => M_X9_addNumber l Γ F h14 m12 q h) (fun _ m15 _ => ?_)
  refine zj_aload_n (j := 1) (i := 1) C rfl 2 rfl dX9_write_75 ?_
  refine zj_iload_n (j := 3) (i := 3) C rfl 0 rfl dX9_write_76 ?_
  refine zj_callVi C F Z [.int (i32 y4)] [] cal_X3_housesTouching calv_X3_housesTouching ml_X9_61 h_t0 rfl rfl (by decide) (Nat.le_of_ble_eq_true rfl) rfl dX9_write_77 (fun q h => M_X3_housesTouching l Γ F h_t0 h_y4 m15 q h) (fun y16 m17 h_y16 => ?_)
  refine zj_aload_n (j := 1) (i := 1) C rfl 2 rfl dX9_write_80 ?_
  refine zj_getR C F h_t0 fl_X9_19 rfl rfl dX9_write_81 ?_
  refine zj_getI C F 4 rfl (zt_3_1 h_t0) fl_X9_65 rfl dX9_write_84 (fun h18 => ?_)
  refine zj_iconst C (-1) dX9_write_87 ?_
  refine zj_ixor C dX9_write_88 ?_
  refine zj_iand C dX9_write_89 ?_
  refine zj_pipeI (fun y19 e_y19 => ?_)
  have h_y19 := ir_eq e_y19 (ir_toInt _)
  refine zj_istore C [(4, .int (i32 y19)), (3, .int (i32 y4)), (0, .ref (zad Γ 102)), (1, .ref (zad Γ t0)), (2, .int (i32 x1))] dX9_write_90 (by decide) rfl ?_
  refine zj_iconst C 0 dX9_write_92 ?_
  refine zj_istore C [(5, .int (i32 0)), (4, .int (i32 y19)), (3, .int (i32 y4)), (0, .ref (zad Γ 102)), (1, .ref (zad Γ t0)), (2, .int (i32 x1))] dX9_write_93 (by decide) rfl ?_
  exact zj_sub [3, 4, 1, 0] rfl ((L_X9_write_0 l F C Z zN) t0 y19 0 h_t0 h_y19 irc_0 m17)
noncomputable def f_X11_slip (x0 : Int) (mem : zMem) : Option (Int × zMem) := zbind (f_X5_hasPerson 4 x0 mem) fun y1 m2 => if y1 = 0 then (some ((-1), m2)) else (zbind (f_X9_write 20 x0 m2) fun _ m4 => some ((m4 102 1), m4))
set_option maxHeartbeats 4000000 in
theorem M_X11_slip (l : Launch) (Γ : zG) (F : zFull Γ)  {x0 : Int} (h_x0 : ir x0) (mem : zMem) (q : Int × zMem) (h : f_X11_slip x0 mem = some q) : zMet l yX11_slip cX11_slip 2 (some .int) 7 Γ 1 [.ref (zad Γ 0), .int (i32 x0)] mem q := by
  refine zMet_of (own := "ShadowHeirs") (by decide) rfl (Nat.le_of_ble_eq_true rfl) (fun X C Z => ?_)
  revert h
  show zJ X Γ 2 q (f_X11_slip x0 mem) 0 [(0, .ref (zad Γ 0)), (1, .int (i32 x0))] [] mem
  unfold f_X11_slip
  refine zj_aload_n (j := 0) (i := 0) C rfl 0 rfl dX11_slip_0 ?_
  refine zj_getR C F zk_0 fl_X11_19 rfl rf_0_1 dX11_slip_1 ?_
  refine zj_iload_n (j := 1) (i := 1) C rfl 1 rfl dX11_slip_4 ?_
  refine zj_callVi C F Z [.int (i32 x0)] [] cal_X5_hasPerson calv_X5_hasPerson ml_X11_200 zk_4 rfl rfl (by decide) (Nat.le_of_ble_eq_true rfl) rfl dX11_slip_5 (fun q h => M_X5_hasPerson l Γ F zk_4 h_x0 mem q h) (fun y1 m2 h_y1 => ?_)
  refine zj_if_ne C 13 h_y1 dX11_slip_8 rfl (fun c3 => ?_) (fun c3 => ?_)
  · refine zj_iconst C (-1) dX11_slip_11 ?_
    exact zrt_i C Z irc_m1 dX11_slip_12
  · refine zj_aload_n (j := 0) (i := 0) C rfl 0 rfl dX11_slip_13 ?_
    refine zj_getR C F zk_0 fl_X11_102 rfl rf_0_14 dX11_slip_14 ?_
    refine zj_aload_n (j := 0) (i := 0) C rfl 0 rfl dX11_slip_17 ?_
    refine zj_getR C F zk_0 fl_X11_42 rfl rf_0_4 dX11_slip_18 ?_
    refine zj_iload_n (j := 1) (i := 1) C rfl 1 rfl dX11_slip_21 ?_
    refine zj_callVv C F Z [.ref (zad Γ 20), .int (i32 x0)] [] cal_X9_write calv_X9_write ml_X11_316 zk_102 rfl rfl (by decide) (Nat.le_of_ble_eq_true rfl) rfl dX11_slip_22 (fun q h => M_X9_write l Γ F zk_20 h_x0 m2 q h) (fun _ m4 _ => ?_)
    refine zj_aload_n (j := 0) (i := 0) C rfl 0 rfl dX11_slip_25 ?_
    refine zj_getR C F zk_0 fl_X11_102 rfl rf_0_14 dX11_slip_26 ?_
    refine zj_getI C F 1 rfl zk_102 fl_X11_320 rfl dX11_slip_29 (fun h5 => ?_)
    exact zrt_i C Z h5 dX11_slip_32
