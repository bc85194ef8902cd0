abbrev cX5_init : ByteArray := prog_7_method_1_code
def yX5_init : MethodName := ⟨RX5, "<init>", "()V"⟩
abbrev cX7_init : ByteArray := prog_9_method_1_code
def yX7_init : MethodName := ⟨RX7, "<init>", "()V"⟩
abbrev cX8_init : ByteArray := prog_10_method_1_code
def yX8_init : MethodName := ⟨RX8, "<init>", "()V"⟩
abbrev cX3_init : ByteArray := prog_5_method_1_code
def yX3_init : MethodName := ⟨RX3, "<init>", "(LShadowHeirs$Plan;LShadowHeirs$Scene;LShadowHeirs$Sentence;)V"⟩
abbrev cX0_init : ByteArray := prog_2_method_1_code
def yX0_init : MethodName := ⟨RX0, "<init>", "(LShadowHeirs$Reader;)V"⟩
abbrev cX1_init : ByteArray := prog_3_method_1_code
def yX1_init : MethodName := ⟨RX1, "<init>", "()V"⟩
abbrev cX9_init : ByteArray := prog_11_method_1_code
def yX9_init : MethodName := ⟨RX9, "<init>", "()V"⟩
abbrev cX10_init : ByteArray := prog_12_method_1_code
def yX10_init : MethodName := ⟨RX10, "<init>", "(LShadowHeirs$Island;)V"⟩
abbrev cX2_init : ByteArray := prog_4_method_1_code
def yX2_init : MethodName := ⟨RX2, "<init>", "()V"⟩
abbrev cX4_init : ByteArray := prog_6_method_1_code
def yX4_init : MethodName := ⟨RX4, "<init>", "(LShadowHeirs$Reader;)V"⟩
abbrev cX6_init : ByteArray := prog_8_method_1_code
def yX6_init : MethodName := ⟨RX6, "<init>", "()V"⟩
abbrev cX12_init : ByteArray := prog_14_method_26_code
def yX12_init : MethodName := ⟨RX12, "<init>", "()V"⟩
abbrev cX11_init : ByteArray := prog_1_method_1_code
def yX11_init : MethodName := ⟨RX11, "<init>", "()V"⟩
theorem kRt_l {X : zM} {l : Launch} {Γ : zG} {D mc ms q N' : Nat} {mem' : zMem} (Z : kRt X l Γ D mc ms q N' mem') : X.2.1 = l := by
  obtain ⟨p, l, e, R, s, m, args, below, meth, c, cs0, sl0, Q⟩ := X
  exact Z.1
theorem kZ_wr {N : Nat} {ws : List Int} {k : Int} {mem : zMem} (h : kZ mem N) (hN : 3 < N) : kZ (wr3 ws k mem) N := fun p j hp => by
  rw [wr3_off (by omega)]
  exact h p j hp
theorem oi_1 : Cond.instanceMethod objectInit ∈ gw_tbl := (gw_1 (List.mem_of_getElem? (i := 31) (by decide +kernel)) rfl)
theorem oi_2 : Cond.code objectInit ⟨#[0xb1]⟩ 1 none ∈ gw_tbl := (gw_1 (List.mem_of_getElem? (i := 32) rfl) rfl)
theorem arc_int : Cond.arrayClass .int ∈ gw_tbl := (gw_1 (List.mem_of_getElem? (i := 141) (by decide +kernel)) rfl)
theorem arc_long : Cond.arrayClass .long ∈ gw_tbl := (gw_1 (List.mem_of_getElem? (i := 142) (by decide +kernel)) rfl)
theorem arc_boolean : Cond.arrayClass .boolean ∈ gw_tbl := (gw_2 (List.mem_of_getElem? (i := 211) (by decide +kernel)) rfl)
theorem moi_X5_3 : Cond.methodLink "ShadowHeirs$Plan" 3 objectInit ∈ gw_tbl := (gw_1 (List.mem_of_getElem? (i := 149) (by decide +kernel)) rfl)
theorem klk_X5_27 : ∃ (C' : String) (T : u_T) (N : Nat), vwCl[5]? = some (C', T, N) ∧ Cond.fieldLink "ShadowHeirs$Plan" 27 C' (T 5).2.1 (T 5).2.2.1 ∈ gw_tbl := ⟨RX5, TX5, 11, rfl, (gw_1 (List.mem_of_getElem? (i := 174) (by decide +kernel)) rfl)⟩
theorem kfin_5_5 : kFin "ShadowHeirs$Plan" 5 5 := fun T N C h => by
  cases h
  exact ⟨rfl, rfl, .array .int, by decide +kernel, fun a => ⟨rfl, rfl⟩⟩
theorem klk_X5_31 : ∃ (C' : String) (T : u_T) (N : Nat), vwCl[5]? = some (C', T, N) ∧ Cond.fieldLink "ShadowHeirs$Plan" 31 C' (T 6).2.1 (T 6).2.2.1 ∈ gw_tbl := ⟨RX5, TX5, 11, rfl, (gw_1 (List.mem_of_getElem? (i := 179) (by decide +kernel)) rfl)⟩
theorem kfin_5_6 : kFin "ShadowHeirs$Plan" 5 6 := fun T N C h => by
  cases h
  exact ⟨rfl, rfl, .array .int, by decide +kernel, fun a => ⟨rfl, rfl⟩⟩
theorem klk_X5_34 : ∃ (C' : String) (T : u_T) (N : Nat), vwCl[5]? = some (C', T, N) ∧ Cond.fieldLink "ShadowHeirs$Plan" 34 C' (T 7).2.1 (T 7).2.2.1 ∈ gw_tbl := ⟨RX5, TX5, 11, rfl, (gw_1 (List.mem_of_getElem? (i := 183) (by decide +kernel)) rfl)⟩
theorem kfin_5_7 : kFin "ShadowHeirs$Plan" 5 7 := fun T N C h => by
  cases h
  exact ⟨rfl, rfl, .array .long, by decide +kernel, fun a => ⟨rfl, rfl⟩⟩
theorem klk_X5_38 : ∃ (C' : String) (T : u_T) (N : Nat), vwCl[5]? = some (C', T, N) ∧ Cond.fieldLink "ShadowHeirs$Plan" 38 C' (T 8).2.1 (T 8).2.2.1 ∈ gw_tbl := ⟨RX5, TX5, 11, rfl, (gw_1 (List.mem_of_getElem? (i := 186) (by decide +kernel)) rfl)⟩
theorem kfin_5_8 : kFin "ShadowHeirs$Plan" 5 8 := fun T N C h => by
  cases h
  exact ⟨rfl, rfl, .array .long, by decide +kernel, fun a => ⟨rfl, rfl⟩⟩
theorem klk_X5_41 : ∃ (C' : String) (T : u_T) (N : Nat), vwCl[5]? = some (C', T, N) ∧ Cond.fieldLink "ShadowHeirs$Plan" 41 C' (T 9).2.1 (T 9).2.2.1 ∈ gw_tbl := ⟨RX5, TX5, 11, rfl, (gw_1 (List.mem_of_getElem? (i := 189) (by decide +kernel)) rfl)⟩
theorem kfin_5_9 : kFin "ShadowHeirs$Plan" 5 9 := fun T N C h => by
  cases h
  exact ⟨rfl, rfl, .array .int, by decide +kernel, fun a => ⟨rfl, rfl⟩⟩
theorem klk_X5_44 : ∃ (C' : String) (T : u_T) (N : Nat), vwCl[5]? = some (C', T, N) ∧ Cond.fieldLink "ShadowHeirs$Plan" 44 C' (T 10).2.1 (T 10).2.2.1 ∈ gw_tbl := ⟨RX5, TX5, 11, rfl, (gw_1 (List.mem_of_getElem? (i := 193) (by decide +kernel)) rfl)⟩
theorem kfin_5_10 : kFin "ShadowHeirs$Plan" 5 10 := fun T N C h => by
  cases h
  exact ⟨rfl, rfl, .array .int, by decide +kernel, fun a => ⟨rfl, rfl⟩⟩
theorem moi_X7_3 : Cond.methodLink "ShadowHeirs$Scene" 3 objectInit ∈ gw_tbl := (gw_1 (List.mem_of_getElem? (i := 224) (by decide +kernel)) rfl)
theorem klk_X7_9 : ∃ (C' : String) (T : u_T) (N : Nat), vwCl[7]? = some (C', T, N) ∧ Cond.fieldLink "ShadowHeirs$Scene" 9 C' (T 0).2.1 (T 0).2.2.1 ∈ gw_tbl := ⟨RX7, TX7, 9, rfl, (gw_1 (List.mem_of_getElem? (i := 225) (by decide +kernel)) rfl)⟩
theorem kfin_7_0 : kFin "ShadowHeirs$Scene" 7 0 := fun T N C h => by
  cases h
  exact ⟨rfl, rfl, .array .int, by decide +kernel, fun a => ⟨rfl, rfl⟩⟩
theorem klk_X7_15 : ∃ (C' : String) (T : u_T) (N : Nat), vwCl[7]? = some (C', T, N) ∧ Cond.fieldLink "ShadowHeirs$Scene" 15 C' (T 1).2.1 (T 1).2.2.1 ∈ gw_tbl := ⟨RX7, TX7, 9, rfl, (gw_1 (List.mem_of_getElem? (i := 228) (by decide +kernel)) rfl)⟩
theorem kfin_7_1 : kFin "ShadowHeirs$Scene" 7 1 := fun T N C h => by
  cases h
  exact ⟨rfl, rfl, .array .int, by decide +kernel, fun a => ⟨rfl, rfl⟩⟩
theorem klk_X7_18 : ∃ (C' : String) (T : u_T) (N : Nat), vwCl[7]? = some (C', T, N) ∧ Cond.fieldLink "ShadowHeirs$Scene" 18 C' (T 2).2.1 (T 2).2.2.1 ∈ gw_tbl := ⟨RX7, TX7, 9, rfl, (gw_1 (List.mem_of_getElem? (i := 235) (by decide +kernel)) rfl)⟩
theorem kfin_7_2 : kFin "ShadowHeirs$Scene" 7 2 := fun T N C h => by
  cases h
  exact ⟨rfl, rfl, .array .int, by decide +kernel, fun a => ⟨rfl, rfl⟩⟩
theorem klk_X7_21 : ∃ (C' : String) (T : u_T) (N : Nat), vwCl[7]? = some (C', T, N) ∧ Cond.fieldLink "ShadowHeirs$Scene" 21 C' (T 3).2.1 (T 3).2.2.1 ∈ gw_tbl := ⟨RX7, TX7, 9, rfl, (gw_2 (List.mem_of_getElem? (i := 0) (by decide +kernel)) rfl)⟩
theorem kfin_7_3 : kFin "ShadowHeirs$Scene" 7 3 := fun T N C h => by
  cases h
  exact ⟨rfl, rfl, .array .int, by decide +kernel, fun a => ⟨rfl, rfl⟩⟩
theorem moi_X8_3 : Cond.methodLink "ShadowHeirs$Sentence" 3 objectInit ∈ gw_tbl := (gw_2 (List.mem_of_getElem? (i := 47) (by decide +kernel)) rfl)
theorem klk_X8_11 : ∃ (C' : String) (T : u_T) (N : Nat), vwCl[8]? = some (C', T, N) ∧ Cond.fieldLink "ShadowHeirs$Sentence" 11 C' (T 0).2.1 (T 0).2.2.1 ∈ gw_tbl := ⟨RX8, TX8, 5, rfl, (gw_2 (List.mem_of_getElem? (i := 48) (by decide +kernel)) rfl)⟩
theorem kfin_8_0 : kFin "ShadowHeirs$Sentence" 8 0 := fun T N C h => by
  cases h
  exact ⟨rfl, rfl, .array .int, by decide +kernel, fun a => ⟨rfl, rfl⟩⟩
theorem klk_X8_15 : ∃ (C' : String) (T : u_T) (N : Nat), vwCl[8]? = some (C', T, N) ∧ Cond.fieldLink "ShadowHeirs$Sentence" 15 C' (T 1).2.1 (T 1).2.2.1 ∈ gw_tbl := ⟨RX8, TX8, 5, rfl, (gw_2 (List.mem_of_getElem? (i := 49) (by decide +kernel)) rfl)⟩
theorem kfin_8_1 : kFin "ShadowHeirs$Sentence" 8 1 := fun T N C h => by
  cases h
  exact ⟨rfl, rfl, .array .int, by decide +kernel, fun a => ⟨rfl, rfl⟩⟩
theorem klk_X8_18 : ∃ (C' : String) (T : u_T) (N : Nat), vwCl[8]? = some (C', T, N) ∧ Cond.fieldLink "ShadowHeirs$Sentence" 18 C' (T 2).2.1 (T 2).2.2.1 ∈ gw_tbl := ⟨RX8, TX8, 5, rfl, (gw_2 (List.mem_of_getElem? (i := 50) (by decide +kernel)) rfl)⟩
theorem kfin_8_2 : kFin "ShadowHeirs$Sentence" 8 2 := fun T N C h => by
  cases h
  exact ⟨rfl, rfl, .array .int, by decide +kernel, fun a => ⟨rfl, rfl⟩⟩
theorem moi_X3_3 : Cond.methodLink "ShadowHeirs$Island" 3 objectInit ∈ gw_tbl := (gw_2 (List.mem_of_getElem? (i := 70) (by decide +kernel)) rfl)
theorem klk_X3_9 : ∃ (C' : String) (T : u_T) (N : Nat), vwCl[3]? = some (C', T, N) ∧ Cond.fieldLink "ShadowHeirs$Island" 9 C' (T 0).2.1 (T 0).2.2.1 ∈ gw_tbl := ⟨RX3, TX3, 3, rfl, (gw_2 (List.mem_of_getElem? (i := 71) (by decide +kernel)) rfl)⟩
theorem kfin_3_0 : kFin "ShadowHeirs$Island" 3 0 := fun T N C h => by
  cases h
  exact ⟨rfl, rfl, .object "ShadowHeirs$Plan", by decide +kernel, fun a => ⟨rfl, rfl⟩⟩
theorem klk_X3_15 : ∃ (C' : String) (T : u_T) (N : Nat), vwCl[3]? = some (C', T, N) ∧ Cond.fieldLink "ShadowHeirs$Island" 15 C' (T 1).2.1 (T 1).2.2.1 ∈ gw_tbl := ⟨RX3, TX3, 3, rfl, (gw_2 (List.mem_of_getElem? (i := 77) (by decide +kernel)) rfl)⟩
theorem kfin_3_1 : kFin "ShadowHeirs$Island" 3 1 := fun T N C h => by
  cases h
  exact ⟨rfl, rfl, .object "ShadowHeirs$Scene", by decide +kernel, fun a => ⟨rfl, rfl⟩⟩
theorem klk_X3_19 : ∃ (C' : String) (T : u_T) (N : Nat), vwCl[3]? = some (C', T, N) ∧ Cond.fieldLink "ShadowHeirs$Island" 19 C' (T 2).2.1 (T 2).2.2.1 ∈ gw_tbl := ⟨RX3, TX3, 3, rfl, (gw_2 (List.mem_of_getElem? (i := 84) (by decide +kernel)) rfl)⟩
theorem kfin_3_2 : kFin "ShadowHeirs$Island" 3 2 := fun T N C h => by
  cases h
  exact ⟨rfl, rfl, .object "ShadowHeirs$Sentence", by decide +kernel, fun a => ⟨rfl, rfl⟩⟩
theorem moi_X0_3 : Cond.methodLink "ShadowHeirs$Book" 3 objectInit ∈ gw_tbl := (gw_2 (List.mem_of_getElem? (i := 134) (by decide +kernel)) rfl)
theorem klk_X0_11 : ∃ (C' : String) (T : u_T) (N : Nat), vwCl[0]? = some (C', T, N) ∧ Cond.fieldLink "ShadowHeirs$Book" 11 C' (T 1).2.1 (T 1).2.2.1 ∈ gw_tbl := ⟨RX0, TX0, 10, rfl, (gw_2 (List.mem_of_getElem? (i := 136) (by decide +kernel)) rfl)⟩
theorem kfin_0_1 : kFin "ShadowHeirs$Book" 0 1 := fun T N C h => by
  cases h
  exact ⟨rfl, rfl, .array .int, by decide +kernel, fun a => ⟨rfl, rfl⟩⟩
theorem klk_X0_15 : ∃ (C' : String) (T : u_T) (N : Nat), vwCl[0]? = some (C', T, N) ∧ Cond.fieldLink "ShadowHeirs$Book" 15 C' (T 2).2.1 (T 2).2.2.1 ∈ gw_tbl := ⟨RX0, TX0, 10, rfl, (gw_2 (List.mem_of_getElem? (i := 137) (by decide +kernel)) rfl)⟩
theorem kfin_0_2 : kFin "ShadowHeirs$Book" 0 2 := fun T N C h => by
  cases h
  exact ⟨rfl, rfl, .array .int, by decide +kernel, fun a => ⟨rfl, rfl⟩⟩
theorem klk_X0_18 : ∃ (C' : String) (T : u_T) (N : Nat), vwCl[0]? = some (C', T, N) ∧ Cond.fieldLink "ShadowHeirs$Book" 18 C' (T 3).2.1 (T 3).2.2.1 ∈ gw_tbl := ⟨RX0, TX0, 10, rfl, (gw_2 (List.mem_of_getElem? (i := 138) (by decide +kernel)) rfl)⟩
theorem kfin_0_3 : kFin "ShadowHeirs$Book" 0 3 := fun T N C h => by
  cases h
  exact ⟨rfl, rfl, .array .int, by decide +kernel, fun a => ⟨rfl, rfl⟩⟩
theorem klk_X0_41 : ∃ (C' : String) (T : u_T) (N : Nat), vwCl[0]? = some (C', T, N) ∧ Cond.fieldLink "ShadowHeirs$Book" 41 C' (T 0).2.1 (T 0).2.2.1 ∈ gw_tbl := ⟨RX0, TX0, 10, rfl, (gw_2 (List.mem_of_getElem? (i := 135) (by decide +kernel)) rfl)⟩
theorem kfin_0_0 : kFin "ShadowHeirs$Book" 0 0 := fun T N C h => by
  cases h
  exact ⟨rfl, rfl, .object "ShadowHeirs$Reader", by decide +kernel, fun a => ⟨rfl, rfl⟩⟩
theorem moi_X1_3 : Cond.methodLink "ShadowHeirs$Draws" 3 objectInit ∈ gw_tbl := (gw_2 (List.mem_of_getElem? (i := 217) (by decide +kernel)) rfl)
theorem moi_X9_3 : Cond.methodLink "ShadowHeirs$Slip" 3 objectInit ∈ gw_tbl := (gw_2 (List.mem_of_getElem? (i := 227) (by decide +kernel)) rfl)
theorem klk_X9_11 : ∃ (C' : String) (T : u_T) (N : Nat), vwCl[9]? = some (C', T, N) ∧ Cond.fieldLink "ShadowHeirs$Slip" 11 C' (T 0).2.1 (T 0).2.2.1 ∈ gw_tbl := ⟨RX9, TX9, 2, rfl, (gw_2 (List.mem_of_getElem? (i := 228) (by decide +kernel)) rfl)⟩
theorem kfin_9_0 : kFin "ShadowHeirs$Slip" 9 0 := fun T N C h => by
  cases h
  exact ⟨rfl, rfl, .array .int, by decide +kernel, fun a => ⟨rfl, rfl⟩⟩
theorem moi_X10_3 : Cond.methodLink "ShadowHeirs$Walk" 3 objectInit ∈ gw_tbl := (gw_2 (List.mem_of_getElem? (i := 197) (by decide +kernel)) rfl)
theorem klk_X10_9 : ∃ (C' : String) (T : u_T) (N : Nat), vwCl[10]? = some (C', T, N) ∧ Cond.fieldLink "ShadowHeirs$Walk" 9 C' (T 1).2.1 (T 1).2.2.1 ∈ gw_tbl := ⟨RX10, TX10, 4, rfl, (gw_2 (List.mem_of_getElem? (i := 199) (by decide +kernel)) rfl)⟩
theorem kfin_10_1 : kFin "ShadowHeirs$Walk" 10 1 := fun T N C h => by
  cases h
  exact ⟨rfl, rfl, .array .int, by decide +kernel, fun a => ⟨rfl, rfl⟩⟩
theorem klk_X10_15 : ∃ (C' : String) (T : u_T) (N : Nat), vwCl[10]? = some (C', T, N) ∧ Cond.fieldLink "ShadowHeirs$Walk" 15 C' (T 2).2.1 (T 2).2.2.1 ∈ gw_tbl := ⟨RX10, TX10, 4, rfl, (gw_2 (List.mem_of_getElem? (i := 200) (by decide +kernel)) rfl)⟩
theorem kfin_10_2 : kFin "ShadowHeirs$Walk" 10 2 := fun T N C h => by
  cases h
  exact ⟨rfl, rfl, .array .int, by decide +kernel, fun a => ⟨rfl, rfl⟩⟩
theorem klk_X10_18 : ∃ (C' : String) (T : u_T) (N : Nat), vwCl[10]? = some (C', T, N) ∧ Cond.fieldLink "ShadowHeirs$Walk" 18 C' (T 3).2.1 (T 3).2.2.1 ∈ gw_tbl := ⟨RX10, TX10, 4, rfl, (gw_2 (List.mem_of_getElem? (i := 201) (by decide +kernel)) rfl)⟩
theorem kfin_10_3 : kFin "ShadowHeirs$Walk" 10 3 := fun T N C h => by
  cases h
  exact ⟨rfl, rfl, .array .boolean, by decide +kernel, fun a => ⟨rfl, rfl⟩⟩
theorem klk_X10_22 : ∃ (C' : String) (T : u_T) (N : Nat), vwCl[10]? = some (C', T, N) ∧ Cond.fieldLink "ShadowHeirs$Walk" 22 C' (T 0).2.1 (T 0).2.2.1 ∈ gw_tbl := ⟨RX10, TX10, 4, rfl, (gw_2 (List.mem_of_getElem? (i := 198) (by decide +kernel)) rfl)⟩
theorem kfin_10_0 : kFin "ShadowHeirs$Walk" 10 0 := fun T N C h => by
  cases h
  exact ⟨rfl, rfl, .object "ShadowHeirs$Island", by decide +kernel, fun a => ⟨rfl, rfl⟩⟩
theorem moi_X2_1 : Cond.methodLink "ShadowHeirs$History" 1 objectInit ∈ gw_tbl := (gw_2 (List.mem_of_getElem? (i := 176) (by decide +kernel)) rfl)
theorem acl_X2_9 : Cond.classLink "ShadowHeirs$History" 9 "ShadowHeirs$Scene" ∈ gw_tbl := (gw_2 (List.mem_of_getElem? (i := 177) (by decide +kernel)) rfl)
theorem klk_X2_11 : ∃ (C' : String) (T : u_T) (N : Nat), vwCl[2]? = some (C', T, N) ∧ Cond.fieldLink "ShadowHeirs$History" 11 C' (T 0).2.1 (T 0).2.2.1 ∈ gw_tbl := ⟨RX2, TX2, 3, rfl, (gw_2 (List.mem_of_getElem? (i := 180) (by decide +kernel)) rfl)⟩
theorem kfin_2_0 : kFin "ShadowHeirs$History" 2 0 := fun T N C h => by
  cases h
  exact ⟨rfl, rfl, .array (.object "ShadowHeirs$Scene"), by decide +kernel, fun a => ⟨rfl, rfl⟩⟩
theorem kdf_7 : ∀ j, j < 9 → defaultValue (tyX7 j) = vp_V ((List.range (sNf 7)).map (zdf 7)) j := by
  intro j hj
  match j, hj with
  | 0, _ => rfl
  | 1, _ => rfl
  | 2, _ => rfl
  | 3, _ => rfl
  | 4, _ => rfl
  | 5, _ => rfl
  | 6, _ => rfl
  | 7, _ => rfl
  | 8, _ => rfl
  | j + 9, h => exact absurd h (by omega)
theorem kcl_X2_9 : kCl "ShadowHeirs$History" 9 7 := ⟨RX7, TX7, 9, tyX7, rfl, by decide, rfl, clw_7, tyX7_ok, (gw_2 (List.mem_of_getElem? (i := 177) (by decide +kernel)) rfl), (gw_1 (List.mem_of_getElem? (i := 220) (by decide +kernel)) rfl), (gw_1 (List.mem_of_getElem? (i := 8) (by decide +kernel)) rfl), kdf_7⟩
set_option maxRecDepth 100000 in
theorem cal_X7_init : zCal yX7_init cX7_init 1 none 0 := ⟨(gw_1 (List.mem_of_getElem? (i := 223) rfl) rfl), (gw_1 (List.mem_of_getElem? (i := 8) (by decide +kernel)) rfl), by decide +kernel⟩
theorem ins_X7_init : Cond.instanceMethod yX7_init ∈ gw_tbl := (gw_1 (List.mem_of_getElem? (i := 222) (by decide +kernel)) rfl)
theorem ml_X2_22 : zMl "ShadowHeirs$History" 22 yX7_init := Or.inr ⟨"ShadowHeirs", (nw_2 (List.mem_of_getElem? (i := 179) (by decide +kernel)) rfl)⟩
theorem moi_X4_3 : Cond.methodLink "ShadowHeirs$IslandText" 3 objectInit ∈ gw_tbl := (gw_2 (List.mem_of_getElem? (i := 97) (by decide +kernel)) rfl)
theorem kdf_5 : ∀ j, j < 11 → defaultValue (tyX5 j) = vp_V ((List.range (sNf 5)).map (zdf 5)) j := by
  intro j hj
  match j, hj with
  | 0, _ => rfl
  | 1, _ => rfl
  | 2, _ => rfl
  | 3, _ => rfl
  | 4, _ => rfl
  | 5, _ => rfl
  | 6, _ => rfl
  | 7, _ => rfl
  | 8, _ => rfl
  | 9, _ => rfl
  | 10, _ => rfl
  | j + 11, h => exact absurd h (by omega)
theorem kcl_X4_9 : kCl "ShadowHeirs$IslandText" 9 5 := ⟨RX5, TX5, 11, tyX5, rfl, by decide, rfl, clw_5, tyX5_ok, (gw_2 (List.mem_of_getElem? (i := 98) (by decide +kernel)) rfl), (gw_1 (List.mem_of_getElem? (i := 145) (by decide +kernel)) rfl), (gw_1 (List.mem_of_getElem? (i := 7) (by decide +kernel)) rfl), kdf_5⟩
set_option maxRecDepth 100000 in
theorem cal_X5_init : zCal yX5_init cX5_init 1 none 0 := ⟨(gw_1 (List.mem_of_getElem? (i := 148) rfl) rfl), (gw_1 (List.mem_of_getElem? (i := 7) (by decide +kernel)) rfl), by decide +kernel⟩
theorem ins_X5_init : Cond.instanceMethod yX5_init ∈ gw_tbl := (gw_1 (List.mem_of_getElem? (i := 147) (by decide +kernel)) rfl)
theorem ml_X4_11 : zMl "ShadowHeirs$IslandText" 11 yX5_init := Or.inr ⟨"ShadowHeirs", (nw_2 (List.mem_of_getElem? (i := 99) (by decide +kernel)) rfl)⟩
theorem klk_X4_12 : ∃ (C' : String) (T : u_T) (N : Nat), vwCl[4]? = some (C', T, N) ∧ Cond.fieldLink "ShadowHeirs$IslandText" 12 C' (T 1).2.1 (T 1).2.2.1 ∈ gw_tbl := ⟨RX4, TX4, 7, rfl, (gw_2 (List.mem_of_getElem? (i := 107) (by decide +kernel)) rfl)⟩
theorem kfin_4_1 : kFin "ShadowHeirs$IslandText" 4 1 := fun T N C h => by
  cases h
  exact ⟨rfl, rfl, .object "ShadowHeirs$Plan", by decide +kernel, fun a => ⟨rfl, rfl⟩⟩
theorem kcl_X4_18 : kCl "ShadowHeirs$IslandText" 18 7 := ⟨RX7, TX7, 9, tyX7, rfl, by decide, rfl, clw_7, tyX7_ok, (gw_2 (List.mem_of_getElem? (i := 100) (by decide +kernel)) rfl), (gw_1 (List.mem_of_getElem? (i := 220) (by decide +kernel)) rfl), (gw_1 (List.mem_of_getElem? (i := 8) (by decide +kernel)) rfl), kdf_7⟩
theorem ml_X4_20 : zMl "ShadowHeirs$IslandText" 20 yX7_init := Or.inr ⟨"ShadowHeirs", (nw_2 (List.mem_of_getElem? (i := 101) (by decide +kernel)) rfl)⟩
theorem klk_X4_21 : ∃ (C' : String) (T : u_T) (N : Nat), vwCl[4]? = some (C', T, N) ∧ Cond.fieldLink "ShadowHeirs$IslandText" 21 C' (T 2).2.1 (T 2).2.2.1 ∈ gw_tbl := ⟨RX4, TX4, 7, rfl, (gw_2 (List.mem_of_getElem? (i := 108) (by decide +kernel)) rfl)⟩
theorem kfin_4_2 : kFin "ShadowHeirs$IslandText" 4 2 := fun T N C h => by
  cases h
  exact ⟨rfl, rfl, .object "ShadowHeirs$Scene", by decide +kernel, fun a => ⟨rfl, rfl⟩⟩
theorem kdf_3 : ∀ j, j < 3 → defaultValue (tyX3 j) = vp_V ((List.range (sNf 3)).map (zdf 3)) j := by
  intro j hj
  match j, hj with
  | 0, _ => rfl
  | 1, _ => rfl
  | 2, _ => rfl
  | j + 3, h => exact absurd h (by omega)
theorem kcl_X4_25 : kCl "ShadowHeirs$IslandText" 25 3 := ⟨RX3, TX3, 3, tyX3, rfl, by decide, rfl, clw_3, tyX3_ok, (gw_2 (List.mem_of_getElem? (i := 102) (by decide +kernel)) rfl), (gw_2 (List.mem_of_getElem? (i := 66) (by decide +kernel)) rfl), (gw_1 (List.mem_of_getElem? (i := 10) (by decide +kernel)) rfl), kdf_3⟩
theorem kdf_8 : ∀ j, j < 5 → defaultValue (tyX8 j) = vp_V ((List.range (sNf 8)).map (zdf 8)) j := by
  intro j hj
  match j, hj with
  | 0, _ => rfl
  | 1, _ => rfl
  | 2, _ => rfl
  | 3, _ => rfl
  | 4, _ => rfl
  | j + 5, h => exact absurd h (by omega)
theorem kcl_X4_27 : kCl "ShadowHeirs$IslandText" 27 8 := ⟨RX8, TX8, 5, tyX8, rfl, by decide, rfl, clw_8, tyX8_ok, (gw_2 (List.mem_of_getElem? (i := 103) (by decide +kernel)) rfl), (gw_2 (List.mem_of_getElem? (i := 43) (by decide +kernel)) rfl), (gw_1 (List.mem_of_getElem? (i := 9) (by decide +kernel)) rfl), kdf_8⟩
set_option maxRecDepth 100000 in
theorem cal_X8_init : zCal yX8_init cX8_init 1 none 0 := ⟨(gw_2 (List.mem_of_getElem? (i := 46) rfl) rfl), (gw_1 (List.mem_of_getElem? (i := 9) (by decide +kernel)) rfl), by decide +kernel⟩
theorem ins_X8_init : Cond.instanceMethod yX8_init ∈ gw_tbl := (gw_2 (List.mem_of_getElem? (i := 45) (by decide +kernel)) rfl)
theorem ml_X4_29 : zMl "ShadowHeirs$IslandText" 29 yX8_init := Or.inr ⟨"ShadowHeirs", (nw_2 (List.mem_of_getElem? (i := 104) (by decide +kernel)) rfl)⟩
set_option maxRecDepth 100000 in
theorem cal_X3_init : zCal yX3_init cX3_init 4 none 3 := ⟨(gw_2 (List.mem_of_getElem? (i := 69) rfl) rfl), (gw_1 (List.mem_of_getElem? (i := 10) (by decide +kernel)) rfl), by decide +kernel⟩
theorem ins_X3_init : Cond.instanceMethod yX3_init ∈ gw_tbl := (gw_2 (List.mem_of_getElem? (i := 68) (by decide +kernel)) rfl)
theorem ml_X4_30 : zMl "ShadowHeirs$IslandText" 30 yX3_init := Or.inl (gw_2 (List.mem_of_getElem? (i := 105) (by decide +kernel)) rfl)
theorem klk_X4_33 : ∃ (C' : String) (T : u_T) (N : Nat), vwCl[4]? = some (C', T, N) ∧ Cond.fieldLink "ShadowHeirs$IslandText" 33 C' (T 3).2.1 (T 3).2.2.1 ∈ gw_tbl := ⟨RX4, TX4, 7, rfl, (gw_2 (List.mem_of_getElem? (i := 109) (by decide +kernel)) rfl)⟩
theorem kfin_4_3 : kFin "ShadowHeirs$IslandText" 4 3 := fun T N C h => by
  cases h
  exact ⟨rfl, rfl, .object "ShadowHeirs$Island", by decide +kernel, fun a => ⟨rfl, rfl⟩⟩
theorem klk_X4_48 : ∃ (C' : String) (T : u_T) (N : Nat), vwCl[4]? = some (C', T, N) ∧ Cond.fieldLink "ShadowHeirs$IslandText" 48 C' (T 0).2.1 (T 0).2.2.1 ∈ gw_tbl := ⟨RX4, TX4, 7, rfl, (gw_2 (List.mem_of_getElem? (i := 106) (by decide +kernel)) rfl)⟩
theorem kfin_4_0 : kFin "ShadowHeirs$IslandText" 4 0 := fun T N C h => by
  cases h
  exact ⟨rfl, rfl, .object "ShadowHeirs$Reader", by decide +kernel, fun a => ⟨rfl, rfl⟩⟩
theorem moi_X6_3 : Cond.methodLink "ShadowHeirs$Reader" 3 objectInit ∈ gw_tbl := (gw_1 (List.mem_of_getElem? (i := 38) (by decide +kernel)) rfl)
theorem klk_X6_11 : ∃ (C' : String) (T : u_T) (N : Nat), vwCl[6]? = some (C', T, N) ∧ Cond.fieldLink "ShadowHeirs$Reader" 11 C' (T 0).2.1 (T 0).2.2.1 ∈ gw_tbl := ⟨RX6, TX6, 11, rfl, (gw_1 (List.mem_of_getElem? (i := 95) (by decide +kernel)) rfl)⟩
theorem kfin_6_0 : kFin "ShadowHeirs$Reader" 6 0 := fun T N C h => by
  cases h
  exact ⟨rfl, rfl, .array .int, by decide +kernel, fun a => ⟨rfl, rfl⟩⟩
theorem klk_X6_15 : ∃ (C' : String) (T : u_T) (N : Nat), vwCl[6]? = some (C', T, N) ∧ Cond.fieldLink "ShadowHeirs$Reader" 15 C' (T 1).2.1 (T 1).2.2.1 ∈ gw_tbl := ⟨RX6, TX6, 11, rfl, (gw_1 (List.mem_of_getElem? (i := 96) (by decide +kernel)) rfl)⟩
theorem kfin_6_1 : kFin "ShadowHeirs$Reader" 6 1 := fun T N C h => by
  cases h
  exact ⟨rfl, rfl, .array .long, by decide +kernel, fun a => ⟨rfl, rfl⟩⟩
set_option maxRecDepth 100000 in
theorem cal_X6_packWords : zCal yX6_packWords cX6_packWords 7 (some .int) 2 := ⟨(gw_1 (List.mem_of_getElem? (i := 43) rfl) rfl), (gw_1 (List.mem_of_getElem? (i := 2) (by decide +kernel)) rfl), by decide +kernel⟩
theorem calv_X6_packWords : zCalV yX6_packWords := ⟨(gw_1 (List.mem_of_getElem? (i := 42) (by decide +kernel)) rfl), (gw_s (y := yX6_packWords) (n := 11) (List.mem_of_getElem? (i := 0) (by decide +kernel)))⟩
theorem ml_X6_50 : zMl "ShadowHeirs$Reader" 50 yX6_packWords := Or.inl (gw_1 (List.mem_of_getElem? (i := 40) (by decide +kernel)) rfl)
theorem moi_X12_93 : Cond.methodLink "ShadowHeirsModel" 93 objectInit ∈ gw_tbl := (gw_6 (List.mem_of_getElem? (i := 84) (by decide +kernel)) rfl)
theorem klk_X12_7 : ∃ (C' : String) (T : u_T) (N : Nat), vwCl[12]? = some (C', T, N) ∧ Cond.fieldLink "ShadowHeirsModel" 7 C' (T 1).2.1 (T 1).2.2.1 ∈ gw_tbl := ⟨RX12, TX12, 47, rfl, (gw_6 (List.mem_of_getElem? (i := 90) (by decide +kernel)) rfl)⟩
theorem kfin_12_1 : kFin "ShadowHeirsModel" 12 1 := fun T N C h => by
  cases h
  exact ⟨rfl, rfl, .array .int, by decide +kernel, fun a => ⟨rfl, rfl⟩⟩
theorem klk_X12_98 : ∃ (C' : String) (T : u_T) (N : Nat), vwCl[12]? = some (C', T, N) ∧ Cond.fieldLink "ShadowHeirsModel" 98 C' (T 14).2.1 (T 14).2.2.1 ∈ gw_tbl := ⟨RX12, TX12, 47, rfl, (gw_6 (List.mem_of_getElem? (i := 103) (by decide +kernel)) rfl)⟩
theorem kfin_12_14 : kFin "ShadowHeirsModel" 12 14 := fun T N C h => by
  cases h
  exact ⟨rfl, rfl, .array .int, by decide +kernel, fun a => ⟨rfl, rfl⟩⟩
theorem klk_X12_101 : ∃ (C' : String) (T : u_T) (N : Nat), vwCl[12]? = some (C', T, N) ∧ Cond.fieldLink "ShadowHeirsModel" 101 C' (T 15).2.1 (T 15).2.2.1 ∈ gw_tbl := ⟨RX12, TX12, 47, rfl, (gw_6 (List.mem_of_getElem? (i := 104) (by decide +kernel)) rfl)⟩
theorem kfin_12_15 : kFin "ShadowHeirsModel" 12 15 := fun T N C h => by
  cases h
  exact ⟨rfl, rfl, .array .int, by decide +kernel, fun a => ⟨rfl, rfl⟩⟩
theorem klk_X12_104 : ∃ (C' : String) (T : u_T) (N : Nat), vwCl[12]? = some (C', T, N) ∧ Cond.fieldLink "ShadowHeirsModel" 104 C' (T 16).2.1 (T 16).2.2.1 ∈ gw_tbl := ⟨RX12, TX12, 47, rfl, (gw_6 (List.mem_of_getElem? (i := 105) (by decide +kernel)) rfl)⟩
theorem kfin_12_16 : kFin "ShadowHeirsModel" 12 16 := fun T N C h => by
  cases h
  exact ⟨rfl, rfl, .array .int, by decide +kernel, fun a => ⟨rfl, rfl⟩⟩
theorem klk_X12_107 : ∃ (C' : String) (T : u_T) (N : Nat), vwCl[12]? = some (C', T, N) ∧ Cond.fieldLink "ShadowHeirsModel" 107 C' (T 17).2.1 (T 17).2.2.1 ∈ gw_tbl := ⟨RX12, TX12, 47, rfl, (gw_6 (List.mem_of_getElem? (i := 106) (by decide +kernel)) rfl)⟩
theorem kfin_12_17 : kFin "ShadowHeirsModel" 12 17 := fun T N C h => by
  cases h
  exact ⟨rfl, rfl, .array .int, by decide +kernel, fun a => ⟨rfl, rfl⟩⟩
theorem klk_X12_110 : ∃ (C' : String) (T : u_T) (N : Nat), vwCl[12]? = some (C', T, N) ∧ Cond.fieldLink "ShadowHeirsModel" 110 C' (T 18).2.1 (T 18).2.2.1 ∈ gw_tbl := ⟨RX12, TX12, 47, rfl, (gw_6 (List.mem_of_getElem? (i := 107) (by decide +kernel)) rfl)⟩
theorem kfin_12_18 : kFin "ShadowHeirsModel" 12 18 := fun T N C h => by
  cases h
  exact ⟨rfl, rfl, .array .int, by decide +kernel, fun a => ⟨rfl, rfl⟩⟩
theorem klk_X12_113 : ∃ (C' : String) (T : u_T) (N : Nat), vwCl[12]? = some (C', T, N) ∧ Cond.fieldLink "ShadowHeirsModel" 113 C' (T 19).2.1 (T 19).2.2.1 ∈ gw_tbl := ⟨RX12, TX12, 47, rfl, (gw_6 (List.mem_of_getElem? (i := 108) (by decide +kernel)) rfl)⟩
theorem kfin_12_19 : kFin "ShadowHeirsModel" 12 19 := fun T N C h => by
  cases h
  exact ⟨rfl, rfl, .array .long, by decide +kernel, fun a => ⟨rfl, rfl⟩⟩
theorem klk_X12_117 : ∃ (C' : String) (T : u_T) (N : Nat), vwCl[12]? = some (C', T, N) ∧ Cond.fieldLink "ShadowHeirsModel" 117 C' (T 20).2.1 (T 20).2.2.1 ∈ gw_tbl := ⟨RX12, TX12, 47, rfl, (gw_6 (List.mem_of_getElem? (i := 109) (by decide +kernel)) rfl)⟩
theorem kfin_12_20 : kFin "ShadowHeirsModel" 12 20 := fun T N C h => by
  cases h
  exact ⟨rfl, rfl, .array .long, by decide +kernel, fun a => ⟨rfl, rfl⟩⟩
theorem klk_X12_120 : ∃ (C' : String) (T : u_T) (N : Nat), vwCl[12]? = some (C', T, N) ∧ Cond.fieldLink "ShadowHeirsModel" 120 C' (T 21).2.1 (T 21).2.2.1 ∈ gw_tbl := ⟨RX12, TX12, 47, rfl, (gw_6 (List.mem_of_getElem? (i := 110) (by decide +kernel)) rfl)⟩
theorem kfin_12_21 : kFin "ShadowHeirsModel" 12 21 := fun T N C h => by
  cases h
  exact ⟨rfl, rfl, .array .long, by decide +kernel, fun a => ⟨rfl, rfl⟩⟩
theorem klk_X12_123 : ∃ (C' : String) (T : u_T) (N : Nat), vwCl[12]? = some (C', T, N) ∧ Cond.fieldLink "ShadowHeirsModel" 123 C' (T 22).2.1 (T 22).2.2.1 ∈ gw_tbl := ⟨RX12, TX12, 47, rfl, (gw_6 (List.mem_of_getElem? (i := 111) (by decide +kernel)) rfl)⟩
theorem kfin_12_22 : kFin "ShadowHeirsModel" 12 22 := fun T N C h => by
  cases h
  exact ⟨rfl, rfl, .array .boolean, by decide +kernel, fun a => ⟨rfl, rfl⟩⟩
theorem klk_X12_130 : ∃ (C' : String) (T : u_T) (N : Nat), vwCl[12]? = some (C', T, N) ∧ Cond.fieldLink "ShadowHeirsModel" 130 C' (T 27).2.1 (T 27).2.2.1 ∈ gw_tbl := ⟨RX12, TX12, 47, rfl, (gw_6 (List.mem_of_getElem? (i := 116) (by decide +kernel)) rfl)⟩
theorem kfin_12_27 : kFin "ShadowHeirsModel" 12 27 := fun T N C h => by
  cases h
  exact ⟨rfl, rfl, .array .int, by decide +kernel, fun a => ⟨rfl, rfl⟩⟩
theorem klk_X12_133 : ∃ (C' : String) (T : u_T) (N : Nat), vwCl[12]? = some (C', T, N) ∧ Cond.fieldLink "ShadowHeirsModel" 133 C' (T 28).2.1 (T 28).2.2.1 ∈ gw_tbl := ⟨RX12, TX12, 47, rfl, (gw_6 (List.mem_of_getElem? (i := 117) (by decide +kernel)) rfl)⟩
theorem kfin_12_28 : kFin "ShadowHeirsModel" 12 28 := fun T N C h => by
  cases h
  exact ⟨rfl, rfl, .array .int, by decide +kernel, fun a => ⟨rfl, rfl⟩⟩
theorem klk_X12_136 : ∃ (C' : String) (T : u_T) (N : Nat), vwCl[12]? = some (C', T, N) ∧ Cond.fieldLink "ShadowHeirsModel" 136 C' (T 29).2.1 (T 29).2.2.1 ∈ gw_tbl := ⟨RX12, TX12, 47, rfl, (gw_6 (List.mem_of_getElem? (i := 118) (by decide +kernel)) rfl)⟩
theorem kfin_12_29 : kFin "ShadowHeirsModel" 12 29 := fun T N C h => by
  cases h
  exact ⟨rfl, rfl, .array .int, by decide +kernel, fun a => ⟨rfl, rfl⟩⟩
theorem klk_X12_139 : ∃ (C' : String) (T : u_T) (N : Nat), vwCl[12]? = some (C', T, N) ∧ Cond.fieldLink "ShadowHeirsModel" 139 C' (T 30).2.1 (T 30).2.2.1 ∈ gw_tbl := ⟨RX12, TX12, 47, rfl, (gw_6 (List.mem_of_getElem? (i := 119) (by decide +kernel)) rfl)⟩
theorem kfin_12_30 : kFin "ShadowHeirsModel" 12 30 := fun T N C h => by
  cases h
  exact ⟨rfl, rfl, .array .long, by decide +kernel, fun a => ⟨rfl, rfl⟩⟩
theorem klk_X12_151 : ∃ (C' : String) (T : u_T) (N : Nat), vwCl[12]? = some (C', T, N) ∧ Cond.fieldLink "ShadowHeirsModel" 151 C' (T 35).2.1 (T 35).2.2.1 ∈ gw_tbl := ⟨RX12, TX12, 47, rfl, (gw_6 (List.mem_of_getElem? (i := 124) (by decide +kernel)) rfl)⟩
theorem kfin_12_35 : kFin "ShadowHeirsModel" 12 35 := fun T N C h => by
  cases h
  exact ⟨rfl, rfl, .array .int, by decide +kernel, fun a => ⟨rfl, rfl⟩⟩
theorem klk_X12_154 : ∃ (C' : String) (T : u_T) (N : Nat), vwCl[12]? = some (C', T, N) ∧ Cond.fieldLink "ShadowHeirsModel" 154 C' (T 38).2.1 (T 38).2.2.1 ∈ gw_tbl := ⟨RX12, TX12, 47, rfl, (gw_6 (List.mem_of_getElem? (i := 127) (by decide +kernel)) rfl)⟩
theorem kfin_12_38 : kFin "ShadowHeirsModel" 12 38 := fun T N C h => by
  cases h
  exact ⟨rfl, rfl, .array .int, by decide +kernel, fun a => ⟨rfl, rfl⟩⟩
theorem klk_X12_157 : ∃ (C' : String) (T : u_T) (N : Nat), vwCl[12]? = some (C', T, N) ∧ Cond.fieldLink "ShadowHeirsModel" 157 C' (T 39).2.1 (T 39).2.2.1 ∈ gw_tbl := ⟨RX12, TX12, 47, rfl, (gw_6 (List.mem_of_getElem? (i := 128) (by decide +kernel)) rfl)⟩
theorem kfin_12_39 : kFin "ShadowHeirsModel" 12 39 := fun T N C h => by
  cases h
  exact ⟨rfl, rfl, .array .int, by decide +kernel, fun a => ⟨rfl, rfl⟩⟩
theorem klk_X12_160 : ∃ (C' : String) (T : u_T) (N : Nat), vwCl[12]? = some (C', T, N) ∧ Cond.fieldLink "ShadowHeirsModel" 160 C' (T 42).2.1 (T 42).2.2.1 ∈ gw_tbl := ⟨RX12, TX12, 47, rfl, (gw_6 (List.mem_of_getElem? (i := 131) (by decide +kernel)) rfl)⟩
theorem kfin_12_42 : kFin "ShadowHeirsModel" 12 42 := fun T N C h => by
  cases h
  exact ⟨rfl, rfl, .array .int, by decide +kernel, fun a => ⟨rfl, rfl⟩⟩
theorem moi_X11_1 : Cond.methodLink "ShadowHeirs" 1 objectInit ∈ gw_tbl := (gw_1 (List.mem_of_getElem? (i := 30) (by decide +kernel)) rfl)
theorem kdf_6 : ∀ j, j < 11 → defaultValue (tyX6 j) = vp_V ((List.range (sNf 6)).map (zdf 6)) j := by
  intro j hj
  match j, hj with
  | 0, _ => rfl
  | 1, _ => rfl
  | 2, _ => rfl
  | 3, _ => rfl
  | 4, _ => rfl
  | 5, _ => rfl
  | 6, _ => rfl
  | 7, _ => rfl
  | 8, _ => rfl
  | 9, _ => rfl
  | 10, _ => rfl
  | j + 11, h => exact absurd h (by omega)
theorem kcl_X11_7 : kCl "ShadowHeirs" 7 6 := ⟨RX6, TX6, 11, tyX6, rfl, by decide, rfl, clw_6, tyX6_ok, (gw_1 (List.mem_of_getElem? (i := 33) (by decide +kernel)) rfl), (gw_1 (List.mem_of_getElem? (i := 34) (by decide +kernel)) rfl), (gw_1 (List.mem_of_getElem? (i := 2) (by decide +kernel)) rfl), kdf_6⟩
set_option maxRecDepth 100000 in
theorem cal_X6_init : zCal yX6_init cX6_init 2 none 0 := ⟨(gw_1 (List.mem_of_getElem? (i := 37) rfl) rfl), (gw_1 (List.mem_of_getElem? (i := 2) (by decide +kernel)) rfl), by decide +kernel⟩
theorem ins_X6_init : Cond.instanceMethod yX6_init ∈ gw_tbl := (gw_1 (List.mem_of_getElem? (i := 36) (by decide +kernel)) rfl)
theorem ml_X11_9 : zMl "ShadowHeirs" 9 yX6_init := Or.inl (gw_1 (List.mem_of_getElem? (i := 35) (by decide +kernel)) rfl)
theorem klk_X11_10 : ∃ (C' : String) (T : u_T) (N : Nat), vwCl[11]? = some (C', T, N) ∧ Cond.fieldLink "ShadowHeirs" 10 C' (T 0).2.1 (T 0).2.2.1 ∈ gw_tbl := ⟨RX11, TX11, 20, rfl, (gw_2 (List.mem_of_getElem? (i := 236) (by decide +kernel)) rfl)⟩
theorem kfin_11_0 : kFin "ShadowHeirs" 11 0 := fun T N C h => by
  cases h
  exact ⟨rfl, rfl, .object "ShadowHeirs$Reader", by decide +kernel, fun a => ⟨rfl, rfl⟩⟩
theorem kcl_X11_16 : kCl "ShadowHeirs" 16 5 := ⟨RX5, TX5, 11, tyX5, rfl, by decide, rfl, clw_5, tyX5_ok, (gw_1 (List.mem_of_getElem? (i := 144) (by decide +kernel)) rfl), (gw_1 (List.mem_of_getElem? (i := 145) (by decide +kernel)) rfl), (gw_1 (List.mem_of_getElem? (i := 7) (by decide +kernel)) rfl), kdf_5⟩
theorem ml_X11_18 : zMl "ShadowHeirs" 18 yX5_init := Or.inr ⟨"ShadowHeirs", (nw_1 (List.mem_of_getElem? (i := 146) (by decide +kernel)) rfl)⟩
theorem klk_X11_19 : ∃ (C' : String) (T : u_T) (N : Nat), vwCl[11]? = some (C', T, N) ∧ Cond.fieldLink "ShadowHeirs" 19 C' (T 1).2.1 (T 1).2.2.1 ∈ gw_tbl := ⟨RX11, TX11, 20, rfl, (gw_2 (List.mem_of_getElem? (i := 237) (by decide +kernel)) rfl)⟩
theorem kfin_11_1 : kFin "ShadowHeirs" 11 1 := fun T N C h => by
  cases h
  exact ⟨rfl, rfl, .object "ShadowHeirs$Plan", by decide +kernel, fun a => ⟨rfl, rfl⟩⟩
theorem kcl_X11_23 : kCl "ShadowHeirs" 23 7 := ⟨RX7, TX7, 9, tyX7, rfl, by decide, rfl, clw_7, tyX7_ok, (gw_1 (List.mem_of_getElem? (i := 219) (by decide +kernel)) rfl), (gw_1 (List.mem_of_getElem? (i := 220) (by decide +kernel)) rfl), (gw_1 (List.mem_of_getElem? (i := 8) (by decide +kernel)) rfl), kdf_7⟩
theorem ml_X11_25 : zMl "ShadowHeirs" 25 yX7_init := Or.inr ⟨"ShadowHeirs", (nw_1 (List.mem_of_getElem? (i := 221) (by decide +kernel)) rfl)⟩
theorem klk_X11_26 : ∃ (C' : String) (T : u_T) (N : Nat), vwCl[11]? = some (C', T, N) ∧ Cond.fieldLink "ShadowHeirs" 26 C' (T 2).2.1 (T 2).2.2.1 ∈ gw_tbl := ⟨RX11, TX11, 20, rfl, (gw_2 (List.mem_of_getElem? (i := 238) (by decide +kernel)) rfl)⟩
theorem kfin_11_2 : kFin "ShadowHeirs" 11 2 := fun T N C h => by
  cases h
  exact ⟨rfl, rfl, .object "ShadowHeirs$Scene", by decide +kernel, fun a => ⟨rfl, rfl⟩⟩
theorem kcl_X11_30 : kCl "ShadowHeirs" 30 8 := ⟨RX8, TX8, 5, tyX8, rfl, by decide, rfl, clw_8, tyX8_ok, (gw_2 (List.mem_of_getElem? (i := 42) (by decide +kernel)) rfl), (gw_2 (List.mem_of_getElem? (i := 43) (by decide +kernel)) rfl), (gw_1 (List.mem_of_getElem? (i := 9) (by decide +kernel)) rfl), kdf_8⟩
theorem ml_X11_32 : zMl "ShadowHeirs" 32 yX8_init := Or.inr ⟨"ShadowHeirs", (nw_2 (List.mem_of_getElem? (i := 44) (by decide +kernel)) rfl)⟩
theorem klk_X11_33 : ∃ (C' : String) (T : u_T) (N : Nat), vwCl[11]? = some (C', T, N) ∧ Cond.fieldLink "ShadowHeirs" 33 C' (T 3).2.1 (T 3).2.2.1 ∈ gw_tbl := ⟨RX11, TX11, 20, rfl, (gw_2 (List.mem_of_getElem? (i := 239) (by decide +kernel)) rfl)⟩
theorem kfin_11_3 : kFin "ShadowHeirs" 11 3 := fun T N C h => by
  cases h
  exact ⟨rfl, rfl, .object "ShadowHeirs$Sentence", by decide +kernel, fun a => ⟨rfl, rfl⟩⟩
theorem kcl_X11_37 : kCl "ShadowHeirs" 37 3 := ⟨RX3, TX3, 3, tyX3, rfl, by decide, rfl, clw_3, tyX3_ok, (gw_2 (List.mem_of_getElem? (i := 65) (by decide +kernel)) rfl), (gw_2 (List.mem_of_getElem? (i := 66) (by decide +kernel)) rfl), (gw_1 (List.mem_of_getElem? (i := 10) (by decide +kernel)) rfl), kdf_3⟩
theorem ml_X11_39 : zMl "ShadowHeirs" 39 yX3_init := Or.inl (gw_2 (List.mem_of_getElem? (i := 67) (by decide +kernel)) rfl)
theorem klk_X11_42 : ∃ (C' : String) (T : u_T) (N : Nat), vwCl[11]? = some (C', T, N) ∧ Cond.fieldLink "ShadowHeirs" 42 C' (T 4).2.1 (T 4).2.2.1 ∈ gw_tbl := ⟨RX11, TX11, 20, rfl, (gw_3 (List.mem_of_getElem? (i := 0) (by decide +kernel)) rfl)⟩
theorem kfin_11_4 : kFin "ShadowHeirs" 11 4 := fun T N C h => by
  cases h
  exact ⟨rfl, rfl, .object "ShadowHeirs$Island", by decide +kernel, fun a => ⟨rfl, rfl⟩⟩
theorem klk_X11_46 : ∃ (C' : String) (T : u_T) (N : Nat), vwCl[11]? = some (C', T, N) ∧ Cond.fieldLink "ShadowHeirs" 46 C' (T 5).2.1 (T 5).2.2.1 ∈ gw_tbl := ⟨RX11, TX11, 20, rfl, (gw_3 (List.mem_of_getElem? (i := 1) (by decide +kernel)) rfl)⟩
theorem kfin_11_5 : kFin "ShadowHeirs" 11 5 := fun T N C h => by
  cases h
  exact ⟨rfl, rfl, .object "ShadowHeirs$Island", by decide +kernel, fun a => ⟨rfl, rfl⟩⟩
theorem kdf_4 : ∀ j, j < 7 → defaultValue (tyX4 j) = vp_V ((List.range (sNf 4)).map (zdf 4)) j := by
  intro j hj
  match j, hj with
  | 0, _ => rfl
  | 1, _ => rfl
  | 2, _ => rfl
  | 3, _ => rfl
  | 4, _ => rfl
  | 5, _ => rfl
  | 6, _ => rfl
  | j + 7, h => exact absurd h (by omega)
theorem kcl_X11_49 : kCl "ShadowHeirs" 49 4 := ⟨RX4, TX4, 7, tyX4, rfl, by decide, rfl, clw_4, tyX4_ok, (gw_2 (List.mem_of_getElem? (i := 92) (by decide +kernel)) rfl), (gw_2 (List.mem_of_getElem? (i := 93) (by decide +kernel)) rfl), (gw_1 (List.mem_of_getElem? (i := 11) (by decide +kernel)) rfl), kdf_4⟩
set_option maxRecDepth 100000 in
theorem cal_X4_init : zCal yX4_init cX4_init 2 none 1 := ⟨(gw_2 (List.mem_of_getElem? (i := 96) rfl) rfl), (gw_1 (List.mem_of_getElem? (i := 11) (by decide +kernel)) rfl), by decide +kernel⟩
theorem ins_X4_init : Cond.instanceMethod yX4_init ∈ gw_tbl := (gw_2 (List.mem_of_getElem? (i := 95) (by decide +kernel)) rfl)
theorem ml_X11_51 : zMl "ShadowHeirs" 51 yX4_init := Or.inl (gw_2 (List.mem_of_getElem? (i := 94) (by decide +kernel)) rfl)
theorem klk_X11_54 : ∃ (C' : String) (T : u_T) (N : Nat), vwCl[11]? = some (C', T, N) ∧ Cond.fieldLink "ShadowHeirs" 54 C' (T 6).2.1 (T 6).2.2.1 ∈ gw_tbl := ⟨RX11, TX11, 20, rfl, (gw_3 (List.mem_of_getElem? (i := 2) (by decide +kernel)) rfl)⟩
theorem kfin_11_6 : kFin "ShadowHeirs" 11 6 := fun T N C h => by
  cases h
  exact ⟨rfl, rfl, .object "ShadowHeirs$IslandText", by decide +kernel, fun a => ⟨rfl, rfl⟩⟩
theorem kdf_0 : ∀ j, j < 10 → defaultValue (tyX0 j) = vp_V ((List.range (sNf 0)).map (zdf 0)) j := by
  intro j hj
  match j, hj with
  | 0, _ => rfl
  | 1, _ => rfl
  | 2, _ => rfl
  | 3, _ => rfl
  | 4, _ => rfl
  | 5, _ => rfl
  | 6, _ => rfl
  | 7, _ => rfl
  | 8, _ => rfl
  | 9, _ => rfl
  | j + 10, h => exact absurd h (by omega)
theorem kcl_X11_58 : kCl "ShadowHeirs" 58 0 := ⟨RX0, TX0, 10, tyX0, rfl, by decide, rfl, clw_0, tyX0_ok, (gw_2 (List.mem_of_getElem? (i := 129) (by decide +kernel)) rfl), (gw_2 (List.mem_of_getElem? (i := 130) (by decide +kernel)) rfl), (gw_1 (List.mem_of_getElem? (i := 12) (by decide +kernel)) rfl), kdf_0⟩
set_option maxRecDepth 100000 in
theorem cal_X0_init : zCal yX0_init cX0_init 2 none 1 := ⟨(gw_2 (List.mem_of_getElem? (i := 133) rfl) rfl), (gw_1 (List.mem_of_getElem? (i := 12) (by decide +kernel)) rfl), by decide +kernel⟩
theorem ins_X0_init : Cond.instanceMethod yX0_init ∈ gw_tbl := (gw_2 (List.mem_of_getElem? (i := 132) (by decide +kernel)) rfl)
theorem ml_X11_60 : zMl "ShadowHeirs" 60 yX0_init := Or.inl (gw_2 (List.mem_of_getElem? (i := 131) (by decide +kernel)) rfl)
theorem klk_X11_61 : ∃ (C' : String) (T : u_T) (N : Nat), vwCl[11]? = some (C', T, N) ∧ Cond.fieldLink "ShadowHeirs" 61 C' (T 7).2.1 (T 7).2.2.1 ∈ gw_tbl := ⟨RX11, TX11, 20, rfl, (gw_3 (List.mem_of_getElem? (i := 3) (by decide +kernel)) rfl)⟩
theorem kfin_11_7 : kFin "ShadowHeirs" 11 7 := fun T N C h => by
  cases h
  exact ⟨rfl, rfl, .object "ShadowHeirs$Book", by decide +kernel, fun a => ⟨rfl, rfl⟩⟩
theorem klk_X11_65 : ∃ (C' : String) (T : u_T) (N : Nat), vwCl[11]? = some (C', T, N) ∧ Cond.fieldLink "ShadowHeirs" 65 C' (T 8).2.1 (T 8).2.2.1 ∈ gw_tbl := ⟨RX11, TX11, 20, rfl, (gw_3 (List.mem_of_getElem? (i := 4) (by decide +kernel)) rfl)⟩
theorem kfin_11_8 : kFin "ShadowHeirs" 11 8 := fun T N C h => by
  cases h
  exact ⟨rfl, rfl, .object "ShadowHeirs$Sentence", by decide +kernel, fun a => ⟨rfl, rfl⟩⟩
theorem kdf_2 : ∀ j, j < 3 → defaultValue (tyX2 j) = vp_V ((List.range (sNf 2)).map (zdf 2)) j := by
  intro j hj
  match j, hj with
  | 0, _ => rfl
  | 1, _ => rfl
  | 2, _ => rfl
  | j + 3, h => exact absurd h (by omega)
theorem kcl_X11_68 : kCl "ShadowHeirs" 68 2 := ⟨RX2, TX2, 3, tyX2, rfl, by decide, rfl, clw_2, tyX2_ok, (gw_2 (List.mem_of_getElem? (i := 171) (by decide +kernel)) rfl), (gw_2 (List.mem_of_getElem? (i := 172) (by decide +kernel)) rfl), (gw_1 (List.mem_of_getElem? (i := 13) (by decide +kernel)) rfl), kdf_2⟩
set_option maxRecDepth 100000 in
theorem cal_X2_init : zCal yX2_init cX2_init 2 none 0 := ⟨(gw_2 (List.mem_of_getElem? (i := 175) rfl) rfl), (gw_1 (List.mem_of_getElem? (i := 13) (by decide +kernel)) rfl), by decide +kernel⟩
theorem ins_X2_init : Cond.instanceMethod yX2_init ∈ gw_tbl := (gw_2 (List.mem_of_getElem? (i := 174) (by decide +kernel)) rfl)
theorem ml_X11_70 : zMl "ShadowHeirs" 70 yX2_init := Or.inl (gw_2 (List.mem_of_getElem? (i := 173) (by decide +kernel)) rfl)
theorem klk_X11_71 : ∃ (C' : String) (T : u_T) (N : Nat), vwCl[11]? = some (C', T, N) ∧ Cond.fieldLink "ShadowHeirs" 71 C' (T 9).2.1 (T 9).2.2.1 ∈ gw_tbl := ⟨RX11, TX11, 20, rfl, (gw_3 (List.mem_of_getElem? (i := 5) (by decide +kernel)) rfl)⟩
theorem kfin_11_9 : kFin "ShadowHeirs" 11 9 := fun T N C h => by
  cases h
  exact ⟨rfl, rfl, .object "ShadowHeirs$History", by decide +kernel, fun a => ⟨rfl, rfl⟩⟩
theorem acl_X11_37 : Cond.classLink "ShadowHeirs" 37 "ShadowHeirs$Island" ∈ gw_tbl := (gw_2 (List.mem_of_getElem? (i := 65) (by decide +kernel)) rfl)
theorem klk_X11_75 : ∃ (C' : String) (T : u_T) (N : Nat), vwCl[11]? = some (C', T, N) ∧ Cond.fieldLink "ShadowHeirs" 75 C' (T 10).2.1 (T 10).2.2.1 ∈ gw_tbl := ⟨RX11, TX11, 20, rfl, (gw_3 (List.mem_of_getElem? (i := 6) (by decide +kernel)) rfl)⟩
theorem kfin_11_10 : kFin "ShadowHeirs" 11 10 := fun T N C h => by
  cases h
  exact ⟨rfl, rfl, .array (.object "ShadowHeirs$Island"), by decide +kernel, fun a => ⟨rfl, rfl⟩⟩
theorem klk_X11_79 : ∃ (C' : String) (T : u_T) (N : Nat), vwCl[11]? = some (C', T, N) ∧ Cond.fieldLink "ShadowHeirs" 79 C' (T 11).2.1 (T 11).2.2.1 ∈ gw_tbl := ⟨RX11, TX11, 20, rfl, (gw_3 (List.mem_of_getElem? (i := 7) (by decide +kernel)) rfl)⟩
theorem kfin_11_11 : kFin "ShadowHeirs" 11 11 := fun T N C h => by
  cases h
  exact ⟨rfl, rfl, .array .boolean, by decide +kernel, fun a => ⟨rfl, rfl⟩⟩
theorem kdf_10 : ∀ j, j < 4 → defaultValue (tyX10 j) = vp_V ((List.range (sNf 10)).map (zdf 10)) j := by
  intro j hj
  match j, hj with
  | 0, _ => rfl
  | 1, _ => rfl
  | 2, _ => rfl
  | 3, _ => rfl
  | j + 4, h => exact absurd h (by omega)
theorem kcl_X11_83 : kCl "ShadowHeirs" 83 10 := ⟨RX10, TX10, 4, tyX10, rfl, by decide, rfl, clw_10, tyX10_ok, (gw_2 (List.mem_of_getElem? (i := 192) (by decide +kernel)) rfl), (gw_2 (List.mem_of_getElem? (i := 193) (by decide +kernel)) rfl), (gw_1 (List.mem_of_getElem? (i := 14) (by decide +kernel)) rfl), kdf_10⟩
set_option maxRecDepth 100000 in
theorem cal_X10_init : zCal yX10_init cX10_init 2 none 1 := ⟨(gw_2 (List.mem_of_getElem? (i := 196) rfl) rfl), (gw_1 (List.mem_of_getElem? (i := 14) (by decide +kernel)) rfl), by decide +kernel⟩
theorem ins_X10_init : Cond.instanceMethod yX10_init ∈ gw_tbl := (gw_2 (List.mem_of_getElem? (i := 195) (by decide +kernel)) rfl)
theorem ml_X11_85 : zMl "ShadowHeirs" 85 yX10_init := Or.inl (gw_2 (List.mem_of_getElem? (i := 194) (by decide +kernel)) rfl)
theorem klk_X11_88 : ∃ (C' : String) (T : u_T) (N : Nat), vwCl[11]? = some (C', T, N) ∧ Cond.fieldLink "ShadowHeirs" 88 C' (T 12).2.1 (T 12).2.2.1 ∈ gw_tbl := ⟨RX11, TX11, 20, rfl, (gw_3 (List.mem_of_getElem? (i := 8) (by decide +kernel)) rfl)⟩
theorem kfin_11_12 : kFin "ShadowHeirs" 11 12 := fun T N C h => by
  cases h
  exact ⟨rfl, rfl, .object "ShadowHeirs$Walk", by decide +kernel, fun a => ⟨rfl, rfl⟩⟩
theorem kdf_1 : ∀ j, j < 1 → defaultValue (tyX1 j) = vp_V ((List.range (sNf 1)).map (zdf 1)) j := by
  intro j hj
  match j, hj with
  | 0, _ => rfl
  | j + 1, h => exact absurd h (by omega)
theorem kcl_X11_92 : kCl "ShadowHeirs" 92 1 := ⟨RX1, TX1, 1, tyX1, rfl, by decide, rfl, clw_1, tyX1_ok, (gw_2 (List.mem_of_getElem? (i := 212) (by decide +kernel)) rfl), (gw_2 (List.mem_of_getElem? (i := 213) (by decide +kernel)) rfl), (gw_1 (List.mem_of_getElem? (i := 15) (by decide +kernel)) rfl), kdf_1⟩
set_option maxRecDepth 100000 in
theorem cal_X1_init : zCal yX1_init cX1_init 1 none 0 := ⟨(gw_2 (List.mem_of_getElem? (i := 216) rfl) rfl), (gw_1 (List.mem_of_getElem? (i := 15) (by decide +kernel)) rfl), by decide +kernel⟩
theorem ins_X1_init : Cond.instanceMethod yX1_init ∈ gw_tbl := (gw_2 (List.mem_of_getElem? (i := 215) (by decide +kernel)) rfl)
theorem ml_X11_94 : zMl "ShadowHeirs" 94 yX1_init := Or.inr ⟨"ShadowHeirs", (nw_2 (List.mem_of_getElem? (i := 214) (by decide +kernel)) rfl)⟩
theorem klk_X11_95 : ∃ (C' : String) (T : u_T) (N : Nat), vwCl[11]? = some (C', T, N) ∧ Cond.fieldLink "ShadowHeirs" 95 C' (T 13).2.1 (T 13).2.2.1 ∈ gw_tbl := ⟨RX11, TX11, 20, rfl, (gw_3 (List.mem_of_getElem? (i := 9) (by decide +kernel)) rfl)⟩
theorem kfin_11_13 : kFin "ShadowHeirs" 11 13 := fun T N C h => by
  cases h
  exact ⟨rfl, rfl, .object "ShadowHeirs$Draws", by decide +kernel, fun a => ⟨rfl, rfl⟩⟩
theorem kdf_9 : ∀ j, j < 2 → defaultValue (tyX9 j) = vp_V ((List.range (sNf 9)).map (zdf 9)) j := by
  intro j hj
  match j, hj with
  | 0, _ => rfl
  | 1, _ => rfl
  | j + 2, h => exact absurd h (by omega)
theorem kcl_X11_99 : kCl "ShadowHeirs" 99 9 := ⟨RX9, TX9, 2, tyX9, rfl, by decide, rfl, clw_9, tyX9_ok, (gw_2 (List.mem_of_getElem? (i := 222) (by decide +kernel)) rfl), (gw_2 (List.mem_of_getElem? (i := 223) (by decide +kernel)) rfl), (gw_1 (List.mem_of_getElem? (i := 16) (by decide +kernel)) rfl), kdf_9⟩
set_option maxRecDepth 100000 in
theorem cal_X9_init : zCal yX9_init cX9_init 1 none 0 := ⟨(gw_2 (List.mem_of_getElem? (i := 226) rfl) rfl), (gw_1 (List.mem_of_getElem? (i := 16) (by decide +kernel)) rfl), by decide +kernel⟩
theorem ins_X9_init : Cond.instanceMethod yX9_init ∈ gw_tbl := (gw_2 (List.mem_of_getElem? (i := 225) (by decide +kernel)) rfl)
theorem ml_X11_101 : zMl "ShadowHeirs" 101 yX9_init := Or.inr ⟨"ShadowHeirs", (nw_2 (List.mem_of_getElem? (i := 224) (by decide +kernel)) rfl)⟩
theorem klk_X11_102 : ∃ (C' : String) (T : u_T) (N : Nat), vwCl[11]? = some (C', T, N) ∧ Cond.fieldLink "ShadowHeirs" 102 C' (T 14).2.1 (T 14).2.2.1 ∈ gw_tbl := ⟨RX11, TX11, 20, rfl, (gw_3 (List.mem_of_getElem? (i := 10) (by decide +kernel)) rfl)⟩
theorem kfin_11_14 : kFin "ShadowHeirs" 11 14 := fun T N C h => by
  cases h
  exact ⟨rfl, rfl, .object "ShadowHeirs$Slip", by decide +kernel, fun a => ⟨rfl, rfl⟩⟩
