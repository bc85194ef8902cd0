noncomputable def b_X12_sentence_0 (rec : Int → zMem → Option (Int × zMem)) (v1 : Int) (mem : zMem) : Option (Int × zMem) := if v1 ≥ 240 then (some ((mem 138 44), mem)) else (if ix 156 v1 then if ix 140 (w32 (194 + v1)) then pipe (zup mem 140 (w32 (194 + v1)) (mem 156 v1)) fun m6 => rec (w32 (v1 + 1)) m6 else none else none)
noncomputable def f_X12_sentence_0 : Nat → Int → zMem → Option (Int × zMem) := zfuel (fun _ _ => none) (b_X12_sentence_0)
set_option maxHeartbeats 4000000 in
theorem L_X12_sentence_0 (l : Launch) {Γ : zG} (F : zFull Γ) {X : zM} {q : Int × zMem} (C : zC X Γ "ShadowHeirsModel" cX12_sentence 2) (Z : zRt X l Γ 67 1 (some .int) q) : ∀ n : Nat, ∀ (v1 : Int) (h_v1 : ir v1) (mem : zMem), zJ X Γ 2 q (f_X12_sentence_0 n v1 mem) 79 [(0, .ref (zad Γ 138)), (1, .int (i32 v1))] [] mem := by
  intro n
  induction n with
  | zero => intros; exact zj_none
  | succ n ih =>
    intro v1 h_v1 mem
    show zJ X Γ 2 q (b_X12_sentence_0 (f_X12_sentence_0 n) v1 mem) _ _ _ _
    unfold b_X12_sentence_0
    refine zj_iload_n (j := 1) (i := 1) C rfl 1 rfl dX12_sentence_79 ?_
    refine zj_sipush C 240 rfl dX12_sentence_80 ?_
    refine zj_icmp_ge C 108 h_v1 irc_240 dX12_sentence_83 rfl (fun c1 => ?_) (fun c1 => ?_)
    · refine zj_aload_n (j := 0) (i := 0) C rfl 0 rfl dX12_sentence_108 ?_
      refine zj_getI C F 44 rfl zk_138 fl_X12_428 rfl dX12_sentence_109 (fun h2 => ?_)
      exact zrt_i C Z h2 dX12_sentence_112
    · refine zj_aload_n (j := 0) (i := 0) C rfl 0 rfl dX12_sentence_86 ?_
      refine zj_getR C F zk_138 fl_X12_98 rfl rf_138_14 dX12_sentence_87 ?_
      refine zj_sipush C 194 rfl dX12_sentence_90 ?_
      refine zj_iload_n (j := 1) (i := 1) C rfl 1 rfl dX12_sentence_93 ?_
      refine zj_iadd C dX12_sentence_94 ?_
      refine zj_aload_n (j := 0) (i := 0) C rfl 0 rfl dX12_sentence_95 ?_
      refine zj_getR C F zk_138 fl_X12_160 rfl rf_138_42 dX12_sentence_96 ?_
      refine zj_iload_n (j := 1) (i := 1) C rfl 1 rfl dX12_sentence_99 ?_
      refine zj_iaload C F zk_156 h_v1 dX12_sentence_100 (fun c3 h4 => ?_)
      refine zj_iastore C F zk_140 (ir_w _) h4 dX12_sentence_101 (fun c5 => ?_)
      refine zj_pipeM (fun m6 e_m6 => ?_)
      refine zj_iinc C 1 [(1, .int (i32 (w32 (v1 + 1)))), (0, .ref (zad Γ 138))] rfl dX12_sentence_102 (by decide) rfl ?_
      refine zj_goto (tgt := 79) C dX12_sentence_105 rfl ?_
      exact zj_sub [1, 0] rfl (ih (w32 (v1 + 1)) (ir_w _) m6)
noncomputable def f_X12_sentence  (mem : zMem) : Option (Int × zMem) := zbind (f_X12_begin 200 mem) fun _ m1 => pipe (zup m1 138 43 0) fun m2 => pipe (zup m2 138 44 0) fun m3 => pipe (zup m3 138 45 0) fun m4 => zbind (f_X12_readOr m4) fun y5 m6 => if y5 = 0 then (some ((w32 ((-1) - (m6 138 11))), m6)) else (if (m6 138 7) = 0 then (if ix 140 192 then pipe (zup m6 140 192 1) fun m12 => if ix 140 193 then pipe (zup m12 140 193 (m12 138 46)) fun m15 => f_X12_sentence_0 zN 0 m15 else none else none) else (zbind (f_X12_bad 1 m6) fun y16 m17 => some ((w32 ((-1) - (m17 138 11))), m17)))
set_option maxHeartbeats 4000000 in
theorem M_X12_sentence (l : Launch) (Γ : zG) (F : zFull Γ)    (mem : zMem) (q : Int × zMem) (h : f_X12_sentence  mem = some q) : zMet l yX12_sentence cX12_sentence 2 (some .int) 67 Γ 1 [.ref (zad Γ 138)] mem q := by
  refine zMet_of (own := "ShadowHeirsModel") (by decide) rfl (Nat.le_of_ble_eq_true rfl) (fun X C Z => ?_)
  revert h
  show zJ X Γ 2 q (f_X12_sentence  mem) 0 [(0, .ref (zad Γ 138))] [] mem
  unfold f_X12_sentence
  refine zj_aload_n (j := 0) (i := 0) C rfl 0 rfl dX12_sentence_0 ?_
  refine zj_sipush C 200 rfl dX12_sentence_1 ?_
  refine zj_callVv C F Z [.int (i32 200)] [] cal_X12_begin calv_X12_begin ml_X12_223 zk_138 rfl rfl (by decide) (Nat.le_of_ble_eq_true rfl) rfl dX12_sentence_4 (fun q h => M_X12_begin l Γ F irc_200 mem q h) (fun _ m1 _ => ?_)
  refine zj_aload_n (j := 0) (i := 0) C rfl 0 rfl dX12_sentence_7 ?_
  refine zj_iconst C 0 dX12_sentence_8 ?_
  refine zj_putI C F 43 rfl zk_138 fl_X12_412 rfl fp_12_43 irc_0 dX12_sentence_9 ?_
  refine zj_pipeM (fun m2 e_m2 => ?_)
  refine zj_aload_n (j := 0) (i := 0) C rfl 0 rfl dX12_sentence_12 ?_
  refine zj_iconst C 0 dX12_sentence_13 ?_
  refine zj_putI C F 44 rfl zk_138 fl_X12_428 rfl fp_12_44 irc_0 dX12_sentence_14 ?_
  refine zj_pipeM (fun m3 e_m3 => ?_)
  refine zj_aload_n (j := 0) (i := 0) C rfl 0 rfl dX12_sentence_17 ?_
  refine zj_iconst C 0 dX12_sentence_18 ?_
  refine zj_putI C F 45 rfl zk_138 fl_X12_431 rfl fp_12_45 irc_0 dX12_sentence_19 ?_
  refine zj_pipeM (fun m4 e_m4 => ?_)
  refine zj_aload_n (j := 0) (i := 0) C rfl 0 rfl dX12_sentence_22 ?_
  refine zj_callVi C F Z [] [] cal_X12_readOr calv_X12_readOr ml_X12_446 zk_138 rfl rfl (by decide) (Nat.le_of_ble_eq_true rfl) rfl dX12_sentence_23 (fun q h => M_X12_readOr l Γ F  m4 q h) (fun y5 m6 h_y5 => ?_)
  refine zj_if_ne C 36 h_y5 dX12_sentence_26 rfl (fun c7 => ?_) (fun c7 => ?_)
  · refine zj_iconst C (-1) dX12_sentence_29 ?_
    refine zj_aload_n (j := 0) (i := 0) C rfl 0 rfl dX12_sentence_30 ?_
    refine zj_getI C F 11 rfl zk_138 fl_X12_69 rfl dX12_sentence_31 (fun h8 => ?_)
    refine zj_isub C dX12_sentence_34 ?_
    exact zrt_i C Z (ir_w _) dX12_sentence_35
  · refine zj_aload_n (j := 0) (i := 0) C rfl 0 rfl dX12_sentence_36 ?_
    refine zj_getI C F 7 rfl zk_138 fl_X12_30 rfl dX12_sentence_37 (fun h9 => ?_)
    refine zj_if_eq C 56 h9 dX12_sentence_40 rfl (fun c10 => ?_) (fun c10 => ?_)
    · refine zj_aload_n (j := 0) (i := 0) C rfl 0 rfl dX12_sentence_56 ?_
      refine zj_getR C F zk_138 fl_X12_98 rfl rf_138_14 dX12_sentence_57 ?_
      refine zj_sipush C 192 rfl dX12_sentence_60 ?_
      refine zj_iconst C 1 dX12_sentence_63 ?_
      refine zj_iastore C F zk_140 irc_192 irc_1 dX12_sentence_64 (fun c11 => ?_)
      refine zj_pipeM (fun m12 e_m12 => ?_)
      refine zj_aload_n (j := 0) (i := 0) C rfl 0 rfl dX12_sentence_65 ?_
      refine zj_getR C F zk_138 fl_X12_98 rfl rf_138_14 dX12_sentence_66 ?_
      refine zj_sipush C 193 rfl dX12_sentence_69 ?_
      refine zj_aload_n (j := 0) (i := 0) C rfl 0 rfl dX12_sentence_72 ?_
      refine zj_getI C F 46 rfl zk_138 fl_X12_418 rfl dX12_sentence_73 (fun h13 => ?_)
      refine zj_iastore C F zk_140 irc_193 h13 dX12_sentence_76 (fun c14 => ?_)
      refine zj_pipeM (fun m15 e_m15 => ?_)
      refine zj_iconst C 0 dX12_sentence_77 ?_
      refine zj_istore_n (j := 1) (i := 1) C rfl [(1, .int (i32 0)), (0, .ref (zad Γ 138))] dX12_sentence_78 (by decide) rfl ?_
      exact zj_sub [1, 0] rfl ((L_X12_sentence_0 l F C Z zN) 0 irc_0 m15)
    · refine zj_aload_n (j := 0) (i := 0) C rfl 0 rfl dX12_sentence_43 ?_
      refine zj_iconst C 1 dX12_sentence_44 ?_
      refine zj_callVi C F Z [.int (i32 1)] [] cal_X12_bad calv_X12_bad ml_X12_72 zk_138 rfl rfl (by decide) (Nat.le_of_ble_eq_true rfl) rfl dX12_sentence_45 (fun q h => M_X12_bad l Γ F irc_1 m6 q h) (fun y16 m17 h_y16 => ?_)
      refine zj_pop C rfl dX12_sentence_48 ?_
      refine zj_iconst C (-1) dX12_sentence_49 ?_
      refine zj_aload_n (j := 0) (i := 0) C rfl 0 rfl dX12_sentence_50 ?_
      refine zj_getI C F 11 rfl zk_138 fl_X12_69 rfl dX12_sentence_51 (fun h18 => ?_)
      refine zj_isub C dX12_sentence_54 ?_
      exact zrt_i C Z (ir_w _) dX12_sentence_55
noncomputable def b_X12_said_0 (rec : Int → Int → Int → zMem → Option (Int × zMem)) (v1 : Int) (v2 : Int) (v3 : Int) (mem : zMem) : Option (Int × zMem) := if ix 140 3 then if v3 ≥ (mem 140 3) then (if v1 = (-1) then (some (v2, mem)) else (some ((-1), mem))) else (if ix 140 193 then zbind (f_X12_holds (mem 140 193) v3 mem) fun y7 m8 => if y7 = 0 then (rec v1 v2 (w32 (v3 + 1)) m8) else (if v2 = v1 then (some (v3, m8)) else (rec v1 (w32 (v2 + 1)) (w32 (v3 + 1)) m8)) else none) else none
noncomputable def f_X12_said_0 : Nat → Int → Int → Int → zMem → Option (Int × zMem) := zfuel (fun _ _ _ _ => none) (b_X12_said_0)
set_option maxHeartbeats 4000000 in
theorem L_X12_said_0 (l : Launch) {Γ : zG} (F : zFull Γ) {X : zM} {q : Int × zMem} (C : zC X Γ "ShadowHeirsModel" cX12_said 4) (Z : zRt X l Γ 86 1 (some .int) q) : ∀ n : Nat, ∀ (v1 : Int) (v2 : Int) (v3 : Int) (h_v1 : ir v1) (h_v2 : ir v2) (h_v3 : ir v3) (mem : zMem), zJ X Γ 4 q (f_X12_said_0 n v1 v2 v3 mem) 22 [(0, .ref (zad Γ 138)), (1, .int (i32 v1)), (2, .int (i32 v2)), (3, .int (i32 v3))] [] mem := by
  intro n
  induction n with
  | zero => intros; exact zj_none
  | succ n ih =>
    intro v1 v2 v3 h_v1 h_v2 h_v3 mem
    show zJ X Γ 4 q (b_X12_said_0 (f_X12_said_0 n) v1 v2 v3 mem) _ _ _ _
    unfold b_X12_said_0
    refine zj_iload_n (j := 3) (i := 3) C rfl 3 rfl dX12_said_22 ?_
    refine zj_aload_n (j := 0) (i := 0) C rfl 0 rfl dX12_said_23 ?_
    refine zj_getR C F zk_138 fl_X12_98 rfl rf_138_14 dX12_said_24 ?_
    refine zj_iconst C 3 dX12_said_27 ?_
    refine zj_iaload C F zk_140 irc_3 dX12_said_28 (fun c1 h2 => ?_)
    refine zj_icmp_ge C 67 h_v3 h2 dX12_said_29 rfl (fun c3 => ?_) (fun c3 => ?_)
    · refine zj_iload_n (j := 1) (i := 1) C rfl 1 rfl dX12_said_67 ?_
      refine zj_iconst C (-1) dX12_said_68 ?_
      refine zj_icmp_ne C 76 h_v1 irc_m1 dX12_said_69 rfl (fun c4 => ?_) (fun c4 => ?_)
      · refine zj_iload_n (j := 2) (i := 2) C rfl 2 rfl dX12_said_72 ?_
        refine zj_goto (tgt := 77) C dX12_said_73 rfl ?_
        exact zrt_i C Z h_v2 dX12_said_77
      · refine zj_iconst C (-1) dX12_said_76 ?_
        exact zrt_i C Z irc_m1 dX12_said_77
    · refine zj_aload_n (j := 0) (i := 0) C rfl 0 rfl dX12_said_32 ?_
      refine zj_aload_n (j := 0) (i := 0) C rfl 0 rfl dX12_said_33 ?_
      refine zj_getR C F zk_138 fl_X12_98 rfl rf_138_14 dX12_said_34 ?_
      refine zj_sipush C 193 rfl dX12_said_37 ?_
      refine zj_iaload C F zk_140 irc_193 dX12_said_40 (fun c5 h6 => ?_)
      refine zj_iload_n (j := 3) (i := 3) C rfl 3 rfl dX12_said_41 ?_
      refine zj_callVi C F Z [.int (i32 (mem 140 193)), .int (i32 v3)] [] cal_X12_holds calv_X12_holds ml_X12_452 zk_138 rfl rfl (by decide) (Nat.le_of_ble_eq_true rfl) rfl dX12_said_42 (fun q h => M_X12_holds l Γ F h6 h_v3 mem q h) (fun y7 m8 h_y7 => ?_)
      refine zj_if_ne C 51 h_y7 dX12_said_45 rfl (fun c9 => ?_) (fun c9 => ?_)
      · refine zj_goto (tgt := 61) C dX12_said_48 rfl ?_
        refine zj_iinc C 3 [(3, .int (i32 (w32 (v3 + 1)))), (0, .ref (zad Γ 138)), (1, .int (i32 v1)), (2, .int (i32 v2))] rfl dX12_said_61 (by decide) rfl ?_
        refine zj_goto (tgt := 22) C dX12_said_64 rfl ?_
        exact zj_sub [1, 2, 3, 0] rfl (ih v1 v2 (w32 (v3 + 1)) h_v1 h_v2 (ir_w _) m8)
      · refine zj_iload_n (j := 2) (i := 2) C rfl 2 rfl dX12_said_51 ?_
        refine zj_iload_n (j := 1) (i := 1) C rfl 1 rfl dX12_said_52 ?_
        refine zj_icmp_ne C 58 h_v2 h_v1 dX12_said_53 rfl (fun c10 => ?_) (fun c10 => ?_)
        · refine zj_iload_n (j := 3) (i := 3) C rfl 3 rfl dX12_said_56 ?_
          exact zrt_i C Z h_v3 dX12_said_57
        · refine zj_iinc C 2 [(2, .int (i32 (w32 (v2 + 1)))), (0, .ref (zad Γ 138)), (1, .int (i32 v1)), (3, .int (i32 v3))] rfl dX12_said_58 (by decide) rfl ?_
          refine zj_iinc C 3 [(3, .int (i32 (w32 (v3 + 1)))), (2, .int (i32 (w32 (v2 + 1)))), (0, .ref (zad Γ 138)), (1, .int (i32 v1))] rfl dX12_said_61 (by decide) rfl ?_
          refine zj_goto (tgt := 22) C dX12_said_64 rfl ?_
          exact zj_sub [2, 3, 1, 0] rfl (ih v1 (w32 (v2 + 1)) (w32 (v3 + 1)) h_v1 (ir_w _) (ir_w _) m8)
noncomputable def f_X12_said (x0 : Int) (mem : zMem) : Option (Int × zMem) := pipe (zup mem 138 0 0) fun m1 => if ix 140 192 then if (m1 140 192) = 0 then (some ((-1), m1)) else (f_X12_said_0 zN x0 0 0 m1) else none
set_option maxHeartbeats 4000000 in
theorem M_X12_said (l : Launch) (Γ : zG) (F : zFull Γ)  {x0 : Int} (h_x0 : ir x0) (mem : zMem) (q : Int × zMem) (h : f_X12_said x0 mem = some q) : zMet l yX12_said cX12_said 4 (some .int) 86 Γ 1 [.ref (zad Γ 138), .int (i32 x0)] mem q := by
  refine zMet_of (own := "ShadowHeirsModel") (by decide) rfl (Nat.le_of_ble_eq_true rfl) (fun X C Z => ?_)
  revert h
  show zJ X Γ 4 q (f_X12_said x0 mem) 0 [(0, .ref (zad Γ 138)), (1, .int (i32 x0))] [] mem
  unfold f_X12_said
  refine zj_aload_n (j := 0) (i := 0) C rfl 0 rfl dX12_said_0 ?_
  refine zj_iconst C 0 dX12_said_1 ?_
  refine zj_putI C F 0 rfl zk_138 fl_X12_1 rfl fp_12_0 irc_0 dX12_said_2 ?_
  refine zj_pipeM (fun m1 e_m1 => ?_)
  refine zj_aload_n (j := 0) (i := 0) C rfl 0 rfl dX12_said_5 ?_
  refine zj_getR C F zk_138 fl_X12_98 rfl rf_138_14 dX12_said_6 ?_
  refine zj_sipush C 192 rfl dX12_said_9 ?_
  refine zj_iaload C F zk_140 irc_192 dX12_said_12 (fun c2 h3 => ?_)
  refine zj_if_ne C 18 h3 dX12_said_13 rfl (fun c4 => ?_) (fun c4 => ?_)
  · refine zj_iconst C (-1) dX12_said_16 ?_
    exact zrt_i C Z irc_m1 dX12_said_17
  · refine zj_iconst C 0 dX12_said_18 ?_
    refine zj_istore_n (j := 2) (i := 2) C rfl [(2, .int (i32 0)), (0, .ref (zad Γ 138)), (1, .int (i32 x0))] dX12_said_19 (by decide) rfl ?_
    refine zj_iconst C 0 dX12_said_20 ?_
    refine zj_istore_n (j := 3) (i := 3) C rfl [(3, .int (i32 0)), (2, .int (i32 0)), (0, .ref (zad Γ 138)), (1, .int (i32 x0))] dX12_said_21 (by decide) rfl ?_
    exact zj_sub [2, 3, 1, 0] rfl ((L_X12_said_0 l F C Z zN) x0 0 0 h_x0 irc_0 irc_0 m1)
noncomputable def f_X2_keep (t0 : Nat) (mem : zMem) : Option (Int × zMem) := if ix 54 (mem 53 1) then zbind (f_X7_copyFrom (sRf 54 (Int.toNat (mem 53 1))) t0 mem) fun _ m4 => pipe (zup m4 53 1 (zrem (w32 ((m4 53 1) + 1)) 8)) fun m6 => pipe (zup m6 53 2 (zmin (w32 ((m6 53 2) + 1)) 8)) fun m8 => some (0, m8) else none
set_option maxHeartbeats 4000000 in
theorem M_X2_keep (l : Launch) (Γ : zG) (F : zFull Γ)  {t0 : Nat} (h_t0 : zk t0 7) (mem : zMem) (q : Int × zMem) (h : f_X2_keep t0 mem = some q) : zMet l yX2_keep cX2_keep 2 none 4 Γ 0 [.ref (zad Γ 53), .ref (zad Γ t0)] mem q := by
  refine zMet_of (own := "ShadowHeirs$History") (by decide) rfl (Nat.le_of_ble_eq_true rfl) (fun X C Z => ?_)
  revert h
  show zJ X Γ 2 q (f_X2_keep t0 mem) 0 [(0, .ref (zad Γ 53)), (1, .ref (zad Γ t0))] [] mem
  unfold f_X2_keep
  refine zj_aload_n (j := 0) (i := 0) C rfl 0 rfl dX2_keep_0 ?_
  refine zj_getR C F zk_53 fl_X2_11 rfl rf_53_0 dX2_keep_1 ?_
  refine zj_aload_n (j := 0) (i := 0) C rfl 0 rfl dX2_keep_4 ?_
  refine zj_getI C F 1 rfl zk_53 fl_X2_15 rfl dX2_keep_5 (fun h1 => ?_)
  refine zj_aaload17 C F zk_54 h1 dX2_keep_8 (fun c2 h3 => ?_)
  refine zj_aload_n (j := 1) (i := 1) C rfl 1 rfl dX2_keep_9 ?_
  refine zj_callVv C F Z [.ref (zad Γ t0)] [] cal_X7_copyFrom calv_X7_copyFrom ml_X2_23 h3 rfl rfl (by decide) (Nat.le_of_ble_eq_true rfl) rfl dX2_keep_10 (fun q h => M_X7_copyFrom l Γ F h3 h_t0 mem q h) (fun _ m4 _ => ?_)
  refine zj_aload_n (j := 0) (i := 0) C rfl 0 rfl dX2_keep_13 ?_
  refine zj_aload_n (j := 0) (i := 0) C rfl 0 rfl dX2_keep_14 ?_
  refine zj_getI C F 1 rfl zk_53 fl_X2_15 rfl dX2_keep_15 (fun h5 => ?_)
  refine zj_iconst C 1 dX2_keep_18 ?_
  refine zj_iadd C dX2_keep_19 ?_
  refine zj_bipush C 8 rfl dX2_keep_20 ?_
  refine zj_iremc C (by decide) dX2_keep_22 ?_
  refine zj_putI C F 1 rfl zk_53 fl_X2_15 rfl fp_2_1 (ir_toInt _) dX2_keep_23 ?_
  refine zj_pipeM (fun m6 e_m6 => ?_)
  refine zj_aload_n (j := 0) (i := 0) C rfl 0 rfl dX2_keep_26 ?_
  refine zj_aload_n (j := 0) (i := 0) C rfl 0 rfl dX2_keep_27 ?_
  refine zj_getI C F 2 rfl zk_53 fl_X2_19 rfl dX2_keep_28 (fun h7 => ?_)
  refine zj_iconst C 1 dX2_keep_31 ?_
  refine zj_iadd C dX2_keep_32 ?_
  refine zj_bipush C 8 rfl dX2_keep_33 ?_
  refine zj_mmin C Z (by decide) (ir_w _) irc_8 (Nat.le_of_ble_eq_true rfl) mm_l_X2_27 mm_s_min mm_i mm_c_min dX2_keep_35 ?_
  refine zj_putI C F 2 rfl zk_53 fl_X2_19 rfl fp_2_2 (ir_min (ir_w _) irc_8) dX2_keep_38 ?_
  refine zj_pipeM (fun m8 e_m8 => ?_)
  exact zrt_v C Z dX2_keep_41
noncomputable def f_X2_bringBack (t0 : Nat) (mem : zMem) : Option (Int × zMem) := if (mem 53 2) = 0 then (some (0, mem)) else (pipe (zup mem 53 1 (zrem (w32 ((w32 ((mem 53 1) + 8)) - 1)) 8)) fun m4 => pipe (zup m4 53 2 (w32 ((m4 53 2) - 1))) fun m6 => if ix 54 (m6 53 1) then zbind (f_X7_copyFrom t0 (sRf 54 (Int.toNat (m6 53 1))) m6) fun _ m10 => some (1, m10) else none)
set_option maxHeartbeats 4000000 in
theorem M_X2_bringBack (l : Launch) (Γ : zG) (F : zFull Γ)  {t0 : Nat} (h_t0 : zk t0 7) (mem : zMem) (q : Int × zMem) (h : f_X2_bringBack t0 mem = some q) : zMet l yX2_bringBack cX2_bringBack 2 (some .boolean) 4 Γ 1 [.ref (zad Γ 53), .ref (zad Γ t0)] mem q := by
  refine zMet_of (own := "ShadowHeirs$History") (by decide) rfl (Nat.le_of_ble_eq_true rfl) (fun X C Z => ?_)
  revert h
  show zJ X Γ 2 q (f_X2_bringBack t0 mem) 0 [(0, .ref (zad Γ 53)), (1, .ref (zad Γ t0))] [] mem
  unfold f_X2_bringBack
  refine zj_aload_n (j := 0) (i := 0) C rfl 0 rfl dX2_bringBack_0 ?_
  refine zj_getI C F 2 rfl zk_53 fl_X2_19 rfl dX2_bringBack_1 (fun h1 => ?_)
  refine zj_if_ne C 9 h1 dX2_bringBack_4 rfl (fun c2 => ?_) (fun c2 => ?_)
  · refine zj_iconst C 0 dX2_bringBack_7 ?_
    exact zrt_z C Z (Or.inl rfl) dX2_bringBack_8
  · refine zj_aload_n (j := 0) (i := 0) C rfl 0 rfl dX2_bringBack_9 ?_
    refine zj_aload_n (j := 0) (i := 0) C rfl 0 rfl dX2_bringBack_10 ?_
    refine zj_getI C F 1 rfl zk_53 fl_X2_15 rfl dX2_bringBack_11 (fun h3 => ?_)
    refine zj_bipush C 8 rfl dX2_bringBack_14 ?_
    refine zj_iadd C dX2_bringBack_16 ?_
    refine zj_iconst C 1 dX2_bringBack_17 ?_
    refine zj_isub C dX2_bringBack_18 ?_
    refine zj_bipush C 8 rfl dX2_bringBack_19 ?_
    refine zj_iremc C (by decide) dX2_bringBack_21 ?_
    refine zj_putI C F 1 rfl zk_53 fl_X2_15 rfl fp_2_1 (ir_toInt _) dX2_bringBack_22 ?_
    refine zj_pipeM (fun m4 e_m4 => ?_)
    refine zj_aload_n (j := 0) (i := 0) C rfl 0 rfl dX2_bringBack_25 ?_
    refine zj_dup C rfl dX2_bringBack_26 ?_
    refine zj_getI C F 2 rfl zk_53 fl_X2_19 rfl dX2_bringBack_27 (fun h5 => ?_)
    refine zj_iconst C 1 dX2_bringBack_30 ?_
    refine zj_isub C dX2_bringBack_31 ?_
    refine zj_putI C F 2 rfl zk_53 fl_X2_19 rfl fp_2_2 (ir_w _) dX2_bringBack_32 ?_
    refine zj_pipeM (fun m6 e_m6 => ?_)
    refine zj_aload_n (j := 1) (i := 1) C rfl 1 rfl dX2_bringBack_35 ?_
    refine zj_aload_n (j := 0) (i := 0) C rfl 0 rfl dX2_bringBack_36 ?_
    refine zj_getR C F zk_53 fl_X2_11 rfl rf_53_0 dX2_bringBack_37 ?_
    refine zj_aload_n (j := 0) (i := 0) C rfl 0 rfl dX2_bringBack_40 ?_
    refine zj_getI C F 1 rfl zk_53 fl_X2_15 rfl dX2_bringBack_41 (fun h7 => ?_)
    refine zj_aaload17 C F zk_54 h7 dX2_bringBack_44 (fun c8 h9 => ?_)
    refine zj_callVv C F Z [.ref (zad Γ (sRf 54 (Int.toNat (m6 53 1))))] [] cal_X7_copyFrom calv_X7_copyFrom ml_X2_23 h_t0 rfl rfl (by decide) (Nat.le_of_ble_eq_true rfl) rfl dX2_bringBack_45 (fun q h => M_X7_copyFrom l Γ F h_t0 h9 m6 q h) (fun _ m10 _ => ?_)
    refine zj_iconst C 1 dX2_bringBack_48 ?_
    exact zrt_z C Z (Or.inr rfl) dX2_bringBack_49
noncomputable def f_X3_copyFrom (t0 : Nat) (t1 : Nat) (mem : zMem) : Option (Int × zMem) := zbind (f_X5_copyFrom (sRf t0 0) (sRf t1 0) mem) fun _ m1 => zbind (f_X7_copyFrom (sRf t0 1) (sRf t1 1) m1) fun _ m2 => zbind (f_X8_copyFrom (sRf t0 2) (sRf t1 2) m2) fun _ m3 => some (0, m3)
set_option maxHeartbeats 4000000 in
theorem M_X3_copyFrom (l : Launch) (Γ : zG) (F : zFull Γ)  {t0 : Nat} {t1 : Nat} (h_t0 : zk t0 3) (h_t1 : zk t1 3) (mem : zMem) (q : Int × zMem) (h : f_X3_copyFrom t0 t1 mem = some q) : zMet l yX3_copyFrom cX3_copyFrom 2 none 4 Γ 0 [.ref (zad Γ t0), .ref (zad Γ t1)] mem q := by
  refine zMet_of (own := "ShadowHeirs$Island") (by decide) rfl (Nat.le_of_ble_eq_true rfl) (fun X C Z => ?_)
  revert h
  show zJ X Γ 2 q (f_X3_copyFrom t0 t1 mem) 0 [(0, .ref (zad Γ t0)), (1, .ref (zad Γ t1))] [] mem
  unfold f_X3_copyFrom
  refine zj_aload_n (j := 0) (i := 0) C rfl 0 rfl dX3_copyFrom_0 ?_
  refine zj_getR C F h_t0 fl_X3_9 rfl rfl dX3_copyFrom_1 ?_
  refine zj_aload_n (j := 1) (i := 1) C rfl 1 rfl dX3_copyFrom_4 ?_
  refine zj_getR C F h_t1 fl_X3_9 rfl rfl dX3_copyFrom_5 ?_
  refine zj_callVv C F Z [.ref (zad Γ (sRf t1 0))] [] cal_X5_copyFrom calv_X5_copyFrom ml_X3_23 (zt_3_0 h_t0) rfl rfl (by decide) (Nat.le_of_ble_eq_true rfl) rfl dX3_copyFrom_8 (fun q h => M_X5_copyFrom l Γ F (zt_3_0 h_t0) (zt_3_0 h_t1) mem q h) (fun _ m1 _ => ?_)
  refine zj_aload_n (j := 0) (i := 0) C rfl 0 rfl dX3_copyFrom_11 ?_
  refine zj_getR C F h_t0 fl_X3_15 rfl rfl dX3_copyFrom_12 ?_
  refine zj_aload_n (j := 1) (i := 1) C rfl 1 rfl dX3_copyFrom_15 ?_
  refine zj_getR C F h_t1 fl_X3_15 rfl rfl dX3_copyFrom_16 ?_
  refine zj_callVv C F Z [.ref (zad Γ (sRf t1 1))] [] cal_X7_copyFrom calv_X7_copyFrom ml_X3_29 (zt_3_1 h_t0) rfl rfl (by decide) (Nat.le_of_ble_eq_true rfl) rfl dX3_copyFrom_19 (fun q h => M_X7_copyFrom l Γ F (zt_3_1 h_t0) (zt_3_1 h_t1) m1 q h) (fun _ m2 _ => ?_)
  refine zj_aload_n (j := 0) (i := 0) C rfl 0 rfl dX3_copyFrom_22 ?_
  refine zj_getR C F h_t0 fl_X3_19 rfl rfl dX3_copyFrom_23 ?_
  refine zj_aload_n (j := 1) (i := 1) C rfl 1 rfl dX3_copyFrom_26 ?_
  refine zj_getR C F h_t1 fl_X3_19 rfl rfl dX3_copyFrom_27 ?_
  refine zj_callVv C F Z [.ref (zad Γ (sRf t1 2))] [] cal_X8_copyFrom calv_X8_copyFrom ml_X3_34 (zt_3_2 h_t0) rfl rfl (by decide) (Nat.le_of_ble_eq_true rfl) rfl dX3_copyFrom_30 (fun q h => M_X8_copyFrom l Γ F (zt_3_2 h_t0) (zt_3_2 h_t1) m2 q h) (fun _ m3 _ => ?_)
  exact zrt_v C Z dX3_copyFrom_33
noncomputable def b_X3_reach_0 (rec : Nat → Int → Int → Int → Int → zMem → Option (Int × zMem)) (r0 : Nat) (v1 : Int) (v2 : Int) (v3 : Int) (v4 : Int) (mem : zMem) : Option (Int × zMem) := if v4 ≥ 8 then (some (v3, mem)) else (if ix ((sRf r0 0) + 1) v1 then if ix ((sRf r0 0) + 5) v2 then zbind (f_X5_spotFrom (sRf r0 0) (mem ((sRf r0 0) + 1) v1) (mem ((sRf r0 0) + 5) v2) v4 mem) fun y6 m7 => if ix ((sRf r0 0) + 2) v1 then if ix ((sRf r0 0) + 6) v2 then pipe (w32 ((m7 ((sRf r0 0) + 2) v1) - (w32 (v4 * (m7 ((sRf r0 0) + 6) v2))))) fun y12 => if y6 = (-1) then (some (v3, m7)) else (zbind (f_X3_heightAt r0 y6 m7) fun y14 m15 => if y12 > y14 then (rec r0 v1 v2 v4 (w32 (v4 + 1)) m15) else (some (v3, m15))) else none else none else none else none)
noncomputable def f_X3_reach_0 : Nat → Nat → Int → Int → Int → Int → zMem → Option (Int × zMem) := zfuel (fun _ _ _ _ _ _ => none) (b_X3_reach_0)
set_option maxHeartbeats 4000000 in
theorem L_X3_reach_0 (l : Launch) {Γ : zG} (F : zFull Γ) {X : zM} {q : Int × zMem} (C : zC X Γ "ShadowHeirs$Island" cX3_reach 7) (Z : zRt X l Γ 2 1 (some .int) q) : ∀ n : Nat, ∀ (r0 : Nat) (v1 : Int) (v2 : Int) (v3 : Int) (v4 : Int) (h_r0 : zk r0 3) (h_v1 : ir v1) (h_v2 : ir v2) (h_v3 : ir v3) (h_v4 : ir v4) (mem : zMem), zJ X Γ 7 q (f_X3_reach_0 n r0 v1 v2 v3 v4 mem) 19 [(0, .ref (zad Γ r0)), (1, .int (i32 v1)), (2, .int (i32 v2)), (3, .int (i32 v3)), (4, .int (i32 v4))] [] mem := by
  intro n
  induction n with
  | zero => intros; exact zj_none
  | succ n ih =>
    intro r0 v1 v2 v3 v4 h_r0 h_v1 h_v2 h_v3 h_v4 mem
    show zJ X Γ 7 q (b_X3_reach_0 (f_X3_reach_0 n) r0 v1 v2 v3 v4 mem) _ _ _ _
    unfold b_X3_reach_0
    refine zj_iload C 4 rfl dX3_reach_19 ?_
    refine zj_bipush C 8 rfl dX3_reach_21 ?_
    refine zj_icmp_ge C 108 h_v4 irc_8 dX3_reach_23 rfl (fun c1 => ?_) (fun c1 => ?_)
    · refine zj_iload_n (j := 3) (i := 3) C rfl 3 rfl dX3_reach_108 ?_
      exact zrt_i C Z h_v3 dX3_reach_109
    · refine zj_aload_n (j := 0) (i := 0) C rfl 0 rfl dX3_reach_26 ?_
      refine zj_getR C F h_r0 fl_X3_9 rfl rfl dX3_reach_27 ?_
      refine zj_aload_n (j := 0) (i := 0) C rfl 0 rfl dX3_reach_30 ?_
      refine zj_getR C F h_r0 fl_X3_9 rfl rfl dX3_reach_31 ?_
      refine zj_getR C F (zt_3_0 h_r0) fl_X3_43 rfl (rfo_5_5 (zt_3_0 h_r0)) dX3_reach_34 ?_
      refine zj_iload_n (j := 1) (i := 1) C rfl 1 rfl dX3_reach_37 ?_
      refine zj_iaload C F (zko_5_5 (zt_3_0 h_r0)) h_v1 dX3_reach_38 (fun c2 h3 => ?_)
      refine zj_aload_n (j := 0) (i := 0) C rfl 0 rfl dX3_reach_39 ?_
      refine zj_getR C F h_r0 fl_X3_9 rfl rfl dX3_reach_40 ?_
      refine zj_getR C F (zt_3_0 h_r0) fl_X3_69 rfl (rfo_5_9 (zt_3_0 h_r0)) dX3_reach_43 ?_
      refine zj_iload_n (j := 2) (i := 2) C rfl 2 rfl dX3_reach_46 ?_
      refine zj_iaload C F (zko_5_9 (zt_3_0 h_r0)) h_v2 dX3_reach_47 (fun c4 h5 => ?_)
      refine zj_iload C 4 rfl dX3_reach_48 ?_
      refine zj_callVi C F Z [.int (i32 (mem ((sRf r0 0) + 1) v1)), .int (i32 (mem ((sRf r0 0) + 5) v2)), .int (i32 v4)] [] cal_X5_spotFrom calv_X5_spotFrom ml_X3_72 (zt_3_0 h_r0) rfl rfl (by decide) (Nat.le_of_ble_eq_true rfl) rfl dX3_reach_50 (fun q h => M_X5_spotFrom l Γ F (zt_3_0 h_r0) h3 h5 h_v4 mem q h) (fun y6 m7 h_y6 => ?_)
      refine zj_istore C [(5, .int (i32 y6)), (0, .ref (zad Γ r0)), (1, .int (i32 v1)), (2, .int (i32 v2)), (3, .int (i32 v3)), (4, .int (i32 v4))] dX3_reach_53 (by decide) rfl ?_
      refine zj_aload_n (j := 0) (i := 0) C rfl 1 rfl dX3_reach_55 ?_
      refine zj_getR C F h_r0 fl_X3_9 rfl rfl dX3_reach_56 ?_
      refine zj_getR C F (zt_3_0 h_r0) fl_X3_47 rfl (rfo_5_6 (zt_3_0 h_r0)) dX3_reach_59 ?_
      refine zj_iload_n (j := 1) (i := 1) C rfl 2 rfl dX3_reach_62 ?_
      refine zj_iaload C F (zko_5_6 (zt_3_0 h_r0)) h_v1 dX3_reach_63 (fun c8 h9 => ?_)
      refine zj_iload C 5 rfl dX3_reach_64 ?_
      refine zj_aload_n (j := 0) (i := 0) C rfl 1 rfl dX3_reach_66 ?_
      refine zj_getR C F h_r0 fl_X3_9 rfl rfl dX3_reach_67 ?_
      refine zj_getR C F (zt_3_0 h_r0) fl_X3_76 rfl (rfo_5_10 (zt_3_0 h_r0)) dX3_reach_70 ?_
      refine zj_iload_n (j := 2) (i := 2) C rfl 3 rfl dX3_reach_73 ?_
      refine zj_iaload C F (zko_5_10 (zt_3_0 h_r0)) h_v2 dX3_reach_74 (fun c10 h11 => ?_)
      refine zj_imul C dX3_reach_75 ?_
      refine zj_isub C dX3_reach_76 ?_
      refine zj_pipeI (fun y12 e_y12 => ?_)
      have h_y12 := ir_eq e_y12 (ir_w _)
      refine zj_istore C [(6, .int (i32 y12)), (5, .int (i32 y6)), (0, .ref (zad Γ r0)), (1, .int (i32 v1)), (2, .int (i32 v2)), (3, .int (i32 v3)), (4, .int (i32 v4))] dX3_reach_77 (by decide) rfl ?_
      refine zj_iload C 1 rfl dX3_reach_79 ?_
      refine zj_iconst C (-1) dX3_reach_81 ?_
      refine zj_icmp_eq C 108 h_y6 irc_m1 dX3_reach_82 rfl (fun c13 => ?_) (fun c13 => ?_)
      · refine zj_iload_n (j := 3) (i := 3) C rfl 5 rfl dX3_reach_108 ?_
        exact zrt_i C Z h_v3 dX3_reach_109
      · refine zj_iload C 0 rfl dX3_reach_85 ?_
        refine zj_aload_n (j := 0) (i := 0) C rfl 2 rfl dX3_reach_87 ?_
        refine zj_iload C 1 rfl dX3_reach_88 ?_
        refine zj_callVi C F Z [.int (i32 y6)] [.int (i32 y12)] cal_X3_heightAt calv_X3_heightAt ml_X3_79 h_r0 rfl rfl (by decide) (Nat.le_of_ble_eq_true rfl) rfl dX3_reach_90 (fun q h => M_X3_heightAt l Γ F h_r0 h_y6 m7 q h) (fun y14 m15 h_y14 => ?_)
        refine zj_icmp_gt C 99 h_y12 h_y14 dX3_reach_93 rfl (fun c16 => ?_) (fun c16 => ?_)
        · refine zj_iload C 6 rfl dX3_reach_99 ?_
          refine zj_istore_n (j := 3) (i := 3) C rfl [(3, .int (i32 v4)), (6, .int (i32 y12)), (5, .int (i32 y6)), (0, .ref (zad Γ r0)), (1, .int (i32 v1)), (2, .int (i32 v2)), (4, .int (i32 v4))] dX3_reach_101 (by decide) rfl ?_
          refine zj_iinc C 6 [(4, .int (i32 (w32 (v4 + 1)))), (3, .int (i32 v4)), (6, .int (i32 y12)), (5, .int (i32 y6)), (0, .ref (zad Γ r0)), (1, .int (i32 v1)), (2, .int (i32 v2))] rfl dX3_reach_102 (by decide) rfl ?_
          refine zj_goto (tgt := 19) C dX3_reach_105 rfl ?_
          exact zj_sub [4, 5, 6, 1, 0] rfl (ih r0 v1 v2 v4 (w32 (v4 + 1)) h_r0 h_v1 h_v2 h_v4 (ir_w _) m15)
        · refine zj_goto (tgt := 108) C dX3_reach_96 rfl ?_
          refine zj_iload_n (j := 3) (i := 3) C rfl 5 rfl dX3_reach_108 ?_
          exact zrt_i C Z h_v3 dX3_reach_109
noncomputable def f_X3_reach (t0 : Nat) (x1 : Int) (x2 : Int) (mem : zMem) : Option (Int × zMem) := zbind (f_X5_hasShadow (sRf t0 0) x1 x2 mem) fun y1 m2 => if y1 = 0 then (some (0, m2)) else (f_X3_reach_0 zN t0 x1 x2 0 1 m2)
set_option maxHeartbeats 4000000 in
theorem M_X3_reach (l : Launch) (Γ : zG) (F : zFull Γ)  {t0 : Nat} {x1 : Int} {x2 : Int} (h_t0 : zk t0 3) (h_x1 : ir x1) (h_x2 : ir x2) (mem : zMem) (q : Int × zMem) (h : f_X3_reach t0 x1 x2 mem = some q) : zMet l yX3_reach cX3_reach 7 (some .int) 2 Γ 1 [.ref (zad Γ t0), .int (i32 x1), .int (i32 x2)] mem q := by
  refine zMet_of (own := "ShadowHeirs$Island") (by decide) rfl (Nat.le_of_ble_eq_true rfl) (fun X C Z => ?_)
  revert h
  show zJ X Γ 7 q (f_X3_reach t0 x1 x2 mem) 0 [(0, .ref (zad Γ t0)), (1, .int (i32 x1)), (2, .int (i32 x2))] [] mem
  unfold f_X3_reach
  refine zj_aload_n (j := 0) (i := 0) C rfl 0 rfl dX3_reach_0 ?_
  refine zj_getR C F h_t0 fl_X3_9 rfl rfl dX3_reach_1 ?_
  refine zj_iload_n (j := 1) (i := 1) C rfl 1 rfl dX3_reach_4 ?_
  refine zj_iload_n (j := 2) (i := 2) C rfl 2 rfl dX3_reach_5 ?_
  refine zj_callVi C F Z [.int (i32 x1), .int (i32 x2)] [] cal_X5_hasShadow calv_X5_hasShadow ml_X3_65 (zt_3_0 h_t0) rfl rfl (by decide) (Nat.le_of_ble_eq_true rfl) rfl dX3_reach_6 (fun q h => M_X5_hasShadow l Γ F (zt_3_0 h_t0) h_x1 h_x2 mem q h) (fun y1 m2 h_y1 => ?_)
  refine zj_if_ne C 14 h_y1 dX3_reach_9 rfl (fun c3 => ?_) (fun c3 => ?_)
  · refine zj_iconst C 0 dX3_reach_12 ?_
    exact zrt_i C Z irc_0 dX3_reach_13
  · refine zj_iconst C 0 dX3_reach_14 ?_
    refine zj_istore_n (j := 3) (i := 3) C rfl [(3, .int (i32 0)), (0, .ref (zad Γ t0)), (1, .int (i32 x1)), (2, .int (i32 x2))] dX3_reach_15 (by decide) rfl ?_
    refine zj_iconst C 1 dX3_reach_16 ?_
    refine zj_istore C [(4, .int (i32 1)), (3, .int (i32 0)), (0, .ref (zad Γ t0)), (1, .int (i32 x1)), (2, .int (i32 x2))] dX3_reach_17 (by decide) rfl ?_
    exact zj_sub [2, 3, 4, 1, 0] rfl ((L_X3_reach_0 l F C Z zN) t0 x1 x2 0 1 h_t0 h_x1 h_x2 irc_0 irc_1 m2)
noncomputable def b_X3_personsTouched_0 (rec : Nat → Int → Int → Int → Int → Int → zMem → Option (Int × zMem)) (r0 : Nat) (v1 : Int) (v2 : Int) (v3 : Int) (v4 : Int) (v5 : Int) (mem : zMem) : Option (Int × zMem) := if v5 ≥ (mem (sRf r0 0) 3) then (some (v4, mem)) else (if v5 ≥ 6 then (some (v4, mem)) else (if ix ((sRf r0 1) + 2) v5 then zbind (f_X5_stepsAlong (sRf r0 0) v1 v2 (mem ((sRf r0 1) + 2) v5) mem) fun y6 m7 => if y6 < 1 then (rec r0 v1 v2 v3 v4 (w32 (v5 + 1)) m7) else (if y6 > v3 then (rec r0 v1 v2 v3 v4 (w32 (v5 + 1)) m7) else (pipe (zor v4 (zshl 1 v5)) fun y10 => rec r0 v1 v2 v3 y10 (w32 (v5 + 1)) m7)) else none))
noncomputable def f_X3_personsTouched_0 : Nat → Nat → Int → Int → Int → Int → Int → zMem → Option (Int × zMem) := zfuel (fun _ _ _ _ _ _ _ => none) (b_X3_personsTouched_0)
set_option maxHeartbeats 4000000 in
theorem L_X3_personsTouched_0 (l : Launch) {Γ : zG} (F : zFull Γ) {X : zM} {q : Int × zMem} (C : zC X Γ "ShadowHeirs$Island" cX3_personsTouched 7) (Z : zRt X l Γ 3 1 (some .int) q) : ∀ n : Nat, ∀ (r0 : Nat) (v1 : Int) (v2 : Int) (v3 : Int) (v4 : Int) (v5 : Int) (h_r0 : zk r0 3) (h_v1 : ir v1) (h_v2 : ir v2) (h_v3 : ir v3) (h_v4 : ir v4) (h_v5 : ir v5) (mem : zMem), zJ X Γ 7 q (f_X3_personsTouched_0 n r0 v1 v2 v3 v4 v5 mem) 13 [(0, .ref (zad Γ r0)), (1, .int (i32 v1)), (2, .int (i32 v2)), (3, .int (i32 v3)), (4, .int (i32 v4)), (5, .int (i32 v5))] [] mem := by
  intro n
  induction n with
  | zero => intros; exact zj_none
  | succ n ih =>
    intro r0 v1 v2 v3 v4 v5 h_r0 h_v1 h_v2 h_v3 h_v4 h_v5 mem
    show zJ X Γ 7 q (b_X3_personsTouched_0 (f_X3_personsTouched_0 n) r0 v1 v2 v3 v4 v5 mem) _ _ _ _
    unfold b_X3_personsTouched_0
    refine zj_iload C 5 rfl dX3_personsTouched_13 ?_
    refine zj_aload_n (j := 0) (i := 0) C rfl 0 rfl dX3_personsTouched_15 ?_
    refine zj_getR C F h_r0 fl_X3_9 rfl rfl dX3_personsTouched_16 ?_
    refine zj_getI C F 3 rfl (zt_3_0 h_r0) fl_X3_53 rfl dX3_personsTouched_19 (fun h1 => ?_)
    refine zj_icmp_ge C 80 h_v5 h1 dX3_personsTouched_22 rfl (fun c2 => ?_) (fun c2 => ?_)
    · refine zj_iload C 4 rfl dX3_personsTouched_80 ?_
      exact zrt_i C Z h_v4 dX3_personsTouched_82
    · refine zj_iload C 5 rfl dX3_personsTouched_25 ?_
      refine zj_bipush C 6 rfl dX3_personsTouched_27 ?_
      refine zj_icmp_ge C 80 h_v5 irc_6 dX3_personsTouched_29 rfl (fun c3 => ?_) (fun c3 => ?_)
      · refine zj_iload C 4 rfl dX3_personsTouched_80 ?_
        exact zrt_i C Z h_v4 dX3_personsTouched_82
      · refine zj_aload_n (j := 0) (i := 0) C rfl 0 rfl dX3_personsTouched_32 ?_
        refine zj_getR C F h_r0 fl_X3_9 rfl rfl dX3_personsTouched_33 ?_
        refine zj_iload_n (j := 1) (i := 1) C rfl 1 rfl dX3_personsTouched_36 ?_
        refine zj_iload_n (j := 2) (i := 2) C rfl 2 rfl dX3_personsTouched_37 ?_
        refine zj_aload_n (j := 0) (i := 0) C rfl 0 rfl dX3_personsTouched_38 ?_
        refine zj_getR C F h_r0 fl_X3_15 rfl rfl dX3_personsTouched_39 ?_
        refine zj_getR C F (zt_3_1 h_r0) fl_X3_56 rfl (rfo_7_1 (zt_3_1 h_r0)) dX3_personsTouched_42 ?_
        refine zj_iload C 5 rfl dX3_personsTouched_45 ?_
        refine zj_iaload C F (zko_7_1 (zt_3_1 h_r0)) h_v5 dX3_personsTouched_47 (fun c4 h5 => ?_)
        refine zj_callVi C F Z [.int (i32 v1), .int (i32 v2), .int (i32 (mem ((sRf r0 1) + 2) v5))] [] cal_X5_stepsAlong calv_X5_stepsAlong ml_X3_87 (zt_3_0 h_r0) rfl rfl (by decide) (Nat.le_of_ble_eq_true rfl) rfl dX3_personsTouched_48 (fun q h => M_X5_stepsAlong l Γ F (zt_3_0 h_r0) h_v1 h_v2 h5 mem q h) (fun y6 m7 h_y6 => ?_)
        refine zj_istore C [(6, .int (i32 y6)), (0, .ref (zad Γ r0)), (1, .int (i32 v1)), (2, .int (i32 v2)), (3, .int (i32 v3)), (4, .int (i32 v4)), (5, .int (i32 v5))] dX3_personsTouched_51 (by decide) rfl ?_
        refine zj_iload C 0 rfl dX3_personsTouched_53 ?_
        refine zj_iconst C 1 dX3_personsTouched_55 ?_
        refine zj_icmp_lt C 74 h_y6 irc_1 dX3_personsTouched_56 rfl (fun c8 => ?_) (fun c8 => ?_)
        · refine zj_iinc C 6 [(5, .int (i32 (w32 (v5 + 1)))), (6, .int (i32 y6)), (0, .ref (zad Γ r0)), (1, .int (i32 v1)), (2, .int (i32 v2)), (3, .int (i32 v3)), (4, .int (i32 v4))] rfl dX3_personsTouched_74 (by decide) rfl ?_
          refine zj_goto (tgt := 13) C dX3_personsTouched_77 rfl ?_
          exact zj_sub [2, 3, 4, 5, 6, 0] rfl (ih r0 v1 v2 v3 v4 (w32 (v5 + 1)) h_r0 h_v1 h_v2 h_v3 h_v4 (ir_w _) m7)
        · refine zj_iload C 0 rfl dX3_personsTouched_59 ?_
          refine zj_iload_n (j := 3) (i := 3) C rfl 4 rfl dX3_personsTouched_61 ?_
          refine zj_icmp_gt C 74 h_y6 h_v3 dX3_personsTouched_62 rfl (fun c9 => ?_) (fun c9 => ?_)
          · refine zj_iinc C 6 [(5, .int (i32 (w32 (v5 + 1)))), (6, .int (i32 y6)), (0, .ref (zad Γ r0)), (1, .int (i32 v1)), (2, .int (i32 v2)), (3, .int (i32 v3)), (4, .int (i32 v4))] rfl dX3_personsTouched_74 (by decide) rfl ?_
            refine zj_goto (tgt := 13) C dX3_personsTouched_77 rfl ?_
            exact zj_sub [2, 3, 4, 5, 6, 0] rfl (ih r0 v1 v2 v3 v4 (w32 (v5 + 1)) h_r0 h_v1 h_v2 h_v3 h_v4 (ir_w _) m7)
          · refine zj_iload C 5 rfl dX3_personsTouched_65 ?_
            refine zj_iconst C 1 dX3_personsTouched_67 ?_
            refine zj_iload C 6 rfl dX3_personsTouched_68 ?_
            refine zj_ishl C dX3_personsTouched_70 ?_
            refine zj_ior C dX3_personsTouched_71 ?_
            refine zj_pipeI (fun y10 e_y10 => ?_)
            have h_y10 := ir_eq e_y10 (ir_toInt _)
            refine zj_istore C [(4, .int (i32 y10)), (6, .int (i32 y6)), (0, .ref (zad Γ r0)), (1, .int (i32 v1)), (2, .int (i32 v2)), (3, .int (i32 v3)), (5, .int (i32 v5))] dX3_personsTouched_72 (by decide) rfl ?_
            refine zj_iinc C 6 [(5, .int (i32 (w32 (v5 + 1)))), (4, .int (i32 y10)), (6, .int (i32 y6)), (0, .ref (zad Γ r0)), (1, .int (i32 v1)), (2, .int (i32 v2)), (3, .int (i32 v3))] rfl dX3_personsTouched_74 (by decide) rfl ?_
            refine zj_goto (tgt := 13) C dX3_personsTouched_77 rfl ?_
            exact zj_sub [3, 4, 5, 6, 1, 0] rfl (ih r0 v1 v2 v3 y10 (w32 (v5 + 1)) h_r0 h_v1 h_v2 h_v3 h_y10 (ir_w _) m7)
noncomputable def f_X3_personsTouched (t0 : Nat) (x1 : Int) (x2 : Int) (mem : zMem) : Option (Int × zMem) := zbind (f_X3_reach t0 x1 x2 mem) fun y1 m2 => f_X3_personsTouched_0 zN t0 x1 x2 y1 0 0 m2
set_option maxHeartbeats 4000000 in
theorem M_X3_personsTouched (l : Launch) (Γ : zG) (F : zFull Γ)  {t0 : Nat} {x1 : Int} {x2 : Int} (h_t0 : zk t0 3) (h_x1 : ir x1) (h_x2 : ir x2) (mem : zMem) (q : Int × zMem) (h : f_X3_personsTouched t0 x1 x2 mem = some q) : zMet l yX3_personsTouched cX3_personsTouched 7 (some .int) 3 Γ 1 [.ref (zad Γ t0), .int (i32 x1), .int (i32 x2)] mem q := by
  refine zMet_of (own := "ShadowHeirs$Island") (by decide) rfl (Nat.le_of_ble_eq_true rfl) (fun X C Z => ?_)
  revert h
  show zJ X Γ 7 q (f_X3_personsTouched t0 x1 x2 mem) 0 [(0, .ref (zad Γ t0)), (1, .int (i32 x1)), (2, .int (i32 x2))] [] mem
  unfold f_X3_personsTouched
  refine zj_aload_n (j := 0) (i := 0) C rfl 0 rfl dX3_personsTouched_0 ?_
  refine zj_iload_n (j := 1) (i := 1) C rfl 1 rfl dX3_personsTouched_1 ?_
  refine zj_iload_n (j := 2) (i := 2) C rfl 2 rfl dX3_personsTouched_2 ?_
  refine zj_callVi C F Z [.int (i32 x1), .int (i32 x2)] [] cal_X3_reach calv_X3_reach ml_X3_83 h_t0 rfl rfl (by decide) (Nat.le_of_ble_eq_true rfl) rfl dX3_personsTouched_3 (fun q h => M_X3_reach l Γ F h_t0 h_x1 h_x2 mem q h) (fun y1 m2 h_y1 => ?_)
  refine zj_istore_n (j := 3) (i := 3) C rfl [(3, .int (i32 y1)), (0, .ref (zad Γ t0)), (1, .int (i32 x1)), (2, .int (i32 x2))] dX3_personsTouched_6 (by decide) rfl ?_
  refine zj_iconst C 0 dX3_personsTouched_7 ?_
  refine zj_istore C [(4, .int (i32 0)), (3, .int (i32 y1)), (0, .ref (zad Γ t0)), (1, .int (i32 x1)), (2, .int (i32 x2))] dX3_personsTouched_8 (by decide) rfl ?_
  refine zj_iconst C 0 dX3_personsTouched_10 ?_
  refine zj_istore C [(5, .int (i32 0)), (4, .int (i32 0)), (3, .int (i32 y1)), (0, .ref (zad Γ t0)), (1, .int (i32 x1)), (2, .int (i32 x2))] dX3_personsTouched_11 (by decide) rfl ?_
  exact zj_sub [3, 4, 5, 2, 1, 0] rfl ((L_X3_personsTouched_0 l F C Z zN) t0 x1 x2 y1 0 0 h_t0 h_x1 h_x2 h_y1 irc_0 irc_0 m2)
noncomputable def b_X3_housesTouching_0 (rec : Nat → Int → Int → Int → Int → zMem → Option (Int × zMem)) (r0 : Nat) (v1 : Int) (v2 : Int) (v3 : Int) (v4 : Int) (mem : zMem) : Option (Int × zMem) := if v4 ≥ (mem (sRf r0 0) 2) then (some (v3, mem)) else (zbind (f_X5_stepsAlong (sRf r0 0) v4 v2 v1 mem) fun y3 m4 => if y3 < 1 then (rec r0 v1 v2 v3 (w32 (v4 + 1)) m4) else (zbind (f_X3_reach r0 v4 v2 m4) fun y6 m7 => if y3 > y6 then (rec r0 v1 v2 v3 (w32 (v4 + 1)) m7) else (pipe (zor v3 (zshl 1 v4)) fun y9 => rec r0 v1 v2 y9 (w32 (v4 + 1)) m7)))
noncomputable def f_X3_housesTouching_0 : Nat → Nat → Int → Int → Int → Int → zMem → Option (Int × zMem) := zfuel (fun _ _ _ _ _ _ => none) (b_X3_housesTouching_0)
set_option maxHeartbeats 4000000 in
theorem L_X3_housesTouching_0 (l : Launch) {Γ : zG} (F : zFull Γ) {X : zM} {q : Int × zMem} (C : zC X Γ "ShadowHeirs$Island" cX3_housesTouching 6) (Z : zRt X l Γ 3 1 (some .int) q) : ∀ n : Nat, ∀ (r0 : Nat) (v1 : Int) (v2 : Int) (v3 : Int) (v4 : Int) (h_r0 : zk r0 3) (h_v1 : ir v1) (h_v2 : ir v2) (h_v3 : ir v3) (h_v4 : ir v4) (mem : zMem), zJ X Γ 6 q (f_X3_housesTouching_0 n r0 v1 v2 v3 v4 mem) 10 [(0, .ref (zad Γ r0)), (1, .int (i32 v1)), (2, .int (i32 v2)), (3, .int (i32 v3)), (4, .int (i32 v4))] [] mem := by
  intro n
  induction n with
  | zero => intros; exact zj_none
  | succ n ih =>
    intro r0 v1 v2 v3 v4 h_r0 h_v1 h_v2 h_v3 h_v4 mem
    show zJ X Γ 6 q (b_X3_housesTouching_0 (f_X3_housesTouching_0 n) r0 v1 v2 v3 v4 mem) _ _ _ _
    unfold b_X3_housesTouching_0
    refine zj_iload C 4 rfl dX3_housesTouching_10 ?_
    refine zj_aload_n (j := 0) (i := 0) C rfl 0 rfl dX3_housesTouching_12 ?_
    refine zj_getR C F h_r0 fl_X3_9 rfl rfl dX3_housesTouching_13 ?_
    refine zj_getI C F 2 rfl (zt_3_0 h_r0) fl_X3_39 rfl dX3_housesTouching_16 (fun h1 => ?_)
    refine zj_icmp_ge C 66 h_v4 h1 dX3_housesTouching_19 rfl (fun c2 => ?_) (fun c2 => ?_)
    · refine zj_iload_n (j := 3) (i := 3) C rfl 3 rfl dX3_housesTouching_66 ?_
      exact zrt_i C Z h_v3 dX3_housesTouching_67
    · refine zj_aload_n (j := 0) (i := 0) C rfl 0 rfl dX3_housesTouching_22 ?_
      refine zj_getR C F h_r0 fl_X3_9 rfl rfl dX3_housesTouching_23 ?_
      refine zj_iload C 4 rfl dX3_housesTouching_26 ?_
      refine zj_iload_n (j := 2) (i := 2) C rfl 2 rfl dX3_housesTouching_28 ?_
      refine zj_iload_n (j := 1) (i := 1) C rfl 1 rfl dX3_housesTouching_29 ?_
      refine zj_callVi C F Z [.int (i32 v4), .int (i32 v2), .int (i32 v1)] [] cal_X5_stepsAlong calv_X5_stepsAlong ml_X3_87 (zt_3_0 h_r0) rfl rfl (by decide) (Nat.le_of_ble_eq_true rfl) rfl dX3_housesTouching_30 (fun q h => M_X5_stepsAlong l Γ F (zt_3_0 h_r0) h_v4 h_v2 h_v1 mem q h) (fun y3 m4 h_y3 => ?_)
      refine zj_istore C [(5, .int (i32 y3)), (0, .ref (zad Γ r0)), (1, .int (i32 v1)), (2, .int (i32 v2)), (3, .int (i32 v3)), (4, .int (i32 v4))] dX3_housesTouching_33 (by decide) rfl ?_
      refine zj_iload C 0 rfl dX3_housesTouching_35 ?_
      refine zj_iconst C 1 dX3_housesTouching_37 ?_
      refine zj_icmp_lt C 60 h_y3 irc_1 dX3_housesTouching_38 rfl (fun c5 => ?_) (fun c5 => ?_)
      · refine zj_iinc C 5 [(4, .int (i32 (w32 (v4 + 1)))), (5, .int (i32 y3)), (0, .ref (zad Γ r0)), (1, .int (i32 v1)), (2, .int (i32 v2)), (3, .int (i32 v3))] rfl dX3_housesTouching_60 (by decide) rfl ?_
        refine zj_goto (tgt := 10) C dX3_housesTouching_63 rfl ?_
        exact zj_sub [2, 3, 4, 5, 0] rfl (ih r0 v1 v2 v3 (w32 (v4 + 1)) h_r0 h_v1 h_v2 h_v3 (ir_w _) m4)
      · refine zj_iload C 0 rfl dX3_housesTouching_41 ?_
        refine zj_aload_n (j := 0) (i := 0) C rfl 1 rfl dX3_housesTouching_43 ?_
        refine zj_iload C 5 rfl dX3_housesTouching_44 ?_
        refine zj_iload_n (j := 2) (i := 2) C rfl 3 rfl dX3_housesTouching_46 ?_
        refine zj_callVi C F Z [.int (i32 v4), .int (i32 v2)] [.int (i32 y3)] cal_X3_reach calv_X3_reach ml_X3_83 h_r0 rfl rfl (by decide) (Nat.le_of_ble_eq_true rfl) rfl dX3_housesTouching_47 (fun q h => M_X3_reach l Γ F h_r0 h_v4 h_v2 m4 q h) (fun y6 m7 h_y6 => ?_)
        refine zj_icmp_gt C 60 h_y3 h_y6 dX3_housesTouching_50 rfl (fun c8 => ?_) (fun c8 => ?_)
        · refine zj_iinc C 5 [(4, .int (i32 (w32 (v4 + 1)))), (5, .int (i32 y3)), (0, .ref (zad Γ r0)), (1, .int (i32 v1)), (2, .int (i32 v2)), (3, .int (i32 v3))] rfl dX3_housesTouching_60 (by decide) rfl ?_
          refine zj_goto (tgt := 10) C dX3_housesTouching_63 rfl ?_
          exact zj_sub [2, 3, 4, 5, 0] rfl (ih r0 v1 v2 v3 (w32 (v4 + 1)) h_r0 h_v1 h_v2 h_v3 (ir_w _) m7)
        · refine zj_iload_n (j := 3) (i := 3) C rfl 4 rfl dX3_housesTouching_53 ?_
          refine zj_iconst C 1 dX3_housesTouching_54 ?_
          refine zj_iload C 5 rfl dX3_housesTouching_55 ?_
          refine zj_ishl C dX3_housesTouching_57 ?_
          refine zj_ior C dX3_housesTouching_58 ?_
          refine zj_pipeI (fun y9 e_y9 => ?_)
          have h_y9 := ir_eq e_y9 (ir_toInt _)
          refine zj_istore_n (j := 3) (i := 3) C rfl [(3, .int (i32 y9)), (5, .int (i32 y3)), (0, .ref (zad Γ r0)), (1, .int (i32 v1)), (2, .int (i32 v2)), (4, .int (i32 v4))] dX3_housesTouching_59 (by decide) rfl ?_
          refine zj_iinc C 5 [(4, .int (i32 (w32 (v4 + 1)))), (3, .int (i32 y9)), (5, .int (i32 y3)), (0, .ref (zad Γ r0)), (1, .int (i32 v1)), (2, .int (i32 v2))] rfl dX3_housesTouching_60 (by decide) rfl ?_
          refine zj_goto (tgt := 10) C dX3_housesTouching_63 rfl ?_
          exact zj_sub [3, 4, 5, 1, 0] rfl (ih r0 v1 v2 y9 (w32 (v4 + 1)) h_r0 h_v1 h_v2 h_y9 (ir_w _) m7)
noncomputable def f_X3_housesTouching (t0 : Nat) (x1 : Int) (mem : zMem) : Option (Int × zMem) := zbind (f_X3_tableHour t0 mem) fun y1 m2 => f_X3_housesTouching_0 zN t0 x1 y1 0 0 m2
set_option maxHeartbeats 4000000 in
theorem M_X3_housesTouching (l : Launch) (Γ : zG) (F : zFull Γ)  {t0 : Nat} {x1 : Int} (h_t0 : zk t0 3) (h_x1 : ir x1) (mem : zMem) (q : Int × zMem) (h : f_X3_housesTouching t0 x1 mem = some q) : zMet l yX3_housesTouching cX3_housesTouching 6 (some .int) 3 Γ 1 [.ref (zad Γ t0), .int (i32 x1)] mem q := by
  refine zMet_of (own := "ShadowHeirs$Island") (by decide) rfl (Nat.le_of_ble_eq_true rfl) (fun X C Z => ?_)
  revert h
  show zJ X Γ 6 q (f_X3_housesTouching t0 x1 mem) 0 [(0, .ref (zad Γ t0)), (1, .int (i32 x1))] [] mem
  unfold f_X3_housesTouching
  refine zj_aload_n (j := 0) (i := 0) C rfl 0 rfl dX3_housesTouching_0 ?_
  refine zj_callVi C F Z [] [] cal_X3_tableHour calv_X3_tableHour ml_X3_90 h_t0 rfl rfl (by decide) (Nat.le_of_ble_eq_true rfl) rfl dX3_housesTouching_1 (fun q h => M_X3_tableHour l Γ F h_t0 mem q h) (fun y1 m2 h_y1 => ?_)
  refine zj_istore_n (j := 2) (i := 2) C rfl [(2, .int (i32 y1)), (0, .ref (zad Γ t0)), (1, .int (i32 x1))] dX3_housesTouching_4 (by decide) rfl ?_
  refine zj_iconst C 0 dX3_housesTouching_5 ?_
  refine zj_istore_n (j := 3) (i := 3) C rfl [(3, .int (i32 0)), (2, .int (i32 y1)), (0, .ref (zad Γ t0)), (1, .int (i32 x1))] dX3_housesTouching_6 (by decide) rfl ?_
  refine zj_iconst C 0 dX3_housesTouching_7 ?_
  refine zj_istore C [(4, .int (i32 0)), (3, .int (i32 0)), (2, .int (i32 y1)), (0, .ref (zad Γ t0)), (1, .int (i32 x1))] dX3_housesTouching_8 (by decide) rfl ?_
  exact zj_sub [3, 4, 2, 1, 0] rfl ((L_X3_housesTouching_0 l F C Z zN) t0 x1 y1 0 0 h_t0 h_x1 h_y1 irc_0 irc_0 m2)
noncomputable def f_X3_partsWith (t0 : Nat) (x1 : Int) (x2 : Int) (x3 : Int) (mem : zMem) : Option (Int × zMem) := zbind (f_X3_personsTouched t0 x2 x3 mem) fun y1 m2 => if (zand (zshr y1 x1) 1) = 1 then (zbind (f_J6_bitCount_0f7a4 y1 m2) fun y4 m5 => some (y4, m5)) else (some (0, m2))
set_option maxHeartbeats 4000000 in
theorem M_X3_partsWith (l : Launch) (Γ : zG) (F : zFull Γ)  {t0 : Nat} {x1 : Int} {x2 : Int} {x3 : Int} (h_t0 : zk t0 3) (h_x1 : ir x1) (h_x2 : ir x2) (h_x3 : ir x3) (mem : zMem) (q : Int × zMem) (h : f_X3_partsWith t0 x1 x2 x3 mem = some q) : zMet l yX3_partsWith cX3_partsWith 5 (some .int) 4 Γ 1 [.ref (zad Γ t0), .int (i32 x1), .int (i32 x2), .int (i32 x3)] mem q := by
  refine zMet_of (own := "ShadowHeirs$Island") (by decide) rfl (Nat.le_of_ble_eq_true rfl) (fun X C Z => ?_)
  revert h
  show zJ X Γ 5 q (f_X3_partsWith t0 x1 x2 x3 mem) 0 [(0, .ref (zad Γ t0)), (1, .int (i32 x1)), (2, .int (i32 x2)), (3, .int (i32 x3))] [] mem
  unfold f_X3_partsWith
  refine zj_aload_n (j := 0) (i := 0) C rfl 0 rfl dX3_partsWith_0 ?_
  refine zj_iload_n (j := 2) (i := 2) C rfl 2 rfl dX3_partsWith_1 ?_
  refine zj_iload_n (j := 3) (i := 3) C rfl 3 rfl dX3_partsWith_2 ?_
  refine zj_callVi C F Z [.int (i32 x2), .int (i32 x3)] [] cal_X3_personsTouched calv_X3_personsTouched ml_X3_94 h_t0 rfl rfl (by decide) (Nat.le_of_ble_eq_true rfl) rfl dX3_partsWith_3 (fun q h => M_X3_personsTouched l Γ F h_t0 h_x2 h_x3 mem q h) (fun y1 m2 h_y1 => ?_)
  refine zj_istore C [(4, .int (i32 y1)), (0, .ref (zad Γ t0)), (1, .int (i32 x1)), (2, .int (i32 x2)), (3, .int (i32 x3))] dX3_partsWith_6 (by decide) rfl ?_
  refine zj_iload C 0 rfl dX3_partsWith_8 ?_
  refine zj_iload_n (j := 1) (i := 1) C rfl 2 rfl dX3_partsWith_10 ?_
  refine zj_ishr C dX3_partsWith_11 ?_
  refine zj_iconst C 1 dX3_partsWith_12 ?_
  refine zj_iand C dX3_partsWith_13 ?_
  refine zj_iconst C 1 dX3_partsWith_14 ?_
  refine zj_icmp_ne C 26 (ir_toInt _) irc_1 dX3_partsWith_15 rfl (fun c3 => ?_) (fun c3 => ?_)
  · refine zj_iload C 0 rfl dX3_partsWith_18 ?_
    refine zj_callSi C Z [.int (i32 y1)] [] cal_J6_bitCount_0f7a4 sta_J6_bitCount_0f7a4 ml_X3_97 rfl (by decide) (Nat.le_of_ble_eq_true rfl) rfl dX3_partsWith_20 (fun q h => M_J6_bitCount_0f7a4 l Γ F h_y1 m2 q h) (fun y4 m5 h_y4 => ?_)
    refine zj_goto (tgt := 27) C dX3_partsWith_23 rfl ?_
    exact zrt_i C Z h_y4 dX3_partsWith_27
  · refine zj_iconst C 0 dX3_partsWith_26 ?_
    exact zrt_i C Z irc_0 dX3_partsWith_27
noncomputable def f_X3_stonesToStop (t0 : Nat) (x1 : Int) (x2 : Int) (x3 : Int) (mem : zMem) : Option (Int × zMem) := zbind (f_X5_hasShadow (sRf t0 0) x1 x2 mem) fun y1 m2 => if y1 = 0 then (some (0, m2)) else (if ix ((sRf t0 0) + 2) x1 then zbind (f_X5_stepsAlong (sRf t0 0) x1 x2 x3 m2) fun y6 m7 => if ix ((sRf t0 0) + 6) x2 then pipe (w32 ((m2 ((sRf t0 0) + 2) x1) - (w32 (y6 * (m7 ((sRf t0 0) + 6) x2))))) fun y10 => zbind (f_X3_heightAt t0 x3 m7) fun y11 m12 => some ((w32 (y10 - y11)), m12) else none else none)
set_option maxHeartbeats 4000000 in
theorem M_X3_stonesToStop (l : Launch) (Γ : zG) (F : zFull Γ)  {t0 : Nat} {x1 : Int} {x2 : Int} {x3 : Int} (h_t0 : zk t0 3) (h_x1 : ir x1) (h_x2 : ir x2) (h_x3 : ir x3) (mem : zMem) (q : Int × zMem) (h : f_X3_stonesToStop t0 x1 x2 x3 mem = some q) : zMet l yX3_stonesToStop cX3_stonesToStop 5 (some .int) 3 Γ 1 [.ref (zad Γ t0), .int (i32 x1), .int (i32 x2), .int (i32 x3)] mem q := by
  refine zMet_of (own := "ShadowHeirs$Island") (by decide) rfl (Nat.le_of_ble_eq_true rfl) (fun X C Z => ?_)
  revert h
  show zJ X Γ 5 q (f_X3_stonesToStop t0 x1 x2 x3 mem) 0 [(0, .ref (zad Γ t0)), (1, .int (i32 x1)), (2, .int (i32 x2)), (3, .int (i32 x3))] [] mem
  unfold f_X3_stonesToStop
  refine zj_aload_n (j := 0) (i := 0) C rfl 0 rfl dX3_stonesToStop_0 ?_
  refine zj_getR C F h_t0 fl_X3_9 rfl rfl dX3_stonesToStop_1 ?_
  refine zj_iload_n (j := 1) (i := 1) C rfl 1 rfl dX3_stonesToStop_4 ?_
  refine zj_iload_n (j := 2) (i := 2) C rfl 2 rfl dX3_stonesToStop_5 ?_
  refine zj_callVi C F Z [.int (i32 x1), .int (i32 x2)] [] cal_X5_hasShadow calv_X5_hasShadow ml_X3_65 (zt_3_0 h_t0) rfl rfl (by decide) (Nat.le_of_ble_eq_true rfl) rfl dX3_stonesToStop_6 (fun q h => M_X5_hasShadow l Γ F (zt_3_0 h_t0) h_x1 h_x2 mem q h) (fun y1 m2 h_y1 => ?_)
  refine zj_if_ne C 14 h_y1 dX3_stonesToStop_9 rfl (fun c3 => ?_) (fun c3 => ?_)
  · refine zj_iconst C 0 dX3_stonesToStop_12 ?_
    exact zrt_i C Z irc_0 dX3_stonesToStop_13
  · refine zj_aload_n (j := 0) (i := 0) C rfl 0 rfl dX3_stonesToStop_14 ?_
    refine zj_getR C F h_t0 fl_X3_9 rfl rfl dX3_stonesToStop_15 ?_
    refine zj_getR C F (zt_3_0 h_t0) fl_X3_47 rfl (rfo_5_6 (zt_3_0 h_t0)) dX3_stonesToStop_18 ?_
    refine zj_iload_n (j := 1) (i := 1) C rfl 1 rfl dX3_stonesToStop_21 ?_
    refine zj_iaload C F (zko_5_6 (zt_3_0 h_t0)) h_x1 dX3_stonesToStop_22 (fun c4 h5 => ?_)
    refine zj_aload_n (j := 0) (i := 0) C rfl 0 rfl dX3_stonesToStop_23 ?_
    refine zj_getR C F h_t0 fl_X3_9 rfl rfl dX3_stonesToStop_24 ?_
    refine zj_iload_n (j := 1) (i := 1) C rfl 1 rfl dX3_stonesToStop_27 ?_
    refine zj_iload_n (j := 2) (i := 2) C rfl 2 rfl dX3_stonesToStop_28 ?_
    refine zj_iload_n (j := 3) (i := 3) C rfl 3 rfl dX3_stonesToStop_29 ?_
    refine zj_callVi C F Z [.int (i32 x1), .int (i32 x2), .int (i32 x3)] [.int (i32 (m2 ((sRf t0 0) + 2) x1))] cal_X5_stepsAlong calv_X5_stepsAlong ml_X3_87 (zt_3_0 h_t0) rfl rfl (by decide) (Nat.le_of_ble_eq_true rfl) rfl dX3_stonesToStop_30 (fun q h => M_X5_stepsAlong l Γ F (zt_3_0 h_t0) h_x1 h_x2 h_x3 m2 q h) (fun y6 m7 h_y6 => ?_)
    refine zj_aload_n (j := 0) (i := 0) C rfl 0 rfl dX3_stonesToStop_33 ?_
    refine zj_getR C F h_t0 fl_X3_9 rfl rfl dX3_stonesToStop_34 ?_
    refine zj_getR C F (zt_3_0 h_t0) fl_X3_76 rfl (rfo_5_10 (zt_3_0 h_t0)) dX3_stonesToStop_37 ?_
    refine zj_iload_n (j := 2) (i := 2) C rfl 2 rfl dX3_stonesToStop_40 ?_
    refine zj_iaload C F (zko_5_10 (zt_3_0 h_t0)) h_x2 dX3_stonesToStop_41 (fun c8 h9 => ?_)
    refine zj_imul C dX3_stonesToStop_42 ?_
    refine zj_isub C dX3_stonesToStop_43 ?_
    refine zj_pipeI (fun y10 e_y10 => ?_)
    have h_y10 := ir_eq e_y10 (ir_w _)
    refine zj_istore C [(4, .int (i32 y10)), (0, .ref (zad Γ t0)), (1, .int (i32 x1)), (2, .int (i32 x2)), (3, .int (i32 x3))] dX3_stonesToStop_44 (by decide) rfl ?_
    refine zj_iload C 0 rfl dX3_stonesToStop_46 ?_
    refine zj_aload_n (j := 0) (i := 0) C rfl 1 rfl dX3_stonesToStop_48 ?_
    refine zj_iload_n (j := 3) (i := 3) C rfl 4 rfl dX3_stonesToStop_49 ?_
    refine zj_callVi C F Z [.int (i32 x3)] [.int (i32 y10)] cal_X3_heightAt calv_X3_heightAt ml_X3_79 h_t0 rfl rfl (by decide) (Nat.le_of_ble_eq_true rfl) rfl dX3_stonesToStop_50 (fun q h => M_X3_heightAt l Γ F h_t0 h_x3 m7 q h) (fun y11 m12 h_y11 => ?_)
    refine zj_isub C dX3_stonesToStop_53 ?_
    exact zrt_i C Z (ir_w _) dX3_stonesToStop_54
noncomputable def f_X3_whyNotStep (t0 : Nat) (x1 : Int) (x2 : Int) (mem : zMem) : Option (Int × zMem) := zbind (f_X5_hasPerson (sRf t0 0) x1 mem) fun y1 m2 => if y1 = 0 then (some (1, m2)) else (if ix ((sRf t0 1) + 2) x1 then zbind (f_X5_spotFrom (sRf t0 0) (m2 ((sRf t0 1) + 2) x1) x2 1 m2) fun y7 m8 => if y7 = (-1) then (some (1, m8)) else (zbind (f_X3_heightAt t0 y7 m8) fun y10 m11 => if y10 ≤ 0 then (some (0, m11)) else (some (2, m11))) else none)
set_option maxHeartbeats 4000000 in
theorem M_X3_whyNotStep (l : Launch) (Γ : zG) (F : zFull Γ)  {t0 : Nat} {x1 : Int} {x2 : Int} (h_t0 : zk t0 3) (h_x1 : ir x1) (h_x2 : ir x2) (mem : zMem) (q : Int × zMem) (h : f_X3_whyNotStep t0 x1 x2 mem = some q) : zMet l yX3_whyNotStep cX3_whyNotStep 4 (some .int) 2 Γ 1 [.ref (zad Γ t0), .int (i32 x1), .int (i32 x2)] mem q := by
  refine zMet_of (own := "ShadowHeirs$Island") (by decide) rfl (Nat.le_of_ble_eq_true rfl) (fun X C Z => ?_)
  revert h
  show zJ X Γ 4 q (f_X3_whyNotStep t0 x1 x2 mem) 0 [(0, .ref (zad Γ t0)), (1, .int (i32 x1)), (2, .int (i32 x2))] [] mem
  unfold f_X3_whyNotStep
  refine zj_aload_n (j := 0) (i := 0) C rfl 0 rfl dX3_whyNotStep_0 ?_
  refine zj_getR C F h_t0 fl_X3_9 rfl rfl dX3_whyNotStep_1 ?_
  refine zj_iload_n (j := 1) (i := 1) C rfl 1 rfl dX3_whyNotStep_4 ?_
  refine zj_callVi C F Z [.int (i32 x1)] [] cal_X5_hasPerson calv_X5_hasPerson ml_X3_108 (zt_3_0 h_t0) rfl rfl (by decide) (Nat.le_of_ble_eq_true rfl) rfl dX3_whyNotStep_5 (fun q h => M_X5_hasPerson l Γ F (zt_3_0 h_t0) h_x1 mem q h) (fun y1 m2 h_y1 => ?_)
  refine zj_if_eq C 32 h_y1 dX3_whyNotStep_8 rfl (fun c3 => ?_) (fun c3 => ?_)
  · refine zj_iconst C (-1) dX3_whyNotStep_32 ?_
    refine zj_istore_n (j := 3) (i := 3) C rfl [(3, .int (i32 (-1))), (0, .ref (zad Γ t0)), (1, .int (i32 x1)), (2, .int (i32 x2))] dX3_whyNotStep_33 (by decide) rfl ?_
    refine zj_iload_n (j := 3) (i := 3) C rfl 0 rfl dX3_whyNotStep_34 ?_
    refine zj_iconst C (-1) dX3_whyNotStep_35 ?_
    refine zj_cpos (by decide) (zj_icmp_ne (B := none) C 41 irc_m1 irc_m1 dX3_whyNotStep_36 rfl (fun c4 => ?_) (fun _ => zj_none))
    refine zj_iconst C 1 dX3_whyNotStep_39 ?_
    exact zrt_i C Z irc_1 dX3_whyNotStep_40
  · refine zj_aload_n (j := 0) (i := 0) C rfl 0 rfl dX3_whyNotStep_11 ?_
    refine zj_getR C F h_t0 fl_X3_9 rfl rfl dX3_whyNotStep_12 ?_
    refine zj_aload_n (j := 0) (i := 0) C rfl 0 rfl dX3_whyNotStep_15 ?_
    refine zj_getR C F h_t0 fl_X3_15 rfl rfl dX3_whyNotStep_16 ?_
    refine zj_getR C F (zt_3_1 h_t0) fl_X3_56 rfl (rfo_7_1 (zt_3_1 h_t0)) dX3_whyNotStep_19 ?_
    refine zj_iload_n (j := 1) (i := 1) C rfl 1 rfl dX3_whyNotStep_22 ?_
    refine zj_iaload C F (zko_7_1 (zt_3_1 h_t0)) h_x1 dX3_whyNotStep_23 (fun c5 h6 => ?_)
    refine zj_iload_n (j := 2) (i := 2) C rfl 2 rfl dX3_whyNotStep_24 ?_
    refine zj_iconst C 1 dX3_whyNotStep_25 ?_
    refine zj_callVi C F Z [.int (i32 (m2 ((sRf t0 1) + 2) x1)), .int (i32 x2), .int (i32 1)] [] cal_X5_spotFrom calv_X5_spotFrom ml_X3_72 (zt_3_0 h_t0) rfl rfl (by decide) (Nat.le_of_ble_eq_true rfl) rfl dX3_whyNotStep_26 (fun q h => M_X5_spotFrom l Γ F (zt_3_0 h_t0) h6 h_x2 irc_1 m2 q h) (fun y7 m8 h_y7 => ?_)
    refine zj_goto (tgt := 33) C dX3_whyNotStep_29 rfl ?_
    refine zj_istore_n (j := 3) (i := 3) C rfl [(3, .int (i32 y7)), (0, .ref (zad Γ t0)), (1, .int (i32 x1)), (2, .int (i32 x2))] dX3_whyNotStep_33 (by decide) rfl ?_
    refine zj_iload_n (j := 3) (i := 3) C rfl 0 rfl dX3_whyNotStep_34 ?_
    refine zj_iconst C (-1) dX3_whyNotStep_35 ?_
    refine zj_icmp_ne C 41 h_y7 irc_m1 dX3_whyNotStep_36 rfl (fun c9 => ?_) (fun c9 => ?_)
    · refine zj_iconst C 1 dX3_whyNotStep_39 ?_
      exact zrt_i C Z irc_1 dX3_whyNotStep_40
    · refine zj_aload_n (j := 0) (i := 0) C rfl 1 rfl dX3_whyNotStep_41 ?_
      refine zj_iload_n (j := 3) (i := 3) C rfl 0 rfl dX3_whyNotStep_42 ?_
      refine zj_callVi C F Z [.int (i32 y7)] [] cal_X3_heightAt calv_X3_heightAt ml_X3_79 h_t0 rfl rfl (by decide) (Nat.le_of_ble_eq_true rfl) rfl dX3_whyNotStep_43 (fun q h => M_X3_heightAt l Γ F h_t0 h_y7 m8 q h) (fun y10 m11 h_y10 => ?_)
      refine zj_if_le C 53 h_y10 dX3_whyNotStep_46 rfl (fun c12 => ?_) (fun c12 => ?_)
      · refine zj_iconst C 0 dX3_whyNotStep_53 ?_
        exact zrt_i C Z irc_0 dX3_whyNotStep_54
      · refine zj_iconst C 2 dX3_whyNotStep_49 ?_
        refine zj_goto (tgt := 54) C dX3_whyNotStep_50 rfl ?_
        exact zrt_i C Z irc_2 dX3_whyNotStep_54
noncomputable def f_X3_makeStep (t0 : Nat) (x1 : Int) (x2 : Int) (mem : zMem) : Option (Int × zMem) := zbind (f_X5_hasPerson (sRf t0 0) x1 mem) fun y1 m2 => if y1 = 0 then (some (0, m2)) else (if ix ((sRf t0 1) + 2) x1 then zbind (f_X5_spotFrom (sRf t0 0) (m2 ((sRf t0 1) + 2) x1) x2 1 m2) fun y7 m8 => if y7 = (-1) then (some (0, m8)) else (if ix ((sRf t0 1) + 2) x1 then pipe (zup m8 ((sRf t0 1) + 2) x1 y7) fun m11 => pipe (zup m11 (sRf t0 1) 7 (w32 ((m11 (sRf t0 1) 7) + 1))) fun m13 => some (0, m13) else none) else none)
set_option maxHeartbeats 4000000 in
theorem M_X3_makeStep (l : Launch) (Γ : zG) (F : zFull Γ)  {t0 : Nat} {x1 : Int} {x2 : Int} (h_t0 : zk t0 3) (h_x1 : ir x1) (h_x2 : ir x2) (mem : zMem) (q : Int × zMem) (h : f_X3_makeStep t0 x1 x2 mem = some q) : zMet l yX3_makeStep cX3_makeStep 4 none 2 Γ 0 [.ref (zad Γ t0), .int (i32 x1), .int (i32 x2)] mem q := by
  refine zMet_of (own := "ShadowHeirs$Island") (by decide) rfl (Nat.le_of_ble_eq_true rfl) (fun X C Z => ?_)
  revert h
  show zJ X Γ 4 q (f_X3_makeStep t0 x1 x2 mem) 0 [(0, .ref (zad Γ t0)), (1, .int (i32 x1)), (2, .int (i32 x2))] [] mem
  unfold f_X3_makeStep
  refine zj_aload_n (j := 0) (i := 0) C rfl 0 rfl dX3_makeStep_0 ?_
  refine zj_getR C F h_t0 fl_X3_9 rfl rfl dX3_makeStep_1 ?_
  refine zj_iload_n (j := 1) (i := 1) C rfl 1 rfl dX3_makeStep_4 ?_
  refine zj_callVi C F Z [.int (i32 x1)] [] cal_X5_hasPerson calv_X5_hasPerson ml_X3_108 (zt_3_0 h_t0) rfl rfl (by decide) (Nat.le_of_ble_eq_true rfl) rfl dX3_makeStep_5 (fun q h => M_X5_hasPerson l Γ F (zt_3_0 h_t0) h_x1 mem q h) (fun y1 m2 h_y1 => ?_)
  refine zj_if_eq C 32 h_y1 dX3_makeStep_8 rfl (fun c3 => ?_) (fun c3 => ?_)
  · refine zj_iconst C (-1) dX3_makeStep_32 ?_
    refine zj_istore_n (j := 3) (i := 3) C rfl [(3, .int (i32 (-1))), (0, .ref (zad Γ t0)), (1, .int (i32 x1)), (2, .int (i32 x2))] dX3_makeStep_33 (by decide) rfl ?_
    refine zj_iload_n (j := 3) (i := 3) C rfl 0 rfl dX3_makeStep_34 ?_
    refine zj_iconst C (-1) dX3_makeStep_35 ?_
    refine zj_cpos (by decide) (zj_icmp_eq (B := none) C 62 irc_m1 irc_m1 dX3_makeStep_36 rfl (fun c4 => ?_) (fun _ => zj_none))
    exact zrt_v C Z dX3_makeStep_62
  · refine zj_aload_n (j := 0) (i := 0) C rfl 0 rfl dX3_makeStep_11 ?_
    refine zj_getR C F h_t0 fl_X3_9 rfl rfl dX3_makeStep_12 ?_
    refine zj_aload_n (j := 0) (i := 0) C rfl 0 rfl dX3_makeStep_15 ?_
    refine zj_getR C F h_t0 fl_X3_15 rfl rfl dX3_makeStep_16 ?_
    refine zj_getR C F (zt_3_1 h_t0) fl_X3_56 rfl (rfo_7_1 (zt_3_1 h_t0)) dX3_makeStep_19 ?_
    refine zj_iload_n (j := 1) (i := 1) C rfl 1 rfl dX3_makeStep_22 ?_
    refine zj_iaload C F (zko_7_1 (zt_3_1 h_t0)) h_x1 dX3_makeStep_23 (fun c5 h6 => ?_)
    refine zj_iload_n (j := 2) (i := 2) C rfl 2 rfl dX3_makeStep_24 ?_
    refine zj_iconst C 1 dX3_makeStep_25 ?_
    refine zj_callVi C F Z [.int (i32 (m2 ((sRf t0 1) + 2) x1)), .int (i32 x2), .int (i32 1)] [] cal_X5_spotFrom calv_X5_spotFrom ml_X3_72 (zt_3_0 h_t0) rfl rfl (by decide) (Nat.le_of_ble_eq_true rfl) rfl dX3_makeStep_26 (fun q h => M_X5_spotFrom l Γ F (zt_3_0 h_t0) h6 h_x2 irc_1 m2 q h) (fun y7 m8 h_y7 => ?_)
    refine zj_goto (tgt := 33) C dX3_makeStep_29 rfl ?_
    refine zj_istore_n (j := 3) (i := 3) C rfl [(3, .int (i32 y7)), (0, .ref (zad Γ t0)), (1, .int (i32 x1)), (2, .int (i32 x2))] dX3_makeStep_33 (by decide) rfl ?_
    refine zj_iload_n (j := 3) (i := 3) C rfl 0 rfl dX3_makeStep_34 ?_
    refine zj_iconst C (-1) dX3_makeStep_35 ?_
    refine zj_icmp_eq C 62 h_y7 irc_m1 dX3_makeStep_36 rfl (fun c9 => ?_) (fun c9 => ?_)
    · exact zrt_v C Z dX3_makeStep_62
    · refine zj_aload_n (j := 0) (i := 0) C rfl 1 rfl dX3_makeStep_39 ?_
      refine zj_getR C F h_t0 fl_X3_15 rfl rfl dX3_makeStep_40 ?_
      refine zj_getR C F (zt_3_1 h_t0) fl_X3_56 rfl (rfo_7_1 (zt_3_1 h_t0)) dX3_makeStep_43 ?_
      refine zj_iload_n (j := 1) (i := 1) C rfl 2 rfl dX3_makeStep_46 ?_
      refine zj_iload_n (j := 3) (i := 3) C rfl 0 rfl dX3_makeStep_47 ?_
      refine zj_iastore C F (zko_7_1 (zt_3_1 h_t0)) h_x1 h_y7 dX3_makeStep_48 (fun c10 => ?_)
      refine zj_pipeM (fun m11 e_m11 => ?_)
      refine zj_aload_n (j := 0) (i := 0) C rfl 1 rfl dX3_makeStep_49 ?_
      refine zj_getR C F h_t0 fl_X3_15 rfl rfl dX3_makeStep_50 ?_
      refine zj_dup C rfl dX3_makeStep_53 ?_
      refine zj_getI C F 7 rfl (zt_3_1 h_t0) fl_X3_112 rfl dX3_makeStep_54 (fun h12 => ?_)
      refine zj_iconst C 1 dX3_makeStep_57 ?_
      refine zj_iadd C dX3_makeStep_58 ?_
      refine zj_putI C F 7 rfl (zt_3_1 h_t0) fl_X3_112 rfl fp_7_7 (ir_w _) dX3_makeStep_59 ?_
      refine zj_pipeM (fun m13 e_m13 => ?_)
      exact zrt_v C Z dX3_makeStep_62
noncomputable def b_X3_sidesOpen_0 (rec : Nat → Int → Int → Int → zMem → Option (Int × zMem)) (r0 : Nat) (v1 : Int) (v2 : Int) (v3 : Int) (mem : zMem) : Option (Int × zMem) := if v3 ≥ 4 then (some (v2, mem)) else (zbind (f_X3_whyNotStep r0 v1 v3 mem) fun y2 m3 => if y2 = 0 then (pipe (zor v2 (zshl 1 v3)) fun y5 => rec r0 v1 y5 (w32 (v3 + 1)) m3) else (rec r0 v1 v2 (w32 (v3 + 1)) m3))
noncomputable def f_X3_sidesOpen_0 : Nat → Nat → Int → Int → Int → zMem → Option (Int × zMem) := zfuel (fun _ _ _ _ _ => none) (b_X3_sidesOpen_0)
set_option maxHeartbeats 4000000 in
theorem L_X3_sidesOpen_0 (l : Launch) {Γ : zG} (F : zFull Γ) {X : zM} {q : Int × zMem} (C : zC X Γ "ShadowHeirs$Island" cX3_sidesOpen 4) (Z : zRt X l Γ 3 1 (some .int) q) : ∀ n : Nat, ∀ (r0 : Nat) (v1 : Int) (v2 : Int) (v3 : Int) (h_r0 : zk r0 3) (h_v1 : ir v1) (h_v2 : ir v2) (h_v3 : ir v3) (mem : zMem), zJ X Γ 4 q (f_X3_sidesOpen_0 n r0 v1 v2 v3 mem) 4 [(0, .ref (zad Γ r0)), (1, .int (i32 v1)), (2, .int (i32 v2)), (3, .int (i32 v3))] [] mem := by
  intro n
  induction n with
  | zero => intros; exact zj_none
  | succ n ih =>
    intro r0 v1 v2 v3 h_r0 h_v1 h_v2 h_v3 mem
    show zJ X Γ 4 q (b_X3_sidesOpen_0 (f_X3_sidesOpen_0 n) r0 v1 v2 v3 mem) _ _ _ _
    unfold b_X3_sidesOpen_0
    refine zj_iload_n (j := 3) (i := 3) C rfl 3 rfl dX3_sidesOpen_4 ?_
    refine zj_iconst C 4 dX3_sidesOpen_5 ?_
    refine zj_icmp_ge C 30 h_v3 irc_4 dX3_sidesOpen_6 rfl (fun c1 => ?_) (fun c1 => ?_)
    · refine zj_iload_n (j := 2) (i := 2) C rfl 2 rfl dX3_sidesOpen_30 ?_
      exact zrt_i C Z h_v2 dX3_sidesOpen_31
    · refine zj_aload_n (j := 0) (i := 0) C rfl 0 rfl dX3_sidesOpen_9 ?_
      refine zj_iload_n (j := 1) (i := 1) C rfl 1 rfl dX3_sidesOpen_10 ?_
      refine zj_iload_n (j := 3) (i := 3) C rfl 3 rfl dX3_sidesOpen_11 ?_
      refine zj_callVi C F Z [.int (i32 v1), .int (i32 v3)] [] cal_X3_whyNotStep calv_X3_whyNotStep ml_X3_115 h_r0 rfl rfl (by decide) (Nat.le_of_ble_eq_true rfl) rfl dX3_sidesOpen_12 (fun q h => M_X3_whyNotStep l Γ F h_r0 h_v1 h_v3 mem q h) (fun y2 m3 h_y2 => ?_)
      refine zj_if_ne C 24 h_y2 dX3_sidesOpen_15 rfl (fun c4 => ?_) (fun c4 => ?_)
      · refine zj_iload_n (j := 2) (i := 2) C rfl 2 rfl dX3_sidesOpen_18 ?_
        refine zj_iconst C 1 dX3_sidesOpen_19 ?_
        refine zj_iload_n (j := 3) (i := 3) C rfl 3 rfl dX3_sidesOpen_20 ?_
        refine zj_ishl C dX3_sidesOpen_21 ?_
        refine zj_ior C dX3_sidesOpen_22 ?_
        refine zj_pipeI (fun y5 e_y5 => ?_)
        have h_y5 := ir_eq e_y5 (ir_toInt _)
        refine zj_istore_n (j := 2) (i := 2) C rfl [(2, .int (i32 y5)), (0, .ref (zad Γ r0)), (1, .int (i32 v1)), (3, .int (i32 v3))] dX3_sidesOpen_23 (by decide) rfl ?_
        refine zj_iinc C 3 [(3, .int (i32 (w32 (v3 + 1)))), (2, .int (i32 y5)), (0, .ref (zad Γ r0)), (1, .int (i32 v1))] rfl dX3_sidesOpen_24 (by decide) rfl ?_
        refine zj_goto (tgt := 4) C dX3_sidesOpen_27 rfl ?_
        exact zj_sub [2, 3, 1, 0] rfl (ih r0 v1 y5 (w32 (v3 + 1)) h_r0 h_v1 h_y5 (ir_w _) m3)
      · refine zj_iinc C 3 [(3, .int (i32 (w32 (v3 + 1)))), (0, .ref (zad Γ r0)), (1, .int (i32 v1)), (2, .int (i32 v2))] rfl dX3_sidesOpen_24 (by decide) rfl ?_
        refine zj_goto (tgt := 4) C dX3_sidesOpen_27 rfl ?_
        exact zj_sub [1, 2, 3, 0] rfl (ih r0 v1 v2 (w32 (v3 + 1)) h_r0 h_v1 h_v2 (ir_w _) m3)
noncomputable def f_X3_sidesOpen (t0 : Nat) (x1 : Int) (mem : zMem) : Option (Int × zMem) := f_X3_sidesOpen_0 zN t0 x1 0 0 mem
set_option maxHeartbeats 4000000 in
theorem M_X3_sidesOpen (l : Launch) (Γ : zG) (F : zFull Γ)  {t0 : Nat} {x1 : Int} (h_t0 : zk t0 3) (h_x1 : ir x1) (mem : zMem) (q : Int × zMem) (h : f_X3_sidesOpen t0 x1 mem = some q) : zMet l yX3_sidesOpen cX3_sidesOpen 4 (some .int) 3 Γ 1 [.ref (zad Γ t0), .int (i32 x1)] mem q := by
  refine zMet_of (own := "ShadowHeirs$Island") (by decide) rfl (Nat.le_of_ble_eq_true rfl) (fun X C Z => ?_)
  revert h
  show zJ X Γ 4 q (f_X3_sidesOpen t0 x1 mem) 0 [(0, .ref (zad Γ t0)), (1, .int (i32 x1))] [] mem
  unfold f_X3_sidesOpen
  refine zj_iconst C 0 dX3_sidesOpen_0 ?_
  refine zj_istore_n (j := 2) (i := 2) C rfl [(2, .int (i32 0)), (0, .ref (zad Γ t0)), (1, .int (i32 x1))] dX3_sidesOpen_1 (by decide) rfl ?_
  refine zj_iconst C 0 dX3_sidesOpen_2 ?_
  refine zj_istore_n (j := 3) (i := 3) C rfl [(3, .int (i32 0)), (2, .int (i32 0)), (0, .ref (zad Γ t0)), (1, .int (i32 x1))] dX3_sidesOpen_3 (by decide) rfl ?_
  exact zj_sub [2, 3, 1, 0] rfl ((L_X3_sidesOpen_0 l F C Z zN) t0 x1 0 0 h_t0 h_x1 irc_0 irc_0 mem)
noncomputable def f_X3_whyNotLay (t0 : Nat) (x1 : Int) (mem : zMem) : Option (Int × zMem) := zbind (f_X5_houseOn (sRf t0 0) x1 mem) fun y1 m2 => if y1 = (-1) then (zbind (f_X3_personsOn t0 x1 m2) fun y4 m5 => if y4 = 0 then (zbind (f_X3_heightAt t0 x1 m5) fun y7 m8 => if y7 < 9 then (some (0, m8)) else (some (3, m8))) else (some (2, m5))) else (some (1, m2))
set_option maxHeartbeats 4000000 in
theorem M_X3_whyNotLay (l : Launch) (Γ : zG) (F : zFull Γ)  {t0 : Nat} {x1 : Int} (h_t0 : zk t0 3) (h_x1 : ir x1) (mem : zMem) (q : Int × zMem) (h : f_X3_whyNotLay t0 x1 mem = some q) : zMet l yX3_whyNotLay cX3_whyNotLay 2 (some .int) 2 Γ 1 [.ref (zad Γ t0), .int (i32 x1)] mem q := by
  refine zMet_of (own := "ShadowHeirs$Island") (by decide) rfl (Nat.le_of_ble_eq_true rfl) (fun X C Z => ?_)
  revert h
  show zJ X Γ 2 q (f_X3_whyNotLay t0 x1 mem) 0 [(0, .ref (zad Γ t0)), (1, .int (i32 x1))] [] mem
  unfold f_X3_whyNotLay
  refine zj_aload_n (j := 0) (i := 0) C rfl 0 rfl dX3_whyNotLay_0 ?_
  refine zj_getR C F h_t0 fl_X3_9 rfl rfl dX3_whyNotLay_1 ?_
  refine zj_iload_n (j := 1) (i := 1) C rfl 1 rfl dX3_whyNotLay_4 ?_
  refine zj_callVi C F Z [.int (i32 x1)] [] cal_X5_houseOn calv_X5_houseOn ml_X3_118 (zt_3_0 h_t0) rfl rfl (by decide) (Nat.le_of_ble_eq_true rfl) rfl dX3_whyNotLay_5 (fun q h => M_X5_houseOn l Γ F (zt_3_0 h_t0) h_x1 mem q h) (fun y1 m2 h_y1 => ?_)
  refine zj_iconst C (-1) dX3_whyNotLay_8 ?_
  refine zj_icmp_eq C 14 h_y1 irc_m1 dX3_whyNotLay_9 rfl (fun c3 => ?_) (fun c3 => ?_)
  · refine zj_aload_n (j := 0) (i := 0) C rfl 0 rfl dX3_whyNotLay_14 ?_
    refine zj_iload_n (j := 1) (i := 1) C rfl 1 rfl dX3_whyNotLay_15 ?_
    refine zj_callVi C F Z [.int (i32 x1)] [] cal_X3_personsOn calv_X3_personsOn ml_X3_121 h_t0 rfl rfl (by decide) (Nat.le_of_ble_eq_true rfl) rfl dX3_whyNotLay_16 (fun q h => M_X3_personsOn l Γ F h_t0 h_x1 m2 q h) (fun y4 m5 h_y4 => ?_)
    refine zj_if_eq C 24 h_y4 dX3_whyNotLay_19 rfl (fun c6 => ?_) (fun c6 => ?_)
    · refine zj_aload_n (j := 0) (i := 0) C rfl 0 rfl dX3_whyNotLay_24 ?_
      refine zj_iload_n (j := 1) (i := 1) C rfl 1 rfl dX3_whyNotLay_25 ?_
      refine zj_callVi C F Z [.int (i32 x1)] [] cal_X3_heightAt calv_X3_heightAt ml_X3_79 h_t0 rfl rfl (by decide) (Nat.le_of_ble_eq_true rfl) rfl dX3_whyNotLay_26 (fun q h => M_X3_heightAt l Γ F h_t0 h_x1 m5 q h) (fun y7 m8 h_y7 => ?_)
      refine zj_bipush C 9 rfl dX3_whyNotLay_29 ?_
      refine zj_icmp_lt C 38 h_y7 irc_9 dX3_whyNotLay_31 rfl (fun c9 => ?_) (fun c9 => ?_)
      · refine zj_iconst C 0 dX3_whyNotLay_38 ?_
        exact zrt_i C Z irc_0 dX3_whyNotLay_39
      · refine zj_iconst C 3 dX3_whyNotLay_34 ?_
        refine zj_goto (tgt := 39) C dX3_whyNotLay_35 rfl ?_
        exact zrt_i C Z irc_3 dX3_whyNotLay_39
    · refine zj_iconst C 2 dX3_whyNotLay_22 ?_
      exact zrt_i C Z irc_2 dX3_whyNotLay_23
  · refine zj_iconst C 1 dX3_whyNotLay_12 ?_
    exact zrt_i C Z irc_1 dX3_whyNotLay_13
noncomputable def f_X3_whyNotBury (t0 : Nat) (x1 : Int) (mem : zMem) : Option (Int × zMem) := zbind (f_X7_isBuried (sRf t0 1) x1 mem) fun y1 m2 => if y1 = 0 then (some (0, m2)) else (some (1, m2))
set_option maxHeartbeats 4000000 in
theorem M_X3_whyNotBury (l : Launch) (Γ : zG) (F : zFull Γ)  {t0 : Nat} {x1 : Int} (h_t0 : zk t0 3) (h_x1 : ir x1) (mem : zMem) (q : Int × zMem) (h : f_X3_whyNotBury t0 x1 mem = some q) : zMet l yX3_whyNotBury cX3_whyNotBury 2 (some .int) 2 Γ 1 [.ref (zad Γ t0), .int (i32 x1)] mem q := by
  refine zMet_of (own := "ShadowHeirs$Island") (by decide) rfl (Nat.le_of_ble_eq_true rfl) (fun X C Z => ?_)
  revert h
  show zJ X Γ 2 q (f_X3_whyNotBury t0 x1 mem) 0 [(0, .ref (zad Γ t0)), (1, .int (i32 x1))] [] mem
  unfold f_X3_whyNotBury
  refine zj_aload_n (j := 0) (i := 0) C rfl 0 rfl dX3_whyNotBury_0 ?_
  refine zj_getR C F h_t0 fl_X3_15 rfl rfl dX3_whyNotBury_1 ?_
  refine zj_iload_n (j := 1) (i := 1) C rfl 1 rfl dX3_whyNotBury_4 ?_
  refine zj_callVi C F Z [.int (i32 x1)] [] cal_X7_isBuried calv_X7_isBuried ml_X3_127 (zt_3_1 h_t0) rfl rfl (by decide) (Nat.le_of_ble_eq_true rfl) rfl dX3_whyNotBury_5 (fun q h => M_X7_isBuried l Γ F (zt_3_1 h_t0) h_x1 mem q h) (fun y1 m2 h_y1 => ?_)
  refine zj_if_eq C 15 h_y1 dX3_whyNotBury_8 rfl (fun c3 => ?_) (fun c3 => ?_)
  · refine zj_iconst C 0 dX3_whyNotBury_15 ?_
    exact zrt_i C Z irc_0 dX3_whyNotBury_16
  · refine zj_iconst C 1 dX3_whyNotBury_11 ?_
    refine zj_goto (tgt := 16) C dX3_whyNotBury_12 rfl ?_
    exact zrt_i C Z irc_1 dX3_whyNotBury_16
noncomputable def b_X3_buryHouse_0 (rec : Nat → Int → Int → Int → Int → Int → zMem → Option (Int × zMem)) (r0 : Nat) (v1 : Int) (v2 : Int) (v3 : Int) (v4 : Int) (v5 : Int) (mem : zMem) : Option (Int × zMem) := if v5 ≥ 6 then (if ix ((sRf r0 1) + 4) v1 then pipe (zup mem (sRf r0 1) 6 (w32 ((mem (sRf r0 1) 6) + (w32 ((mem ((sRf r0 1) + 4) v1) - (w32 (v4 * v3))))))) fun m5 => if ix ((sRf r0 1) + 4) v1 then pipe (zup m5 ((sRf r0 1) + 4) v1 0) fun m7 => pipe (zup m7 (sRf r0 1) 4 (zor (m7 (sRf r0 1) 4) (zshl 1 v1))) fun m9 => some (0, m9) else none else none) else (if (zand (zshr v2 v5) 1) = 1 then (if ix ((sRf r0 1) + 3) v5 then if ix ((sRf r0 1) + 3) v5 then pipe (zup mem ((sRf r0 1) + 3) v5 (w32 ((mem ((sRf r0 1) + 3) v5) + v4))) fun m14 => rec r0 v1 v2 v3 v4 (w32 (v5 + 1)) m14 else none else none) else (rec r0 v1 v2 v3 v4 (w32 (v5 + 1)) mem))
noncomputable def f_X3_buryHouse_0 : Nat → Nat → Int → Int → Int → Int → Int → zMem → Option (Int × zMem) := zfuel (fun _ _ _ _ _ _ _ => none) (b_X3_buryHouse_0)
set_option maxHeartbeats 4000000 in
theorem L_X3_buryHouse_0 (l : Launch) {Γ : zG} (F : zFull Γ) {X : zM} {q : Int × zMem} (C : zC X Γ "ShadowHeirs$Island" cX3_buryHouse 6) (Z : zRt X l Γ 4 0 none q) : ∀ n : Nat, ∀ (r0 : Nat) (v1 : Int) (v2 : Int) (v3 : Int) (v4 : Int) (v5 : Int) (h_r0 : zk r0 3) (h_v1 : ir v1) (h_v2 : ir v2) (h_v3 : ir v3) (h_v4 : ir v4) (h_v5 : ir v5) (mem : zMem), zJ X Γ 6 q (f_X3_buryHouse_0 n r0 v1 v2 v3 v4 v5 mem) 51 [(0, .ref (zad Γ r0)), (1, .int (i32 v1)), (2, .int (i32 v2)), (3, .int (i32 v3)), (4, .int (i32 v4)), (5, .int (i32 v5))] [] mem := by
  intro n
  induction n with
  | zero => intros; exact zj_none
  | succ n ih =>
    intro r0 v1 v2 v3 v4 v5 h_r0 h_v1 h_v2 h_v3 h_v4 h_v5 mem
    show zJ X Γ 6 q (b_X3_buryHouse_0 (f_X3_buryHouse_0 n) r0 v1 v2 v3 v4 v5 mem) _ _ _ _
    unfold b_X3_buryHouse_0
    refine zj_iload C 5 rfl dX3_buryHouse_51 ?_
    refine zj_bipush C 6 rfl dX3_buryHouse_53 ?_
    refine zj_icmp_ge C 89 h_v5 irc_6 dX3_buryHouse_55 rfl (fun c1 => ?_) (fun c1 => ?_)
    · refine zj_aload_n (j := 0) (i := 0) C rfl 0 rfl dX3_buryHouse_89 ?_
      refine zj_getR C F h_r0 fl_X3_15 rfl rfl dX3_buryHouse_90 ?_
      refine zj_dup C rfl dX3_buryHouse_93 ?_
      refine zj_getI C F 6 rfl (zt_3_1 h_r0) fl_X3_139 rfl dX3_buryHouse_94 (fun h2 => ?_)
      refine zj_aload_n (j := 0) (i := 0) C rfl 0 rfl dX3_buryHouse_97 ?_
      refine zj_getR C F h_r0 fl_X3_15 rfl rfl dX3_buryHouse_98 ?_
      refine zj_getR C F (zt_3_1 h_r0) fl_X3_133 rfl (rfo_7_3 (zt_3_1 h_r0)) dX3_buryHouse_101 ?_
      refine zj_iload_n (j := 1) (i := 1) C rfl 1 rfl dX3_buryHouse_104 ?_
      refine zj_iaload C F (zko_7_3 (zt_3_1 h_r0)) h_v1 dX3_buryHouse_105 (fun c3 h4 => ?_)
      refine zj_iload C 4 rfl dX3_buryHouse_106 ?_
      refine zj_iload_n (j := 3) (i := 3) C rfl 3 rfl dX3_buryHouse_108 ?_
      refine zj_imul C dX3_buryHouse_109 ?_
      refine zj_isub C dX3_buryHouse_110 ?_
      refine zj_iadd C dX3_buryHouse_111 ?_
      refine zj_putI C F 6 rfl (zt_3_1 h_r0) fl_X3_139 rfl fp_7_6 (ir_w _) dX3_buryHouse_112 ?_
      refine zj_pipeM (fun m5 e_m5 => ?_)
      refine zj_aload_n (j := 0) (i := 0) C rfl 0 rfl dX3_buryHouse_115 ?_
      refine zj_getR C F h_r0 fl_X3_15 rfl rfl dX3_buryHouse_116 ?_
      refine zj_getR C F (zt_3_1 h_r0) fl_X3_133 rfl (rfo_7_3 (zt_3_1 h_r0)) dX3_buryHouse_119 ?_
      refine zj_iload_n (j := 1) (i := 1) C rfl 1 rfl dX3_buryHouse_122 ?_
      refine zj_iconst C 0 dX3_buryHouse_123 ?_
      refine zj_iastore C F (zko_7_3 (zt_3_1 h_r0)) h_v1 irc_0 dX3_buryHouse_124 (fun c6 => ?_)
      refine zj_pipeM (fun m7 e_m7 => ?_)
      refine zj_aload_n (j := 0) (i := 0) C rfl 0 rfl dX3_buryHouse_125 ?_
      refine zj_getR C F h_r0 fl_X3_15 rfl rfl dX3_buryHouse_126 ?_
      refine zj_dup C rfl dX3_buryHouse_129 ?_
      refine zj_getI C F 4 rfl (zt_3_1 h_r0) fl_X3_142 rfl dX3_buryHouse_130 (fun h8 => ?_)
      refine zj_iconst C 1 dX3_buryHouse_133 ?_
      refine zj_iload_n (j := 1) (i := 1) C rfl 1 rfl dX3_buryHouse_134 ?_
      refine zj_ishl C dX3_buryHouse_135 ?_
      refine zj_ior C dX3_buryHouse_136 ?_
      refine zj_putI C F 4 rfl (zt_3_1 h_r0) fl_X3_142 rfl fp_7_4 (ir_toInt _) dX3_buryHouse_137 ?_
      refine zj_pipeM (fun m9 e_m9 => ?_)
      exact zrt_v C Z dX3_buryHouse_140
    · refine zj_iload_n (j := 2) (i := 2) C rfl 2 rfl dX3_buryHouse_58 ?_
      refine zj_iload C 5 rfl dX3_buryHouse_59 ?_
      refine zj_ishr C dX3_buryHouse_61 ?_
      refine zj_iconst C 1 dX3_buryHouse_62 ?_
      refine zj_iand C dX3_buryHouse_63 ?_
      refine zj_iconst C 1 dX3_buryHouse_64 ?_
      refine zj_icmp_ne C 83 (ir_toInt _) irc_1 dX3_buryHouse_65 rfl (fun c10 => ?_) (fun c10 => ?_)
      · refine zj_aload_n (j := 0) (i := 0) C rfl 0 rfl dX3_buryHouse_68 ?_
        refine zj_getR C F h_r0 fl_X3_15 rfl rfl dX3_buryHouse_69 ?_
        refine zj_getR C F (zt_3_1 h_r0) fl_X3_136 rfl (rfo_7_2 (zt_3_1 h_r0)) dX3_buryHouse_72 ?_
        refine zj_iload C 5 rfl dX3_buryHouse_75 ?_
        refine zj_dup2 C rfl rfl dX3_buryHouse_77 ?_
        refine zj_iaload C F (zko_7_2 (zt_3_1 h_r0)) h_v5 dX3_buryHouse_78 (fun c11 h12 => ?_)
        refine zj_iload C 4 rfl dX3_buryHouse_79 ?_
        refine zj_iadd C dX3_buryHouse_81 ?_
        refine zj_iastore C F (zko_7_2 (zt_3_1 h_r0)) h_v5 (ir_w _) dX3_buryHouse_82 (fun c13 => ?_)
        refine zj_pipeM (fun m14 e_m14 => ?_)
        refine zj_iinc C 5 [(5, .int (i32 (w32 (v5 + 1)))), (0, .ref (zad Γ r0)), (1, .int (i32 v1)), (2, .int (i32 v2)), (3, .int (i32 v3)), (4, .int (i32 v4))] rfl dX3_buryHouse_83 (by decide) rfl ?_
        refine zj_goto (tgt := 51) C dX3_buryHouse_86 rfl ?_
        exact zj_sub [1, 2, 3, 4, 5, 0] rfl (ih r0 v1 v2 v3 v4 (w32 (v5 + 1)) h_r0 h_v1 h_v2 h_v3 h_v4 (ir_w _) m14)
      · refine zj_iinc C 5 [(5, .int (i32 (w32 (v5 + 1)))), (0, .ref (zad Γ r0)), (1, .int (i32 v1)), (2, .int (i32 v2)), (3, .int (i32 v3)), (4, .int (i32 v4))] rfl dX3_buryHouse_83 (by decide) rfl ?_
        refine zj_goto (tgt := 51) C dX3_buryHouse_86 rfl ?_
        exact zj_sub [1, 2, 3, 4, 5, 0] rfl (ih r0 v1 v2 v3 v4 (w32 (v5 + 1)) h_r0 h_v1 h_v2 h_v3 h_v4 (ir_w _) mem)
noncomputable def f_X3_buryHouse (t0 : Nat) (x1 : Int) (mem : zMem) : Option (Int × zMem) := zbind (f_X5_hasHouse (sRf t0 0) x1 mem) fun y1 m2 => if y1 = 0 then (some (0, m2)) else (zbind (f_X3_tableHour t0 m2) fun y4 m5 => zbind (f_X3_personsTouched t0 x1 y4 m5) fun y6 m7 => zbind (f_J6_bitCount_0f7a4 y6 m7) fun y8 m9 => if y8 ≤ 0 then (f_X3_buryHouse_0 zN t0 x1 y6 y8 0 0 m9) else (if ix ((sRf t0 1) + 4) x1 then if y8 = 0 then none else pipe (zdiv (m9 ((sRf t0 1) + 4) x1) y8) fun y14 => f_X3_buryHouse_0 zN t0 x1 y6 y8 y14 0 m9 else none))
set_option maxHeartbeats 4000000 in
theorem M_X3_buryHouse (l : Launch) (Γ : zG) (F : zFull Γ)  {t0 : Nat} {x1 : Int} (h_t0 : zk t0 3) (h_x1 : ir x1) (mem : zMem) (q : Int × zMem) (h : f_X3_buryHouse t0 x1 mem = some q) : zMet l yX3_buryHouse cX3_buryHouse 6 none 4 Γ 0 [.ref (zad Γ t0), .int (i32 x1)] mem q := by
  refine zMet_of (own := "ShadowHeirs$Island") (by decide) rfl (Nat.le_of_ble_eq_true rfl) (fun X C Z => ?_)
  revert h
  show zJ X Γ 6 q (f_X3_buryHouse t0 x1 mem) 0 [(0, .ref (zad Γ t0)), (1, .int (i32 x1))] [] mem
  unfold f_X3_buryHouse
  refine zj_aload_n (j := 0) (i := 0) C rfl 0 rfl dX3_buryHouse_0 ?_
  refine zj_getR C F h_t0 fl_X3_9 rfl rfl dX3_buryHouse_1 ?_
  refine zj_iload_n (j := 1) (i := 1) C rfl 1 rfl dX3_buryHouse_4 ?_
  refine zj_callVi C F Z [.int (i32 x1)] [] cal_X5_hasHouse calv_X5_hasHouse ml_X3_130 (zt_3_0 h_t0) rfl rfl (by decide) (Nat.le_of_ble_eq_true rfl) rfl dX3_buryHouse_5 (fun q h => M_X5_hasHouse l Γ F (zt_3_0 h_t0) h_x1 mem q h) (fun y1 m2 h_y1 => ?_)
  refine zj_if_ne C 12 h_y1 dX3_buryHouse_8 rfl (fun c3 => ?_) (fun c3 => ?_)
  · exact zrt_v C Z dX3_buryHouse_11
  · refine zj_aload_n (j := 0) (i := 0) C rfl 0 rfl dX3_buryHouse_12 ?_
    refine zj_iload_n (j := 1) (i := 1) C rfl 1 rfl dX3_buryHouse_13 ?_
    refine zj_aload_n (j := 0) (i := 0) C rfl 0 rfl dX3_buryHouse_14 ?_
    refine zj_callVi C F Z [] [.int (i32 x1), .ref (zad Γ t0)] cal_X3_tableHour calv_X3_tableHour ml_X3_90 h_t0 rfl rfl (by decide) (Nat.le_of_ble_eq_true rfl) rfl dX3_buryHouse_15 (fun q h => M_X3_tableHour l Γ F h_t0 m2 q h) (fun y4 m5 h_y4 => ?_)
    refine zj_callVi C F Z [.int (i32 x1), .int (i32 y4)] [] cal_X3_personsTouched calv_X3_personsTouched ml_X3_94 h_t0 rfl rfl (by decide) (Nat.le_of_ble_eq_true rfl) rfl dX3_buryHouse_18 (fun q h => M_X3_personsTouched l Γ F h_t0 h_x1 h_y4 m5 q h) (fun y6 m7 h_y6 => ?_)
    refine zj_istore_n (j := 2) (i := 2) C rfl [(2, .int (i32 y6)), (0, .ref (zad Γ t0)), (1, .int (i32 x1))] dX3_buryHouse_21 (by decide) rfl ?_
    refine zj_iload_n (j := 2) (i := 2) C rfl 0 rfl dX3_buryHouse_22 ?_
    refine zj_callSi C Z [.int (i32 y6)] [] cal_J6_bitCount_0f7a4 sta_J6_bitCount_0f7a4 ml_X3_97 rfl (by decide) (Nat.le_of_ble_eq_true rfl) rfl dX3_buryHouse_23 (fun q h => M_J6_bitCount_0f7a4 l Γ F h_y6 m7 q h) (fun y8 m9 h_y8 => ?_)
    refine zj_istore_n (j := 3) (i := 3) C rfl [(3, .int (i32 y8)), (2, .int (i32 y6)), (0, .ref (zad Γ t0)), (1, .int (i32 x1))] dX3_buryHouse_26 (by decide) rfl ?_
    refine zj_iload_n (j := 3) (i := 3) C rfl 0 rfl dX3_buryHouse_27 ?_
    refine zj_if_le C 45 h_y8 dX3_buryHouse_28 rfl (fun c10 => ?_) (fun c10 => ?_)
    · refine zj_iconst C 0 dX3_buryHouse_45 ?_
      refine zj_istore C [(4, .int (i32 0)), (3, .int (i32 y8)), (2, .int (i32 y6)), (0, .ref (zad Γ t0)), (1, .int (i32 x1))] dX3_buryHouse_46 (by decide) rfl ?_
      refine zj_iconst C 0 dX3_buryHouse_48 ?_
      refine zj_istore C [(5, .int (i32 0)), (4, .int (i32 0)), (3, .int (i32 y8)), (2, .int (i32 y6)), (0, .ref (zad Γ t0)), (1, .int (i32 x1))] dX3_buryHouse_49 (by decide) rfl ?_
      exact zj_sub [4, 5, 3, 2, 1, 0] rfl ((L_X3_buryHouse_0 l F C Z zN) t0 x1 y6 y8 0 0 h_t0 h_x1 h_y6 h_y8 irc_0 irc_0 m9)
    · refine zj_aload_n (j := 0) (i := 0) C rfl 2 rfl dX3_buryHouse_31 ?_
      refine zj_getR C F h_t0 fl_X3_15 rfl rfl dX3_buryHouse_32 ?_
      refine zj_getR C F (zt_3_1 h_t0) fl_X3_133 rfl (rfo_7_3 (zt_3_1 h_t0)) dX3_buryHouse_35 ?_
      refine zj_iload_n (j := 1) (i := 1) C rfl 3 rfl dX3_buryHouse_38 ?_
      refine zj_iaload C F (zko_7_3 (zt_3_1 h_t0)) h_x1 dX3_buryHouse_39 (fun c11 h12 => ?_)
      refine zj_iload_n (j := 3) (i := 3) C rfl 0 rfl dX3_buryHouse_40 ?_
      refine zj_idiv C h_y8 dX3_buryHouse_41 (fun c13 => ?_)
      refine zj_goto (tgt := 46) C dX3_buryHouse_42 rfl ?_
      refine zj_pipeI (fun y14 e_y14 => ?_)
      have h_y14 := ir_eq e_y14 (ir_toInt _)
      refine zj_istore C [(4, .int (i32 y14)), (3, .int (i32 y8)), (2, .int (i32 y6)), (0, .ref (zad Γ t0)), (1, .int (i32 x1))] dX3_buryHouse_46 (by decide) rfl ?_
      refine zj_iconst C 0 dX3_buryHouse_48 ?_
      refine zj_istore C [(5, .int (i32 0)), (4, .int (i32 y14)), (3, .int (i32 y8)), (2, .int (i32 y6)), (0, .ref (zad Γ t0)), (1, .int (i32 x1))] dX3_buryHouse_49 (by decide) rfl ?_
      exact zj_sub [4, 5, 3, 2, 1, 0] rfl ((L_X3_buryHouse_0 l F C Z zN) t0 x1 y6 y8 y14 0 h_t0 h_x1 h_y6 h_y8 h_y14 irc_0 m9)
noncomputable def f_X6_step_j189 (v1 : Int) (mem : zMem) : Option (Int × zMem) := pipe (zup mem 1 4 (w32 ((mem 1 4) + 1))) fun m2 => pipe (zup m2 1 7 v1) fun m3 => if v1 = 59 then (pipe (zup m3 1 6 3) fun m5 => some (0, m5)) else (if v1 = 60 then (pipe (zup m3 1 6 3) fun m7 => some (0, m7)) else (if v1 = 61 then (pipe (zup m3 1 6 3) fun m9 => some (0, m9)) else (if v1 = 62 then (pipe (zup m3 1 6 3) fun m11 => some (0, m11)) else (if v1 = 40 then (pipe (zup m3 1 6 3) fun m13 => some (0, m13)) else (if v1 = 41 then (pipe (zup m3 1 6 3) fun m15 => some (0, m15)) else (pipe (zup m3 1 6 4) fun m16 => some (0, m16)))))))
set_option maxHeartbeats 4000000 in
theorem J_X6_step_j189 (l : Launch) {Γ : zG} (F : zFull Γ) {X : zM} {q : Int × zMem} (C : zC X Γ "ShadowHeirs$Reader" cX6_step 2) (Z : zRt X l Γ 2 0 none q) {v1 : Int} (h_v1 : ir v1) (mem : zMem) : zJ X Γ 2 q (f_X6_step_j189 v1 mem) 189 [(0, .ref (zad Γ 1)), (1, .int (i32 v1))] [] mem := by
  unfold f_X6_step_j189
  refine zj_aload_n (j := 0) (i := 0) C rfl 0 rfl dX6_step_189 ?_
  refine zj_dup C rfl dX6_step_190 ?_
  refine zj_getI C F 4 rfl zk_1 fl_X6_26 rfl dX6_step_191 (fun h1 => ?_)
  refine zj_iconst C 1 dX6_step_194 ?_
  refine zj_iadd C dX6_step_195 ?_
  refine zj_putI C F 4 rfl zk_1 fl_X6_26 rfl fp_6_4 (ir_w _) dX6_step_196 ?_
  refine zj_pipeM (fun m2 e_m2 => ?_)
  refine zj_aload_n (j := 0) (i := 0) C rfl 0 rfl dX6_step_199 ?_
  refine zj_iload_n (j := 1) (i := 1) C rfl 1 rfl dX6_step_200 ?_
  refine zj_i2l C h_v1 dX6_step_201 ?_
  refine zj_putL C F 7 rfl zk_1 fl_X6_35 rfl fp_6_7 (ir_lr h_v1) dX6_step_202 ?_
  refine zj_pipeM (fun m3 e_m3 => ?_)
  refine zj_aload_n (j := 0) (i := 0) C rfl 0 rfl dX6_step_205 ?_
  refine zj_iload_n (j := 1) (i := 1) C rfl 1 rfl dX6_step_206 ?_
  refine zj_bipush C 59 rfl dX6_step_207 ?_
  refine zj_icmp_eq C 242 h_v1 irc_59 dX6_step_209 rfl (fun c4 => ?_) (fun c4 => ?_)
  · refine zj_iconst C 3 dX6_step_242 ?_
    refine zj_goto (tgt := 247) C dX6_step_243 rfl ?_
    refine zj_putI C F 6 rfl zk_1 fl_X6_32 rfl fp_6_6 irc_3 dX6_step_247 ?_
    refine zj_pipeM (fun m5 e_m5 => ?_)
    exact zrt_v C Z dX6_step_250
  · refine zj_iload_n (j := 1) (i := 1) C rfl 1 rfl dX6_step_212 ?_
    refine zj_bipush C 60 rfl dX6_step_213 ?_
    refine zj_icmp_eq C 242 h_v1 irc_60 dX6_step_215 rfl (fun c6 => ?_) (fun c6 => ?_)
    · refine zj_iconst C 3 dX6_step_242 ?_
      refine zj_goto (tgt := 247) C dX6_step_243 rfl ?_
      refine zj_putI C F 6 rfl zk_1 fl_X6_32 rfl fp_6_6 irc_3 dX6_step_247 ?_
      refine zj_pipeM (fun m7 e_m7 => ?_)
      exact zrt_v C Z dX6_step_250
    · refine zj_iload_n (j := 1) (i := 1) C rfl 1 rfl dX6_step_218 ?_
      refine zj_bipush C 61 rfl dX6_step_219 ?_
      refine zj_icmp_eq C 242 h_v1 irc_61 dX6_step_221 rfl (fun c8 => ?_) (fun c8 => ?_)
      · refine zj_iconst C 3 dX6_step_242 ?_
        refine zj_goto (tgt := 247) C dX6_step_243 rfl ?_
        refine zj_putI C F 6 rfl zk_1 fl_X6_32 rfl fp_6_6 irc_3 dX6_step_247 ?_
        refine zj_pipeM (fun m9 e_m9 => ?_)
        exact zrt_v C Z dX6_step_250
      · refine zj_iload_n (j := 1) (i := 1) C rfl 1 rfl dX6_step_224 ?_
        refine zj_bipush C 62 rfl dX6_step_225 ?_
        refine zj_icmp_eq C 242 h_v1 irc_62 dX6_step_227 rfl (fun c10 => ?_) (fun c10 => ?_)
        · refine zj_iconst C 3 dX6_step_242 ?_
          refine zj_goto (tgt := 247) C dX6_step_243 rfl ?_
          refine zj_putI C F 6 rfl zk_1 fl_X6_32 rfl fp_6_6 irc_3 dX6_step_247 ?_
          refine zj_pipeM (fun m11 e_m11 => ?_)
          exact zrt_v C Z dX6_step_250
        · refine zj_iload_n (j := 1) (i := 1) C rfl 1 rfl dX6_step_230 ?_
          refine zj_bipush C 40 rfl dX6_step_231 ?_
          refine zj_icmp_eq C 242 h_v1 irc_40 dX6_step_233 rfl (fun c12 => ?_) (fun c12 => ?_)
          · refine zj_iconst C 3 dX6_step_242 ?_
            refine zj_goto (tgt := 247) C dX6_step_243 rfl ?_
            refine zj_putI C F 6 rfl zk_1 fl_X6_32 rfl fp_6_6 irc_3 dX6_step_247 ?_
            refine zj_pipeM (fun m13 e_m13 => ?_)
            exact zrt_v C Z dX6_step_250
          · refine zj_iload_n (j := 1) (i := 1) C rfl 1 rfl dX6_step_236 ?_
            refine zj_bipush C 41 rfl dX6_step_237 ?_
            refine zj_icmp_ne C 246 h_v1 irc_41 dX6_step_239 rfl (fun c14 => ?_) (fun c14 => ?_)
            · refine zj_iconst C 3 dX6_step_242 ?_
              refine zj_goto (tgt := 247) C dX6_step_243 rfl ?_
              refine zj_putI C F 6 rfl zk_1 fl_X6_32 rfl fp_6_6 irc_3 dX6_step_247 ?_
              refine zj_pipeM (fun m15 e_m15 => ?_)
              exact zrt_v C Z dX6_step_250
            · refine zj_iconst C 4 dX6_step_246 ?_
              refine zj_putI C F 6 rfl zk_1 fl_X6_32 rfl fp_6_6 irc_4 dX6_step_247 ?_
              refine zj_pipeM (fun m16 e_m16 => ?_)
              exact zrt_v C Z dX6_step_250
noncomputable def f_X6_step_j121  (mem : zMem) : Option (Int × zMem) := if (mem 1 4) ≥ (mem 1 2) then (pipe (zup mem 1 6 0) fun m4 => some (0, m4)) else (if (mem 1 4) < 940 then (if ix 2 (mem 1 4) then pipe (mem 2 (mem 1 4)) fun y10 => if y10 < 97 then (if y10 < 48 then (f_X6_step_j189 y10 mem) else (if y10 > 57 then (f_X6_step_j189 y10 mem) else (zbind (f_X6_readRun mem) fun _ m14 => some (0, m14)))) else (if y10 ≤ 122 then (zbind (f_X6_readRun mem) fun _ m16 => some (0, m16)) else (if y10 < 48 then (f_X6_step_j189 y10 mem) else (if y10 > 57 then (f_X6_step_j189 y10 mem) else (zbind (f_X6_readRun mem) fun _ m19 => some (0, m19))))) else none) else (pipe (zup mem 1 6 0) fun m20 => some (0, m20)))
set_option maxHeartbeats 4000000 in
theorem J_X6_step_j121 (l : Launch) {Γ : zG} (F : zFull Γ) {X : zM} {q : Int × zMem} (C : zC X Γ "ShadowHeirs$Reader" cX6_step 2) (Z : zRt X l Γ 2 0 none q)   (mem : zMem) : zJ X Γ 2 q (f_X6_step_j121  mem) 121 [(0, .ref (zad Γ 1))] [] mem := by
  unfold f_X6_step_j121
  refine zj_aload_n (j := 0) (i := 0) C rfl 0 rfl dX6_step_121 ?_
  refine zj_getI C F 4 rfl zk_1 fl_X6_26 rfl dX6_step_122 (fun h1 => ?_)
  refine zj_aload_n (j := 0) (i := 0) C rfl 0 rfl dX6_step_125 ?_
  refine zj_getI C F 2 rfl zk_1 fl_X6_19 rfl dX6_step_126 (fun h2 => ?_)
  refine zj_icmp_ge C 144 h1 h2 dX6_step_129 rfl (fun c3 => ?_) (fun c3 => ?_)
  · refine zj_aload_n (j := 0) (i := 0) C rfl 0 rfl dX6_step_144 ?_
    refine zj_iconst C 0 dX6_step_145 ?_
    refine zj_putI C F 6 rfl zk_1 fl_X6_32 rfl fp_6_6 irc_0 dX6_step_146 ?_
    refine zj_pipeM (fun m4 e_m4 => ?_)
    exact zrt_v C Z dX6_step_149
  · refine zj_aload_n (j := 0) (i := 0) C rfl 0 rfl dX6_step_132 ?_
    refine zj_getI C F 4 rfl zk_1 fl_X6_26 rfl dX6_step_133 (fun h5 => ?_)
    refine zj_aload_n (j := 0) (i := 0) C rfl 0 rfl dX6_step_136 ?_
    refine zj_getR C F zk_1 fl_X6_11 rfl rf_1_0 dX6_step_137 ?_
    refine zj_alen C F 940 zk_2 (Or.inl rfl) len_2 dX6_step_140 ?_
    refine zj_icmp_lt C 150 h5 irc_940 dX6_step_141 rfl (fun c6 => ?_) (fun c6 => ?_)
    · refine zj_aload_n (j := 0) (i := 0) C rfl 0 rfl dX6_step_150 ?_
      refine zj_getR C F zk_1 fl_X6_11 rfl rf_1_0 dX6_step_151 ?_
      refine zj_aload_n (j := 0) (i := 0) C rfl 0 rfl dX6_step_154 ?_
      refine zj_getI C F 4 rfl zk_1 fl_X6_26 rfl dX6_step_155 (fun h7 => ?_)
      refine zj_iaload C F zk_2 h7 dX6_step_158 (fun c8 h9 => ?_)
      refine zj_pipeI (fun y10 e_y10 => ?_)
      have h_y10 := ir_eq e_y10 h9
      refine zj_istore_n (j := 1) (i := 1) C rfl [(1, .int (i32 y10)), (0, .ref (zad Γ 1))] dX6_step_159 (by decide) rfl ?_
      refine zj_iload_n (j := 1) (i := 1) C rfl 0 rfl dX6_step_160 ?_
      refine zj_bipush C 97 rfl dX6_step_161 ?_
      refine zj_icmp_lt C 172 h_y10 irc_97 dX6_step_163 rfl (fun c11 => ?_) (fun c11 => ?_)
      · refine zj_iload_n (j := 1) (i := 1) C rfl 0 rfl dX6_step_172 ?_
        refine zj_bipush C 48 rfl dX6_step_173 ?_
        refine zj_icmp_lt C 189 h_y10 irc_48 dX6_step_175 rfl (fun c12 => ?_) (fun c12 => ?_)
        · exact zj_sub [1, 0] rfl (J_X6_step_j189 l F C Z h_y10 mem)
        · refine zj_iload_n (j := 1) (i := 1) C rfl 0 rfl dX6_step_178 ?_
          refine zj_bipush C 57 rfl dX6_step_179 ?_
          refine zj_icmp_gt C 189 h_y10 irc_57 dX6_step_181 rfl (fun c13 => ?_) (fun c13 => ?_)
          · exact zj_sub [1, 0] rfl (J_X6_step_j189 l F C Z h_y10 mem)
          · refine zj_aload_n (j := 0) (i := 0) C rfl 1 rfl dX6_step_184 ?_
            refine zj_callVv C F Z [] [] cal_X6_readRun calv_X6_readRun ml_X6_70 zk_1 rfl rfl (by decide) (Nat.le_of_ble_eq_true rfl) rfl dX6_step_185 (fun q h => M_X6_readRun l Γ F  mem q h) (fun _ m14 _ => ?_)
            exact zrt_v C Z dX6_step_188
      · refine zj_iload_n (j := 1) (i := 1) C rfl 0 rfl dX6_step_166 ?_
        refine zj_bipush C 122 rfl dX6_step_167 ?_
        refine zj_icmp_le C 184 h_y10 irc_122 dX6_step_169 rfl (fun c15 => ?_) (fun c15 => ?_)
        · refine zj_aload_n (j := 0) (i := 0) C rfl 1 rfl dX6_step_184 ?_
          refine zj_callVv C F Z [] [] cal_X6_readRun calv_X6_readRun ml_X6_70 zk_1 rfl rfl (by decide) (Nat.le_of_ble_eq_true rfl) rfl dX6_step_185 (fun q h => M_X6_readRun l Γ F  mem q h) (fun _ m16 _ => ?_)
          exact zrt_v C Z dX6_step_188
        · refine zj_iload_n (j := 1) (i := 1) C rfl 0 rfl dX6_step_172 ?_
          refine zj_bipush C 48 rfl dX6_step_173 ?_
          refine zj_icmp_lt C 189 h_y10 irc_48 dX6_step_175 rfl (fun c17 => ?_) (fun c17 => ?_)
          · exact zj_sub [1, 0] rfl (J_X6_step_j189 l F C Z h_y10 mem)
          · refine zj_iload_n (j := 1) (i := 1) C rfl 0 rfl dX6_step_178 ?_
            refine zj_bipush C 57 rfl dX6_step_179 ?_
            refine zj_icmp_gt C 189 h_y10 irc_57 dX6_step_181 rfl (fun c18 => ?_) (fun c18 => ?_)
            · exact zj_sub [1, 0] rfl (J_X6_step_j189 l F C Z h_y10 mem)
            · refine zj_aload_n (j := 0) (i := 0) C rfl 1 rfl dX6_step_184 ?_
              refine zj_callVv C F Z [] [] cal_X6_readRun calv_X6_readRun ml_X6_70 zk_1 rfl rfl (by decide) (Nat.le_of_ble_eq_true rfl) rfl dX6_step_185 (fun q h => M_X6_readRun l Γ F  mem q h) (fun _ m19 _ => ?_)
              exact zrt_v C Z dX6_step_188
    · refine zj_aload_n (j := 0) (i := 0) C rfl 0 rfl dX6_step_144 ?_
      refine zj_iconst C 0 dX6_step_145 ?_
      refine zj_putI C F 6 rfl zk_1 fl_X6_32 rfl fp_6_6 irc_0 dX6_step_146 ?_
      refine zj_pipeM (fun m20 e_m20 => ?_)
      exact zrt_v C Z dX6_step_149
noncomputable def f_X6_step_j67  (mem : zMem) : Option (Int × zMem) := pipe (zup mem 1 5 (mem 1 4)) fun m2 => pipe (zup m2 1 7 0) fun m3 => pipe (zup m3 1 8 (-1)) fun m4 => if (m4 1 4) < (m4 1 3) then (f_X6_step_j121 m4) else (if (m4 1 2) ≤ (m4 1 3) then (f_X6_step_j121 m4) else (pipe (zup m4 1 5 (m4 1 3)) fun m12 => pipe (zup m12 1 6 4) fun m13 => some (0, m13)))
set_option maxHeartbeats 4000000 in
theorem J_X6_step_j67 (l : Launch) {Γ : zG} (F : zFull Γ) {X : zM} {q : Int × zMem} (C : zC X Γ "ShadowHeirs$Reader" cX6_step 2) (Z : zRt X l Γ 2 0 none q)   (mem : zMem) : zJ X Γ 2 q (f_X6_step_j67  mem) 67 [(0, .ref (zad Γ 1))] [] mem := by
  unfold f_X6_step_j67
  refine zj_aload_n (j := 0) (i := 0) C rfl 0 rfl dX6_step_67 ?_
  refine zj_aload_n (j := 0) (i := 0) C rfl 0 rfl dX6_step_68 ?_
  refine zj_getI C F 4 rfl zk_1 fl_X6_26 rfl dX6_step_69 (fun h1 => ?_)
  refine zj_putI C F 5 rfl zk_1 fl_X6_29 rfl fp_6_5 h1 dX6_step_72 ?_
  refine zj_pipeM (fun m2 e_m2 => ?_)
  refine zj_aload_n (j := 0) (i := 0) C rfl 0 rfl dX6_step_75 ?_
  refine zj_lconst (n := 0) C 0 rfl dX6_step_76 ?_
  refine zj_putL C F 7 rfl zk_1 fl_X6_35 rfl fp_6_7 lrc_0 dX6_step_77 ?_
  refine zj_pipeM (fun m3 e_m3 => ?_)
  refine zj_aload_n (j := 0) (i := 0) C rfl 0 rfl dX6_step_80 ?_
  refine zj_iconst C (-1) dX6_step_81 ?_
  refine zj_putI C F 8 rfl zk_1 fl_X6_39 rfl fp_6_8 irc_m1 dX6_step_82 ?_
  refine zj_pipeM (fun m4 e_m4 => ?_)
  refine zj_aload_n (j := 0) (i := 0) C rfl 0 rfl dX6_step_85 ?_
  refine zj_getI C F 4 rfl zk_1 fl_X6_26 rfl dX6_step_86 (fun h5 => ?_)
  refine zj_aload_n (j := 0) (i := 0) C rfl 0 rfl dX6_step_89 ?_
  refine zj_getI C F 3 rfl zk_1 fl_X6_23 rfl dX6_step_90 (fun h6 => ?_)
  refine zj_icmp_lt C 121 h5 h6 dX6_step_93 rfl (fun c7 => ?_) (fun c7 => ?_)
  · exact zj_sub [0] rfl (J_X6_step_j121 l F C Z m4)
  · refine zj_aload_n (j := 0) (i := 0) C rfl 0 rfl dX6_step_96 ?_
    refine zj_getI C F 2 rfl zk_1 fl_X6_19 rfl dX6_step_97 (fun h8 => ?_)
    refine zj_aload_n (j := 0) (i := 0) C rfl 0 rfl dX6_step_100 ?_
    refine zj_getI C F 3 rfl zk_1 fl_X6_23 rfl dX6_step_101 (fun h9 => ?_)
    refine zj_icmp_le C 121 h8 h9 dX6_step_104 rfl (fun c10 => ?_) (fun c10 => ?_)
    · exact zj_sub [0] rfl (J_X6_step_j121 l F C Z m4)
    · refine zj_aload_n (j := 0) (i := 0) C rfl 0 rfl dX6_step_107 ?_
      refine zj_aload_n (j := 0) (i := 0) C rfl 0 rfl dX6_step_108 ?_
      refine zj_getI C F 3 rfl zk_1 fl_X6_23 rfl dX6_step_109 (fun h11 => ?_)
      refine zj_putI C F 5 rfl zk_1 fl_X6_29 rfl fp_6_5 h11 dX6_step_112 ?_
      refine zj_pipeM (fun m12 e_m12 => ?_)
      refine zj_aload_n (j := 0) (i := 0) C rfl 0 rfl dX6_step_115 ?_
      refine zj_iconst C 4 dX6_step_116 ?_
      refine zj_putI C F 6 rfl zk_1 fl_X6_32 rfl fp_6_6 irc_4 dX6_step_117 ?_
      refine zj_pipeM (fun m13 e_m13 => ?_)
      exact zrt_v C Z dX6_step_120
noncomputable def b_X6_step_3 (rec : zMem → Option (Int × zMem))  (mem : zMem) : Option (Int × zMem) := if (mem 1 4) ≥ (mem 1 2) then (f_X6_step_j67 mem) else (if (mem 1 4) ≥ 940 then (f_X6_step_j67 mem) else (if ix 2 (mem 1 4) then if (mem 2 (mem 1 4)) = 32 then (pipe (zup mem 1 4 (w32 ((mem 1 4) + 1))) fun m11 => rec m11) else (if ix 2 (mem 1 4) then if (mem 2 (mem 1 4)) = 10 then (pipe (zup mem 1 4 (w32 ((mem 1 4) + 1))) fun m17 => rec m17) else (f_X6_step_j67 mem) else none) else none))
noncomputable def f_X6_step_3 : Nat → zMem → Option (Int × zMem) := zfuel (fun _ => none) (b_X6_step_3)
set_option maxHeartbeats 4000000 in
theorem L_X6_step_3 (l : Launch) {Γ : zG} (F : zFull Γ) {X : zM} {q : Int × zMem} (C : zC X Γ "ShadowHeirs$Reader" cX6_step 2) (Z : zRt X l Γ 2 0 none q) : ∀ n : Nat, ∀  (mem : zMem), zJ X Γ 2 q (f_X6_step_3 n  mem) 0 [(0, .ref (zad Γ 1))] [] mem := by
  intro n
  induction n with
  | zero => intros; exact zj_none
  | succ n ih =>
    intro  mem
    show zJ X Γ 2 q (b_X6_step_3 (f_X6_step_3 n)  mem) _ _ _ _
    unfold b_X6_step_3
    refine zj_aload_n (j := 0) (i := 0) C rfl 0 rfl dX6_step_0 ?_
    refine zj_getI C F 4 rfl zk_1 fl_X6_26 rfl dX6_step_1 (fun h1 => ?_)
    refine zj_aload_n (j := 0) (i := 0) C rfl 0 rfl dX6_step_4 ?_
    refine zj_getI C F 2 rfl zk_1 fl_X6_19 rfl dX6_step_5 (fun h2 => ?_)
    refine zj_icmp_ge C 67 h1 h2 dX6_step_8 rfl (fun c3 => ?_) (fun c3 => ?_)
    · exact zj_sub [0] rfl (J_X6_step_j67 l F C Z mem)
    · refine zj_aload_n (j := 0) (i := 0) C rfl 0 rfl dX6_step_11 ?_
      refine zj_getI C F 4 rfl zk_1 fl_X6_26 rfl dX6_step_12 (fun h4 => ?_)
      refine zj_aload_n (j := 0) (i := 0) C rfl 0 rfl dX6_step_15 ?_
      refine zj_getR C F zk_1 fl_X6_11 rfl rf_1_0 dX6_step_16 ?_
      refine zj_alen C F 940 zk_2 (Or.inl rfl) len_2 dX6_step_19 ?_
      refine zj_icmp_ge C 67 h4 irc_940 dX6_step_20 rfl (fun c5 => ?_) (fun c5 => ?_)
      · exact zj_sub [0] rfl (J_X6_step_j67 l F C Z mem)
      · refine zj_aload_n (j := 0) (i := 0) C rfl 0 rfl dX6_step_23 ?_
        refine zj_getR C F zk_1 fl_X6_11 rfl rf_1_0 dX6_step_24 ?_
        refine zj_aload_n (j := 0) (i := 0) C rfl 0 rfl dX6_step_27 ?_
        refine zj_getI C F 4 rfl zk_1 fl_X6_26 rfl dX6_step_28 (fun h6 => ?_)
        refine zj_iaload C F zk_2 h6 dX6_step_31 (fun c7 h8 => ?_)
        refine zj_bipush C 32 rfl dX6_step_32 ?_
        refine zj_icmp_eq C 54 h8 irc_32 dX6_step_34 rfl (fun c9 => ?_) (fun c9 => ?_)
        · refine zj_aload_n (j := 0) (i := 0) C rfl 0 rfl dX6_step_54 ?_
          refine zj_dup C rfl dX6_step_55 ?_
          refine zj_getI C F 4 rfl zk_1 fl_X6_26 rfl dX6_step_56 (fun h10 => ?_)
          refine zj_iconst C 1 dX6_step_59 ?_
          refine zj_iadd C dX6_step_60 ?_
          refine zj_putI C F 4 rfl zk_1 fl_X6_26 rfl fp_6_4 (ir_w _) dX6_step_61 ?_
          refine zj_pipeM (fun m11 e_m11 => ?_)
          refine zj_goto (tgt := 0) C dX6_step_64 rfl ?_
          exact zj_sub [0] rfl (ih m11)
        · refine zj_aload_n (j := 0) (i := 0) C rfl 0 rfl dX6_step_37 ?_
          refine zj_getR C F zk_1 fl_X6_11 rfl rf_1_0 dX6_step_38 ?_
          refine zj_aload_n (j := 0) (i := 0) C rfl 0 rfl dX6_step_41 ?_
          refine zj_getI C F 4 rfl zk_1 fl_X6_26 rfl dX6_step_42 (fun h12 => ?_)
          refine zj_iaload C F zk_2 h12 dX6_step_45 (fun c13 h14 => ?_)
          refine zj_bipush C 10 rfl dX6_step_46 ?_
          refine zj_icmp_eq C 54 h14 irc_10 dX6_step_48 rfl (fun c15 => ?_) (fun c15 => ?_)
          · refine zj_aload_n (j := 0) (i := 0) C rfl 0 rfl dX6_step_54 ?_
            refine zj_dup C rfl dX6_step_55 ?_
            refine zj_getI C F 4 rfl zk_1 fl_X6_26 rfl dX6_step_56 (fun h16 => ?_)
            refine zj_iconst C 1 dX6_step_59 ?_
            refine zj_iadd C dX6_step_60 ?_
            refine zj_putI C F 4 rfl zk_1 fl_X6_26 rfl fp_6_4 (ir_w _) dX6_step_61 ?_
            refine zj_pipeM (fun m17 e_m17 => ?_)
            refine zj_goto (tgt := 0) C dX6_step_64 rfl ?_
            exact zj_sub [0] rfl (ih m17)
          · refine zj_goto (tgt := 67) C dX6_step_51 rfl ?_
            exact zj_sub [0] rfl (J_X6_step_j67 l F C Z mem)
noncomputable def f_X6_step  (mem : zMem) : Option (Int × zMem) := f_X6_step_3 zN mem
set_option maxHeartbeats 4000000 in
theorem M_X6_step (l : Launch) (Γ : zG) (F : zFull Γ)    (mem : zMem) (q : Int × zMem) (h : f_X6_step  mem = some q) : zMet l yX6_step cX6_step 2 none 2 Γ 0 [.ref (zad Γ 1)] mem q := by
  refine zMet_of (own := "ShadowHeirs$Reader") (by decide) rfl (Nat.le_of_ble_eq_true rfl) (fun X C Z => ?_)
  revert h
  show zJ X Γ 2 q (f_X6_step  mem) 0 [(0, .ref (zad Γ 1))] [] mem
  unfold f_X6_step
  exact zj_sub [0] rfl ((L_X6_step_3 l F C Z zN) mem)
noncomputable def f_X6_wantSign (x0 : Int) (mem : zMem) : Option (Int × zMem) := zbind (f_X6_step mem) fun _ m1 => zbind (f_X6_isSign x0 m1) fun y2 m3 => if y2 = 0 then (zbind (f_X6_fail 1 m3) fun y5 m6 => if y5 = 0 then (some (0, m6)) else (some (1, m6))) else (some (1, m3))
set_option maxHeartbeats 4000000 in
theorem M_X6_wantSign (l : Launch) (Γ : zG) (F : zFull Γ)  {x0 : Int} (h_x0 : ir x0) (mem : zMem) (q : Int × zMem) (h : f_X6_wantSign x0 mem = some q) : zMet l yX6_wantSign cX6_wantSign 2 (some .boolean) 3 Γ 1 [.ref (zad Γ 1), .int (i32 x0)] mem q := by
  refine zMet_of (own := "ShadowHeirs$Reader") (by decide) rfl (Nat.le_of_ble_eq_true rfl) (fun X C Z => ?_)
  revert h
  show zJ X Γ 2 q (f_X6_wantSign x0 mem) 0 [(0, .ref (zad Γ 1)), (1, .int (i32 x0))] [] mem
  unfold f_X6_wantSign
  refine zj_aload_n (j := 0) (i := 0) C rfl 0 rfl dX6_wantSign_0 ?_
  refine zj_callVv C F Z [] [] cal_X6_step calv_X6_step ml_X6_73 zk_1 rfl rfl (by decide) (Nat.le_of_ble_eq_true rfl) rfl dX6_wantSign_1 (fun q h => M_X6_step l Γ F  mem q h) (fun _ m1 _ => ?_)
  refine zj_aload_n (j := 0) (i := 0) C rfl 0 rfl dX6_wantSign_4 ?_
  refine zj_iload_n (j := 1) (i := 1) C rfl 1 rfl dX6_wantSign_5 ?_
  refine zj_callVi C F Z [.int (i32 x0)] [] cal_X6_isSign calv_X6_isSign ml_X6_76 zk_1 rfl rfl (by decide) (Nat.le_of_ble_eq_true rfl) rfl dX6_wantSign_6 (fun q h => M_X6_isSign l Γ F h_x0 m1 q h) (fun y2 m3 h_y2 => ?_)
  refine zj_if_ne C 20 h_y2 dX6_wantSign_9 rfl (fun c4 => ?_) (fun c4 => ?_)
  · refine zj_aload_n (j := 0) (i := 0) C rfl 0 rfl dX6_wantSign_12 ?_
    refine zj_iconst C 1 dX6_wantSign_13 ?_
    refine zj_callVi C F Z [.int (i32 1)] [] cal_X6_fail calv_X6_fail ml_X6_80 zk_1 rfl rfl (by decide) (Nat.le_of_ble_eq_true rfl) rfl dX6_wantSign_14 (fun q h => M_X6_fail l Γ F irc_1 m3 q h) (fun y5 m6 h_y5 => ?_)
    refine zj_if_eq C 24 h_y5 dX6_wantSign_17 rfl (fun c7 => ?_) (fun c7 => ?_)
    · refine zj_iconst C 0 dX6_wantSign_24 ?_
      exact zrt_z C Z (Or.inl rfl) dX6_wantSign_25
    · refine zj_iconst C 1 dX6_wantSign_20 ?_
      refine zj_goto (tgt := 25) C dX6_wantSign_21 rfl ?_
      exact zrt_z C Z (Or.inr rfl) dX6_wantSign_25
  · refine zj_iconst C 1 dX6_wantSign_20 ?_
    refine zj_goto (tgt := 25) C dX6_wantSign_21 rfl ?_
    exact zrt_z C Z (Or.inr rfl) dX6_wantSign_25
noncomputable def f_X6_wantNumber (x0 : Int) (x1 : Int) (mem : zMem) : Option (Int × zMem) := zbind (f_X6_step mem) fun _ m1 => if (m1 1 6) = 2 then (if (zcmp (m1 1 7) x0) < 0 then (zbind (f_X6_fail 2 m1) fun y6 m7 => if y6 = 0 then (some (0, m7)) else (some (1, m7))) else (if (zcmp (m1 1 7) x1) ≤ 0 then (some (1, m1)) else (zbind (f_X6_fail 2 m1) fun y11 m12 => if y11 = 0 then (some (0, m12)) else (some (1, m12))))) else (zbind (f_X6_fail 1 m1) fun y14 m15 => if y14 = 0 ∨ y14 = 1 then some (y14, m15) else none)
set_option maxHeartbeats 4000000 in
theorem M_X6_wantNumber (l : Launch) (Γ : zG) (F : zFull Γ)  {x0 : Int} {x1 : Int} (h_x0 : ir x0) (h_x1 : ir x1) (mem : zMem) (q : Int × zMem) (h : f_X6_wantNumber x0 x1 mem = some q) : zMet l yX6_wantNumber cX6_wantNumber 3 (some .boolean) 3 Γ 1 [.ref (zad Γ 1), .int (i32 x0), .int (i32 x1)] mem q := by
  refine zMet_of (own := "ShadowHeirs$Reader") (by decide) rfl (Nat.le_of_ble_eq_true rfl) (fun X C Z => ?_)
  revert h
  show zJ X Γ 3 q (f_X6_wantNumber x0 x1 mem) 0 [(0, .ref (zad Γ 1)), (1, .int (i32 x0)), (2, .int (i32 x1))] [] mem
  unfold f_X6_wantNumber
  refine zj_aload_n (j := 0) (i := 0) C rfl 0 rfl dX6_wantNumber_0 ?_
  refine zj_callVv C F Z [] [] cal_X6_step calv_X6_step ml_X6_73 zk_1 rfl rfl (by decide) (Nat.le_of_ble_eq_true rfl) rfl dX6_wantNumber_1 (fun q h => M_X6_step l Γ F  mem q h) (fun _ m1 _ => ?_)
  refine zj_aload_n (j := 0) (i := 0) C rfl 0 rfl dX6_wantNumber_4 ?_
  refine zj_getI C F 6 rfl zk_1 fl_X6_32 rfl dX6_wantNumber_5 (fun h2 => ?_)
  refine zj_iconst C 2 dX6_wantNumber_8 ?_
  refine zj_icmp_eq C 18 h2 irc_2 dX6_wantNumber_9 rfl (fun c3 => ?_) (fun c3 => ?_)
  · refine zj_aload_n (j := 0) (i := 0) C rfl 0 rfl dX6_wantNumber_18 ?_
    refine zj_getL C F 7 rfl zk_1 fl_X6_35 rfl dX6_wantNumber_19 (fun h4 => ?_)
    refine zj_iload_n (j := 1) (i := 1) C rfl 1 rfl dX6_wantNumber_22 ?_
    refine zj_i2l C h_x0 dX6_wantNumber_23 ?_
    refine zj_lcmp C h4 (ir_lr h_x0) dX6_wantNumber_24 ?_
    refine zj_if_lt C 38 (ir_cmp _ _) dX6_wantNumber_25 rfl (fun c5 => ?_) (fun c5 => ?_)
    · refine zj_aload_n (j := 0) (i := 0) C rfl 0 rfl dX6_wantNumber_38 ?_
      refine zj_iconst C 2 dX6_wantNumber_39 ?_
      refine zj_callVi C F Z [.int (i32 2)] [] cal_X6_fail calv_X6_fail ml_X6_80 zk_1 rfl rfl (by decide) (Nat.le_of_ble_eq_true rfl) rfl dX6_wantNumber_40 (fun q h => M_X6_fail l Γ F irc_2 m1 q h) (fun y6 m7 h_y6 => ?_)
      refine zj_if_eq C 50 h_y6 dX6_wantNumber_43 rfl (fun c8 => ?_) (fun c8 => ?_)
      · refine zj_iconst C 0 dX6_wantNumber_50 ?_
        exact zrt_z C Z (Or.inl rfl) dX6_wantNumber_51
      · refine zj_iconst C 1 dX6_wantNumber_46 ?_
        refine zj_goto (tgt := 51) C dX6_wantNumber_47 rfl ?_
        exact zrt_z C Z (Or.inr rfl) dX6_wantNumber_51
    · refine zj_aload_n (j := 0) (i := 0) C rfl 0 rfl dX6_wantNumber_28 ?_
      refine zj_getL C F 7 rfl zk_1 fl_X6_35 rfl dX6_wantNumber_29 (fun h9 => ?_)
      refine zj_iload_n (j := 2) (i := 2) C rfl 2 rfl dX6_wantNumber_32 ?_
      refine zj_i2l C h_x1 dX6_wantNumber_33 ?_
      refine zj_lcmp C h9 (ir_lr h_x1) dX6_wantNumber_34 ?_
      refine zj_if_le C 46 (ir_cmp _ _) dX6_wantNumber_35 rfl (fun c10 => ?_) (fun c10 => ?_)
      · refine zj_iconst C 1 dX6_wantNumber_46 ?_
        refine zj_goto (tgt := 51) C dX6_wantNumber_47 rfl ?_
        exact zrt_z C Z (Or.inr rfl) dX6_wantNumber_51
      · refine zj_aload_n (j := 0) (i := 0) C rfl 0 rfl dX6_wantNumber_38 ?_
        refine zj_iconst C 2 dX6_wantNumber_39 ?_
        refine zj_callVi C F Z [.int (i32 2)] [] cal_X6_fail calv_X6_fail ml_X6_80 zk_1 rfl rfl (by decide) (Nat.le_of_ble_eq_true rfl) rfl dX6_wantNumber_40 (fun q h => M_X6_fail l Γ F irc_2 m1 q h) (fun y11 m12 h_y11 => ?_)
        refine zj_if_eq C 50 h_y11 dX6_wantNumber_43 rfl (fun c13 => ?_) (fun c13 => ?_)
        · refine zj_iconst C 0 dX6_wantNumber_50 ?_
          exact zrt_z C Z (Or.inl rfl) dX6_wantNumber_51
        · refine zj_iconst C 1 dX6_wantNumber_46 ?_
          refine zj_goto (tgt := 51) C dX6_wantNumber_47 rfl ?_
          exact zrt_z C Z (Or.inr rfl) dX6_wantNumber_51
  · refine zj_aload_n (j := 0) (i := 0) C rfl 0 rfl dX6_wantNumber_12 ?_
    refine zj_iconst C 1 dX6_wantNumber_13 ?_
    refine zj_callVi C F Z [.int (i32 1)] [] cal_X6_fail calv_X6_fail ml_X6_80 zk_1 rfl rfl (by decide) (Nat.le_of_ble_eq_true rfl) rfl dX6_wantNumber_14 (fun q h => M_X6_fail l Γ F irc_1 m1 q h) (fun y14 m15 h_y14 => ?_)
    exact zrt_zc C Z dX6_wantNumber_17
noncomputable def f_X6_wantSide  (mem : zMem) : Option (Int × zMem) := zbind (f_X6_step mem) fun _ m1 => if (m1 1 8) < 5 then (zbind (f_X6_fail 1 m1) fun y4 m5 => if y4 = 0 then (some (0, m5)) else (some (1, m5))) else (if (m1 1 8) ≤ 8 then (some (1, m1)) else (zbind (f_X6_fail 1 m1) fun y9 m10 => if y9 = 0 then (some (0, m10)) else (some (1, m10))))
set_option maxHeartbeats 4000000 in
theorem M_X6_wantSide (l : Launch) (Γ : zG) (F : zFull Γ)    (mem : zMem) (q : Int × zMem) (h : f_X6_wantSide  mem = some q) : zMet l yX6_wantSide cX6_wantSide 1 (some .boolean) 3 Γ 1 [.ref (zad Γ 1)] mem q := by
  refine zMet_of (own := "ShadowHeirs$Reader") (by decide) rfl (Nat.le_of_ble_eq_true rfl) (fun X C Z => ?_)
  revert h
  show zJ X Γ 1 q (f_X6_wantSide  mem) 0 [(0, .ref (zad Γ 1))] [] mem
  unfold f_X6_wantSide
  refine zj_aload_n (j := 0) (i := 0) C rfl 0 rfl dX6_wantSide_0 ?_
  refine zj_callVv C F Z [] [] cal_X6_step calv_X6_step ml_X6_73 zk_1 rfl rfl (by decide) (Nat.le_of_ble_eq_true rfl) rfl dX6_wantSide_1 (fun q h => M_X6_step l Γ F  mem q h) (fun _ m1 _ => ?_)
  refine zj_aload_n (j := 0) (i := 0) C rfl 0 rfl dX6_wantSide_4 ?_
  refine zj_getI C F 8 rfl zk_1 fl_X6_39 rfl dX6_wantSide_5 (fun h2 => ?_)
  refine zj_iconst C 5 dX6_wantSide_8 ?_
  refine zj_icmp_lt C 21 h2 irc_5 dX6_wantSide_9 rfl (fun c3 => ?_) (fun c3 => ?_)
  · refine zj_aload_n (j := 0) (i := 0) C rfl 0 rfl dX6_wantSide_21 ?_
    refine zj_iconst C 1 dX6_wantSide_22 ?_
    refine zj_callVi C F Z [.int (i32 1)] [] cal_X6_fail calv_X6_fail ml_X6_80 zk_1 rfl rfl (by decide) (Nat.le_of_ble_eq_true rfl) rfl dX6_wantSide_23 (fun q h => M_X6_fail l Γ F irc_1 m1 q h) (fun y4 m5 h_y4 => ?_)
    refine zj_if_eq C 33 h_y4 dX6_wantSide_26 rfl (fun c6 => ?_) (fun c6 => ?_)
    · refine zj_iconst C 0 dX6_wantSide_33 ?_
      exact zrt_z C Z (Or.inl rfl) dX6_wantSide_34
    · refine zj_iconst C 1 dX6_wantSide_29 ?_
      refine zj_goto (tgt := 34) C dX6_wantSide_30 rfl ?_
      exact zrt_z C Z (Or.inr rfl) dX6_wantSide_34
  · refine zj_aload_n (j := 0) (i := 0) C rfl 0 rfl dX6_wantSide_12 ?_
    refine zj_getI C F 8 rfl zk_1 fl_X6_39 rfl dX6_wantSide_13 (fun h7 => ?_)
    refine zj_bipush C 8 rfl dX6_wantSide_16 ?_
    refine zj_icmp_le C 29 h7 irc_8 dX6_wantSide_18 rfl (fun c8 => ?_) (fun c8 => ?_)
    · refine zj_iconst C 1 dX6_wantSide_29 ?_
      refine zj_goto (tgt := 34) C dX6_wantSide_30 rfl ?_
      exact zrt_z C Z (Or.inr rfl) dX6_wantSide_34
    · refine zj_aload_n (j := 0) (i := 0) C rfl 0 rfl dX6_wantSide_21 ?_
      refine zj_iconst C 1 dX6_wantSide_22 ?_
      refine zj_callVi C F Z [.int (i32 1)] [] cal_X6_fail calv_X6_fail ml_X6_80 zk_1 rfl rfl (by decide) (Nat.le_of_ble_eq_true rfl) rfl dX6_wantSide_23 (fun q h => M_X6_fail l Γ F irc_1 m1 q h) (fun y9 m10 h_y9 => ?_)
      refine zj_if_eq C 33 h_y9 dX6_wantSide_26 rfl (fun c11 => ?_) (fun c11 => ?_)
      · refine zj_iconst C 0 dX6_wantSide_33 ?_
        exact zrt_z C Z (Or.inl rfl) dX6_wantSide_34
      · refine zj_iconst C 1 dX6_wantSide_29 ?_
        refine zj_goto (tgt := 34) C dX6_wantSide_30 rfl ?_
        exact zrt_z C Z (Or.inr rfl) dX6_wantSide_34
noncomputable def f_X6_wantName  (mem : zMem) : Option (Int × zMem) := zbind (f_X6_step mem) fun _ m1 => if (m1 1 6) = 1 then (if (m1 1 8) = (-1) then (some (1, m1)) else (zbind (f_X6_fail 1 m1) fun y6 m7 => if y6 = 0 then (some (0, m7)) else (some (1, m7)))) else (zbind (f_X6_fail 1 m1) fun y9 m10 => if y9 = 0 then (some (0, m10)) else (some (1, m10)))
set_option maxHeartbeats 4000000 in
theorem M_X6_wantName (l : Launch) (Γ : zG) (F : zFull Γ)    (mem : zMem) (q : Int × zMem) (h : f_X6_wantName  mem = some q) : zMet l yX6_wantName cX6_wantName 1 (some .boolean) 3 Γ 1 [.ref (zad Γ 1)] mem q := by
  refine zMet_of (own := "ShadowHeirs$Reader") (by decide) rfl (Nat.le_of_ble_eq_true rfl) (fun X C Z => ?_)
  revert h
  show zJ X Γ 1 q (f_X6_wantName  mem) 0 [(0, .ref (zad Γ 1))] [] mem
  unfold f_X6_wantName
  refine zj_aload_n (j := 0) (i := 0) C rfl 0 rfl dX6_wantName_0 ?_
  refine zj_callVv C F Z [] [] cal_X6_step calv_X6_step ml_X6_73 zk_1 rfl rfl (by decide) (Nat.le_of_ble_eq_true rfl) rfl dX6_wantName_1 (fun q h => M_X6_step l Γ F  mem q h) (fun _ m1 _ => ?_)
  refine zj_aload_n (j := 0) (i := 0) C rfl 0 rfl dX6_wantName_4 ?_
  refine zj_getI C F 6 rfl zk_1 fl_X6_32 rfl dX6_wantName_5 (fun h2 => ?_)
  refine zj_iconst C 1 dX6_wantName_8 ?_
  refine zj_icmp_ne C 20 h2 irc_1 dX6_wantName_9 rfl (fun c3 => ?_) (fun c3 => ?_)
  · refine zj_aload_n (j := 0) (i := 0) C rfl 0 rfl dX6_wantName_12 ?_
    refine zj_getI C F 8 rfl zk_1 fl_X6_39 rfl dX6_wantName_13 (fun h4 => ?_)
    refine zj_iconst C (-1) dX6_wantName_16 ?_
    refine zj_icmp_eq C 28 h4 irc_m1 dX6_wantName_17 rfl (fun c5 => ?_) (fun c5 => ?_)
    · refine zj_iconst C 1 dX6_wantName_28 ?_
      refine zj_goto (tgt := 33) C dX6_wantName_29 rfl ?_
      exact zrt_z C Z (Or.inr rfl) dX6_wantName_33
    · refine zj_aload_n (j := 0) (i := 0) C rfl 0 rfl dX6_wantName_20 ?_
      refine zj_iconst C 1 dX6_wantName_21 ?_
      refine zj_callVi C F Z [.int (i32 1)] [] cal_X6_fail calv_X6_fail ml_X6_80 zk_1 rfl rfl (by decide) (Nat.le_of_ble_eq_true rfl) rfl dX6_wantName_22 (fun q h => M_X6_fail l Γ F irc_1 m1 q h) (fun y6 m7 h_y6 => ?_)
      refine zj_if_eq C 32 h_y6 dX6_wantName_25 rfl (fun c8 => ?_) (fun c8 => ?_)
      · refine zj_iconst C 0 dX6_wantName_32 ?_
        exact zrt_z C Z (Or.inl rfl) dX6_wantName_33
      · refine zj_iconst C 1 dX6_wantName_28 ?_
        refine zj_goto (tgt := 33) C dX6_wantName_29 rfl ?_
        exact zrt_z C Z (Or.inr rfl) dX6_wantName_33
  · refine zj_aload_n (j := 0) (i := 0) C rfl 0 rfl dX6_wantName_20 ?_
    refine zj_iconst C 1 dX6_wantName_21 ?_
    refine zj_callVi C F Z [.int (i32 1)] [] cal_X6_fail calv_X6_fail ml_X6_80 zk_1 rfl rfl (by decide) (Nat.le_of_ble_eq_true rfl) rfl dX6_wantName_22 (fun q h => M_X6_fail l Γ F irc_1 m1 q h) (fun y9 m10 h_y9 => ?_)
    refine zj_if_eq C 32 h_y9 dX6_wantName_25 rfl (fun c11 => ?_) (fun c11 => ?_)
    · refine zj_iconst C 0 dX6_wantName_32 ?_
      exact zrt_z C Z (Or.inl rfl) dX6_wantName_33
    · refine zj_iconst C 1 dX6_wantName_28 ?_
      refine zj_goto (tgt := 33) C dX6_wantName_29 rfl ?_
      exact zrt_z C Z (Or.inr rfl) dX6_wantName_33
noncomputable def f_X8_readHouse (t0 : Nat) (t1 : Nat) (mem : zMem) : Option (Int × zMem) := zbind (f_X6_wantName mem) fun y1 m2 => if y1 = 0 then (some (0, m2)) else (zbind (f_X5_houseNamed t1 (m2 1 7) m2) fun y5 m6 => zbind (f_X8_add t0 19 y5 m6) fun _ m7 => if y5 = (-1) then (zbind (f_X6_fail 3 m7) fun y9 m10 => if y9 = 0 then (some (0, m10)) else (some (1, m10))) else (some (1, m7)))
set_option maxHeartbeats 4000000 in
theorem M_X8_readHouse (l : Launch) (Γ : zG) (F : zFull Γ)  {t0 : Nat} {t1 : Nat} (h_t0 : zk t0 8) (h_t1 : zk t1 5) (mem : zMem) (q : Int × zMem) (h : f_X8_readHouse t0 t1 mem = some q) : zMet l yX8_readHouse cX8_readHouse 4 (some .boolean) 4 Γ 1 [.ref (zad Γ t0), .ref (zad Γ 1), .ref (zad Γ t1)] mem q := by
  refine zMet_of (own := "ShadowHeirs$Sentence") (by decide) rfl (Nat.le_of_ble_eq_true rfl) (fun X C Z => ?_)
  revert h
  show zJ X Γ 4 q (f_X8_readHouse t0 t1 mem) 0 [(0, .ref (zad Γ t0)), (1, .ref (zad Γ 1)), (2, .ref (zad Γ t1))] [] mem
  unfold f_X8_readHouse
  refine zj_aload_n (j := 1) (i := 1) C rfl 1 rfl dX8_readHouse_0 ?_
  refine zj_callVi C F Z [] [] cal_X6_wantName calv_X6_wantName ml_X8_77 zk_1 rfl rfl (by decide) (Nat.le_of_ble_eq_true rfl) rfl dX8_readHouse_1 (fun q h => M_X6_wantName l Γ F  mem q h) (fun y1 m2 h_y1 => ?_)
  refine zj_if_ne C 9 h_y1 dX8_readHouse_4 rfl (fun c3 => ?_) (fun c3 => ?_)
  · refine zj_iconst C 0 dX8_readHouse_7 ?_
    exact zrt_z C Z (Or.inl rfl) dX8_readHouse_8
  · refine zj_aload_n (j := 2) (i := 2) C rfl 2 rfl dX8_readHouse_9 ?_
    refine zj_aload_n (j := 1) (i := 1) C rfl 1 rfl dX8_readHouse_10 ?_
    refine zj_getL C F 7 rfl zk_1 fl_X8_81 rfl dX8_readHouse_11 (fun h4 => ?_)
    refine zj_callVi C F Z [.long (i64 (m2 1 7))] [] cal_X5_houseNamed calv_X5_houseNamed ml_X8_85 h_t1 rfl rfl (by decide) (Nat.le_of_ble_eq_true rfl) rfl dX8_readHouse_14 (fun q h => M_X5_houseNamed l Γ F h_t1 h4 m2 q h) (fun y5 m6 h_y5 => ?_)
    refine zj_istore_n (j := 3) (i := 3) C rfl [(3, .int (i32 y5)), (0, .ref (zad Γ t0)), (1, .ref (zad Γ 1)), (2, .ref (zad Γ t1))] dX8_readHouse_17 (by decide) rfl ?_
    refine zj_aload_n (j := 0) (i := 0) C rfl 1 rfl dX8_readHouse_18 ?_
    refine zj_bipush C 19 rfl dX8_readHouse_19 ?_
    refine zj_iload_n (j := 3) (i := 3) C rfl 0 rfl dX8_readHouse_21 ?_
    refine zj_callVv C F Z [.int (i32 19), .int (i32 y5)] [] cal_X8_add calv_X8_add ml_X8_58 h_t0 rfl rfl (by decide) (Nat.le_of_ble_eq_true rfl) rfl dX8_readHouse_22 (fun q h => M_X8_add l Γ F h_t0 irc_19 h_y5 m6 q h) (fun _ m7 _ => ?_)
    refine zj_iload_n (j := 3) (i := 3) C rfl 0 rfl dX8_readHouse_25 ?_
    refine zj_iconst C (-1) dX8_readHouse_26 ?_
    refine zj_icmp_ne C 38 h_y5 irc_m1 dX8_readHouse_27 rfl (fun c8 => ?_) (fun c8 => ?_)
    · refine zj_aload_n (j := 1) (i := 1) C rfl 2 rfl dX8_readHouse_30 ?_
      refine zj_iconst C 3 dX8_readHouse_31 ?_
      refine zj_callVi C F Z [.int (i32 3)] [] cal_X6_fail calv_X6_fail ml_X8_51 zk_1 rfl rfl (by decide) (Nat.le_of_ble_eq_true rfl) rfl dX8_readHouse_32 (fun q h => M_X6_fail l Γ F irc_3 m7 q h) (fun y9 m10 h_y9 => ?_)
      refine zj_if_eq C 42 h_y9 dX8_readHouse_35 rfl (fun c11 => ?_) (fun c11 => ?_)
      · refine zj_iconst C 0 dX8_readHouse_42 ?_
        exact zrt_z C Z (Or.inl rfl) dX8_readHouse_43
      · refine zj_iconst C 1 dX8_readHouse_38 ?_
        refine zj_goto (tgt := 43) C dX8_readHouse_39 rfl ?_
        exact zrt_z C Z (Or.inr rfl) dX8_readHouse_43
    · refine zj_iconst C 1 dX8_readHouse_38 ?_
      refine zj_goto (tgt := 43) C dX8_readHouse_39 rfl ?_
      exact zrt_z C Z (Or.inr rfl) dX8_readHouse_43
noncomputable def f_X8_readCompared (t0 : Nat) (x1 : Int) (mem : zMem) : Option (Int × zMem) := zbind (f_X6_step mem) fun _ m1 => zbind (f_X6_isSign 60 m1) fun y2 m3 => if y2 = 0 then (zbind (f_X6_isSign 61 m3) fun y5 m6 => if y5 = 0 then (zbind (f_X6_isSign 62 m6) fun y8 m9 => if y8 = 0 then (zbind (f_X6_fail 1 m9) fun y11 m12 => if y11 = 0 ∨ y11 = 1 then some (y11, m12) else none) else (pipe (w32 ((w32 (m9 1 7)) - 60)) fun y14 => zbind (f_X6_wantNumber 0 999 m9) fun y15 m16 => if y15 = 0 then (some (0, m16)) else (zbind (f_X8_add t0 (w32 ((w32 (100 * (w32 (y14 + 1)))) + x1)) (w32 (m16 1 7)) m16) fun _ m19 => some (1, m19)))) else (pipe (w32 ((w32 (m6 1 7)) - 60)) fun y21 => zbind (f_X6_wantNumber 0 999 m6) fun y22 m23 => if y22 = 0 then (some (0, m23)) else (zbind (f_X8_add t0 (w32 ((w32 (100 * (w32 (y21 + 1)))) + x1)) (w32 (m23 1 7)) m23) fun _ m26 => some (1, m26)))) else (pipe (w32 ((w32 (m3 1 7)) - 60)) fun y28 => zbind (f_X6_wantNumber 0 999 m3) fun y29 m30 => if y29 = 0 then (some (0, m30)) else (zbind (f_X8_add t0 (w32 ((w32 (100 * (w32 (y28 + 1)))) + x1)) (w32 (m30 1 7)) m30) fun _ m33 => some (1, m33)))
set_option maxHeartbeats 4000000 in
theorem M_X8_readCompared (l : Launch) (Γ : zG) (F : zFull Γ)  {t0 : Nat} {x1 : Int} (h_t0 : zk t0 8) (h_x1 : ir x1) (mem : zMem) (q : Int × zMem) (h : f_X8_readCompared t0 x1 mem = some q) : zMet l yX8_readCompared cX8_readCompared 4 (some .boolean) 4 Γ 1 [.ref (zad Γ t0), .ref (zad Γ 1), .int (i32 x1)] mem q := by
  refine zMet_of (own := "ShadowHeirs$Sentence") (by decide) rfl (Nat.le_of_ble_eq_true rfl) (fun X C Z => ?_)
  revert h
  show zJ X Γ 4 q (f_X8_readCompared t0 x1 mem) 0 [(0, .ref (zad Γ t0)), (1, .ref (zad Γ 1)), (2, .int (i32 x1))] [] mem
  unfold f_X8_readCompared
  refine zj_aload_n (j := 1) (i := 1) C rfl 1 rfl dX8_readCompared_0 ?_
  refine zj_callVv C F Z [] [] cal_X6_step calv_X6_step ml_X8_41 zk_1 rfl rfl (by decide) (Nat.le_of_ble_eq_true rfl) rfl dX8_readCompared_1 (fun q h => M_X6_step l Γ F  mem q h) (fun _ m1 _ => ?_)
  refine zj_aload_n (j := 1) (i := 1) C rfl 1 rfl dX8_readCompared_4 ?_
  refine zj_bipush C 60 rfl dX8_readCompared_5 ?_
  refine zj_callVi C F Z [.int (i32 60)] [] cal_X6_isSign calv_X6_isSign ml_X8_65 zk_1 rfl rfl (by decide) (Nat.le_of_ble_eq_true rfl) rfl dX8_readCompared_7 (fun q h => M_X6_isSign l Γ F irc_60 m1 q h) (fun y2 m3 h_y2 => ?_)
  refine zj_if_ne C 37 h_y2 dX8_readCompared_10 rfl (fun c4 => ?_) (fun c4 => ?_)
  · refine zj_aload_n (j := 1) (i := 1) C rfl 1 rfl dX8_readCompared_13 ?_
    refine zj_bipush C 61 rfl dX8_readCompared_14 ?_
    refine zj_callVi C F Z [.int (i32 61)] [] cal_X6_isSign calv_X6_isSign ml_X8_65 zk_1 rfl rfl (by decide) (Nat.le_of_ble_eq_true rfl) rfl dX8_readCompared_16 (fun q h => M_X6_isSign l Γ F irc_61 m3 q h) (fun y5 m6 h_y5 => ?_)
    refine zj_if_ne C 37 h_y5 dX8_readCompared_19 rfl (fun c7 => ?_) (fun c7 => ?_)
    · refine zj_aload_n (j := 1) (i := 1) C rfl 1 rfl dX8_readCompared_22 ?_
      refine zj_bipush C 62 rfl dX8_readCompared_23 ?_
      refine zj_callVi C F Z [.int (i32 62)] [] cal_X6_isSign calv_X6_isSign ml_X8_65 zk_1 rfl rfl (by decide) (Nat.le_of_ble_eq_true rfl) rfl dX8_readCompared_25 (fun q h => M_X6_isSign l Γ F irc_62 m6 q h) (fun y8 m9 h_y8 => ?_)
      refine zj_if_ne C 37 h_y8 dX8_readCompared_28 rfl (fun c10 => ?_) (fun c10 => ?_)
      · refine zj_aload_n (j := 1) (i := 1) C rfl 1 rfl dX8_readCompared_31 ?_
        refine zj_iconst C 1 dX8_readCompared_32 ?_
        refine zj_callVi C F Z [.int (i32 1)] [] cal_X6_fail calv_X6_fail ml_X8_51 zk_1 rfl rfl (by decide) (Nat.le_of_ble_eq_true rfl) rfl dX8_readCompared_33 (fun q h => M_X6_fail l Γ F irc_1 m9 q h) (fun y11 m12 h_y11 => ?_)
        exact zrt_zc C Z dX8_readCompared_36
      · refine zj_aload_n (j := 1) (i := 1) C rfl 1 rfl dX8_readCompared_37 ?_
        refine zj_getL C F 7 rfl zk_1 fl_X8_81 rfl dX8_readCompared_38 (fun h13 => ?_)
        refine zj_l2i C h13 dX8_readCompared_41 ?_
        refine zj_bipush C 60 rfl dX8_readCompared_42 ?_
        refine zj_isub C dX8_readCompared_44 ?_
        refine zj_pipeI (fun y14 e_y14 => ?_)
        have h_y14 := ir_eq e_y14 (ir_w _)
        refine zj_istore_n (j := 3) (i := 3) C rfl [(3, .int (i32 y14)), (0, .ref (zad Γ t0)), (1, .ref (zad Γ 1)), (2, .int (i32 x1))] dX8_readCompared_45 (by decide) rfl ?_
        refine zj_aload_n (j := 1) (i := 1) C rfl 2 rfl dX8_readCompared_46 ?_
        refine zj_iconst C 0 dX8_readCompared_47 ?_
        refine zj_sipush C 999 rfl dX8_readCompared_48 ?_
        refine zj_callVi C F Z [.int (i32 0), .int (i32 999)] [] cal_X6_wantNumber calv_X6_wantNumber ml_X8_91 zk_1 rfl rfl (by decide) (Nat.le_of_ble_eq_true rfl) rfl dX8_readCompared_51 (fun q h => M_X6_wantNumber l Γ F irc_0 irc_999 m9 q h) (fun y15 m16 h_y15 => ?_)
        refine zj_if_ne C 59 h_y15 dX8_readCompared_54 rfl (fun c17 => ?_) (fun c17 => ?_)
        · refine zj_iconst C 0 dX8_readCompared_57 ?_
          exact zrt_z C Z (Or.inl rfl) dX8_readCompared_58
        · refine zj_aload_n (j := 0) (i := 0) C rfl 1 rfl dX8_readCompared_59 ?_
          refine zj_bipush C 100 rfl dX8_readCompared_60 ?_
          refine zj_iload_n (j := 3) (i := 3) C rfl 0 rfl dX8_readCompared_62 ?_
          refine zj_iconst C 1 dX8_readCompared_63 ?_
          refine zj_iadd C dX8_readCompared_64 ?_
          refine zj_imul C dX8_readCompared_65 ?_
          refine zj_iload_n (j := 2) (i := 2) C rfl 3 rfl dX8_readCompared_66 ?_
          refine zj_iadd C dX8_readCompared_67 ?_
          refine zj_aload_n (j := 1) (i := 1) C rfl 2 rfl dX8_readCompared_68 ?_
          refine zj_getL C F 7 rfl zk_1 fl_X8_81 rfl dX8_readCompared_69 (fun h18 => ?_)
          refine zj_l2i C h18 dX8_readCompared_72 ?_
          refine zj_callVv C F Z [.int (i32 (w32 ((w32 (100 * (w32 (y14 + 1)))) + x1))), .int (i32 (w32 (m16 1 7)))] [] cal_X8_add calv_X8_add ml_X8_58 h_t0 rfl rfl (by decide) (Nat.le_of_ble_eq_true rfl) rfl dX8_readCompared_73 (fun q h => M_X8_add l Γ F h_t0 (ir_w _) (ir_w _) m16 q h) (fun _ m19 _ => ?_)
          refine zj_iconst C 1 dX8_readCompared_76 ?_
          exact zrt_z C Z (Or.inr rfl) dX8_readCompared_77
    · refine zj_aload_n (j := 1) (i := 1) C rfl 1 rfl dX8_readCompared_37 ?_
      refine zj_getL C F 7 rfl zk_1 fl_X8_81 rfl dX8_readCompared_38 (fun h20 => ?_)
      refine zj_l2i C h20 dX8_readCompared_41 ?_
      refine zj_bipush C 60 rfl dX8_readCompared_42 ?_
      refine zj_isub C dX8_readCompared_44 ?_
      refine zj_pipeI (fun y21 e_y21 => ?_)
      have h_y21 := ir_eq e_y21 (ir_w _)
      refine zj_istore_n (j := 3) (i := 3) C rfl [(3, .int (i32 y21)), (0, .ref (zad Γ t0)), (1, .ref (zad Γ 1)), (2, .int (i32 x1))] dX8_readCompared_45 (by decide) rfl ?_
      refine zj_aload_n (j := 1) (i := 1) C rfl 2 rfl dX8_readCompared_46 ?_
      refine zj_iconst C 0 dX8_readCompared_47 ?_
      refine zj_sipush C 999 rfl dX8_readCompared_48 ?_
      refine zj_callVi C F Z [.int (i32 0), .int (i32 999)] [] cal_X6_wantNumber calv_X6_wantNumber ml_X8_91 zk_1 rfl rfl (by decide) (Nat.le_of_ble_eq_true rfl) rfl dX8_readCompared_51 (fun q h => M_X6_wantNumber l Γ F irc_0 irc_999 m6 q h) (fun y22 m23 h_y22 => ?_)
      refine zj_if_ne C 59 h_y22 dX8_readCompared_54 rfl (fun c24 => ?_) (fun c24 => ?_)
      · refine zj_iconst C 0 dX8_readCompared_57 ?_
        exact zrt_z C Z (Or.inl rfl) dX8_readCompared_58
      · refine zj_aload_n (j := 0) (i := 0) C rfl 1 rfl dX8_readCompared_59 ?_
        refine zj_bipush C 100 rfl dX8_readCompared_60 ?_
        refine zj_iload_n (j := 3) (i := 3) C rfl 0 rfl dX8_readCompared_62 ?_
        refine zj_iconst C 1 dX8_readCompared_63 ?_
        refine zj_iadd C dX8_readCompared_64 ?_
        refine zj_imul C dX8_readCompared_65 ?_
        refine zj_iload_n (j := 2) (i := 2) C rfl 3 rfl dX8_readCompared_66 ?_
        refine zj_iadd C dX8_readCompared_67 ?_
        refine zj_aload_n (j := 1) (i := 1) C rfl 2 rfl dX8_readCompared_68 ?_
        refine zj_getL C F 7 rfl zk_1 fl_X8_81 rfl dX8_readCompared_69 (fun h25 => ?_)
        refine zj_l2i C h25 dX8_readCompared_72 ?_
        refine zj_callVv C F Z [.int (i32 (w32 ((w32 (100 * (w32 (y21 + 1)))) + x1))), .int (i32 (w32 (m23 1 7)))] [] cal_X8_add calv_X8_add ml_X8_58 h_t0 rfl rfl (by decide) (Nat.le_of_ble_eq_true rfl) rfl dX8_readCompared_73 (fun q h => M_X8_add l Γ F h_t0 (ir_w _) (ir_w _) m23 q h) (fun _ m26 _ => ?_)
        refine zj_iconst C 1 dX8_readCompared_76 ?_
        exact zrt_z C Z (Or.inr rfl) dX8_readCompared_77
  · refine zj_aload_n (j := 1) (i := 1) C rfl 1 rfl dX8_readCompared_37 ?_
    refine zj_getL C F 7 rfl zk_1 fl_X8_81 rfl dX8_readCompared_38 (fun h27 => ?_)
    refine zj_l2i C h27 dX8_readCompared_41 ?_
    refine zj_bipush C 60 rfl dX8_readCompared_42 ?_
    refine zj_isub C dX8_readCompared_44 ?_
    refine zj_pipeI (fun y28 e_y28 => ?_)
    have h_y28 := ir_eq e_y28 (ir_w _)
    refine zj_istore_n (j := 3) (i := 3) C rfl [(3, .int (i32 y28)), (0, .ref (zad Γ t0)), (1, .ref (zad Γ 1)), (2, .int (i32 x1))] dX8_readCompared_45 (by decide) rfl ?_
    refine zj_aload_n (j := 1) (i := 1) C rfl 2 rfl dX8_readCompared_46 ?_
    refine zj_iconst C 0 dX8_readCompared_47 ?_
    refine zj_sipush C 999 rfl dX8_readCompared_48 ?_
    refine zj_callVi C F Z [.int (i32 0), .int (i32 999)] [] cal_X6_wantNumber calv_X6_wantNumber ml_X8_91 zk_1 rfl rfl (by decide) (Nat.le_of_ble_eq_true rfl) rfl dX8_readCompared_51 (fun q h => M_X6_wantNumber l Γ F irc_0 irc_999 m3 q h) (fun y29 m30 h_y29 => ?_)
    refine zj_if_ne C 59 h_y29 dX8_readCompared_54 rfl (fun c31 => ?_) (fun c31 => ?_)
    · refine zj_iconst C 0 dX8_readCompared_57 ?_
      exact zrt_z C Z (Or.inl rfl) dX8_readCompared_58
    · refine zj_aload_n (j := 0) (i := 0) C rfl 1 rfl dX8_readCompared_59 ?_
      refine zj_bipush C 100 rfl dX8_readCompared_60 ?_
      refine zj_iload_n (j := 3) (i := 3) C rfl 0 rfl dX8_readCompared_62 ?_
      refine zj_iconst C 1 dX8_readCompared_63 ?_
      refine zj_iadd C dX8_readCompared_64 ?_
      refine zj_imul C dX8_readCompared_65 ?_
      refine zj_iload_n (j := 2) (i := 2) C rfl 3 rfl dX8_readCompared_66 ?_
      refine zj_iadd C dX8_readCompared_67 ?_
      refine zj_aload_n (j := 1) (i := 1) C rfl 2 rfl dX8_readCompared_68 ?_
      refine zj_getL C F 7 rfl zk_1 fl_X8_81 rfl dX8_readCompared_69 (fun h32 => ?_)
      refine zj_l2i C h32 dX8_readCompared_72 ?_
      refine zj_callVv C F Z [.int (i32 (w32 ((w32 (100 * (w32 (y28 + 1)))) + x1))), .int (i32 (w32 (m30 1 7)))] [] cal_X8_add calv_X8_add ml_X8_58 h_t0 rfl rfl (by decide) (Nat.le_of_ble_eq_true rfl) rfl dX8_readCompared_73 (fun q h => M_X8_add l Γ F h_t0 (ir_w _) (ir_w _) m30 q h) (fun _ m33 _ => ?_)
      refine zj_iconst C 1 dX8_readCompared_76 ?_
      exact zrt_z C Z (Or.inr rfl) dX8_readCompared_77
noncomputable def f_X8_isSo (t0 : Nat) (x1 : Int) (x2 : Int) (x3 : Int) (mem : zMem) : Option (Int × zMem) := if ix ((sRf t0 1) + 2) x3 then zbind (f_X3_housesTouching t0 (mem ((sRf t0 1) + 2) x3) mem) fun y3 m4 => if x1 = 16 then (if (zand y3 (zxor (m4 (sRf t0 1) 4) (-1))) = 0 then (some (0, m4)) else (some (1, m4))) else (if x1 = 17 then (if ix ((sRf t0 1) + 3) x3 then if (m4 ((sRf t0 1) + 3) x3) = 0 then (some (1, m4)) else (some (0, m4)) else none) else (if x1 = 18 then (if ix ((sRf t0 1) + 3) x3 then if (m4 ((sRf t0 1) + 3) x3) ≤ 0 then (some (0, m4)) else (some (1, m4)) else none) else (if (zand (zshr y3 x2) 1) = 1 then (some (1, m4)) else (some (0, m4))))) else none
set_option maxHeartbeats 4000000 in
theorem M_X8_isSo (l : Launch) (Γ : zG) (F : zFull Γ)  {t0 : Nat} {x1 : Int} {x2 : Int} {x3 : Int} (h_t0 : zk t0 3) (h_x1 : ir x1) (h_x2 : ir x2) (h_x3 : ir x3) (mem : zMem) (q : Int × zMem) (h : f_X8_isSo t0 x1 x2 x3 mem = some q) : zMet l yX8_isSo cX8_isSo 5 (some .boolean) 4 Γ 1 [.ref (zad Γ t0), .int (i32 x1), .int (i32 x2), .int (i32 x3)] mem q := by
  refine zMet_of (own := "ShadowHeirs$Sentence") (by decide) rfl (Nat.le_of_ble_eq_true rfl) (fun X C Z => ?_)
  revert h
  show zJ X Γ 5 q (f_X8_isSo t0 x1 x2 x3 mem) 0 [(0, .ref (zad Γ t0)), (1, .int (i32 x1)), (2, .int (i32 x2)), (3, .int (i32 x3))] [] mem
  unfold f_X8_isSo
  refine zj_aload_n (j := 0) (i := 0) C rfl 0 rfl dX8_isSo_0 ?_
  refine zj_aload_n (j := 0) (i := 0) C rfl 0 rfl dX8_isSo_1 ?_
  refine zj_getR C F h_t0 fl_X8_119 rfl rfl dX8_isSo_2 ?_
  refine zj_getR C F (zt_3_1 h_t0) fl_X8_123 rfl (rfo_7_1 (zt_3_1 h_t0)) dX8_isSo_5 ?_
  refine zj_iload_n (j := 3) (i := 3) C rfl 3 rfl dX8_isSo_8 ?_
  refine zj_iaload C F (zko_7_1 (zt_3_1 h_t0)) h_x3 dX8_isSo_9 (fun c1 h2 => ?_)
  refine zj_callVi C F Z [.int (i32 (mem ((sRf t0 1) + 2) x3))] [] cal_X3_housesTouching calv_X3_housesTouching ml_X8_128 h_t0 rfl rfl (by decide) (Nat.le_of_ble_eq_true rfl) rfl dX8_isSo_10 (fun q h => M_X3_housesTouching l Γ F h_t0 h2 mem q h) (fun y3 m4 h_y3 => ?_)
  refine zj_istore C [(4, .int (i32 y3)), (0, .ref (zad Γ t0)), (1, .int (i32 x1)), (2, .int (i32 x2)), (3, .int (i32 x3))] dX8_isSo_13 (by decide) rfl ?_
  refine zj_iload_n (j := 1) (i := 1) C rfl 2 rfl dX8_isSo_15 ?_
  refine zj_split (fun c5 => ?_) (fun c5 => ?_)
  · refine zj_tableIn (off := 28) C 16 44 h_x1 c5 dX8_isSo_16 rfl rfl ?_
    refine zj_iload C 0 rfl dX8_isSo_44 ?_
    refine zj_aload_n (j := 0) (i := 0) C rfl 1 rfl dX8_isSo_46 ?_
    refine zj_getR C F h_t0 fl_X8_119 rfl rfl dX8_isSo_47 ?_
    refine zj_getI C F 4 rfl (zt_3_1 h_t0) fl_X8_132 rfl dX8_isSo_50 (fun h6 => ?_)
    refine zj_iconst C (-1) dX8_isSo_53 ?_
    refine zj_ixor C dX8_isSo_54 ?_
    refine zj_iand C dX8_isSo_55 ?_
    refine zj_if_eq C 63 (ir_toInt _) dX8_isSo_56 rfl (fun c7 => ?_) (fun c7 => ?_)
    · refine zj_iconst C 0 dX8_isSo_63 ?_
      exact zrt_z C Z (Or.inl rfl) dX8_isSo_64
    · refine zj_iconst C 1 dX8_isSo_59 ?_
      refine zj_goto (tgt := 64) C dX8_isSo_60 rfl ?_
      exact zrt_z C Z (Or.inr rfl) dX8_isSo_64
  · refine zj_split (fun c8 => ?_) (fun c8 => ?_)
    · refine zj_tableIn (off := 49) C 17 65 h_x1 c8 dX8_isSo_16 rfl rfl ?_
      refine zj_aload_n (j := 0) (i := 0) C rfl 1 rfl dX8_isSo_65 ?_
      refine zj_getR C F h_t0 fl_X8_119 rfl rfl dX8_isSo_66 ?_
      refine zj_getR C F (zt_3_1 h_t0) fl_X8_135 rfl (rfo_7_2 (zt_3_1 h_t0)) dX8_isSo_69 ?_
      refine zj_iload_n (j := 3) (i := 3) C rfl 4 rfl dX8_isSo_72 ?_
      refine zj_iaload C F (zko_7_2 (zt_3_1 h_t0)) h_x3 dX8_isSo_73 (fun c9 h10 => ?_)
      refine zj_if_ne C 81 h10 dX8_isSo_74 rfl (fun c11 => ?_) (fun c11 => ?_)
      · refine zj_iconst C 1 dX8_isSo_77 ?_
        refine zj_goto (tgt := 82) C dX8_isSo_78 rfl ?_
        exact zrt_z C Z (Or.inr rfl) dX8_isSo_82
      · refine zj_iconst C 0 dX8_isSo_81 ?_
        exact zrt_z C Z (Or.inl rfl) dX8_isSo_82
    · refine zj_split (fun c12 => ?_) (fun c12 => ?_)
      · refine zj_tableIn (off := 67) C 18 83 h_x1 c12 dX8_isSo_16 rfl rfl ?_
        refine zj_aload_n (j := 0) (i := 0) C rfl 1 rfl dX8_isSo_83 ?_
        refine zj_getR C F h_t0 fl_X8_119 rfl rfl dX8_isSo_84 ?_
        refine zj_getR C F (zt_3_1 h_t0) fl_X8_135 rfl (rfo_7_2 (zt_3_1 h_t0)) dX8_isSo_87 ?_
        refine zj_iload_n (j := 3) (i := 3) C rfl 4 rfl dX8_isSo_90 ?_
        refine zj_iaload C F (zko_7_2 (zt_3_1 h_t0)) h_x3 dX8_isSo_91 (fun c13 h14 => ?_)
        refine zj_if_le C 99 h14 dX8_isSo_92 rfl (fun c15 => ?_) (fun c15 => ?_)
        · refine zj_iconst C 0 dX8_isSo_99 ?_
          exact zrt_z C Z (Or.inl rfl) dX8_isSo_100
        · refine zj_iconst C 1 dX8_isSo_95 ?_
          refine zj_goto (tgt := 100) C dX8_isSo_96 rfl ?_
          exact zrt_z C Z (Or.inr rfl) dX8_isSo_100
      · refine zj_tableOut C 101 h_x1 dX8_isSo_16 (by omega) rfl ?_
        refine zj_iload C 0 rfl dX8_isSo_101 ?_
        refine zj_iload_n (j := 2) (i := 2) C rfl 3 rfl dX8_isSo_103 ?_
        refine zj_ishr C dX8_isSo_104 ?_
        refine zj_iconst C 1 dX8_isSo_105 ?_
        refine zj_iand C dX8_isSo_106 ?_
        refine zj_iconst C 1 dX8_isSo_107 ?_
        refine zj_icmp_ne C 115 (ir_toInt _) irc_1 dX8_isSo_108 rfl (fun c16 => ?_) (fun c16 => ?_)
        · refine zj_iconst C 1 dX8_isSo_111 ?_
          refine zj_goto (tgt := 116) C dX8_isSo_112 rfl ?_
          exact zrt_z C Z (Or.inr rfl) dX8_isSo_116
        · refine zj_iconst C 0 dX8_isSo_115 ?_
          exact zrt_z C Z (Or.inl rfl) dX8_isSo_116
noncomputable def b_X10_stepsIntoShadow_0 (rec : Int → Int → Int → Int → Int → zMem → Option (Int × zMem)) (v2 : Int) (v3 : Int) (v4 : Int) (v5 : Int) (v6 : Int) (mem : zMem) : Option (Int × zMem) := if v6 > v4 then (some (v5, mem)) else (zbind (f_X10_stepsToShade v2 v3 v6 mem) fun y2 m3 => if y2 = (-1) then (rec v2 v3 v4 v5 (w32 (v6 + 1)) m3) else (if v5 = (-1) then (rec v2 v3 v4 y2 (w32 (v6 + 1)) m3) else (if y2 ≥ v5 then (rec v2 v3 v4 v5 (w32 (v6 + 1)) m3) else (rec v2 v3 v4 y2 (w32 (v6 + 1)) m3))))
noncomputable def f_X10_stepsIntoShadow_0 : Nat → Int → Int → Int → Int → Int → zMem → Option (Int × zMem) := zfuel (fun _ _ _ _ _ _ => none) (b_X10_stepsIntoShadow_0)
set_option maxHeartbeats 4000000 in
theorem L_X10_stepsIntoShadow_0 (l : Launch) {Γ : zG} (F : zFull Γ) {X : zM} {q : Int × zMem} (C : zC X Γ "ShadowHeirs$Walk" cX10_stepsIntoShadow 8) (Z : zRt X l Γ 3 1 (some .int) q) : ∀ n : Nat, ∀ (v2 : Int) (v3 : Int) (v4 : Int) (v5 : Int) (v6 : Int) (h_v2 : ir v2) (h_v3 : ir v3) (h_v4 : ir v4) (h_v5 : ir v5) (h_v6 : ir v6) (mem : zMem), zJ X Γ 8 q (f_X10_stepsIntoShadow_0 n v2 v3 v4 v5 v6 mem) 22 [(0, .ref (zad Γ 97)), (2, .int (i32 v2)), (3, .int (i32 v3)), (4, .int (i32 v4)), (5, .int (i32 v5)), (6, .int (i32 v6))] [] mem := by
  intro n
  induction n with
  | zero => intros; exact zj_none
  | succ n ih =>
    intro v2 v3 v4 v5 v6 h_v2 h_v3 h_v4 h_v5 h_v6 mem
    show zJ X Γ 8 q (b_X10_stepsIntoShadow_0 (f_X10_stepsIntoShadow_0 n) v2 v3 v4 v5 v6 mem) _ _ _ _
    unfold b_X10_stepsIntoShadow_0
    refine zj_iload C 5 rfl dX10_stepsIntoShadow_22 ?_
    refine zj_iload C 3 rfl dX10_stepsIntoShadow_24 ?_
    refine zj_icmp_gt C 68 h_v6 h_v4 dX10_stepsIntoShadow_26 rfl (fun c1 => ?_) (fun c1 => ?_)
    · refine zj_iload C 4 rfl dX10_stepsIntoShadow_68 ?_
      exact zrt_i C Z h_v5 dX10_stepsIntoShadow_70
    · refine zj_aload_n (j := 0) (i := 0) C rfl 0 rfl dX10_stepsIntoShadow_29 ?_
      refine zj_iload_n (j := 2) (i := 2) C rfl 1 rfl dX10_stepsIntoShadow_30 ?_
      refine zj_iload_n (j := 3) (i := 3) C rfl 2 rfl dX10_stepsIntoShadow_31 ?_
      refine zj_iload C 5 rfl dX10_stepsIntoShadow_32 ?_
      refine zj_callVi C F Z [.int (i32 v2), .int (i32 v3), .int (i32 v6)] [] cal_X10_stepsToShade calv_X10_stepsToShade ml_X10_73 zk_97 rfl rfl (by decide) (Nat.le_of_ble_eq_true rfl) rfl dX10_stepsIntoShadow_34 (fun q h => M_X10_stepsToShade l Γ F h_v2 h_v3 h_v6 mem q h) (fun y2 m3 h_y2 => ?_)
      refine zj_istore C [(7, .int (i32 y2)), (0, .ref (zad Γ 97)), (2, .int (i32 v2)), (3, .int (i32 v3)), (4, .int (i32 v4)), (5, .int (i32 v5)), (6, .int (i32 v6))] dX10_stepsIntoShadow_37 (by decide) rfl ?_
      refine zj_iload C 0 rfl dX10_stepsIntoShadow_39 ?_
      refine zj_iconst C (-1) dX10_stepsIntoShadow_41 ?_
      refine zj_icmp_eq C 62 h_y2 irc_m1 dX10_stepsIntoShadow_42 rfl (fun c4 => ?_) (fun c4 => ?_)
      · refine zj_iinc C 6 [(6, .int (i32 (w32 (v6 + 1)))), (7, .int (i32 y2)), (0, .ref (zad Γ 97)), (2, .int (i32 v2)), (3, .int (i32 v3)), (4, .int (i32 v4)), (5, .int (i32 v5))] rfl dX10_stepsIntoShadow_62 (by decide) rfl ?_
        refine zj_goto (tgt := 22) C dX10_stepsIntoShadow_65 rfl ?_
        exact zj_sub [2, 3, 4, 5, 6, 0] rfl (ih v2 v3 v4 v5 (w32 (v6 + 1)) h_v2 h_v3 h_v4 h_v5 (ir_w _) m3)
      · refine zj_iload C 5 rfl dX10_stepsIntoShadow_45 ?_
        refine zj_iconst C (-1) dX10_stepsIntoShadow_47 ?_
        refine zj_icmp_eq C 58 h_v5 irc_m1 dX10_stepsIntoShadow_48 rfl (fun c5 => ?_) (fun c5 => ?_)
        · refine zj_iload C 0 rfl dX10_stepsIntoShadow_58 ?_
          refine zj_istore C [(5, .int (i32 y2)), (7, .int (i32 y2)), (0, .ref (zad Γ 97)), (2, .int (i32 v2)), (3, .int (i32 v3)), (4, .int (i32 v4)), (6, .int (i32 v6))] dX10_stepsIntoShadow_60 (by decide) rfl ?_
          refine zj_iinc C 6 [(6, .int (i32 (w32 (v6 + 1)))), (5, .int (i32 y2)), (7, .int (i32 y2)), (0, .ref (zad Γ 97)), (2, .int (i32 v2)), (3, .int (i32 v3)), (4, .int (i32 v4))] rfl dX10_stepsIntoShadow_62 (by decide) rfl ?_
          refine zj_goto (tgt := 22) C dX10_stepsIntoShadow_65 rfl ?_
          exact zj_sub [3, 4, 5, 6, 1, 0] rfl (ih v2 v3 v4 y2 (w32 (v6 + 1)) h_v2 h_v3 h_v4 h_y2 (ir_w _) m3)
        · refine zj_iload C 0 rfl dX10_stepsIntoShadow_51 ?_
          refine zj_iload C 5 rfl dX10_stepsIntoShadow_53 ?_
          refine zj_icmp_ge C 62 h_y2 h_v5 dX10_stepsIntoShadow_55 rfl (fun c6 => ?_) (fun c6 => ?_)
          · refine zj_iinc C 6 [(6, .int (i32 (w32 (v6 + 1)))), (7, .int (i32 y2)), (0, .ref (zad Γ 97)), (2, .int (i32 v2)), (3, .int (i32 v3)), (4, .int (i32 v4)), (5, .int (i32 v5))] rfl dX10_stepsIntoShadow_62 (by decide) rfl ?_
            refine zj_goto (tgt := 22) C dX10_stepsIntoShadow_65 rfl ?_
            exact zj_sub [2, 3, 4, 5, 6, 0] rfl (ih v2 v3 v4 v5 (w32 (v6 + 1)) h_v2 h_v3 h_v4 h_v5 (ir_w _) m3)
          · refine zj_iload C 0 rfl dX10_stepsIntoShadow_58 ?_
            refine zj_istore C [(5, .int (i32 y2)), (7, .int (i32 y2)), (0, .ref (zad Γ 97)), (2, .int (i32 v2)), (3, .int (i32 v3)), (4, .int (i32 v4)), (6, .int (i32 v6))] dX10_stepsIntoShadow_60 (by decide) rfl ?_
            refine zj_iinc C 6 [(6, .int (i32 (w32 (v6 + 1)))), (5, .int (i32 y2)), (7, .int (i32 y2)), (0, .ref (zad Γ 97)), (2, .int (i32 v2)), (3, .int (i32 v3)), (4, .int (i32 v4))] rfl dX10_stepsIntoShadow_62 (by decide) rfl ?_
            refine zj_goto (tgt := 22) C dX10_stepsIntoShadow_65 rfl ?_
            exact zj_sub [3, 4, 5, 6, 1, 0] rfl (ih v2 v3 v4 y2 (w32 (v6 + 1)) h_v2 h_v3 h_v4 h_y2 (ir_w _) m3)
noncomputable def f_X10_stepsIntoShadow (x0 : Int) (x1 : Int) (x2 : Int) (mem : zMem) : Option (Int × zMem) := zbind (f_X10_spread x0 mem) fun _ m1 => zbind (f_X3_reach 20 x1 x2 m1) fun y2 m3 => f_X10_stepsIntoShadow_0 zN x1 x2 y2 (-1) 1 m3
set_option maxHeartbeats 4000000 in
theorem M_X10_stepsIntoShadow (l : Launch) (Γ : zG) (F : zFull Γ)  {x0 : Int} {x1 : Int} {x2 : Int} (h_x0 : ir x0) (h_x1 : ir x1) (h_x2 : ir x2) (mem : zMem) (q : Int × zMem) (h : f_X10_stepsIntoShadow x0 x1 x2 mem = some q) : zMet l yX10_stepsIntoShadow cX10_stepsIntoShadow 8 (some .int) 3 Γ 1 [.ref (zad Γ 97), .int (i32 x0), .int (i32 x1), .int (i32 x2)] mem q := by
  refine zMet_of (own := "ShadowHeirs$Walk") (by decide) rfl (Nat.le_of_ble_eq_true rfl) (fun X C Z => ?_)
  revert h
  show zJ X Γ 8 q (f_X10_stepsIntoShadow x0 x1 x2 mem) 0 [(0, .ref (zad Γ 97)), (1, .int (i32 x0)), (2, .int (i32 x1)), (3, .int (i32 x2))] [] mem
  unfold f_X10_stepsIntoShadow
  refine zj_aload_n (j := 0) (i := 0) C rfl 0 rfl dX10_stepsIntoShadow_0 ?_
  refine zj_iload_n (j := 1) (i := 1) C rfl 1 rfl dX10_stepsIntoShadow_1 ?_
  refine zj_callVv C F Z [.int (i32 x0)] [] cal_X10_spread calv_X10_spread ml_X10_65 zk_97 rfl rfl (by decide) (Nat.le_of_ble_eq_true rfl) rfl dX10_stepsIntoShadow_2 (fun q h => M_X10_spread l Γ F h_x0 mem q h) (fun _ m1 _ => ?_)
  refine zj_aload_n (j := 0) (i := 0) C rfl 0 rfl dX10_stepsIntoShadow_5 ?_
  refine zj_getR C F zk_97 fl_X10_22 rfl rf_97_0 dX10_stepsIntoShadow_6 ?_
  refine zj_iload_n (j := 2) (i := 2) C rfl 2 rfl dX10_stepsIntoShadow_9 ?_
  refine zj_iload_n (j := 3) (i := 3) C rfl 3 rfl dX10_stepsIntoShadow_10 ?_
  refine zj_callVi C F Z [.int (i32 x1), .int (i32 x2)] [] cal_X3_reach calv_X3_reach ml_X10_69 zk_20 rfl rfl (by decide) (Nat.le_of_ble_eq_true rfl) rfl dX10_stepsIntoShadow_11 (fun q h => M_X3_reach l Γ F zk_20 h_x1 h_x2 m1 q h) (fun y2 m3 h_y2 => ?_)
  refine zj_istore C [(4, .int (i32 y2)), (0, .ref (zad Γ 97)), (1, .int (i32 x0)), (2, .int (i32 x1)), (3, .int (i32 x2))] dX10_stepsIntoShadow_14 (by decide) rfl ?_
  refine zj_iconst C (-1) dX10_stepsIntoShadow_16 ?_
  refine zj_istore C [(5, .int (i32 (-1))), (4, .int (i32 y2)), (0, .ref (zad Γ 97)), (1, .int (i32 x0)), (2, .int (i32 x1)), (3, .int (i32 x2))] dX10_stepsIntoShadow_17 (by decide) rfl ?_
  refine zj_iconst C 1 dX10_stepsIntoShadow_19 ?_
  refine zj_istore C [(6, .int (i32 1)), (5, .int (i32 (-1))), (4, .int (i32 y2)), (0, .ref (zad Γ 97)), (1, .int (i32 x0)), (2, .int (i32 x1)), (3, .int (i32 x2))] dX10_stepsIntoShadow_20 (by decide) rfl ?_
  exact zj_sub [3, 5, 6, 2, 1, 0] rfl ((L_X10_stepsIntoShadow_0 l F C Z zN) x1 x2 y2 (-1) 1 h_x1 h_x2 h_y2 irc_m1 irc_1 m3)
noncomputable def b_X10_cellsWithin_0 (rec : Int → Int → Int → Int → Int → Int → zMem → Option (Int × zMem)) (v2 : Int) (v3 : Int) (v4 : Int) (v5 : Int) (v6 : Int) (v7 : Int) (mem : zMem) : Option (Int × zMem) := if v7 > v5 then (some (v6, mem)) else (zbind (f_X10_stepsToShade v2 v3 v7 mem) fun y2 m3 => if y2 = (-1) then (rec v2 v3 v4 v5 v6 (w32 (v7 + 1)) m3) else (if y2 > v4 then (rec v2 v3 v4 v5 v6 (w32 (v7 + 1)) m3) else (pipe (zor v6 (zshl 1 (w32 (v7 - 1)))) fun y6 => rec v2 v3 v4 v5 y6 (w32 (v7 + 1)) m3)))
noncomputable def f_X10_cellsWithin_0 : Nat → Int → Int → Int → Int → Int → Int → zMem → Option (Int × zMem) := zfuel (fun _ _ _ _ _ _ _ => none) (b_X10_cellsWithin_0)
set_option maxHeartbeats 4000000 in
theorem L_X10_cellsWithin_0 (l : Launch) {Γ : zG} (F : zFull Γ) {X : zM} {q : Int × zMem} (C : zC X Γ "ShadowHeirs$Walk" cX10_cellsWithin 9) (Z : zRt X l Γ 3 1 (some .int) q) : ∀ n : Nat, ∀ (v2 : Int) (v3 : Int) (v4 : Int) (v5 : Int) (v6 : Int) (v7 : Int) (h_v2 : ir v2) (h_v3 : ir v3) (h_v4 : ir v4) (h_v5 : ir v5) (h_v6 : ir v6) (h_v7 : ir v7) (mem : zMem), zJ X Γ 9 q (f_X10_cellsWithin_0 n v2 v3 v4 v5 v6 v7 mem) 22 [(0, .ref (zad Γ 97)), (2, .int (i32 v2)), (3, .int (i32 v3)), (4, .int (i32 v4)), (5, .int (i32 v5)), (6, .int (i32 v6)), (7, .int (i32 v7))] [] mem := by
  intro n
  induction n with
  | zero => intros; exact zj_none
  | succ n ih =>
    intro v2 v3 v4 v5 v6 v7 h_v2 h_v3 h_v4 h_v5 h_v6 h_v7 mem
    show zJ X Γ 9 q (b_X10_cellsWithin_0 (f_X10_cellsWithin_0 n) v2 v3 v4 v5 v6 v7 mem) _ _ _ _
    unfold b_X10_cellsWithin_0
    refine zj_iload C 6 rfl dX10_cellsWithin_22 ?_
    refine zj_iload C 4 rfl dX10_cellsWithin_24 ?_
    refine zj_icmp_gt C 69 h_v7 h_v5 dX10_cellsWithin_26 rfl (fun c1 => ?_) (fun c1 => ?_)
    · refine zj_iload C 5 rfl dX10_cellsWithin_69 ?_
      exact zrt_i C Z h_v6 dX10_cellsWithin_71
    · refine zj_aload_n (j := 0) (i := 0) C rfl 0 rfl dX10_cellsWithin_29 ?_
      refine zj_iload_n (j := 2) (i := 2) C rfl 1 rfl dX10_cellsWithin_30 ?_
      refine zj_iload_n (j := 3) (i := 3) C rfl 2 rfl dX10_cellsWithin_31 ?_
      refine zj_iload C 6 rfl dX10_cellsWithin_32 ?_
      refine zj_callVi C F Z [.int (i32 v2), .int (i32 v3), .int (i32 v7)] [] cal_X10_stepsToShade calv_X10_stepsToShade ml_X10_73 zk_97 rfl rfl (by decide) (Nat.le_of_ble_eq_true rfl) rfl dX10_cellsWithin_34 (fun q h => M_X10_stepsToShade l Γ F h_v2 h_v3 h_v7 mem q h) (fun y2 m3 h_y2 => ?_)
      refine zj_istore C [(8, .int (i32 y2)), (0, .ref (zad Γ 97)), (2, .int (i32 v2)), (3, .int (i32 v3)), (4, .int (i32 v4)), (5, .int (i32 v5)), (6, .int (i32 v6)), (7, .int (i32 v7))] dX10_cellsWithin_37 (by decide) rfl ?_
      refine zj_iload C 0 rfl dX10_cellsWithin_39 ?_
      refine zj_iconst C (-1) dX10_cellsWithin_41 ?_
      refine zj_icmp_eq C 63 h_y2 irc_m1 dX10_cellsWithin_42 rfl (fun c4 => ?_) (fun c4 => ?_)
      · refine zj_iinc C 7 [(7, .int (i32 (w32 (v7 + 1)))), (8, .int (i32 y2)), (0, .ref (zad Γ 97)), (2, .int (i32 v2)), (3, .int (i32 v3)), (4, .int (i32 v4)), (5, .int (i32 v5)), (6, .int (i32 v6))] rfl dX10_cellsWithin_63 (by decide) rfl ?_
        refine zj_goto (tgt := 22) C dX10_cellsWithin_66 rfl ?_
        exact zj_sub [2, 3, 4, 5, 6, 7, 0] rfl (ih v2 v3 v4 v5 v6 (w32 (v7 + 1)) h_v2 h_v3 h_v4 h_v5 h_v6 (ir_w _) m3)
      · refine zj_iload C 0 rfl dX10_cellsWithin_45 ?_
        refine zj_iload C 4 rfl dX10_cellsWithin_47 ?_
        refine zj_icmp_gt C 63 h_y2 h_v4 dX10_cellsWithin_49 rfl (fun c5 => ?_) (fun c5 => ?_)
        · refine zj_iinc C 7 [(7, .int (i32 (w32 (v7 + 1)))), (8, .int (i32 y2)), (0, .ref (zad Γ 97)), (2, .int (i32 v2)), (3, .int (i32 v3)), (4, .int (i32 v4)), (5, .int (i32 v5)), (6, .int (i32 v6))] rfl dX10_cellsWithin_63 (by decide) rfl ?_
          refine zj_goto (tgt := 22) C dX10_cellsWithin_66 rfl ?_
          exact zj_sub [2, 3, 4, 5, 6, 7, 0] rfl (ih v2 v3 v4 v5 v6 (w32 (v7 + 1)) h_v2 h_v3 h_v4 h_v5 h_v6 (ir_w _) m3)
        · refine zj_iload C 6 rfl dX10_cellsWithin_52 ?_
          refine zj_iconst C 1 dX10_cellsWithin_54 ?_
          refine zj_iload C 7 rfl dX10_cellsWithin_55 ?_
          refine zj_iconst C 1 dX10_cellsWithin_57 ?_
          refine zj_isub C dX10_cellsWithin_58 ?_
          refine zj_ishl C dX10_cellsWithin_59 ?_
          refine zj_ior C dX10_cellsWithin_60 ?_
          refine zj_pipeI (fun y6 e_y6 => ?_)
          have h_y6 := ir_eq e_y6 (ir_toInt _)
          refine zj_istore C [(6, .int (i32 y6)), (8, .int (i32 y2)), (0, .ref (zad Γ 97)), (2, .int (i32 v2)), (3, .int (i32 v3)), (4, .int (i32 v4)), (5, .int (i32 v5)), (7, .int (i32 v7))] dX10_cellsWithin_61 (by decide) rfl ?_
          refine zj_iinc C 7 [(7, .int (i32 (w32 (v7 + 1)))), (6, .int (i32 y6)), (8, .int (i32 y2)), (0, .ref (zad Γ 97)), (2, .int (i32 v2)), (3, .int (i32 v3)), (4, .int (i32 v4)), (5, .int (i32 v5))] rfl dX10_cellsWithin_63 (by decide) rfl ?_
          refine zj_goto (tgt := 22) C dX10_cellsWithin_66 rfl ?_
          exact zj_sub [3, 4, 5, 6, 7, 1, 0] rfl (ih v2 v3 v4 v5 y6 (w32 (v7 + 1)) h_v2 h_v3 h_v4 h_v5 h_y6 (ir_w _) m3)
noncomputable def f_X10_cellsWithin (x0 : Int) (x1 : Int) (x2 : Int) (x3 : Int) (mem : zMem) : Option (Int × zMem) := zbind (f_X10_spread x0 mem) fun _ m1 => zbind (f_X3_reach 20 x1 x2 m1) fun y2 m3 => f_X10_cellsWithin_0 zN x1 x2 x3 y2 0 1 m3
set_option maxHeartbeats 4000000 in
theorem M_X10_cellsWithin (l : Launch) (Γ : zG) (F : zFull Γ)  {x0 : Int} {x1 : Int} {x2 : Int} {x3 : Int} (h_x0 : ir x0) (h_x1 : ir x1) (h_x2 : ir x2) (h_x3 : ir x3) (mem : zMem) (q : Int × zMem) (h : f_X10_cellsWithin x0 x1 x2 x3 mem = some q) : zMet l yX10_cellsWithin cX10_cellsWithin 9 (some .int) 3 Γ 1 [.ref (zad Γ 97), .int (i32 x0), .int (i32 x1), .int (i32 x2), .int (i32 x3)] mem q := by
  refine zMet_of (own := "ShadowHeirs$Walk") (by decide) rfl (Nat.le_of_ble_eq_true rfl) (fun X C Z => ?_)
  revert h
  show zJ X Γ 9 q (f_X10_cellsWithin x0 x1 x2 x3 mem) 0 [(0, .ref (zad Γ 97)), (1, .int (i32 x0)), (2, .int (i32 x1)), (3, .int (i32 x2)), (4, .int (i32 x3))] [] mem
  unfold f_X10_cellsWithin
  refine zj_aload_n (j := 0) (i := 0) C rfl 0 rfl dX10_cellsWithin_0 ?_
  refine zj_iload_n (j := 1) (i := 1) C rfl 1 rfl dX10_cellsWithin_1 ?_
  refine zj_callVv C F Z [.int (i32 x0)] [] cal_X10_spread calv_X10_spread ml_X10_65 zk_97 rfl rfl (by decide) (Nat.le_of_ble_eq_true rfl) rfl dX10_cellsWithin_2 (fun q h => M_X10_spread l Γ F h_x0 mem q h) (fun _ m1 _ => ?_)
  refine zj_aload_n (j := 0) (i := 0) C rfl 0 rfl dX10_cellsWithin_5 ?_
  refine zj_getR C F zk_97 fl_X10_22 rfl rf_97_0 dX10_cellsWithin_6 ?_
  refine zj_iload_n (j := 2) (i := 2) C rfl 2 rfl dX10_cellsWithin_9 ?_
  refine zj_iload_n (j := 3) (i := 3) C rfl 3 rfl dX10_cellsWithin_10 ?_
  refine zj_callVi C F Z [.int (i32 x1), .int (i32 x2)] [] cal_X3_reach calv_X3_reach ml_X10_69 zk_20 rfl rfl (by decide) (Nat.le_of_ble_eq_true rfl) rfl dX10_cellsWithin_11 (fun q h => M_X3_reach l Γ F zk_20 h_x1 h_x2 m1 q h) (fun y2 m3 h_y2 => ?_)
  refine zj_istore C [(5, .int (i32 y2)), (0, .ref (zad Γ 97)), (1, .int (i32 x0)), (2, .int (i32 x1)), (3, .int (i32 x2)), (4, .int (i32 x3))] dX10_cellsWithin_14 (by decide) rfl ?_
  refine zj_iconst C 0 dX10_cellsWithin_16 ?_
  refine zj_istore C [(6, .int (i32 0)), (5, .int (i32 y2)), (0, .ref (zad Γ 97)), (1, .int (i32 x0)), (2, .int (i32 x1)), (3, .int (i32 x2)), (4, .int (i32 x3))] dX10_cellsWithin_17 (by decide) rfl ?_
  refine zj_iconst C 1 dX10_cellsWithin_19 ?_
  refine zj_istore C [(7, .int (i32 1)), (6, .int (i32 0)), (5, .int (i32 y2)), (0, .ref (zad Γ 97)), (1, .int (i32 x0)), (2, .int (i32 x1)), (3, .int (i32 x2)), (4, .int (i32 x3))] dX10_cellsWithin_20 (by decide) rfl ?_
  exact zj_sub [3, 5, 6, 7, 2, 1, 0] rfl ((L_X10_cellsWithin_0 l F C Z zN) x1 x2 x3 y2 0 1 h_x1 h_x2 h_x3 h_y2 irc_0 irc_1 m3)
def HS_cond (l : Launch) (Γ : zG) (d : Nat) (self : Nat → Nat → Nat → Int → zMem → Option (Int × zMem)) : Prop := (∀ (t0 : Nat) (t1 : Nat) (x2 : Int) (h_t0 : zk t0 8) (h_t1 : zk t1 5) (h_x2 : ir x2) (mem : zMem) (q : Int × zMem), self 0 t0 t1 x2 mem = some q → zMet l yX8_readCond cX8_readCond 6 (some .boolean) (4 + d) Γ 1 [.ref (zad Γ t0), .ref (zad Γ 1), .ref (zad Γ t1), .int (i32 x2)] mem q) ∧ (∀ (t0 : Nat) (t1 : Nat) (x2 : Int) (h_t0 : zk t0 8) (h_t1 : zk t1 5) (h_x2 : ir x2) (mem : zMem) (q : Int × zMem), self 1 t0 t1 x2 mem = some q → zMet l yX8_readOne cX8_readOne 7 (some .boolean) (4 + d) Γ 1 [.ref (zad Γ t0), .ref (zad Γ 1), .ref (zad Γ t1), .int (i32 x2)] mem q)
noncomputable def b_X8_readCond_0 (self : Nat → Nat → Nat → Int → zMem → Option (Int × zMem)) (rec : Nat → Nat → Nat → Int → Int → Int → zMem → Option (Int × zMem)) (tag : Nat) (r0 : Nat) (r2 : Nat) (v3 : Int) (v4 : Int) (v5 : Int) (mem : zMem) : Option (Int × zMem) := match tag with
  | 0 => if v4 > 20 then (some (1, mem)) else (rec 1 r0 r2 v3 v4 0 mem)
  | _ => if v5 > 20 then (if v4 ≤ 0 then (if (mem 1 8) = 13 then (zbind (f_X6_step mem) fun _ m1005 => rec 0 r0 r2 v3 (w32 (v4 + 1)) 0 m1005) else (some (1, mem))) else (zbind (f_X8_add r0 13 0 mem) fun _ m1006 => if (m1006 1 8) = 13 then (zbind (f_X6_step m1006) fun _ m1009 => rec 0 r0 r2 v3 (w32 (v4 + 1)) 0 m1009) else (some (1, m1006)))) else (zbind (self 1 r0 r2 v3 mem) fun y1010 m1011 => if y1010 = 0 then (some (0, m1011)) else (if v5 ≤ 0 then (if (m1011 1 8) = 14 then (zbind (f_X6_step m1011) fun _ m1016 => rec 1 r0 r2 v3 v4 (w32 (v5 + 1)) m1016) else (if v4 ≤ 0 then (if (m1011 1 8) = 13 then (zbind (f_X6_step m1011) fun _ m1020 => rec 0 r0 r2 v3 (w32 (v4 + 1)) 0 m1020) else (some (1, m1011))) else (zbind (f_X8_add r0 13 0 m1011) fun _ m1021 => if (m1021 1 8) = 13 then (zbind (f_X6_step m1021) fun _ m1024 => rec 0 r0 r2 v3 (w32 (v4 + 1)) 0 m1024) else (some (1, m1021))))) else (zbind (f_X8_add r0 14 0 m1011) fun _ m1025 => if (m1025 1 8) = 14 then (zbind (f_X6_step m1025) fun _ m1028 => rec 1 r0 r2 v3 v4 (w32 (v5 + 1)) m1028) else (if v4 ≤ 0 then (if (m1025 1 8) = 13 then (zbind (f_X6_step m1025) fun _ m1032 => rec 0 r0 r2 v3 (w32 (v4 + 1)) 0 m1032) else (some (1, m1025))) else (zbind (f_X8_add r0 13 0 m1025) fun _ m1033 => if (m1033 1 8) = 13 then (zbind (f_X6_step m1033) fun _ m1036 => rec 0 r0 r2 v3 (w32 (v4 + 1)) 0 m1036) else (some (1, m1033)))))))
noncomputable def f_X8_readCond_0 (self : Nat → Nat → Nat → Int → zMem → Option (Int × zMem)) : Nat → Nat → Nat → Nat → Int → Int → Int → zMem → Option (Int × zMem) := zfuel (fun _ _ _ _ _ _ _ => none) (b_X8_readCond_0 self)
set_option maxHeartbeats 4000000 in
theorem L_X8_readCond_0 (l : Launch) {Γ : zG} {d : Nat} {self : Nat → Nat → Nat → Int → zMem → Option (Int × zMem)} (F : zFull Γ) {X : zM} {q : Int × zMem} (C : zC X Γ "ShadowHeirs$Sentence" cX8_readCond 6) (Z : zRt X l Γ (4 + (d + 1)) 1 (some .boolean) q) (hs : HS_cond l Γ d self) : ∀ n : Nat, (∀ (r0 : Nat) (r2 : Nat) (v3 : Int) (v4 : Int) (v5 : Int) (h_r0 : zk r0 8) (h_r2 : zk r2 5) (h_v3 : ir v3) (h_v4 : ir v4) (mem : zMem), zJ X Γ 6 q (f_X8_readCond_0 self n 0 r0 r2 v3 v4 v5 mem) 3 [(0, .ref (zad Γ r0)), (1, .ref (zad Γ 1)), (2, .ref (zad Γ r2)), (3, .int (i32 v3)), (4, .int (i32 v4))] [] mem) ∧ (∀ (r0 : Nat) (r2 : Nat) (v3 : Int) (v4 : Int) (v5 : Int) (h_r0 : zk r0 8) (h_r2 : zk r2 5) (h_v3 : ir v3) (h_v4 : ir v4) (h_v5 : ir v5) (mem : zMem), zJ X Γ 6 q (f_X8_readCond_0 self n 1 r0 r2 v3 v4 v5 mem) 13 [(0, .ref (zad Γ r0)), (1, .ref (zad Γ 1)), (2, .ref (zad Γ r2)), (3, .int (i32 v3)), (4, .int (i32 v4)), (5, .int (i32 v5))] [] mem) := by
  intro n
  induction n with
  | zero => exact ⟨(by intros; exact zj_none), (by intros; exact zj_none)⟩
  | succ n ih =>
    refine ⟨?_, ?_⟩
    · intro r0 r2 v3 v4 v5 h_r0 h_r2 h_v3 h_v4 mem
      show zJ X Γ 6 q (b_X8_readCond_0 self (f_X8_readCond_0 self n) 0 r0 r2 v3 v4 v5 mem) _ _ _ _
      unfold b_X8_readCond_0
      refine zj_iload C 4 rfl dX8_readCond_3 ?_
      refine zj_bipush C 20 rfl dX8_readCond_5 ?_
      refine zj_icmp_gt C 100 h_v4 irc_20 dX8_readCond_7 rfl (fun c1 => ?_) (fun c1 => ?_)
      · refine zj_iconst C 1 dX8_readCond_100 ?_
        exact zrt_z C Z (Or.inr rfl) dX8_readCond_101
      · refine zj_iconst C 0 dX8_readCond_10 ?_
        refine zj_istore C [(5, .int (i32 0)), (0, .ref (zad Γ r0)), (1, .ref (zad Γ 1)), (2, .ref (zad Γ r2)), (3, .int (i32 v3)), (4, .int (i32 v4))] dX8_readCond_11 (by decide) rfl ?_
        exact zj_sub [1, 2, 3, 4, 5, 0] rfl (ih.2 r0 r2 v3 v4 0 h_r0 h_r2 h_v3 h_v4 irc_0 mem)
    · intro r0 r2 v3 v4 v5 h_r0 h_r2 h_v3 h_v4 h_v5 mem
      show zJ X Γ 6 q (b_X8_readCond_0 self (f_X8_readCond_0 self n) 1 r0 r2 v3 v4 v5 mem) _ _ _ _
      unfold b_X8_readCond_0
      refine zj_iload C 5 rfl dX8_readCond_13 ?_
      refine zj_bipush C 20 rfl dX8_readCond_15 ?_
      refine zj_icmp_gt C 66 h_v5 irc_20 dX8_readCond_17 rfl (fun c1001 => ?_) (fun c1001 => ?_)
      · refine zj_iload C 4 rfl dX8_readCond_66 ?_
        refine zj_if_le C 78 h_v4 dX8_readCond_68 rfl (fun c1002 => ?_) (fun c1002 => ?_)
        · refine zj_aload_n (j := 1) (i := 1) C rfl 1 rfl dX8_readCond_78 ?_
          refine zj_getI C F 8 rfl zk_1 fl_X8_62 rfl dX8_readCond_79 (fun h1003 => ?_)
          refine zj_bipush C 13 rfl dX8_readCond_82 ?_
          refine zj_icmp_eq C 90 h1003 irc_13 dX8_readCond_84 rfl (fun c1004 => ?_) (fun c1004 => ?_)
          · refine zj_aload_n (j := 1) (i := 1) C rfl 1 rfl dX8_readCond_90 ?_
            refine zj_callVv C F Z [] [] cal_X6_step calv_X6_step ml_X8_41 zk_1 rfl rfl (by omega) (Nat.le_of_ble_eq_true rfl) rfl dX8_readCond_91 (fun q h => M_X6_step l Γ F  mem q h) (fun _ m1005 _ => ?_)
            refine zj_iinc C 4 [(4, .int (i32 (w32 (v4 + 1)))), (0, .ref (zad Γ r0)), (1, .ref (zad Γ 1)), (2, .ref (zad Γ r2)), (3, .int (i32 v3)), (5, .int (i32 v5))] rfl dX8_readCond_94 (by decide) rfl ?_
            refine zj_goto (tgt := 3) C dX8_readCond_97 rfl ?_
            exact zj_sub [1, 2, 3, 4, 0] rfl (ih.1 r0 r2 v3 (w32 (v4 + 1)) 0 h_r0 h_r2 h_v3 (ir_w _) m1005)
          · refine zj_goto (tgt := 100) C dX8_readCond_87 rfl ?_
            refine zj_iconst C 1 dX8_readCond_100 ?_
            exact zrt_z C Z (Or.inr rfl) dX8_readCond_101
        · refine zj_aload_n (j := 0) (i := 0) C rfl 0 rfl dX8_readCond_71 ?_
          refine zj_bipush C 13 rfl dX8_readCond_72 ?_
          refine zj_iconst C 0 dX8_readCond_74 ?_
          refine zj_callVv C F Z [.int (i32 13), .int (i32 0)] [] cal_X8_add calv_X8_add ml_X8_58 h_r0 rfl rfl (by omega) (Nat.le_of_ble_eq_true rfl) rfl dX8_readCond_75 (fun q h => M_X8_add l Γ F h_r0 irc_13 irc_0 mem q h) (fun _ m1006 _ => ?_)
          refine zj_aload_n (j := 1) (i := 1) C rfl 1 rfl dX8_readCond_78 ?_
          refine zj_getI C F 8 rfl zk_1 fl_X8_62 rfl dX8_readCond_79 (fun h1007 => ?_)
          refine zj_bipush C 13 rfl dX8_readCond_82 ?_
          refine zj_icmp_eq C 90 h1007 irc_13 dX8_readCond_84 rfl (fun c1008 => ?_) (fun c1008 => ?_)
          · refine zj_aload_n (j := 1) (i := 1) C rfl 1 rfl dX8_readCond_90 ?_
            refine zj_callVv C F Z [] [] cal_X6_step calv_X6_step ml_X8_41 zk_1 rfl rfl (by omega) (Nat.le_of_ble_eq_true rfl) rfl dX8_readCond_91 (fun q h => M_X6_step l Γ F  m1006 q h) (fun _ m1009 _ => ?_)
            refine zj_iinc C 4 [(4, .int (i32 (w32 (v4 + 1)))), (0, .ref (zad Γ r0)), (1, .ref (zad Γ 1)), (2, .ref (zad Γ r2)), (3, .int (i32 v3)), (5, .int (i32 v5))] rfl dX8_readCond_94 (by decide) rfl ?_
            refine zj_goto (tgt := 3) C dX8_readCond_97 rfl ?_
            exact zj_sub [1, 2, 3, 4, 0] rfl (ih.1 r0 r2 v3 (w32 (v4 + 1)) 0 h_r0 h_r2 h_v3 (ir_w _) m1009)
          · refine zj_goto (tgt := 100) C dX8_readCond_87 rfl ?_
            refine zj_iconst C 1 dX8_readCond_100 ?_
            exact zrt_z C Z (Or.inr rfl) dX8_readCond_101
      · refine zj_aload_n (j := 0) (i := 0) C rfl 0 rfl dX8_readCond_20 ?_
        refine zj_aload_n (j := 1) (i := 1) C rfl 1 rfl dX8_readCond_21 ?_
        refine zj_aload_n (j := 2) (i := 2) C rfl 2 rfl dX8_readCond_22 ?_
        refine zj_iload_n (j := 3) (i := 3) C rfl 3 rfl dX8_readCond_23 ?_
        refine zj_callVi C F Z [.ref (zad Γ 1), .ref (zad Γ r2), .int (i32 v3)] [] cal_X8_readOne calv_X8_readOne ml_X8_55 h_r0 rfl rfl (by omega) (Nat.le_of_ble_eq_true rfl) rfl dX8_readCond_24 (fun q h => hs.2 r0 r2 v3 h_r0 h_r2 h_v3 mem q h) (fun y1010 m1011 h_y1010 => ?_)
        refine zj_if_ne C 32 h_y1010 dX8_readCond_27 rfl (fun c1012 => ?_) (fun c1012 => ?_)
        · refine zj_iconst C 0 dX8_readCond_30 ?_
          exact zrt_z C Z (Or.inl rfl) dX8_readCond_31
        · refine zj_iload C 5 rfl dX8_readCond_32 ?_
          refine zj_if_le C 44 h_v5 dX8_readCond_34 rfl (fun c1013 => ?_) (fun c1013 => ?_)
          · refine zj_aload_n (j := 1) (i := 1) C rfl 1 rfl dX8_readCond_44 ?_
            refine zj_getI C F 8 rfl zk_1 fl_X8_62 rfl dX8_readCond_45 (fun h1014 => ?_)
            refine zj_bipush C 14 rfl dX8_readCond_48 ?_
            refine zj_icmp_eq C 56 h1014 irc_14 dX8_readCond_50 rfl (fun c1015 => ?_) (fun c1015 => ?_)
            · refine zj_aload_n (j := 1) (i := 1) C rfl 1 rfl dX8_readCond_56 ?_
              refine zj_callVv C F Z [] [] cal_X6_step calv_X6_step ml_X8_41 zk_1 rfl rfl (by omega) (Nat.le_of_ble_eq_true rfl) rfl dX8_readCond_57 (fun q h => M_X6_step l Γ F  m1011 q h) (fun _ m1016 _ => ?_)
              refine zj_iinc C 5 [(5, .int (i32 (w32 (v5 + 1)))), (0, .ref (zad Γ r0)), (1, .ref (zad Γ 1)), (2, .ref (zad Γ r2)), (3, .int (i32 v3)), (4, .int (i32 v4))] rfl dX8_readCond_60 (by decide) rfl ?_
              refine zj_goto (tgt := 13) C dX8_readCond_63 rfl ?_
              exact zj_sub [1, 2, 3, 4, 5, 0] rfl (ih.2 r0 r2 v3 v4 (w32 (v5 + 1)) h_r0 h_r2 h_v3 h_v4 (ir_w _) m1016)
            · refine zj_goto (tgt := 66) C dX8_readCond_53 rfl ?_
              refine zj_iload C 4 rfl dX8_readCond_66 ?_
              refine zj_if_le C 78 h_v4 dX8_readCond_68 rfl (fun c1017 => ?_) (fun c1017 => ?_)
              · refine zj_aload_n (j := 1) (i := 1) C rfl 1 rfl dX8_readCond_78 ?_
                refine zj_getI C F 8 rfl zk_1 fl_X8_62 rfl dX8_readCond_79 (fun h1018 => ?_)
                refine zj_bipush C 13 rfl dX8_readCond_82 ?_
                refine zj_icmp_eq C 90 h1018 irc_13 dX8_readCond_84 rfl (fun c1019 => ?_) (fun c1019 => ?_)
                · refine zj_aload_n (j := 1) (i := 1) C rfl 1 rfl dX8_readCond_90 ?_
                  refine zj_callVv C F Z [] [] cal_X6_step calv_X6_step ml_X8_41 zk_1 rfl rfl (by omega) (Nat.le_of_ble_eq_true rfl) rfl dX8_readCond_91 (fun q h => M_X6_step l Γ F  m1011 q h) (fun _ m1020 _ => ?_)
                  refine zj_iinc C 4 [(4, .int (i32 (w32 (v4 + 1)))), (0, .ref (zad Γ r0)), (1, .ref (zad Γ 1)), (2, .ref (zad Γ r2)), (3, .int (i32 v3)), (5, .int (i32 v5))] rfl dX8_readCond_94 (by decide) rfl ?_
                  refine zj_goto (tgt := 3) C dX8_readCond_97 rfl ?_
                  exact zj_sub [1, 2, 3, 4, 0] rfl (ih.1 r0 r2 v3 (w32 (v4 + 1)) 0 h_r0 h_r2 h_v3 (ir_w _) m1020)
                · refine zj_goto (tgt := 100) C dX8_readCond_87 rfl ?_
                  refine zj_iconst C 1 dX8_readCond_100 ?_
                  exact zrt_z C Z (Or.inr rfl) dX8_readCond_101
              · refine zj_aload_n (j := 0) (i := 0) C rfl 0 rfl dX8_readCond_71 ?_
                refine zj_bipush C 13 rfl dX8_readCond_72 ?_
                refine zj_iconst C 0 dX8_readCond_74 ?_
                refine zj_callVv C F Z [.int (i32 13), .int (i32 0)] [] cal_X8_add calv_X8_add ml_X8_58 h_r0 rfl rfl (by omega) (Nat.le_of_ble_eq_true rfl) rfl dX8_readCond_75 (fun q h => M_X8_add l Γ F h_r0 irc_13 irc_0 m1011 q h) (fun _ m1021 _ => ?_)
                refine zj_aload_n (j := 1) (i := 1) C rfl 1 rfl dX8_readCond_78 ?_
                refine zj_getI C F 8 rfl zk_1 fl_X8_62 rfl dX8_readCond_79 (fun h1022 => ?_)
                refine zj_bipush C 13 rfl dX8_readCond_82 ?_
                refine zj_icmp_eq C 90 h1022 irc_13 dX8_readCond_84 rfl (fun c1023 => ?_) (fun c1023 => ?_)
                · refine zj_aload_n (j := 1) (i := 1) C rfl 1 rfl dX8_readCond_90 ?_
                  refine zj_callVv C F Z [] [] cal_X6_step calv_X6_step ml_X8_41 zk_1 rfl rfl (by omega) (Nat.le_of_ble_eq_true rfl) rfl dX8_readCond_91 (fun q h => M_X6_step l Γ F  m1021 q h) (fun _ m1024 _ => ?_)
                  refine zj_iinc C 4 [(4, .int (i32 (w32 (v4 + 1)))), (0, .ref (zad Γ r0)), (1, .ref (zad Γ 1)), (2, .ref (zad Γ r2)), (3, .int (i32 v3)), (5, .int (i32 v5))] rfl dX8_readCond_94 (by decide) rfl ?_
                  refine zj_goto (tgt := 3) C dX8_readCond_97 rfl ?_
                  exact zj_sub [1, 2, 3, 4, 0] rfl (ih.1 r0 r2 v3 (w32 (v4 + 1)) 0 h_r0 h_r2 h_v3 (ir_w _) m1024)
                · refine zj_goto (tgt := 100) C dX8_readCond_87 rfl ?_
                  refine zj_iconst C 1 dX8_readCond_100 ?_
                  exact zrt_z C Z (Or.inr rfl) dX8_readCond_101
          · refine zj_aload_n (j := 0) (i := 0) C rfl 0 rfl dX8_readCond_37 ?_
            refine zj_bipush C 14 rfl dX8_readCond_38 ?_
            refine zj_iconst C 0 dX8_readCond_40 ?_
            refine zj_callVv C F Z [.int (i32 14), .int (i32 0)] [] cal_X8_add calv_X8_add ml_X8_58 h_r0 rfl rfl (by omega) (Nat.le_of_ble_eq_true rfl) rfl dX8_readCond_41 (fun q h => M_X8_add l Γ F h_r0 irc_14 irc_0 m1011 q h) (fun _ m1025 _ => ?_)
            refine zj_aload_n (j := 1) (i := 1) C rfl 1 rfl dX8_readCond_44 ?_
            refine zj_getI C F 8 rfl zk_1 fl_X8_62 rfl dX8_readCond_45 (fun h1026 => ?_)
            refine zj_bipush C 14 rfl dX8_readCond_48 ?_
            refine zj_icmp_eq C 56 h1026 irc_14 dX8_readCond_50 rfl (fun c1027 => ?_) (fun c1027 => ?_)
            · refine zj_aload_n (j := 1) (i := 1) C rfl 1 rfl dX8_readCond_56 ?_
              refine zj_callVv C F Z [] [] cal_X6_step calv_X6_step ml_X8_41 zk_1 rfl rfl (by omega) (Nat.le_of_ble_eq_true rfl) rfl dX8_readCond_57 (fun q h => M_X6_step l Γ F  m1025 q h) (fun _ m1028 _ => ?_)
              refine zj_iinc C 5 [(5, .int (i32 (w32 (v5 + 1)))), (0, .ref (zad Γ r0)), (1, .ref (zad Γ 1)), (2, .ref (zad Γ r2)), (3, .int (i32 v3)), (4, .int (i32 v4))] rfl dX8_readCond_60 (by decide) rfl ?_
              refine zj_goto (tgt := 13) C dX8_readCond_63 rfl ?_
              exact zj_sub [1, 2, 3, 4, 5, 0] rfl (ih.2 r0 r2 v3 v4 (w32 (v5 + 1)) h_r0 h_r2 h_v3 h_v4 (ir_w _) m1028)
            · refine zj_goto (tgt := 66) C dX8_readCond_53 rfl ?_
              refine zj_iload C 4 rfl dX8_readCond_66 ?_
              refine zj_if_le C 78 h_v4 dX8_readCond_68 rfl (fun c1029 => ?_) (fun c1029 => ?_)
              · refine zj_aload_n (j := 1) (i := 1) C rfl 1 rfl dX8_readCond_78 ?_
                refine zj_getI C F 8 rfl zk_1 fl_X8_62 rfl dX8_readCond_79 (fun h1030 => ?_)
                refine zj_bipush C 13 rfl dX8_readCond_82 ?_
                refine zj_icmp_eq C 90 h1030 irc_13 dX8_readCond_84 rfl (fun c1031 => ?_) (fun c1031 => ?_)
                · refine zj_aload_n (j := 1) (i := 1) C rfl 1 rfl dX8_readCond_90 ?_
                  refine zj_callVv C F Z [] [] cal_X6_step calv_X6_step ml_X8_41 zk_1 rfl rfl (by omega) (Nat.le_of_ble_eq_true rfl) rfl dX8_readCond_91 (fun q h => M_X6_step l Γ F  m1025 q h) (fun _ m1032 _ => ?_)
                  refine zj_iinc C 4 [(4, .int (i32 (w32 (v4 + 1)))), (0, .ref (zad Γ r0)), (1, .ref (zad Γ 1)), (2, .ref (zad Γ r2)), (3, .int (i32 v3)), (5, .int (i32 v5))] rfl dX8_readCond_94 (by decide) rfl ?_
                  refine zj_goto (tgt := 3) C dX8_readCond_97 rfl ?_
                  exact zj_sub [1, 2, 3, 4, 0] rfl (ih.1 r0 r2 v3 (w32 (v4 + 1)) 0 h_r0 h_r2 h_v3 (ir_w _) m1032)
                · refine zj_goto (tgt := 100) C dX8_readCond_87 rfl ?_
                  refine zj_iconst C 1 dX8_readCond_100 ?_
                  exact zrt_z C Z (Or.inr rfl) dX8_readCond_101
              · refine zj_aload_n (j := 0) (i := 0) C rfl 0 rfl dX8_readCond_71 ?_
                refine zj_bipush C 13 rfl dX8_readCond_72 ?_
                refine zj_iconst C 0 dX8_readCond_74 ?_
                refine zj_callVv C F Z [.int (i32 13), .int (i32 0)] [] cal_X8_add calv_X8_add ml_X8_58 h_r0 rfl rfl (by omega) (Nat.le_of_ble_eq_true rfl) rfl dX8_readCond_75 (fun q h => M_X8_add l Γ F h_r0 irc_13 irc_0 m1025 q h) (fun _ m1033 _ => ?_)
                refine zj_aload_n (j := 1) (i := 1) C rfl 1 rfl dX8_readCond_78 ?_
                refine zj_getI C F 8 rfl zk_1 fl_X8_62 rfl dX8_readCond_79 (fun h1034 => ?_)
                refine zj_bipush C 13 rfl dX8_readCond_82 ?_
                refine zj_icmp_eq C 90 h1034 irc_13 dX8_readCond_84 rfl (fun c1035 => ?_) (fun c1035 => ?_)
                · refine zj_aload_n (j := 1) (i := 1) C rfl 1 rfl dX8_readCond_90 ?_
                  refine zj_callVv C F Z [] [] cal_X6_step calv_X6_step ml_X8_41 zk_1 rfl rfl (by omega) (Nat.le_of_ble_eq_true rfl) rfl dX8_readCond_91 (fun q h => M_X6_step l Γ F  m1033 q h) (fun _ m1036 _ => ?_)
                  refine zj_iinc C 4 [(4, .int (i32 (w32 (v4 + 1)))), (0, .ref (zad Γ r0)), (1, .ref (zad Γ 1)), (2, .ref (zad Γ r2)), (3, .int (i32 v3)), (5, .int (i32 v5))] rfl dX8_readCond_94 (by decide) rfl ?_
                  refine zj_goto (tgt := 3) C dX8_readCond_97 rfl ?_
                  exact zj_sub [1, 2, 3, 4, 0] rfl (ih.1 r0 r2 v3 (w32 (v4 + 1)) 0 h_r0 h_r2 h_v3 (ir_w _) m1036)
                · refine zj_goto (tgt := 100) C dX8_readCond_87 rfl ?_
                  refine zj_iconst C 1 dX8_readCond_100 ?_
                  exact zrt_z C Z (Or.inr rfl) dX8_readCond_101
noncomputable def fb_X8_readCond (self : Nat → Nat → Nat → Int → zMem → Option (Int × zMem)) (t0 : Nat) (t1 : Nat) (x2 : Int) (mem : zMem) : Option (Int × zMem) := f_X8_readCond_0 self zN 0 t0 t1 x2 0 0 mem
set_option maxHeartbeats 4000000 in
theorem Mb_X8_readCond (l : Launch) (Γ : zG) (F : zFull Γ) {d : Nat} {self : Nat → Nat → Nat → Int → zMem → Option (Int × zMem)}  (hs : HS_cond l Γ d self) {t0 : Nat} {t1 : Nat} {x2 : Int} (h_t0 : zk t0 8) (h_t1 : zk t1 5) (h_x2 : ir x2) (mem : zMem) (q : Int × zMem) (h : fb_X8_readCond self t0 t1 x2 mem = some q) : zMet l yX8_readCond cX8_readCond 6 (some .boolean) (4 + (d + 1)) Γ 1 [.ref (zad Γ t0), .ref (zad Γ 1), .ref (zad Γ t1), .int (i32 x2)] mem q := by
  refine zMet_of (own := "ShadowHeirs$Sentence") (by decide) rfl (Nat.le_of_ble_eq_true rfl) (fun X C Z => ?_)
  revert h
  show zJ X Γ 6 q (fb_X8_readCond self t0 t1 x2 mem) 0 [(0, .ref (zad Γ t0)), (1, .ref (zad Γ 1)), (2, .ref (zad Γ t1)), (3, .int (i32 x2))] [] mem
  unfold fb_X8_readCond
  refine zj_iconst C 0 dX8_readCond_0 ?_
  refine zj_istore C [(4, .int (i32 0)), (0, .ref (zad Γ t0)), (1, .ref (zad Γ 1)), (2, .ref (zad Γ t1)), (3, .int (i32 x2))] dX8_readCond_1 (by decide) rfl ?_
  exact zj_sub [1, 2, 3, 4, 0] rfl ((L_X8_readCond_0 l F C Z hs zN).1 t0 t1 x2 0 0 h_t0 h_t1 h_x2 irc_0 mem)
noncomputable def f_X8_readOne_j32 (self : Nat → Nat → Nat → Int → zMem → Option (Int × zMem)) (r0 : Nat) (r2 : Nat) (v3 : Int) (v4 : Int) (v5 : Int) (mem : zMem) : Option (Int × zMem) := if v3 > 8 then (zbind (f_X6_fail 4 mem) fun y2 m3 => if y2 = 0 ∨ y2 = 1 then some (y2, m3) else none) else (if (mem r0 4) < 20 then (pipe (zup mem r0 4 (w32 ((mem r0 4) + 1))) fun m7 => if v4 = 15 then (zbind (f_X6_step m7) fun _ m9 => zbind (self 1 r0 r2 (w32 (v3 + 1)) m9) fun y10 m11 => zbind (f_X8_add r0 15 0 m11) fun _ m12 => if y10 = 0 ∨ y10 = 1 then some (y10, m12) else none) else (if v5 = 0 then (if v4 = 19 then (zbind (f_X8_readHouse r0 r2 m7) fun y15 m16 => if y15 = 0 then (if y15 = 0 ∨ y15 = 1 then some (y15, m16) else none) else (zbind (f_X6_step m16) fun _ m18 => if y15 = 0 ∨ y15 = 1 then some (y15, m18) else none)) else (if v4 < 20 then (zbind (f_X8_add r0 v4 0 m7) fun _ m20 => zbind (f_X6_step m20) fun _ m22 => some (1, m22)) else (zbind (f_X8_readCompared r0 v4 m7) fun y23 m24 => if y23 = 0 then (if y23 = 0 ∨ y23 = 1 then some (y23, m24) else none) else (zbind (f_X6_step m24) fun _ m26 => if y23 = 0 ∨ y23 = 1 then some (y23, m26) else none)))) else (zbind (f_X6_step m7) fun _ m27 => zbind (self 0 r0 r2 (w32 (v3 + 1)) m27) fun y28 m29 => if y28 = 0 then (some (0, m29)) else (zbind (f_X6_isSign 41 m29) fun y32 m33 => if y32 = 0 then (zbind (f_X6_fail 1 m33) fun y35 m36 => if y35 = 0 then (some (0, m36)) else (zbind (f_X6_step m36) fun _ m40 => some (1, m40))) else (zbind (f_X6_step m33) fun _ m42 => some (1, m42)))))) else (zbind (f_X6_fail 4 mem) fun y43 m44 => if y43 = 0 ∨ y43 = 1 then some (y43, m44) else none))
set_option maxHeartbeats 4000000 in
theorem J_X8_readOne_j32 (l : Launch) {Γ : zG} {d : Nat} {self : Nat → Nat → Nat → Int → zMem → Option (Int × zMem)} (F : zFull Γ) {X : zM} {q : Int × zMem} (C : zC X Γ "ShadowHeirs$Sentence" cX8_readOne 7) (Z : zRt X l Γ (4 + (d + 1)) 1 (some .boolean) q) (hs : HS_cond l Γ d self) {r0 : Nat} {r2 : Nat} {v3 : Int} {v4 : Int} {v5 : Int} (h_r0 : zk r0 8) (h_r2 : zk r2 5) (h_v3 : ir v3) (h_v4 : ir v4) (h_v5 : ir v5) (mem : zMem) : zJ X Γ 7 q (f_X8_readOne_j32 self r0 r2 v3 v4 v5 mem) 32 [(0, .ref (zad Γ r0)), (1, .ref (zad Γ 1)), (2, .ref (zad Γ r2)), (3, .int (i32 v3)), (4, .int (i32 v4)), (5, .int (i32 v5))] [] mem := by
  unfold f_X8_readOne_j32
  refine zj_iload_n (j := 3) (i := 3) C rfl 3 rfl dX8_readOne_32 ?_
  refine zj_bipush C 8 rfl dX8_readOne_33 ?_
  refine zj_icmp_gt C 47 h_v3 irc_8 dX8_readOne_35 rfl (fun c1 => ?_) (fun c1 => ?_)
  · refine zj_aload_n (j := 1) (i := 1) C rfl 1 rfl dX8_readOne_47 ?_
    refine zj_iconst C 4 dX8_readOne_48 ?_
    refine zj_callVi C F Z [.int (i32 4)] [] cal_X6_fail calv_X6_fail ml_X8_51 zk_1 rfl rfl (by omega) (Nat.le_of_ble_eq_true rfl) rfl dX8_readOne_49 (fun q h => M_X6_fail l Γ F irc_4 mem q h) (fun y2 m3 h_y2 => ?_)
    exact zrt_zc C Z dX8_readOne_52
  · refine zj_aload_n (j := 0) (i := 0) C rfl 0 rfl dX8_readOne_38 ?_
    refine zj_getI C F 4 rfl h_r0 fl_X8_25 rfl dX8_readOne_39 (fun h4 => ?_)
    refine zj_bipush C 20 rfl dX8_readOne_42 ?_
    refine zj_icmp_lt C 53 h4 irc_20 dX8_readOne_44 rfl (fun c5 => ?_) (fun c5 => ?_)
    · refine zj_aload_n (j := 0) (i := 0) C rfl 0 rfl dX8_readOne_53 ?_
      refine zj_dup C rfl dX8_readOne_54 ?_
      refine zj_getI C F 4 rfl h_r0 fl_X8_25 rfl dX8_readOne_55 (fun h6 => ?_)
      refine zj_iconst C 1 dX8_readOne_58 ?_
      refine zj_iadd C dX8_readOne_59 ?_
      refine zj_putI C F 4 rfl h_r0 fl_X8_25 rfl fp_8_4 (ir_w _) dX8_readOne_60 ?_
      refine zj_pipeM (fun m7 e_m7 => ?_)
      refine zj_iload C 4 rfl dX8_readOne_63 ?_
      refine zj_bipush C 15 rfl dX8_readOne_65 ?_
      refine zj_icmp_ne C 95 h_v4 irc_15 dX8_readOne_67 rfl (fun c8 => ?_) (fun c8 => ?_)
      · refine zj_aload_n (j := 1) (i := 1) C rfl 1 rfl dX8_readOne_70 ?_
        refine zj_callVv C F Z [] [] cal_X6_step calv_X6_step ml_X8_41 zk_1 rfl rfl (by omega) (Nat.le_of_ble_eq_true rfl) rfl dX8_readOne_71 (fun q h => M_X6_step l Γ F  m7 q h) (fun _ m9 _ => ?_)
        refine zj_aload_n (j := 0) (i := 0) C rfl 0 rfl dX8_readOne_74 ?_
        refine zj_aload_n (j := 1) (i := 1) C rfl 1 rfl dX8_readOne_75 ?_
        refine zj_aload_n (j := 2) (i := 2) C rfl 2 rfl dX8_readOne_76 ?_
        refine zj_iload_n (j := 3) (i := 3) C rfl 3 rfl dX8_readOne_77 ?_
        refine zj_iconst C 1 dX8_readOne_78 ?_
        refine zj_iadd C dX8_readOne_79 ?_
        refine zj_callVi C F Z [.ref (zad Γ 1), .ref (zad Γ r2), .int (i32 (w32 (v3 + 1)))] [] cal_X8_readOne calv_X8_readOne ml_X8_55 h_r0 rfl rfl (by omega) (Nat.le_of_ble_eq_true rfl) rfl dX8_readOne_80 (fun q h => hs.2 r0 r2 (w32 (v3 + 1)) h_r0 h_r2 (ir_w _) m9 q h) (fun y10 m11 h_y10 => ?_)
        refine zj_istore C [(6, .int (i32 y10)), (0, .ref (zad Γ r0)), (1, .ref (zad Γ 1)), (2, .ref (zad Γ r2)), (3, .int (i32 v3)), (4, .int (i32 v4)), (5, .int (i32 v5))] dX8_readOne_83 (by decide) rfl ?_
        refine zj_aload_n (j := 0) (i := 0) C rfl 1 rfl dX8_readOne_85 ?_
        refine zj_bipush C 15 rfl dX8_readOne_86 ?_
        refine zj_iconst C 0 dX8_readOne_88 ?_
        refine zj_callVv C F Z [.int (i32 15), .int (i32 0)] [] cal_X8_add calv_X8_add ml_X8_58 h_r0 rfl rfl (by omega) (Nat.le_of_ble_eq_true rfl) rfl dX8_readOne_89 (fun q h => M_X8_add l Γ F h_r0 irc_15 irc_0 m11 q h) (fun _ m12 _ => ?_)
        refine zj_iload C 0 rfl dX8_readOne_92 ?_
        exact zrt_zc C Z dX8_readOne_94
      · refine zj_iconst C 1 dX8_readOne_95 ?_
        refine zj_istore C [(6, .int (i32 1)), (0, .ref (zad Γ r0)), (1, .ref (zad Γ 1)), (2, .ref (zad Γ r2)), (3, .int (i32 v3)), (4, .int (i32 v4)), (5, .int (i32 v5))] dX8_readOne_96 (by decide) rfl ?_
        refine zj_iload C 6 rfl dX8_readOne_98 ?_
        refine zj_if_eq C 146 h_v5 dX8_readOne_100 rfl (fun c13 => ?_) (fun c13 => ?_)
        · refine zj_iload C 5 rfl dX8_readOne_146 ?_
          refine zj_bipush C 19 rfl dX8_readOne_148 ?_
          refine zj_icmp_ne C 164 h_v4 irc_19 dX8_readOne_150 rfl (fun c14 => ?_) (fun c14 => ?_)
          · refine zj_aload_n (j := 0) (i := 0) C rfl 1 rfl dX8_readOne_153 ?_
            refine zj_aload_n (j := 1) (i := 1) C rfl 2 rfl dX8_readOne_154 ?_
            refine zj_aload_n (j := 2) (i := 2) C rfl 3 rfl dX8_readOne_155 ?_
            refine zj_callVi C F Z [.ref (zad Γ 1), .ref (zad Γ r2)] [] cal_X8_readHouse calv_X8_readHouse ml_X8_69 h_r0 rfl rfl (by omega) (Nat.le_of_ble_eq_true rfl) rfl dX8_readOne_156 (fun q h => M_X8_readHouse l Γ F h_r0 h_r2 m7 q h) (fun y15 m16 h_y15 => ?_)
            refine zj_istore C [(6, .int (i32 y15)), (0, .ref (zad Γ r0)), (1, .ref (zad Γ 1)), (2, .ref (zad Γ r2)), (3, .int (i32 v3)), (4, .int (i32 v4)), (5, .int (i32 v5))] dX8_readOne_159 (by decide) rfl ?_
            refine zj_goto (tgt := 190) C dX8_readOne_161 rfl ?_
            refine zj_iload C 0 rfl dX8_readOne_190 ?_
            refine zj_if_eq C 199 h_y15 dX8_readOne_192 rfl (fun c17 => ?_) (fun c17 => ?_)
            · refine zj_iload C 0 rfl dX8_readOne_199 ?_
              exact zrt_zc C Z dX8_readOne_201
            · refine zj_aload_n (j := 1) (i := 1) C rfl 2 rfl dX8_readOne_195 ?_
              refine zj_callVv C F Z [] [] cal_X6_step calv_X6_step ml_X8_41 zk_1 rfl rfl (by omega) (Nat.le_of_ble_eq_true rfl) rfl dX8_readOne_196 (fun q h => M_X6_step l Γ F  m16 q h) (fun _ m18 _ => ?_)
              refine zj_iload C 0 rfl dX8_readOne_199 ?_
              exact zrt_zc C Z dX8_readOne_201
          · refine zj_iload C 5 rfl dX8_readOne_164 ?_
            refine zj_bipush C 20 rfl dX8_readOne_166 ?_
            refine zj_icmp_lt C 183 h_v4 irc_20 dX8_readOne_168 rfl (fun c19 => ?_) (fun c19 => ?_)
            · refine zj_aload_n (j := 0) (i := 0) C rfl 1 rfl dX8_readOne_183 ?_
              refine zj_iload C 5 rfl dX8_readOne_184 ?_
              refine zj_iconst C 0 dX8_readOne_186 ?_
              refine zj_callVv C F Z [.int (i32 v4), .int (i32 0)] [] cal_X8_add calv_X8_add ml_X8_58 h_r0 rfl rfl (by omega) (Nat.le_of_ble_eq_true rfl) rfl dX8_readOne_187 (fun q h => M_X8_add l Γ F h_r0 h_v4 irc_0 m7 q h) (fun _ m20 _ => ?_)
              refine zj_iload C 0 rfl dX8_readOne_190 ?_
              refine zj_cneg (by decide) (zj_if_eq (A := none) C 199 irc_1 dX8_readOne_192 rfl (fun _ => zj_none) (fun c21 => ?_))
              refine zj_aload_n (j := 1) (i := 1) C rfl 2 rfl dX8_readOne_195 ?_
              refine zj_callVv C F Z [] [] cal_X6_step calv_X6_step ml_X8_41 zk_1 rfl rfl (by omega) (Nat.le_of_ble_eq_true rfl) rfl dX8_readOne_196 (fun q h => M_X6_step l Γ F  m20 q h) (fun _ m22 _ => ?_)
              refine zj_iload C 0 rfl dX8_readOne_199 ?_
              exact zrt_z C Z (Or.inr rfl) dX8_readOne_201
            · refine zj_aload_n (j := 0) (i := 0) C rfl 1 rfl dX8_readOne_171 ?_
              refine zj_aload_n (j := 1) (i := 1) C rfl 2 rfl dX8_readOne_172 ?_
              refine zj_iload C 5 rfl dX8_readOne_173 ?_
              refine zj_callVi C F Z [.ref (zad Γ 1), .int (i32 v4)] [] cal_X8_readCompared calv_X8_readCompared ml_X8_73 h_r0 rfl rfl (by omega) (Nat.le_of_ble_eq_true rfl) rfl dX8_readOne_175 (fun q h => M_X8_readCompared l Γ F h_r0 h_v4 m7 q h) (fun y23 m24 h_y23 => ?_)
              refine zj_istore C [(6, .int (i32 y23)), (0, .ref (zad Γ r0)), (1, .ref (zad Γ 1)), (2, .ref (zad Γ r2)), (3, .int (i32 v3)), (4, .int (i32 v4)), (5, .int (i32 v5))] dX8_readOne_178 (by decide) rfl ?_
              refine zj_goto (tgt := 190) C dX8_readOne_180 rfl ?_
              refine zj_iload C 0 rfl dX8_readOne_190 ?_
              refine zj_if_eq C 199 h_y23 dX8_readOne_192 rfl (fun c25 => ?_) (fun c25 => ?_)
              · refine zj_iload C 0 rfl dX8_readOne_199 ?_
                exact zrt_zc C Z dX8_readOne_201
              · refine zj_aload_n (j := 1) (i := 1) C rfl 2 rfl dX8_readOne_195 ?_
                refine zj_callVv C F Z [] [] cal_X6_step calv_X6_step ml_X8_41 zk_1 rfl rfl (by omega) (Nat.le_of_ble_eq_true rfl) rfl dX8_readOne_196 (fun q h => M_X6_step l Γ F  m24 q h) (fun _ m26 _ => ?_)
                refine zj_iload C 0 rfl dX8_readOne_199 ?_
                exact zrt_zc C Z dX8_readOne_201
        · refine zj_aload_n (j := 1) (i := 1) C rfl 2 rfl dX8_readOne_103 ?_
          refine zj_callVv C F Z [] [] cal_X6_step calv_X6_step ml_X8_41 zk_1 rfl rfl (by omega) (Nat.le_of_ble_eq_true rfl) rfl dX8_readOne_104 (fun q h => M_X6_step l Γ F  m7 q h) (fun _ m27 _ => ?_)
          refine zj_aload_n (j := 0) (i := 0) C rfl 1 rfl dX8_readOne_107 ?_
          refine zj_aload_n (j := 1) (i := 1) C rfl 2 rfl dX8_readOne_108 ?_
          refine zj_aload_n (j := 2) (i := 2) C rfl 3 rfl dX8_readOne_109 ?_
          refine zj_iload_n (j := 3) (i := 3) C rfl 4 rfl dX8_readOne_110 ?_
          refine zj_iconst C 1 dX8_readOne_111 ?_
          refine zj_iadd C dX8_readOne_112 ?_
          refine zj_callVi C F Z [.ref (zad Γ 1), .ref (zad Γ r2), .int (i32 (w32 (v3 + 1)))] [] cal_X8_readCond calv_X8_readCond ml_X8_44 h_r0 rfl rfl (by omega) (Nat.le_of_ble_eq_true rfl) rfl dX8_readOne_113 (fun q h => hs.1 r0 r2 (w32 (v3 + 1)) h_r0 h_r2 (ir_w _) m27 q h) (fun y28 m29 h_y28 => ?_)
          refine zj_if_eq C 140 h_y28 dX8_readOne_116 rfl (fun c30 => ?_) (fun c30 => ?_)
          · refine zj_iconst C 0 dX8_readOne_140 ?_
            refine zj_istore C [(6, .int (i32 0)), (0, .ref (zad Γ r0)), (1, .ref (zad Γ 1)), (2, .ref (zad Γ r2)), (3, .int (i32 v3)), (4, .int (i32 v4)), (5, .int (i32 v5))] dX8_readOne_141 (by decide) rfl ?_
            refine zj_goto (tgt := 190) C dX8_readOne_143 rfl ?_
            refine zj_iload C 0 rfl dX8_readOne_190 ?_
            refine zj_cpos (by decide) (zj_if_eq (B := none) C 199 irc_0 dX8_readOne_192 rfl (fun c31 => ?_) (fun _ => zj_none))
            refine zj_iload C 0 rfl dX8_readOne_199 ?_
            exact zrt_z C Z (Or.inl rfl) dX8_readOne_201
          · refine zj_aload_n (j := 1) (i := 1) C rfl 2 rfl dX8_readOne_119 ?_
            refine zj_bipush C 41 rfl dX8_readOne_120 ?_
            refine zj_callVi C F Z [.int (i32 41)] [] cal_X6_isSign calv_X6_isSign ml_X8_65 zk_1 rfl rfl (by omega) (Nat.le_of_ble_eq_true rfl) rfl dX8_readOne_122 (fun q h => M_X6_isSign l Γ F irc_41 m29 q h) (fun y32 m33 h_y32 => ?_)
            refine zj_if_ne C 136 h_y32 dX8_readOne_125 rfl (fun c34 => ?_) (fun c34 => ?_)
            · refine zj_aload_n (j := 1) (i := 1) C rfl 2 rfl dX8_readOne_128 ?_
              refine zj_iconst C 1 dX8_readOne_129 ?_
              refine zj_callVi C F Z [.int (i32 1)] [] cal_X6_fail calv_X6_fail ml_X8_51 zk_1 rfl rfl (by omega) (Nat.le_of_ble_eq_true rfl) rfl dX8_readOne_130 (fun q h => M_X6_fail l Γ F irc_1 m33 q h) (fun y35 m36 h_y35 => ?_)
              refine zj_if_eq C 140 h_y35 dX8_readOne_133 rfl (fun c37 => ?_) (fun c37 => ?_)
              · refine zj_iconst C 0 dX8_readOne_140 ?_
                refine zj_istore C [(6, .int (i32 0)), (0, .ref (zad Γ r0)), (1, .ref (zad Γ 1)), (2, .ref (zad Γ r2)), (3, .int (i32 v3)), (4, .int (i32 v4)), (5, .int (i32 v5))] dX8_readOne_141 (by decide) rfl ?_
                refine zj_goto (tgt := 190) C dX8_readOne_143 rfl ?_
                refine zj_iload C 0 rfl dX8_readOne_190 ?_
                refine zj_cpos (by decide) (zj_if_eq (B := none) C 199 irc_0 dX8_readOne_192 rfl (fun c38 => ?_) (fun _ => zj_none))
                refine zj_iload C 0 rfl dX8_readOne_199 ?_
                exact zrt_z C Z (Or.inl rfl) dX8_readOne_201
              · refine zj_iconst C 1 dX8_readOne_136 ?_
                refine zj_goto (tgt := 141) C dX8_readOne_137 rfl ?_
                refine zj_istore C [(6, .int (i32 1)), (0, .ref (zad Γ r0)), (1, .ref (zad Γ 1)), (2, .ref (zad Γ r2)), (3, .int (i32 v3)), (4, .int (i32 v4)), (5, .int (i32 v5))] dX8_readOne_141 (by decide) rfl ?_
                refine zj_goto (tgt := 190) C dX8_readOne_143 rfl ?_
                refine zj_iload C 0 rfl dX8_readOne_190 ?_
                refine zj_cneg (by decide) (zj_if_eq (A := none) C 199 irc_1 dX8_readOne_192 rfl (fun _ => zj_none) (fun c39 => ?_))
                refine zj_aload_n (j := 1) (i := 1) C rfl 2 rfl dX8_readOne_195 ?_
                refine zj_callVv C F Z [] [] cal_X6_step calv_X6_step ml_X8_41 zk_1 rfl rfl (by omega) (Nat.le_of_ble_eq_true rfl) rfl dX8_readOne_196 (fun q h => M_X6_step l Γ F  m36 q h) (fun _ m40 _ => ?_)
                refine zj_iload C 0 rfl dX8_readOne_199 ?_
                exact zrt_z C Z (Or.inr rfl) dX8_readOne_201
            · refine zj_iconst C 1 dX8_readOne_136 ?_
              refine zj_goto (tgt := 141) C dX8_readOne_137 rfl ?_
              refine zj_istore C [(6, .int (i32 1)), (0, .ref (zad Γ r0)), (1, .ref (zad Γ 1)), (2, .ref (zad Γ r2)), (3, .int (i32 v3)), (4, .int (i32 v4)), (5, .int (i32 v5))] dX8_readOne_141 (by decide) rfl ?_
              refine zj_goto (tgt := 190) C dX8_readOne_143 rfl ?_
              refine zj_iload C 0 rfl dX8_readOne_190 ?_
              refine zj_cneg (by decide) (zj_if_eq (A := none) C 199 irc_1 dX8_readOne_192 rfl (fun _ => zj_none) (fun c41 => ?_))
              refine zj_aload_n (j := 1) (i := 1) C rfl 2 rfl dX8_readOne_195 ?_
              refine zj_callVv C F Z [] [] cal_X6_step calv_X6_step ml_X8_41 zk_1 rfl rfl (by omega) (Nat.le_of_ble_eq_true rfl) rfl dX8_readOne_196 (fun q h => M_X6_step l Γ F  m33 q h) (fun _ m42 _ => ?_)
              refine zj_iload C 0 rfl dX8_readOne_199 ?_
              exact zrt_z C Z (Or.inr rfl) dX8_readOne_201
    · refine zj_aload_n (j := 1) (i := 1) C rfl 1 rfl dX8_readOne_47 ?_
      refine zj_iconst C 4 dX8_readOne_48 ?_
      refine zj_callVi C F Z [.int (i32 4)] [] cal_X6_fail calv_X6_fail ml_X8_51 zk_1 rfl rfl (by omega) (Nat.le_of_ble_eq_true rfl) rfl dX8_readOne_49 (fun q h => M_X6_fail l Γ F irc_4 mem q h) (fun y43 m44 h_y43 => ?_)
      exact zrt_zc C Z dX8_readOne_52
noncomputable def fb_X8_readOne (self : Nat → Nat → Nat → Int → zMem → Option (Int × zMem)) (t0 : Nat) (t1 : Nat) (x2 : Int) (mem : zMem) : Option (Int × zMem) := pipe (mem 1 8) fun y2 => zbind (f_X6_isSign 40 mem) fun y3 m4 => if y3 = 0 then (if y2 ≥ 15 then (f_X8_readOne_j32 self t0 t1 x2 y2 y3 m4) else (zbind (f_X6_fail 1 m4) fun y7 m8 => if y7 = 0 ∨ y7 = 1 then some (y7, m8) else none)) else (f_X8_readOne_j32 self t0 t1 x2 y2 y3 m4)
set_option maxHeartbeats 4000000 in
theorem Mb_X8_readOne (l : Launch) (Γ : zG) (F : zFull Γ) {d : Nat} {self : Nat → Nat → Nat → Int → zMem → Option (Int × zMem)}  (hs : HS_cond l Γ d self) {t0 : Nat} {t1 : Nat} {x2 : Int} (h_t0 : zk t0 8) (h_t1 : zk t1 5) (h_x2 : ir x2) (mem : zMem) (q : Int × zMem) (h : fb_X8_readOne self t0 t1 x2 mem = some q) : zMet l yX8_readOne cX8_readOne 7 (some .boolean) (4 + (d + 1)) Γ 1 [.ref (zad Γ t0), .ref (zad Γ 1), .ref (zad Γ t1), .int (i32 x2)] mem q := by
  refine zMet_of (own := "ShadowHeirs$Sentence") (by decide) rfl (Nat.le_of_ble_eq_true rfl) (fun X C Z => ?_)
  revert h
  show zJ X Γ 7 q (fb_X8_readOne self t0 t1 x2 mem) 0 [(0, .ref (zad Γ t0)), (1, .ref (zad Γ 1)), (2, .ref (zad Γ t1)), (3, .int (i32 x2))] [] mem
  unfold fb_X8_readOne
  refine zj_aload_n (j := 1) (i := 1) C rfl 1 rfl dX8_readOne_0 ?_
  refine zj_getI C F 8 rfl zk_1 fl_X8_62 rfl dX8_readOne_1 (fun h1 => ?_)
  refine zj_pipeI (fun y2 e_y2 => ?_)
  have h_y2 := ir_eq e_y2 h1
  refine zj_istore C [(4, .int (i32 y2)), (0, .ref (zad Γ t0)), (1, .ref (zad Γ 1)), (2, .ref (zad Γ t1)), (3, .int (i32 x2))] dX8_readOne_4 (by decide) rfl ?_
  refine zj_aload_n (j := 1) (i := 1) C rfl 2 rfl dX8_readOne_6 ?_
  refine zj_bipush C 40 rfl dX8_readOne_7 ?_
  refine zj_callVi C F Z [.int (i32 40)] [] cal_X6_isSign calv_X6_isSign ml_X8_65 zk_1 rfl rfl (by omega) (Nat.le_of_ble_eq_true rfl) rfl dX8_readOne_9 (fun q h => M_X6_isSign l Γ F irc_40 mem q h) (fun y3 m4 h_y3 => ?_)
  refine zj_istore C [(5, .int (i32 y3)), (4, .int (i32 y2)), (0, .ref (zad Γ t0)), (1, .ref (zad Γ 1)), (2, .ref (zad Γ t1)), (3, .int (i32 x2))] dX8_readOne_12 (by decide) rfl ?_
  refine zj_iload C 0 rfl dX8_readOne_14 ?_
  refine zj_if_ne C 32 h_y3 dX8_readOne_16 rfl (fun c5 => ?_) (fun c5 => ?_)
  · refine zj_iload C 1 rfl dX8_readOne_19 ?_
    refine zj_bipush C 15 rfl dX8_readOne_21 ?_
    refine zj_icmp_ge C 32 h_y2 irc_15 dX8_readOne_23 rfl (fun c6 => ?_) (fun c6 => ?_)
    · exact zj_sub [2, 3, 4, 5, 1, 0] rfl (J_X8_readOne_j32 l F C Z hs h_t0 h_t1 h_x2 h_y2 h_y3 m4)
    · refine zj_aload_n (j := 1) (i := 1) C rfl 3 rfl dX8_readOne_26 ?_
      refine zj_iconst C 1 dX8_readOne_27 ?_
      refine zj_callVi C F Z [.int (i32 1)] [] cal_X6_fail calv_X6_fail ml_X8_51 zk_1 rfl rfl (by omega) (Nat.le_of_ble_eq_true rfl) rfl dX8_readOne_28 (fun q h => M_X6_fail l Γ F irc_1 m4 q h) (fun y7 m8 h_y7 => ?_)
      exact zrt_zc C Z dX8_readOne_31
  · exact zj_sub [2, 3, 4, 5, 1, 0] rfl (J_X8_readOne_j32 l F C Z hs h_t0 h_t1 h_x2 h_y2 h_y3 m4)
noncomputable def bg_cond : (Nat → Nat → Nat → Int → zMem → Option (Int × zMem)) → Nat → Nat → Nat → Int → zMem → Option (Int × zMem) := fun self tag t0 t1 x2 mem => match tag with
  | 0 => fb_X8_readCond self t0 t1 x2 mem
  | _ => fb_X8_readOne self t0 t1 x2 mem
noncomputable def fg_cond : Nat → Nat → Nat → Nat → Int → zMem → Option (Int × zMem) := zfuel (fun _ _ _ _ _ => none) bg_cond
theorem Mg_cond (l : Launch) (Γ : zG) (F : zFull Γ) : ∀ d : Nat, HS_cond l Γ d (fg_cond d) := by
  intro d
  induction d with
  | zero => exact ⟨(by intro t0 t1 x2 h_t0 h_t1 h_x2 mem q h; cases h), (by intro t0 t1 x2 h_t0 h_t1 h_x2 mem q h; cases h)⟩
  | succ d ih => exact ⟨(fun t0 t1 x2 h_t0 h_t1 h_x2 mem q h => Mb_X8_readCond l Γ F ih h_t0 h_t1 h_x2 mem q h), (fun t0 t1 x2 h_t0 h_t1 h_x2 mem q h => Mb_X8_readOne l Γ F ih h_t0 h_t1 h_x2 mem q h)⟩
noncomputable def f_X8_readCond (t0 : Nat) (t1 : Nat) (x2 : Int) (mem : zMem) : Option (Int × zMem) := fg_cond 40 0 t0 t1 x2 mem
theorem M_X8_readCond (l : Launch) (Γ : zG) (F : zFull Γ) {t0 : Nat} {t1 : Nat} {x2 : Int} (h_t0 : zk t0 8) (h_t1 : zk t1 5) (h_x2 : ir x2) (mem : zMem) (q : Int × zMem) (h : f_X8_readCond t0 t1 x2 mem = some q) : zMet l yX8_readCond cX8_readCond 6 (some .boolean) 44 Γ 1 [.ref (zad Γ t0), .ref (zad Γ 1), .ref (zad Γ t1), .int (i32 x2)] mem q := (Mg_cond l Γ F 40).1 t0 t1 x2 h_t0 h_t1 h_x2 mem q h
noncomputable def f_X8_readOne (t0 : Nat) (t1 : Nat) (x2 : Int) (mem : zMem) : Option (Int × zMem) := fg_cond 40 1 t0 t1 x2 mem
theorem M_X8_readOne (l : Launch) (Γ : zG) (F : zFull Γ) {t0 : Nat} {t1 : Nat} {x2 : Int} (h_t0 : zk t0 8) (h_t1 : zk t1 5) (h_x2 : ir x2) (mem : zMem) (q : Int × zMem) (h : f_X8_readOne t0 t1 x2 mem = some q) : zMet l yX8_readOne cX8_readOne 7 (some .boolean) 44 Γ 1 [.ref (zad Γ t0), .ref (zad Γ 1), .ref (zad Γ t1), .int (i32 x2)] mem q := (Mg_cond l Γ F 40).2 t0 t1 x2 h_t0 h_t1 h_x2 mem q h
