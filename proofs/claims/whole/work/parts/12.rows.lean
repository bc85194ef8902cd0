noncomputable def f_X12_whyGo (x0 : Int) (x1 : Int) (mem : zMem) : Option (Int × zMem) := if ix 140 (w32 (116 + x0)) then zbind (f_X12_nextTo (mem 140 (w32 (116 + x0))) x1 mem) fun y3 m4 => if y3 = (-1) then (some (1, m4)) else (zbind (f_X12_isOpen y3 m4) fun y6 m7 => if y6 = 0 then (some (2, m7)) else (some (0, m7))) else none
set_option maxHeartbeats 4000000 in
theorem M_X12_whyGo (l : Launch) (Γ : zG) (F : zFull Γ)  {x0 : Int} {x1 : Int} (h_x0 : ir x0) (h_x1 : ir x1) (mem : zMem) (q : Int × zMem) (h : f_X12_whyGo x0 x1 mem = some q) : zMet l yX12_whyGo cX12_whyGo 4 (some .int) 4 Γ 1 [.ref (zad Γ 138), .int (i32 x0), .int (i32 x1)] mem q := by
  refine zMet_of (own := "ShadowHeirsModel") (by decide) rfl (Nat.le_of_ble_eq_true rfl) (fun X C Z => ?_)
  revert h
  show zJ X Γ 4 q (f_X12_whyGo x0 x1 mem) 0 [(0, .ref (zad Γ 138)), (1, .int (i32 x0)), (2, .int (i32 x1))] [] mem
  unfold f_X12_whyGo
  refine zj_aload_n (j := 0) (i := 0) C rfl 0 rfl dX12_whyGo_0 ?_
  refine zj_aload_n (j := 0) (i := 0) C rfl 0 rfl dX12_whyGo_1 ?_
  refine zj_getR C F zk_138 fl_X12_98 rfl rf_138_14 dX12_whyGo_2 ?_
  refine zj_bipush C 116 rfl dX12_whyGo_5 ?_
  refine zj_iload_n (j := 1) (i := 1) C rfl 1 rfl dX12_whyGo_7 ?_
  refine zj_iadd C dX12_whyGo_8 ?_
  refine zj_iaload C F zk_140 (ir_w _) dX12_whyGo_9 (fun c1 h2 => ?_)
  refine zj_iload_n (j := 2) (i := 2) C rfl 2 rfl dX12_whyGo_10 ?_
  refine zj_callVi C F Z [.int (i32 (mem 140 (w32 (116 + x0)))), .int (i32 x1)] [] cal_X12_nextTo calv_X12_nextTo ml_X12_247 zk_138 rfl rfl (by decide) (Nat.le_of_ble_eq_true rfl) rfl dX12_whyGo_11 (fun q h => M_X12_nextTo l Γ F h2 h_x1 mem q h) (fun y3 m4 h_y3 => ?_)
  refine zj_istore_n (j := 3) (i := 3) C rfl [(3, .int (i32 y3)), (0, .ref (zad Γ 138)), (1, .int (i32 x0)), (2, .int (i32 x1))] dX12_whyGo_14 (by decide) rfl ?_
  refine zj_iload_n (j := 3) (i := 3) C rfl 0 rfl dX12_whyGo_15 ?_
  refine zj_iconst C (-1) dX12_whyGo_16 ?_
  refine zj_icmp_ne C 24 h_y3 irc_m1 dX12_whyGo_17 rfl (fun c5 => ?_) (fun c5 => ?_)
  · refine zj_iconst C 1 dX12_whyGo_20 ?_
    refine zj_goto (tgt := 37) C dX12_whyGo_21 rfl ?_
    exact zrt_i C Z irc_1 dX12_whyGo_37
  · refine zj_aload_n (j := 0) (i := 0) C rfl 1 rfl dX12_whyGo_24 ?_
    refine zj_iload_n (j := 3) (i := 3) C rfl 0 rfl dX12_whyGo_25 ?_
    refine zj_callVi C F Z [.int (i32 y3)] [] cal_X12_isOpen calv_X12_isOpen ml_X12_289 zk_138 rfl rfl (by decide) (Nat.le_of_ble_eq_true rfl) rfl dX12_whyGo_26 (fun q h => M_X12_isOpen l Γ F h_y3 m4 q h) (fun y6 m7 h_y6 => ?_)
    refine zj_if_eq C 36 h_y6 dX12_whyGo_29 rfl (fun c8 => ?_) (fun c8 => ?_)
    · refine zj_iconst C 2 dX12_whyGo_36 ?_
      exact zrt_i C Z irc_2 dX12_whyGo_37
    · refine zj_iconst C 0 dX12_whyGo_32 ?_
      refine zj_goto (tgt := 37) C dX12_whyGo_33 rfl ?_
      exact zrt_i C Z irc_0 dX12_whyGo_37
noncomputable def f_X12_whyLay (x0 : Int) (mem : zMem) : Option (Int × zMem) := zbind (f_X12_houseAt x0 mem) fun y1 m2 => if y1 = (-1) then (zbind (f_X12_personsAt x0 m2) fun y4 m5 => if y4 = 0 then (if ix 140 (w32 (128 + x0)) then if (m5 140 (w32 (128 + x0))) = 9 then (some (3, m5)) else (some (0, m5)) else none) else (some (2, m5))) else (some (1, m2))
set_option maxHeartbeats 4000000 in
theorem M_X12_whyLay (l : Launch) (Γ : zG) (F : zFull Γ)  {x0 : Int} (h_x0 : ir x0) (mem : zMem) (q : Int × zMem) (h : f_X12_whyLay x0 mem = some q) : zMet l yX12_whyLay cX12_whyLay 2 (some .int) 2 Γ 1 [.ref (zad Γ 138), .int (i32 x0)] mem q := by
  refine zMet_of (own := "ShadowHeirsModel") (by decide) rfl (Nat.le_of_ble_eq_true rfl) (fun X C Z => ?_)
  revert h
  show zJ X Γ 2 q (f_X12_whyLay x0 mem) 0 [(0, .ref (zad Γ 138)), (1, .int (i32 x0))] [] mem
  unfold f_X12_whyLay
  refine zj_aload_n (j := 0) (i := 0) C rfl 0 rfl dX12_whyLay_0 ?_
  refine zj_iload_n (j := 1) (i := 1) C rfl 1 rfl dX12_whyLay_1 ?_
  refine zj_callVi C F Z [.int (i32 x0)] [] cal_X12_houseAt calv_X12_houseAt ml_X12_238 zk_138 rfl rfl (by decide) (Nat.le_of_ble_eq_true rfl) rfl dX12_whyLay_2 (fun q h => M_X12_houseAt l Γ F h_x0 mem q h) (fun y1 m2 h_y1 => ?_)
  refine zj_iconst C (-1) dX12_whyLay_5 ?_
  refine zj_icmp_eq C 13 h_y1 irc_m1 dX12_whyLay_6 rfl (fun c3 => ?_) (fun c3 => ?_)
  · refine zj_aload_n (j := 0) (i := 0) C rfl 0 rfl dX12_whyLay_13 ?_
    refine zj_iload_n (j := 1) (i := 1) C rfl 1 rfl dX12_whyLay_14 ?_
    refine zj_callVi C F Z [.int (i32 x0)] [] cal_X12_personsAt calv_X12_personsAt ml_X12_262 zk_138 rfl rfl (by decide) (Nat.le_of_ble_eq_true rfl) rfl dX12_whyLay_15 (fun q h => M_X12_personsAt l Γ F h_x0 m2 q h) (fun y4 m5 h_y4 => ?_)
    refine zj_if_eq C 25 h_y4 dX12_whyLay_18 rfl (fun c6 => ?_) (fun c6 => ?_)
    · refine zj_aload_n (j := 0) (i := 0) C rfl 0 rfl dX12_whyLay_25 ?_
      refine zj_getR C F zk_138 fl_X12_98 rfl rf_138_14 dX12_whyLay_26 ?_
      refine zj_sipush C 128 rfl dX12_whyLay_29 ?_
      refine zj_iload_n (j := 1) (i := 1) C rfl 1 rfl dX12_whyLay_32 ?_
      refine zj_iadd C dX12_whyLay_33 ?_
      refine zj_iaload C F zk_140 (ir_w _) dX12_whyLay_34 (fun c7 h8 => ?_)
      refine zj_bipush C 9 rfl dX12_whyLay_35 ?_
      refine zj_icmp_ne C 44 h8 irc_9 dX12_whyLay_37 rfl (fun c9 => ?_) (fun c9 => ?_)
      · refine zj_iconst C 3 dX12_whyLay_40 ?_
        refine zj_goto (tgt := 45) C dX12_whyLay_41 rfl ?_
        exact zrt_i C Z irc_3 dX12_whyLay_45
      · refine zj_iconst C 0 dX12_whyLay_44 ?_
        exact zrt_i C Z irc_0 dX12_whyLay_45
    · refine zj_iconst C 2 dX12_whyLay_21 ?_
      refine zj_goto (tgt := 45) C dX12_whyLay_22 rfl ?_
      exact zrt_i C Z irc_2 dX12_whyLay_45
  · refine zj_iconst C 1 dX12_whyLay_9 ?_
    refine zj_goto (tgt := 45) C dX12_whyLay_10 rfl ?_
    exact zrt_i C Z irc_1 dX12_whyLay_45
noncomputable def f_X12_why (x0 : Int) (x1 : Int) (x2 : Int) (mem : zMem) : Option (Int × zMem) := if x0 = 0 then (zbind (f_X12_whyGo x1 x2 mem) fun y2 m3 => some (y2, m3)) else (if x0 = 1 then (zbind (f_X12_whyLay x1 mem) fun y5 m6 => some (y5, m6)) else (if x0 = 2 then (if ix 140 (w32 (128 + x1)) then if (mem 140 (w32 (128 + x1))) = 0 then (some (1, mem)) else (some (0, mem)) else none) else (zbind (f_X12_isBuried x1 mem) fun y11 m12 => if y11 = 0 then (some (0, m12)) else (some (1, m12)))))
set_option maxHeartbeats 4000000 in
theorem M_X12_why (l : Launch) (Γ : zG) (F : zFull Γ)  {x0 : Int} {x1 : Int} {x2 : Int} (h_x0 : ir x0) (h_x1 : ir x1) (h_x2 : ir x2) (mem : zMem) (q : Int × zMem) (h : f_X12_why x0 x1 x2 mem = some q) : zMet l yX12_why cX12_why 4 (some .int) 5 Γ 1 [.ref (zad Γ 138), .int (i32 x0), .int (i32 x1), .int (i32 x2)] mem q := by
  refine zMet_of (own := "ShadowHeirsModel") (by decide) rfl (Nat.le_of_ble_eq_true rfl) (fun X C Z => ?_)
  revert h
  show zJ X Γ 4 q (f_X12_why x0 x1 x2 mem) 0 [(0, .ref (zad Γ 138)), (1, .int (i32 x0)), (2, .int (i32 x1)), (3, .int (i32 x2))] [] mem
  unfold f_X12_why
  refine zj_iload_n (j := 1) (i := 1) C rfl 1 rfl dX12_why_0 ?_
  refine zj_split (fun c1 => ?_) (fun c1 => ?_)
  · refine zj_tableIn (off := 27) C 0 28 h_x0 c1 dX12_why_1 rfl rfl ?_
    refine zj_aload_n (j := 0) (i := 0) C rfl 0 rfl dX12_why_28 ?_
    refine zj_iload_n (j := 2) (i := 2) C rfl 2 rfl dX12_why_29 ?_
    refine zj_iload_n (j := 3) (i := 3) C rfl 3 rfl dX12_why_30 ?_
    refine zj_callVi C F Z [.int (i32 x1), .int (i32 x2)] [] cal_X12_whyGo calv_X12_whyGo ml_X12_283 zk_138 rfl rfl (by decide) (Nat.le_of_ble_eq_true rfl) rfl dX12_why_31 (fun q h => M_X12_whyGo l Γ F h_x1 h_x2 mem q h) (fun y2 m3 h_y2 => ?_)
    exact zrt_i C Z h_y2 dX12_why_34
  · refine zj_split (fun c4 => ?_) (fun c4 => ?_)
    · refine zj_tableIn (off := 34) C 1 35 h_x0 c4 dX12_why_1 rfl rfl ?_
      refine zj_aload_n (j := 0) (i := 0) C rfl 0 rfl dX12_why_35 ?_
      refine zj_iload_n (j := 2) (i := 2) C rfl 2 rfl dX12_why_36 ?_
      refine zj_callVi C F Z [.int (i32 x1)] [] cal_X12_whyLay calv_X12_whyLay ml_X12_292 zk_138 rfl rfl (by decide) (Nat.le_of_ble_eq_true rfl) rfl dX12_why_37 (fun q h => M_X12_whyLay l Γ F h_x1 mem q h) (fun y5 m6 h_y5 => ?_)
      exact zrt_i C Z h_y5 dX12_why_40
    · refine zj_split (fun c7 => ?_) (fun c7 => ?_)
      · refine zj_tableIn (off := 40) C 2 41 h_x0 c7 dX12_why_1 rfl rfl ?_
        refine zj_aload_n (j := 0) (i := 0) C rfl 0 rfl dX12_why_41 ?_
        refine zj_getR C F zk_138 fl_X12_98 rfl rf_138_14 dX12_why_42 ?_
        refine zj_sipush C 128 rfl dX12_why_45 ?_
        refine zj_iload_n (j := 2) (i := 2) C rfl 2 rfl dX12_why_48 ?_
        refine zj_iadd C dX12_why_49 ?_
        refine zj_iaload C F zk_140 (ir_w _) dX12_why_50 (fun c8 h9 => ?_)
        refine zj_if_ne C 58 h9 dX12_why_51 rfl (fun c10 => ?_) (fun c10 => ?_)
        · refine zj_iconst C 1 dX12_why_54 ?_
          refine zj_goto (tgt := 59) C dX12_why_55 rfl ?_
          exact zrt_i C Z irc_1 dX12_why_59
        · refine zj_iconst C 0 dX12_why_58 ?_
          exact zrt_i C Z irc_0 dX12_why_59
      · refine zj_tableOut C 60 h_x0 dX12_why_1 (by omega) rfl ?_
        refine zj_aload_n (j := 0) (i := 0) C rfl 0 rfl dX12_why_60 ?_
        refine zj_iload_n (j := 2) (i := 2) C rfl 2 rfl dX12_why_61 ?_
        refine zj_callVi C F Z [.int (i32 x1)] [] cal_X12_isBuried calv_X12_isBuried ml_X12_274 zk_138 rfl rfl (by decide) (Nat.le_of_ble_eq_true rfl) rfl dX12_why_62 (fun q h => M_X12_isBuried l Γ F h_x1 mem q h) (fun y11 m12 h_y11 => ?_)
        refine zj_if_eq C 72 h_y11 dX12_why_65 rfl (fun c13 => ?_) (fun c13 => ?_)
        · refine zj_iconst C 0 dX12_why_72 ?_
          exact zrt_i C Z irc_0 dX12_why_73
        · refine zj_iconst C 1 dX12_why_68 ?_
          refine zj_goto (tgt := 73) C dX12_why_69 rfl ?_
          exact zrt_i C Z irc_1 dX12_why_73
noncomputable def b_X12_doBury_0 (rec : Int → Int → Int → Int → zMem → Option (Int × zMem)) (v1 : Int) (v2 : Int) (v3 : Int) (v4 : Int) (mem : zMem) : Option (Int × zMem) := if v4 ≥ 6 then (if ix 140 108 then if ix 140 (w32 (111 + v1)) then zbind (f_X12_bits v2 mem) fun y6 m7 => if ix 140 108 then pipe (zup m7 140 108 (w32 ((mem 140 108) + (w32 ((mem 140 (w32 (111 + v1))) - (w32 (v3 * y6))))))) fun m9 => if ix 140 (w32 (111 + v1)) then pipe (zup m9 140 (w32 (111 + v1)) 0) fun m11 => if ix 140 107 then if ix 140 107 then pipe (zup m11 140 107 (zor (m11 140 107) (zshl 1 v1))) fun m15 => some (0, m15) else none else none else none else none else none else none) else (zbind (f_X12_has v2 v4 mem) fun y16 m17 => if y16 = 0 then (rec v1 v2 v3 (w32 (v4 + 1)) m17) else (if ix 140 (w32 (122 + v4)) then if ix 140 (w32 (122 + v4)) then pipe (zup m17 140 (w32 (122 + v4)) (w32 ((m17 140 (w32 (122 + v4))) + v3))) fun m22 => rec v1 v2 v3 (w32 (v4 + 1)) m22 else none else none))
noncomputable def f_X12_doBury_0 : Nat → Int → Int → Int → Int → zMem → Option (Int × zMem) := zfuel (fun _ _ _ _ _ => none) (b_X12_doBury_0)
set_option maxHeartbeats 4000000 in
theorem L_X12_doBury_0 (l : Launch) {Γ : zG} (F : zFull Γ) {X : zM} {q : Int × zMem} (C : zC X Γ "ShadowHeirsModel" cX12_doBury 5) (Z : zRt X l Γ 6 0 none q) : ∀ n : Nat, ∀ (v1 : Int) (v2 : Int) (v3 : Int) (v4 : Int) (h_v1 : ir v1) (h_v2 : ir v2) (h_v3 : ir v3) (h_v4 : ir v4) (mem : zMem), zJ X Γ 5 q (f_X12_doBury_0 n v1 v2 v3 v4 mem) 36 [(0, .ref (zad Γ 138)), (1, .int (i32 v1)), (2, .int (i32 v2)), (3, .int (i32 v3)), (4, .int (i32 v4))] [] mem := by
  intro n
  induction n with
  | zero => intros; exact zj_none
  | succ n ih =>
    intro v1 v2 v3 v4 h_v1 h_v2 h_v3 h_v4 mem
    show zJ X Γ 5 q (b_X12_doBury_0 (f_X12_doBury_0 n) v1 v2 v3 v4 mem) _ _ _ _
    unfold b_X12_doBury_0
    refine zj_iload C 4 rfl dX12_doBury_36 ?_
    refine zj_bipush C 6 rfl dX12_doBury_38 ?_
    refine zj_icmp_ge C 72 h_v4 irc_6 dX12_doBury_40 rfl (fun c1 => ?_) (fun c1 => ?_)
    · refine zj_aload_n (j := 0) (i := 0) C rfl 0 rfl dX12_doBury_72 ?_
      refine zj_getR C F zk_138 fl_X12_98 rfl rf_138_14 dX12_doBury_73 ?_
      refine zj_bipush C 108 rfl dX12_doBury_76 ?_
      refine zj_dup2 C rfl rfl dX12_doBury_78 ?_
      refine zj_iaload C F zk_140 irc_108 dX12_doBury_79 (fun c2 h3 => ?_)
      refine zj_aload_n (j := 0) (i := 0) C rfl 0 rfl dX12_doBury_80 ?_
      refine zj_getR C F zk_138 fl_X12_98 rfl rf_138_14 dX12_doBury_81 ?_
      refine zj_bipush C 111 rfl dX12_doBury_84 ?_
      refine zj_iload_n (j := 1) (i := 1) C rfl 1 rfl dX12_doBury_86 ?_
      refine zj_iadd C dX12_doBury_87 ?_
      refine zj_iaload C F zk_140 (ir_w _) dX12_doBury_88 (fun c4 h5 => ?_)
      refine zj_iload_n (j := 3) (i := 3) C rfl 3 rfl dX12_doBury_89 ?_
      refine zj_iload_n (j := 2) (i := 2) C rfl 2 rfl dX12_doBury_90 ?_
      refine zj_callSi C Z [.int (i32 v2)] [.int (i32 v3), .int (i32 (mem 140 (w32 (111 + v1)))), .int (i32 (mem 140 108)), .int (i32 108), .ref (zad Γ 140)] cal_X12_bits sta_X12_bits ml_X12_295 rfl (by decide) (Nat.le_of_ble_eq_true rfl) rfl dX12_doBury_91 (fun q h => M_X12_bits l Γ F h_v2 mem q h) (fun y6 m7 h_y6 => ?_)
      refine zj_imul C dX12_doBury_94 ?_
      refine zj_isub C dX12_doBury_95 ?_
      refine zj_iadd C dX12_doBury_96 ?_
      refine zj_iastore C F zk_140 irc_108 (ir_w _) dX12_doBury_97 (fun c8 => ?_)
      refine zj_pipeM (fun m9 e_m9 => ?_)
      refine zj_aload_n (j := 0) (i := 0) C rfl 0 rfl dX12_doBury_98 ?_
      refine zj_getR C F zk_138 fl_X12_98 rfl rf_138_14 dX12_doBury_99 ?_
      refine zj_bipush C 111 rfl dX12_doBury_102 ?_
      refine zj_iload_n (j := 1) (i := 1) C rfl 1 rfl dX12_doBury_104 ?_
      refine zj_iadd C dX12_doBury_105 ?_
      refine zj_iconst C 0 dX12_doBury_106 ?_
      refine zj_iastore C F zk_140 (ir_w _) irc_0 dX12_doBury_107 (fun c10 => ?_)
      refine zj_pipeM (fun m11 e_m11 => ?_)
      refine zj_aload_n (j := 0) (i := 0) C rfl 0 rfl dX12_doBury_108 ?_
      refine zj_getR C F zk_138 fl_X12_98 rfl rf_138_14 dX12_doBury_109 ?_
      refine zj_bipush C 107 rfl dX12_doBury_112 ?_
      refine zj_dup2 C rfl rfl dX12_doBury_114 ?_
      refine zj_iaload C F zk_140 irc_107 dX12_doBury_115 (fun c12 h13 => ?_)
      refine zj_iconst C 1 dX12_doBury_116 ?_
      refine zj_iload_n (j := 1) (i := 1) C rfl 1 rfl dX12_doBury_117 ?_
      refine zj_ishl C dX12_doBury_118 ?_
      refine zj_ior C dX12_doBury_119 ?_
      refine zj_iastore C F zk_140 irc_107 (ir_toInt _) dX12_doBury_120 (fun c14 => ?_)
      refine zj_pipeM (fun m15 e_m15 => ?_)
      exact zrt_v C Z dX12_doBury_121
    · refine zj_iload_n (j := 2) (i := 2) C rfl 2 rfl dX12_doBury_43 ?_
      refine zj_iload C 4 rfl dX12_doBury_44 ?_
      refine zj_callSi C Z [.int (i32 v2), .int (i32 v4)] [] cal_X12_has sta_X12_has ml_X12_235 rfl (by decide) (Nat.le_of_ble_eq_true rfl) rfl dX12_doBury_46 (fun q h => M_X12_has l Γ F h_v2 h_v4 mem q h) (fun y16 m17 h_y16 => ?_)
      refine zj_if_eq C 66 h_y16 dX12_doBury_49 rfl (fun c18 => ?_) (fun c18 => ?_)
      · refine zj_iinc C 4 [(4, .int (i32 (w32 (v4 + 1)))), (0, .ref (zad Γ 138)), (1, .int (i32 v1)), (2, .int (i32 v2)), (3, .int (i32 v3))] rfl dX12_doBury_66 (by decide) rfl ?_
        refine zj_goto (tgt := 36) C dX12_doBury_69 rfl ?_
        exact zj_sub [1, 2, 3, 4, 0] rfl (ih v1 v2 v3 (w32 (v4 + 1)) h_v1 h_v2 h_v3 (ir_w _) m17)
      · refine zj_aload_n (j := 0) (i := 0) C rfl 0 rfl dX12_doBury_52 ?_
        refine zj_getR C F zk_138 fl_X12_98 rfl rf_138_14 dX12_doBury_53 ?_
        refine zj_bipush C 122 rfl dX12_doBury_56 ?_
        refine zj_iload C 4 rfl dX12_doBury_58 ?_
        refine zj_iadd C dX12_doBury_60 ?_
        refine zj_dup2 C rfl rfl dX12_doBury_61 ?_
        refine zj_iaload C F zk_140 (ir_w _) dX12_doBury_62 (fun c19 h20 => ?_)
        refine zj_iload_n (j := 3) (i := 3) C rfl 3 rfl dX12_doBury_63 ?_
        refine zj_iadd C dX12_doBury_64 ?_
        refine zj_iastore C F zk_140 (ir_w _) (ir_w _) dX12_doBury_65 (fun c21 => ?_)
        refine zj_pipeM (fun m22 e_m22 => ?_)
        refine zj_iinc C 4 [(4, .int (i32 (w32 (v4 + 1)))), (0, .ref (zad Γ 138)), (1, .int (i32 v1)), (2, .int (i32 v2)), (3, .int (i32 v3))] rfl dX12_doBury_66 (by decide) rfl ?_
        refine zj_goto (tgt := 36) C dX12_doBury_69 rfl ?_
        exact zj_sub [1, 2, 3, 4, 0] rfl (ih v1 v2 v3 (w32 (v4 + 1)) h_v1 h_v2 h_v3 (ir_w _) m22)
noncomputable def f_X12_doBury (x0 : Int) (mem : zMem) : Option (Int × zMem) := zbind (f_X12_sunNow mem) fun y1 m2 => zbind (f_X12_touchedBy x0 y1 m2) fun y3 m4 => if y3 = 0 then (f_X12_doBury_0 zN x0 y3 0 0 m4) else (if ix 140 (w32 (111 + x0)) then zbind (f_X12_bits y3 m4) fun y8 m9 => if y8 = 0 then none else pipe (zdiv (m4 140 (w32 (111 + x0))) y8) fun y11 => f_X12_doBury_0 zN x0 y3 y11 0 m9 else none)
set_option maxHeartbeats 4000000 in
theorem M_X12_doBury (l : Launch) (Γ : zG) (F : zFull Γ)  {x0 : Int} (h_x0 : ir x0) (mem : zMem) (q : Int × zMem) (h : f_X12_doBury x0 mem = some q) : zMet l yX12_doBury cX12_doBury 5 none 6 Γ 0 [.ref (zad Γ 138), .int (i32 x0)] mem q := by
  refine zMet_of (own := "ShadowHeirsModel") (by decide) rfl (Nat.le_of_ble_eq_true rfl) (fun X C Z => ?_)
  revert h
  show zJ X Γ 5 q (f_X12_doBury x0 mem) 0 [(0, .ref (zad Γ 138)), (1, .int (i32 x0))] [] mem
  unfold f_X12_doBury
  refine zj_aload_n (j := 0) (i := 0) C rfl 0 rfl dX12_doBury_0 ?_
  refine zj_iload_n (j := 1) (i := 1) C rfl 1 rfl dX12_doBury_1 ?_
  refine zj_aload_n (j := 0) (i := 0) C rfl 0 rfl dX12_doBury_2 ?_
  refine zj_callVi C F Z [] [.int (i32 x0), .ref (zad Γ 138)] cal_X12_sunNow calv_X12_sunNow ml_X12_259 zk_138 rfl rfl (by decide) (Nat.le_of_ble_eq_true rfl) rfl dX12_doBury_3 (fun q h => M_X12_sunNow l Γ F  mem q h) (fun y1 m2 h_y1 => ?_)
  refine zj_callVi C F Z [.int (i32 x0), .int (i32 y1)] [] cal_X12_touchedBy calv_X12_touchedBy ml_X12_277 zk_138 rfl rfl (by decide) (Nat.le_of_ble_eq_true rfl) rfl dX12_doBury_6 (fun q h => M_X12_touchedBy l Γ F h_x0 h_y1 m2 q h) (fun y3 m4 h_y3 => ?_)
  refine zj_istore_n (j := 2) (i := 2) C rfl [(2, .int (i32 y3)), (0, .ref (zad Γ 138)), (1, .int (i32 x0))] dX12_doBury_9 (by decide) rfl ?_
  refine zj_iload_n (j := 2) (i := 2) C rfl 0 rfl dX12_doBury_10 ?_
  refine zj_if_ne C 18 h_y3 dX12_doBury_11 rfl (fun c5 => ?_) (fun c5 => ?_)
  · refine zj_iconst C 0 dX12_doBury_14 ?_
    refine zj_goto (tgt := 32) C dX12_doBury_15 rfl ?_
    refine zj_istore_n (j := 3) (i := 3) C rfl [(3, .int (i32 0)), (2, .int (i32 y3)), (0, .ref (zad Γ 138)), (1, .int (i32 x0))] dX12_doBury_32 (by decide) rfl ?_
    refine zj_iconst C 0 dX12_doBury_33 ?_
    refine zj_istore C [(4, .int (i32 0)), (3, .int (i32 0)), (2, .int (i32 y3)), (0, .ref (zad Γ 138)), (1, .int (i32 x0))] dX12_doBury_34 (by decide) rfl ?_
    exact zj_sub [3, 4, 2, 1, 0] rfl ((L_X12_doBury_0 l F C Z zN) x0 y3 0 0 h_x0 h_y3 irc_0 irc_0 m4)
  · refine zj_aload_n (j := 0) (i := 0) C rfl 1 rfl dX12_doBury_18 ?_
    refine zj_getR C F zk_138 fl_X12_98 rfl rf_138_14 dX12_doBury_19 ?_
    refine zj_bipush C 111 rfl dX12_doBury_22 ?_
    refine zj_iload_n (j := 1) (i := 1) C rfl 2 rfl dX12_doBury_24 ?_
    refine zj_iadd C dX12_doBury_25 ?_
    refine zj_iaload C F zk_140 (ir_w _) dX12_doBury_26 (fun c6 h7 => ?_)
    refine zj_iload_n (j := 2) (i := 2) C rfl 0 rfl dX12_doBury_27 ?_
    refine zj_callSi C Z [.int (i32 y3)] [.int (i32 (m4 140 (w32 (111 + x0))))] cal_X12_bits sta_X12_bits ml_X12_295 rfl (by decide) (Nat.le_of_ble_eq_true rfl) rfl dX12_doBury_28 (fun q h => M_X12_bits l Γ F h_y3 m4 q h) (fun y8 m9 h_y8 => ?_)
    refine zj_idiv C h_y8 dX12_doBury_31 (fun c10 => ?_)
    refine zj_pipeI (fun y11 e_y11 => ?_)
    have h_y11 := ir_eq e_y11 (ir_toInt _)
    refine zj_istore_n (j := 3) (i := 3) C rfl [(3, .int (i32 y11)), (2, .int (i32 y3)), (0, .ref (zad Γ 138)), (1, .int (i32 x0))] dX12_doBury_32 (by decide) rfl ?_
    refine zj_iconst C 0 dX12_doBury_33 ?_
    refine zj_istore C [(4, .int (i32 0)), (3, .int (i32 y11)), (2, .int (i32 y3)), (0, .ref (zad Γ 138)), (1, .int (i32 x0))] dX12_doBury_34 (by decide) rfl ?_
    exact zj_sub [3, 4, 2, 1, 0] rfl ((L_X12_doBury_0 l F C Z zN) x0 y3 y11 0 h_x0 h_y3 h_y11 irc_0 m9)
noncomputable def f_X12_live (x0 : Int) (x1 : Int) (x2 : Int) (mem : zMem) : Option (Int × zMem) := if x0 = 0 then (if ix 140 (w32 (116 + x1)) then zbind (f_X12_nextTo (mem 140 (w32 (116 + x1))) x2 mem) fun y4 m5 => if ix 140 (w32 (116 + x1)) then pipe (zup m5 140 (w32 (116 + x1)) y4) fun m7 => if ix 140 109 then if ix 140 109 then pipe (zup m7 140 109 (w32 ((m7 140 109) + 1))) fun m11 => some (0, m11) else none else none else none else none) else (if x0 = 1 then (if ix 140 (w32 (128 + x1)) then if ix 140 (w32 (128 + x1)) then pipe (zup mem 140 (w32 (128 + x1)) (w32 ((mem 140 (w32 (128 + x1))) + 1))) fun m16 => if ix 140 110 then if ix 140 110 then pipe (zup m16 140 110 (w32 ((m16 140 110) + 1))) fun m20 => some (0, m20) else none else none else none else none) else (if x0 = 2 then (if ix 140 (w32 (128 + x1)) then if ix 140 (w32 (128 + x1)) then pipe (zup mem 140 (w32 (128 + x1)) (w32 ((mem 140 (w32 (128 + x1))) - 1))) fun m25 => some (0, m25) else none else none) else (zbind (f_X12_doBury x1 mem) fun _ m26 => some (0, m26))))
set_option maxHeartbeats 4000000 in
theorem M_X12_live (l : Launch) (Γ : zG) (F : zFull Γ)  {x0 : Int} {x1 : Int} {x2 : Int} (h_x0 : ir x0) (h_x1 : ir x1) (h_x2 : ir x2) (mem : zMem) (q : Int × zMem) (h : f_X12_live x0 x1 x2 mem = some q) : zMet l yX12_live cX12_live 4 none 7 Γ 0 [.ref (zad Γ 138), .int (i32 x0), .int (i32 x1), .int (i32 x2)] mem q := by
  refine zMet_of (own := "ShadowHeirsModel") (by decide) rfl (Nat.le_of_ble_eq_true rfl) (fun X C Z => ?_)
  revert h
  show zJ X Γ 4 q (f_X12_live x0 x1 x2 mem) 0 [(0, .ref (zad Γ 138)), (1, .int (i32 x0)), (2, .int (i32 x1)), (3, .int (i32 x2))] [] mem
  unfold f_X12_live
  refine zj_iload_n (j := 1) (i := 1) C rfl 1 rfl dX12_live_0 ?_
  refine zj_split (fun c1 => ?_) (fun c1 => ?_)
  · refine zj_tableIn (off := 27) C 0 28 h_x0 c1 dX12_live_1 rfl rfl ?_
    refine zj_aload_n (j := 0) (i := 0) C rfl 0 rfl dX12_live_28 ?_
    refine zj_getR C F zk_138 fl_X12_98 rfl rf_138_14 dX12_live_29 ?_
    refine zj_bipush C 116 rfl dX12_live_32 ?_
    refine zj_iload_n (j := 2) (i := 2) C rfl 2 rfl dX12_live_34 ?_
    refine zj_iadd C dX12_live_35 ?_
    refine zj_aload_n (j := 0) (i := 0) C rfl 0 rfl dX12_live_36 ?_
    refine zj_aload_n (j := 0) (i := 0) C rfl 0 rfl dX12_live_37 ?_
    refine zj_getR C F zk_138 fl_X12_98 rfl rf_138_14 dX12_live_38 ?_
    refine zj_bipush C 116 rfl dX12_live_41 ?_
    refine zj_iload_n (j := 2) (i := 2) C rfl 2 rfl dX12_live_43 ?_
    refine zj_iadd C dX12_live_44 ?_
    refine zj_iaload C F zk_140 (ir_w _) dX12_live_45 (fun c2 h3 => ?_)
    refine zj_iload_n (j := 3) (i := 3) C rfl 3 rfl dX12_live_46 ?_
    refine zj_callVi C F Z [.int (i32 (mem 140 (w32 (116 + x1)))), .int (i32 x2)] [.int (i32 (w32 (116 + x1))), .ref (zad Γ 140)] cal_X12_nextTo calv_X12_nextTo ml_X12_247 zk_138 rfl rfl (by decide) (Nat.le_of_ble_eq_true rfl) rfl dX12_live_47 (fun q h => M_X12_nextTo l Γ F h3 h_x2 mem q h) (fun y4 m5 h_y4 => ?_)
    refine zj_iastore C F zk_140 (ir_w _) h_y4 dX12_live_50 (fun c6 => ?_)
    refine zj_pipeM (fun m7 e_m7 => ?_)
    refine zj_aload_n (j := 0) (i := 0) C rfl 0 rfl dX12_live_51 ?_
    refine zj_getR C F zk_138 fl_X12_98 rfl rf_138_14 dX12_live_52 ?_
    refine zj_bipush C 109 rfl dX12_live_55 ?_
    refine zj_dup2 C rfl rfl dX12_live_57 ?_
    refine zj_iaload C F zk_140 irc_109 dX12_live_58 (fun c8 h9 => ?_)
    refine zj_iconst C 1 dX12_live_59 ?_
    refine zj_iadd C dX12_live_60 ?_
    refine zj_iastore C F zk_140 irc_109 (ir_w _) dX12_live_61 (fun c10 => ?_)
    refine zj_pipeM (fun m11 e_m11 => ?_)
    exact zrt_v C Z dX12_live_62
  · refine zj_split (fun c12 => ?_) (fun c12 => ?_)
    · refine zj_tableIn (off := 62) C 1 63 h_x0 c12 dX12_live_1 rfl rfl ?_
      refine zj_aload_n (j := 0) (i := 0) C rfl 0 rfl dX12_live_63 ?_
      refine zj_getR C F zk_138 fl_X12_98 rfl rf_138_14 dX12_live_64 ?_
      refine zj_sipush C 128 rfl dX12_live_67 ?_
      refine zj_iload_n (j := 2) (i := 2) C rfl 2 rfl dX12_live_70 ?_
      refine zj_iadd C dX12_live_71 ?_
      refine zj_dup2 C rfl rfl dX12_live_72 ?_
      refine zj_iaload C F zk_140 (ir_w _) dX12_live_73 (fun c13 h14 => ?_)
      refine zj_iconst C 1 dX12_live_74 ?_
      refine zj_iadd C dX12_live_75 ?_
      refine zj_iastore C F zk_140 (ir_w _) (ir_w _) dX12_live_76 (fun c15 => ?_)
      refine zj_pipeM (fun m16 e_m16 => ?_)
      refine zj_aload_n (j := 0) (i := 0) C rfl 0 rfl dX12_live_77 ?_
      refine zj_getR C F zk_138 fl_X12_98 rfl rf_138_14 dX12_live_78 ?_
      refine zj_bipush C 110 rfl dX12_live_81 ?_
      refine zj_dup2 C rfl rfl dX12_live_83 ?_
      refine zj_iaload C F zk_140 irc_110 dX12_live_84 (fun c17 h18 => ?_)
      refine zj_iconst C 1 dX12_live_85 ?_
      refine zj_iadd C dX12_live_86 ?_
      refine zj_iastore C F zk_140 irc_110 (ir_w _) dX12_live_87 (fun c19 => ?_)
      refine zj_pipeM (fun m20 e_m20 => ?_)
      exact zrt_v C Z dX12_live_88
    · refine zj_split (fun c21 => ?_) (fun c21 => ?_)
      · refine zj_tableIn (off := 88) C 2 89 h_x0 c21 dX12_live_1 rfl rfl ?_
        refine zj_aload_n (j := 0) (i := 0) C rfl 0 rfl dX12_live_89 ?_
        refine zj_getR C F zk_138 fl_X12_98 rfl rf_138_14 dX12_live_90 ?_
        refine zj_sipush C 128 rfl dX12_live_93 ?_
        refine zj_iload_n (j := 2) (i := 2) C rfl 2 rfl dX12_live_96 ?_
        refine zj_iadd C dX12_live_97 ?_
        refine zj_dup2 C rfl rfl dX12_live_98 ?_
        refine zj_iaload C F zk_140 (ir_w _) dX12_live_99 (fun c22 h23 => ?_)
        refine zj_iconst C 1 dX12_live_100 ?_
        refine zj_isub C dX12_live_101 ?_
        refine zj_iastore C F zk_140 (ir_w _) (ir_w _) dX12_live_102 (fun c24 => ?_)
        refine zj_pipeM (fun m25 e_m25 => ?_)
        exact zrt_v C Z dX12_live_103
      · refine zj_tableOut C 104 h_x0 dX12_live_1 (by omega) rfl ?_
        refine zj_aload_n (j := 0) (i := 0) C rfl 0 rfl dX12_live_104 ?_
        refine zj_iload_n (j := 2) (i := 2) C rfl 2 rfl dX12_live_105 ?_
        refine zj_callVv C F Z [.int (i32 x1)] [] cal_X12_doBury calv_X12_doBury ml_X12_298 zk_138 rfl rfl (by decide) (Nat.le_of_ble_eq_true rfl) rfl dX12_live_106 (fun q h => M_X12_doBury l Γ F h_x1 mem q h) (fun _ m26 _ => ?_)
        exact zrt_v C Z dX12_live_109
noncomputable def f_X12_act (x0 : Int) (x1 : Int) (x2 : Int) (x3 : Int) (mem : zMem) : Option (Int × zMem) := if x3 = 0 then (some ((-1), mem)) else (zbind (f_X12_why x0 x1 x2 mem) fun y2 m3 => if y2 = 0 then (zbind (f_X12_snap m3) fun _ m5 => zbind (f_X12_live x0 x1 x2 m5) fun _ m6 => some (0, m6)) else (some (y2, m3)))
set_option maxHeartbeats 4000000 in
theorem M_X12_act (l : Launch) (Γ : zG) (F : zFull Γ)  {x0 : Int} {x1 : Int} {x2 : Int} {x3 : Int} (h_x0 : ir x0) (h_x1 : ir x1) (h_x2 : ir x2) (h_x3 : ir x3) (mem : zMem) (q : Int × zMem) (h : f_X12_act x0 x1 x2 x3 mem = some q) : zMet l yX12_act cX12_act 6 (some .int) 8 Γ 1 [.ref (zad Γ 138), .int (i32 x0), .int (i32 x1), .int (i32 x2), .int (i32 x3)] mem q := by
  refine zMet_of (own := "ShadowHeirsModel") (by decide) rfl (Nat.le_of_ble_eq_true rfl) (fun X C Z => ?_)
  revert h
  show zJ X Γ 6 q (f_X12_act x0 x1 x2 x3 mem) 0 [(0, .ref (zad Γ 138)), (1, .int (i32 x0)), (2, .int (i32 x1)), (3, .int (i32 x2)), (4, .int (i32 x3))] [] mem
  unfold f_X12_act
  refine zj_iload C 4 rfl dX12_act_0 ?_
  refine zj_if_ne C 7 h_x3 dX12_act_2 rfl (fun c1 => ?_) (fun c1 => ?_)
  · refine zj_iconst C (-1) dX12_act_5 ?_
    exact zrt_i C Z irc_m1 dX12_act_6
  · refine zj_aload_n (j := 0) (i := 0) C rfl 0 rfl dX12_act_7 ?_
    refine zj_iload_n (j := 1) (i := 1) C rfl 1 rfl dX12_act_8 ?_
    refine zj_iload_n (j := 2) (i := 2) C rfl 2 rfl dX12_act_9 ?_
    refine zj_iload_n (j := 3) (i := 3) C rfl 3 rfl dX12_act_10 ?_
    refine zj_callVi C F Z [.int (i32 x0), .int (i32 x1), .int (i32 x2)] [] cal_X12_why calv_X12_why ml_X12_301 zk_138 rfl rfl (by decide) (Nat.le_of_ble_eq_true rfl) rfl dX12_act_11 (fun q h => M_X12_why l Γ F h_x0 h_x1 h_x2 mem q h) (fun y2 m3 h_y2 => ?_)
    refine zj_istore C [(5, .int (i32 y2)), (0, .ref (zad Γ 138)), (1, .int (i32 x0)), (2, .int (i32 x1)), (3, .int (i32 x2)), (4, .int (i32 x3))] dX12_act_14 (by decide) rfl ?_
    refine zj_iload C 0 rfl dX12_act_16 ?_
    refine zj_if_eq C 24 h_y2 dX12_act_18 rfl (fun c4 => ?_) (fun c4 => ?_)
    · refine zj_aload_n (j := 0) (i := 0) C rfl 1 rfl dX12_act_24 ?_
      refine zj_callVv C F Z [] [] cal_X12_snap calv_X12_snap ml_X12_305 zk_138 rfl rfl (by decide) (Nat.le_of_ble_eq_true rfl) rfl dX12_act_25 (fun q h => M_X12_snap l Γ F  m3 q h) (fun _ m5 _ => ?_)
      refine zj_aload_n (j := 0) (i := 0) C rfl 1 rfl dX12_act_28 ?_
      refine zj_iload_n (j := 1) (i := 1) C rfl 2 rfl dX12_act_29 ?_
      refine zj_iload_n (j := 2) (i := 2) C rfl 3 rfl dX12_act_30 ?_
      refine zj_iload_n (j := 3) (i := 3) C rfl 4 rfl dX12_act_31 ?_
      refine zj_callVv C F Z [.int (i32 x0), .int (i32 x1), .int (i32 x2)] [] cal_X12_live calv_X12_live ml_X12_308 zk_138 rfl rfl (by decide) (Nat.le_of_ble_eq_true rfl) rfl dX12_act_32 (fun q h => M_X12_live l Γ F h_x0 h_x1 h_x2 m5 q h) (fun _ m6 _ => ?_)
      refine zj_iconst C 0 dX12_act_35 ?_
      exact zrt_i C Z irc_0 dX12_act_36
    · refine zj_iload C 0 rfl dX12_act_21 ?_
      exact zrt_i C Z h_y2 dX12_act_23
noncomputable def f_X12_go_ (x0 : Int) (x1 : Int) (mem : zMem) : Option (Int × zMem) := pipe (zup mem 138 0 0) fun m1 => zbind (f_X12_isPerson x0 m1) fun y2 m3 => if y2 = 0 then (zbind (f_X12_act 0 x0 x1 0 m3) fun y5 m6 => some (y5, m6)) else (zbind (f_X12_isIn x1 0 3 m3) fun y7 m8 => if y7 = 0 then (zbind (f_X12_act 0 x0 x1 0 m8) fun y10 m11 => some (y10, m11)) else (zbind (f_X12_act 0 x0 x1 1 m8) fun y12 m13 => some (y12, m13)))
set_option maxHeartbeats 4000000 in
theorem M_X12_go_ (l : Launch) (Γ : zG) (F : zFull Γ)  {x0 : Int} {x1 : Int} (h_x0 : ir x0) (h_x1 : ir x1) (mem : zMem) (q : Int × zMem) (h : f_X12_go_ x0 x1 mem = some q) : zMet l yX12_go_ cX12_go_ 3 (some .int) 9 Γ 1 [.ref (zad Γ 138), .int (i32 x0), .int (i32 x1)] mem q := by
  refine zMet_of (own := "ShadowHeirsModel") (by decide) rfl (Nat.le_of_ble_eq_true rfl) (fun X C Z => ?_)
  revert h
  show zJ X Γ 3 q (f_X12_go_ x0 x1 mem) 0 [(0, .ref (zad Γ 138)), (1, .int (i32 x0)), (2, .int (i32 x1))] [] mem
  unfold f_X12_go_
  refine zj_aload_n (j := 0) (i := 0) C rfl 0 rfl dX12_go__0 ?_
  refine zj_iconst C 0 dX12_go__1 ?_
  refine zj_putI C F 0 rfl zk_138 fl_X12_1 rfl fp_12_0 irc_0 dX12_go__2 ?_
  refine zj_pipeM (fun m1 e_m1 => ?_)
  refine zj_aload_n (j := 0) (i := 0) C rfl 0 rfl dX12_go__5 ?_
  refine zj_iconst C 0 dX12_go__6 ?_
  refine zj_iload_n (j := 1) (i := 1) C rfl 1 rfl dX12_go__7 ?_
  refine zj_iload_n (j := 2) (i := 2) C rfl 2 rfl dX12_go__8 ?_
  refine zj_aload_n (j := 0) (i := 0) C rfl 0 rfl dX12_go__9 ?_
  refine zj_iload_n (j := 1) (i := 1) C rfl 1 rfl dX12_go__10 ?_
  refine zj_callVi C F Z [.int (i32 x0)] [.int (i32 x1), .int (i32 x0), .int (i32 0), .ref (zad Γ 138)] cal_X12_isPerson calv_X12_isPerson ml_X12_280 zk_138 rfl rfl (by decide) (Nat.le_of_ble_eq_true rfl) rfl dX12_go__11 (fun q h => M_X12_isPerson l Γ F h_x0 m1 q h) (fun y2 m3 h_y2 => ?_)
  refine zj_if_eq C 30 h_y2 dX12_go__14 rfl (fun c4 => ?_) (fun c4 => ?_)
  · refine zj_iconst C 0 dX12_go__30 ?_
    refine zj_callVi C F Z [.int (i32 0), .int (i32 x0), .int (i32 x1), .int (i32 0)] [] cal_X12_act calv_X12_act ml_X12_312 zk_138 rfl rfl (by decide) (Nat.le_of_ble_eq_true rfl) rfl dX12_go__31 (fun q h => M_X12_act l Γ F irc_0 h_x0 h_x1 irc_0 m3 q h) (fun y5 m6 h_y5 => ?_)
    exact zrt_i C Z h_y5 dX12_go__34
  · refine zj_iload_n (j := 2) (i := 2) C rfl 2 rfl dX12_go__17 ?_
    refine zj_iconst C 0 dX12_go__18 ?_
    refine zj_iconst C 3 dX12_go__19 ?_
    refine zj_callSi C Z [.int (i32 x1), .int (i32 0), .int (i32 3)] [.int (i32 x1), .int (i32 x0), .int (i32 0), .ref (zad Γ 138)] cal_X12_isIn sta_X12_isIn ml_X12_75 rfl (by decide) (Nat.le_of_ble_eq_true rfl) rfl dX12_go__20 (fun q h => M_X12_isIn l Γ F h_x1 irc_0 irc_3 m3 q h) (fun y7 m8 h_y7 => ?_)
    refine zj_if_eq C 30 h_y7 dX12_go__23 rfl (fun c9 => ?_) (fun c9 => ?_)
    · refine zj_iconst C 0 dX12_go__30 ?_
      refine zj_callVi C F Z [.int (i32 0), .int (i32 x0), .int (i32 x1), .int (i32 0)] [] cal_X12_act calv_X12_act ml_X12_312 zk_138 rfl rfl (by decide) (Nat.le_of_ble_eq_true rfl) rfl dX12_go__31 (fun q h => M_X12_act l Γ F irc_0 h_x0 h_x1 irc_0 m8 q h) (fun y10 m11 h_y10 => ?_)
      exact zrt_i C Z h_y10 dX12_go__34
    · refine zj_iconst C 1 dX12_go__26 ?_
      refine zj_goto (tgt := 31) C dX12_go__27 rfl ?_
      refine zj_callVi C F Z [.int (i32 0), .int (i32 x0), .int (i32 x1), .int (i32 1)] [] cal_X12_act calv_X12_act ml_X12_312 zk_138 rfl rfl (by decide) (Nat.le_of_ble_eq_true rfl) rfl dX12_go__31 (fun q h => M_X12_act l Γ F irc_0 h_x0 h_x1 irc_1 m8 q h) (fun y12 m13 h_y12 => ?_)
      exact zrt_i C Z h_y12 dX12_go__34
noncomputable def f_X12_lay (x0 : Int) (x1 : Int) (mem : zMem) : Option (Int × zMem) := pipe (zup mem 138 0 0) fun m1 => zbind (f_X12_isCell x0 x1 m1) fun y2 m3 => zbind (f_X12_act 1 (w32 ((w32 (8 * x1)) + x0)) 0 y2 m3) fun y4 m5 => some (y4, m5)
set_option maxHeartbeats 4000000 in
theorem M_X12_lay (l : Launch) (Γ : zG) (F : zFull Γ)  {x0 : Int} {x1 : Int} (h_x0 : ir x0) (h_x1 : ir x1) (mem : zMem) (q : Int × zMem) (h : f_X12_lay x0 x1 mem = some q) : zMet l yX12_lay cX12_lay 3 (some .int) 9 Γ 1 [.ref (zad Γ 138), .int (i32 x0), .int (i32 x1)] mem q := by
  refine zMet_of (own := "ShadowHeirsModel") (by decide) rfl (Nat.le_of_ble_eq_true rfl) (fun X C Z => ?_)
  revert h
  show zJ X Γ 3 q (f_X12_lay x0 x1 mem) 0 [(0, .ref (zad Γ 138)), (1, .int (i32 x0)), (2, .int (i32 x1))] [] mem
  unfold f_X12_lay
  refine zj_aload_n (j := 0) (i := 0) C rfl 0 rfl dX12_lay_0 ?_
  refine zj_iconst C 0 dX12_lay_1 ?_
  refine zj_putI C F 0 rfl zk_138 fl_X12_1 rfl fp_12_0 irc_0 dX12_lay_2 ?_
  refine zj_pipeM (fun m1 e_m1 => ?_)
  refine zj_aload_n (j := 0) (i := 0) C rfl 0 rfl dX12_lay_5 ?_
  refine zj_iconst C 1 dX12_lay_6 ?_
  refine zj_bipush C 8 rfl dX12_lay_7 ?_
  refine zj_iload_n (j := 2) (i := 2) C rfl 2 rfl dX12_lay_9 ?_
  refine zj_imul C dX12_lay_10 ?_
  refine zj_iload_n (j := 1) (i := 1) C rfl 1 rfl dX12_lay_11 ?_
  refine zj_iadd C dX12_lay_12 ?_
  refine zj_iconst C 0 dX12_lay_13 ?_
  refine zj_aload_n (j := 0) (i := 0) C rfl 0 rfl dX12_lay_14 ?_
  refine zj_iload_n (j := 1) (i := 1) C rfl 1 rfl dX12_lay_15 ?_
  refine zj_iload_n (j := 2) (i := 2) C rfl 2 rfl dX12_lay_16 ?_
  refine zj_callVi C F Z [.int (i32 x0), .int (i32 x1)] [.int (i32 0), .int (i32 (w32 ((w32 (8 * x1)) + x0))), .int (i32 1), .ref (zad Γ 138)] cal_X12_isCell calv_X12_isCell ml_X12_244 zk_138 rfl rfl (by decide) (Nat.le_of_ble_eq_true rfl) rfl dX12_lay_17 (fun q h => M_X12_isCell l Γ F h_x0 h_x1 m1 q h) (fun y2 m3 h_y2 => ?_)
  refine zj_callVi C F Z [.int (i32 1), .int (i32 (w32 ((w32 (8 * x1)) + x0))), .int (i32 0), .int (i32 y2)] [] cal_X12_act calv_X12_act ml_X12_312 zk_138 rfl rfl (by decide) (Nat.le_of_ble_eq_true rfl) rfl dX12_lay_20 (fun q h => M_X12_act l Γ F irc_1 (ir_w _) irc_0 h_y2 m3 q h) (fun y4 m5 h_y4 => ?_)
  exact zrt_i C Z h_y4 dX12_lay_23
noncomputable def f_X12_tear (x0 : Int) (x1 : Int) (mem : zMem) : Option (Int × zMem) := pipe (zup mem 138 0 0) fun m1 => zbind (f_X12_isCell x0 x1 m1) fun y2 m3 => zbind (f_X12_act 2 (w32 ((w32 (8 * x1)) + x0)) 0 y2 m3) fun y4 m5 => some (y4, m5)
set_option maxHeartbeats 4000000 in
theorem M_X12_tear (l : Launch) (Γ : zG) (F : zFull Γ)  {x0 : Int} {x1 : Int} (h_x0 : ir x0) (h_x1 : ir x1) (mem : zMem) (q : Int × zMem) (h : f_X12_tear x0 x1 mem = some q) : zMet l yX12_tear cX12_tear 3 (some .int) 9 Γ 1 [.ref (zad Γ 138), .int (i32 x0), .int (i32 x1)] mem q := by
  refine zMet_of (own := "ShadowHeirsModel") (by decide) rfl (Nat.le_of_ble_eq_true rfl) (fun X C Z => ?_)
  revert h
  show zJ X Γ 3 q (f_X12_tear x0 x1 mem) 0 [(0, .ref (zad Γ 138)), (1, .int (i32 x0)), (2, .int (i32 x1))] [] mem
  unfold f_X12_tear
  refine zj_aload_n (j := 0) (i := 0) C rfl 0 rfl dX12_tear_0 ?_
  refine zj_iconst C 0 dX12_tear_1 ?_
  refine zj_putI C F 0 rfl zk_138 fl_X12_1 rfl fp_12_0 irc_0 dX12_tear_2 ?_
  refine zj_pipeM (fun m1 e_m1 => ?_)
  refine zj_aload_n (j := 0) (i := 0) C rfl 0 rfl dX12_tear_5 ?_
  refine zj_iconst C 2 dX12_tear_6 ?_
  refine zj_bipush C 8 rfl dX12_tear_7 ?_
  refine zj_iload_n (j := 2) (i := 2) C rfl 2 rfl dX12_tear_9 ?_
  refine zj_imul C dX12_tear_10 ?_
  refine zj_iload_n (j := 1) (i := 1) C rfl 1 rfl dX12_tear_11 ?_
  refine zj_iadd C dX12_tear_12 ?_
  refine zj_iconst C 0 dX12_tear_13 ?_
  refine zj_aload_n (j := 0) (i := 0) C rfl 0 rfl dX12_tear_14 ?_
  refine zj_iload_n (j := 1) (i := 1) C rfl 1 rfl dX12_tear_15 ?_
  refine zj_iload_n (j := 2) (i := 2) C rfl 2 rfl dX12_tear_16 ?_
  refine zj_callVi C F Z [.int (i32 x0), .int (i32 x1)] [.int (i32 0), .int (i32 (w32 ((w32 (8 * x1)) + x0))), .int (i32 2), .ref (zad Γ 138)] cal_X12_isCell calv_X12_isCell ml_X12_244 zk_138 rfl rfl (by decide) (Nat.le_of_ble_eq_true rfl) rfl dX12_tear_17 (fun q h => M_X12_isCell l Γ F h_x0 h_x1 m1 q h) (fun y2 m3 h_y2 => ?_)
  refine zj_callVi C F Z [.int (i32 2), .int (i32 (w32 ((w32 (8 * x1)) + x0))), .int (i32 0), .int (i32 y2)] [] cal_X12_act calv_X12_act ml_X12_312 zk_138 rfl rfl (by decide) (Nat.le_of_ble_eq_true rfl) rfl dX12_tear_20 (fun q h => M_X12_act l Γ F irc_2 (ir_w _) irc_0 h_y2 m3 q h) (fun y4 m5 h_y4 => ?_)
  exact zrt_i C Z h_y4 dX12_tear_23
noncomputable def f_X12_bury (x0 : Int) (mem : zMem) : Option (Int × zMem) := pipe (zup mem 138 0 0) fun m1 => zbind (f_X12_isHouse x0 m1) fun y2 m3 => zbind (f_X12_act 3 x0 0 y2 m3) fun y4 m5 => some (y4, m5)
set_option maxHeartbeats 4000000 in
theorem M_X12_bury (l : Launch) (Γ : zG) (F : zFull Γ)  {x0 : Int} (h_x0 : ir x0) (mem : zMem) (q : Int × zMem) (h : f_X12_bury x0 mem = some q) : zMet l yX12_bury cX12_bury 2 (some .int) 9 Γ 1 [.ref (zad Γ 138), .int (i32 x0)] mem q := by
  refine zMet_of (own := "ShadowHeirsModel") (by decide) rfl (Nat.le_of_ble_eq_true rfl) (fun X C Z => ?_)
  revert h
  show zJ X Γ 2 q (f_X12_bury x0 mem) 0 [(0, .ref (zad Γ 138)), (1, .int (i32 x0))] [] mem
  unfold f_X12_bury
  refine zj_aload_n (j := 0) (i := 0) C rfl 0 rfl dX12_bury_0 ?_
  refine zj_iconst C 0 dX12_bury_1 ?_
  refine zj_putI C F 0 rfl zk_138 fl_X12_1 rfl fp_12_0 irc_0 dX12_bury_2 ?_
  refine zj_pipeM (fun m1 e_m1 => ?_)
  refine zj_aload_n (j := 0) (i := 0) C rfl 0 rfl dX12_bury_5 ?_
  refine zj_iconst C 3 dX12_bury_6 ?_
  refine zj_iload_n (j := 1) (i := 1) C rfl 1 rfl dX12_bury_7 ?_
  refine zj_iconst C 0 dX12_bury_8 ?_
  refine zj_aload_n (j := 0) (i := 0) C rfl 0 rfl dX12_bury_9 ?_
  refine zj_iload_n (j := 1) (i := 1) C rfl 1 rfl dX12_bury_10 ?_
  refine zj_callVi C F Z [.int (i32 x0)] [.int (i32 0), .int (i32 x0), .int (i32 3), .ref (zad Γ 138)] cal_X12_isHouse calv_X12_isHouse ml_X12_268 zk_138 rfl rfl (by decide) (Nat.le_of_ble_eq_true rfl) rfl dX12_bury_11 (fun q h => M_X12_isHouse l Γ F h_x0 m1 q h) (fun y2 m3 h_y2 => ?_)
  refine zj_callVi C F Z [.int (i32 3), .int (i32 x0), .int (i32 0), .int (i32 y2)] [] cal_X12_act calv_X12_act ml_X12_312 zk_138 rfl rfl (by decide) (Nat.le_of_ble_eq_true rfl) rfl dX12_bury_14 (fun q h => M_X12_act l Γ F irc_3 h_x0 irc_0 h_y2 m3 q h) (fun y4 m5 h_y4 => ?_)
  exact zrt_i C Z h_y4 dX12_bury_17
noncomputable def b_X12_undo_0 (rec : Int → zMem → Option (Int × zMem)) (v1 : Int) (mem : zMem) : Option (Int × zMem) := if v1 ≥ 86 then (some ((mem 138 25), mem)) else (if ix 143 (w32 ((w32 (86 * (mem 138 25))) + v1)) then if ix 140 (w32 (106 + v1)) then pipe (zup mem 140 (w32 (106 + v1)) (mem 143 (w32 ((w32 (86 * (mem 138 25))) + v1)))) fun m7 => rec (w32 (v1 + 1)) m7 else none else none)
noncomputable def f_X12_undo_0 : Nat → Int → zMem → Option (Int × zMem) := zfuel (fun _ _ => none) (b_X12_undo_0)
set_option maxHeartbeats 4000000 in
theorem L_X12_undo_0 (l : Launch) {Γ : zG} (F : zFull Γ) {X : zM} {q : Int × zMem} (C : zC X Γ "ShadowHeirsModel" cX12_undo 2) (Z : zRt X l Γ 1 1 (some .int) q) : ∀ n : Nat, ∀ (v1 : Int) (h_v1 : ir v1) (mem : zMem), zJ X Γ 2 q (f_X12_undo_0 n v1 mem) 26 [(0, .ref (zad Γ 138)), (1, .int (i32 v1))] [] mem := by
  intro n
  induction n with
  | zero => intros; exact zj_none
  | succ n ih =>
    intro v1 h_v1 mem
    show zJ X Γ 2 q (b_X12_undo_0 (f_X12_undo_0 n) v1 mem) _ _ _ _
    unfold b_X12_undo_0
    refine zj_iload_n (j := 1) (i := 1) C rfl 1 rfl dX12_undo_26 ?_
    refine zj_bipush C 86 rfl dX12_undo_27 ?_
    refine zj_icmp_ge C 61 h_v1 irc_86 dX12_undo_29 rfl (fun c1 => ?_) (fun c1 => ?_)
    · refine zj_aload_n (j := 0) (i := 0) C rfl 0 rfl dX12_undo_61 ?_
      refine zj_getI C F 25 rfl zk_138 fl_X12_232 rfl dX12_undo_62 (fun h2 => ?_)
      exact zrt_i C Z h2 dX12_undo_65
    · refine zj_aload_n (j := 0) (i := 0) C rfl 0 rfl dX12_undo_32 ?_
      refine zj_getR C F zk_138 fl_X12_98 rfl rf_138_14 dX12_undo_33 ?_
      refine zj_bipush C 106 rfl dX12_undo_36 ?_
      refine zj_iload_n (j := 1) (i := 1) C rfl 1 rfl dX12_undo_38 ?_
      refine zj_iadd C dX12_undo_39 ?_
      refine zj_aload_n (j := 0) (i := 0) C rfl 0 rfl dX12_undo_40 ?_
      refine zj_getR C F zk_138 fl_X12_107 rfl rf_138_17 dX12_undo_41 ?_
      refine zj_bipush C 86 rfl dX12_undo_44 ?_
      refine zj_aload_n (j := 0) (i := 0) C rfl 0 rfl dX12_undo_46 ?_
      refine zj_getI C F 25 rfl zk_138 fl_X12_232 rfl dX12_undo_47 (fun h3 => ?_)
      refine zj_imul C dX12_undo_50 ?_
      refine zj_iload_n (j := 1) (i := 1) C rfl 1 rfl dX12_undo_51 ?_
      refine zj_iadd C dX12_undo_52 ?_
      refine zj_iaload C F zk_143 (ir_w _) dX12_undo_53 (fun c4 h5 => ?_)
      refine zj_iastore C F zk_140 (ir_w _) h5 dX12_undo_54 (fun c6 => ?_)
      refine zj_pipeM (fun m7 e_m7 => ?_)
      refine zj_iinc C 1 [(1, .int (i32 (w32 (v1 + 1)))), (0, .ref (zad Γ 138))] rfl dX12_undo_55 (by decide) rfl ?_
      refine zj_goto (tgt := 26) C dX12_undo_58 rfl ?_
      exact zj_sub [1, 0] rfl (ih (w32 (v1 + 1)) (ir_w _) m7)
noncomputable def f_X12_undo  (mem : zMem) : Option (Int × zMem) := pipe (zup mem 138 0 0) fun m1 => if (m1 138 25) = 0 then (some ((-1), m1)) else (pipe (zup m1 138 25 (w32 ((m1 138 25) - 1))) fun m5 => f_X12_undo_0 zN 0 m5)
set_option maxHeartbeats 4000000 in
theorem M_X12_undo (l : Launch) (Γ : zG) (F : zFull Γ)    (mem : zMem) (q : Int × zMem) (h : f_X12_undo  mem = some q) : zMet l yX12_undo cX12_undo 2 (some .int) 1 Γ 1 [.ref (zad Γ 138)] mem q := by
  refine zMet_of (own := "ShadowHeirsModel") (by decide) rfl (Nat.le_of_ble_eq_true rfl) (fun X C Z => ?_)
  revert h
  show zJ X Γ 2 q (f_X12_undo  mem) 0 [(0, .ref (zad Γ 138))] [] mem
  unfold f_X12_undo
  refine zj_aload_n (j := 0) (i := 0) C rfl 0 rfl dX12_undo_0 ?_
  refine zj_iconst C 0 dX12_undo_1 ?_
  refine zj_putI C F 0 rfl zk_138 fl_X12_1 rfl fp_12_0 irc_0 dX12_undo_2 ?_
  refine zj_pipeM (fun m1 e_m1 => ?_)
  refine zj_aload_n (j := 0) (i := 0) C rfl 0 rfl dX12_undo_5 ?_
  refine zj_getI C F 25 rfl zk_138 fl_X12_232 rfl dX12_undo_6 (fun h2 => ?_)
  refine zj_if_ne C 14 h2 dX12_undo_9 rfl (fun c3 => ?_) (fun c3 => ?_)
  · refine zj_iconst C (-1) dX12_undo_12 ?_
    exact zrt_i C Z irc_m1 dX12_undo_13
  · refine zj_aload_n (j := 0) (i := 0) C rfl 0 rfl dX12_undo_14 ?_
    refine zj_dup C rfl dX12_undo_15 ?_
    refine zj_getI C F 25 rfl zk_138 fl_X12_232 rfl dX12_undo_16 (fun h4 => ?_)
    refine zj_iconst C 1 dX12_undo_19 ?_
    refine zj_isub C dX12_undo_20 ?_
    refine zj_putI C F 25 rfl zk_138 fl_X12_232 rfl fp_12_25 (ir_w _) dX12_undo_21 ?_
    refine zj_pipeM (fun m5 e_m5 => ?_)
    refine zj_iconst C 0 dX12_undo_24 ?_
    refine zj_istore_n (j := 1) (i := 1) C rfl [(1, .int (i32 0)), (0, .ref (zad Γ 138))] dX12_undo_25 (by decide) rfl ?_
    exact zj_sub [1, 0] rfl ((L_X12_undo_0 l F C Z zN) 0 irc_0 m5)
noncomputable def f_X12_passHours (x0 : Int) (mem : zMem) : Option (Int × zMem) := if ix 140 106 then zbind (f_X12_least x0 (w32 (400 - (mem 140 106))) mem) fun y3 m4 => if ix 140 106 then if ix 140 106 then pipe (zup m4 140 106 (w32 ((m4 140 106) + y3))) fun m8 => some (y3, m8) else none else none else none
set_option maxHeartbeats 4000000 in
theorem M_X12_passHours (l : Launch) (Γ : zG) (F : zFull Γ)  {x0 : Int} (h_x0 : ir x0) (mem : zMem) (q : Int × zMem) (h : f_X12_passHours x0 mem = some q) : zMet l yX12_passHours cX12_passHours 3 (some .int) 2 Γ 1 [.ref (zad Γ 138), .int (i32 x0)] mem q := by
  refine zMet_of (own := "ShadowHeirsModel") (by decide) rfl (Nat.le_of_ble_eq_true rfl) (fun X C Z => ?_)
  revert h
  show zJ X Γ 3 q (f_X12_passHours x0 mem) 0 [(0, .ref (zad Γ 138)), (1, .int (i32 x0))] [] mem
  unfold f_X12_passHours
  refine zj_iload_n (j := 1) (i := 1) C rfl 1 rfl dX12_passHours_0 ?_
  refine zj_sipush C 400 rfl dX12_passHours_1 ?_
  refine zj_aload_n (j := 0) (i := 0) C rfl 0 rfl dX12_passHours_4 ?_
  refine zj_getR C F zk_138 fl_X12_98 rfl rf_138_14 dX12_passHours_5 ?_
  refine zj_bipush C 106 rfl dX12_passHours_8 ?_
  refine zj_iaload C F zk_140 irc_106 dX12_passHours_10 (fun c1 h2 => ?_)
  refine zj_isub C dX12_passHours_11 ?_
  refine zj_callSi C Z [.int (i32 x0), .int (i32 (w32 (400 - (mem 140 106))))] [] cal_X12_least sta_X12_least ml_X12_316 rfl (by decide) (Nat.le_of_ble_eq_true rfl) rfl dX12_passHours_12 (fun q h => M_X12_least l Γ F h_x0 (ir_w _) mem q h) (fun y3 m4 h_y3 => ?_)
  refine zj_istore_n (j := 2) (i := 2) C rfl [(2, .int (i32 y3)), (0, .ref (zad Γ 138)), (1, .int (i32 x0))] dX12_passHours_15 (by decide) rfl ?_
  refine zj_aload_n (j := 0) (i := 0) C rfl 1 rfl dX12_passHours_16 ?_
  refine zj_getR C F zk_138 fl_X12_98 rfl rf_138_14 dX12_passHours_17 ?_
  refine zj_bipush C 106 rfl dX12_passHours_20 ?_
  refine zj_dup2 C rfl rfl dX12_passHours_22 ?_
  refine zj_iaload C F zk_140 irc_106 dX12_passHours_23 (fun c5 h6 => ?_)
  refine zj_iload_n (j := 2) (i := 2) C rfl 0 rfl dX12_passHours_24 ?_
  refine zj_iadd C dX12_passHours_25 ?_
  refine zj_iastore C F zk_140 irc_106 (ir_w _) dX12_passHours_26 (fun c7 => ?_)
  refine zj_pipeM (fun m8 e_m8 => ?_)
  refine zj_iload_n (j := 2) (i := 2) C rfl 0 rfl dX12_passHours_27 ?_
  exact zrt_i C Z h_y3 dX12_passHours_28
noncomputable def f_X12_hours (x0 : Int) (mem : zMem) : Option (Int × zMem) := pipe (zup mem 138 0 0) fun m1 => zbind (f_X12_isIn x0 1 60 m1) fun y2 m3 => if y2 = 0 then (some ((-1), m3)) else (if ix 140 106 then if (m3 140 106) = 400 then (some (0, m3)) else (zbind (f_X12_snap m3) fun _ m8 => zbind (f_X12_passHours x0 m8) fun y9 m10 => some (y9, m10)) else none)
set_option maxHeartbeats 4000000 in
theorem M_X12_hours (l : Launch) (Γ : zG) (F : zFull Γ)  {x0 : Int} (h_x0 : ir x0) (mem : zMem) (q : Int × zMem) (h : f_X12_hours x0 mem = some q) : zMet l yX12_hours cX12_hours 2 (some .int) 3 Γ 1 [.ref (zad Γ 138), .int (i32 x0)] mem q := by
  refine zMet_of (own := "ShadowHeirsModel") (by decide) rfl (Nat.le_of_ble_eq_true rfl) (fun X C Z => ?_)
  revert h
  show zJ X Γ 2 q (f_X12_hours x0 mem) 0 [(0, .ref (zad Γ 138)), (1, .int (i32 x0))] [] mem
  unfold f_X12_hours
  refine zj_aload_n (j := 0) (i := 0) C rfl 0 rfl dX12_hours_0 ?_
  refine zj_iconst C 0 dX12_hours_1 ?_
  refine zj_putI C F 0 rfl zk_138 fl_X12_1 rfl fp_12_0 irc_0 dX12_hours_2 ?_
  refine zj_pipeM (fun m1 e_m1 => ?_)
  refine zj_iload_n (j := 1) (i := 1) C rfl 1 rfl dX12_hours_5 ?_
  refine zj_iconst C 1 dX12_hours_6 ?_
  refine zj_bipush C 60 rfl dX12_hours_7 ?_
  refine zj_callSi C Z [.int (i32 x0), .int (i32 1), .int (i32 60)] [] cal_X12_isIn sta_X12_isIn ml_X12_75 rfl (by decide) (Nat.le_of_ble_eq_true rfl) rfl dX12_hours_9 (fun q h => M_X12_isIn l Γ F h_x0 irc_1 irc_60 m1 q h) (fun y2 m3 h_y2 => ?_)
  refine zj_if_ne C 17 h_y2 dX12_hours_12 rfl (fun c4 => ?_) (fun c4 => ?_)
  · refine zj_iconst C (-1) dX12_hours_15 ?_
    exact zrt_i C Z irc_m1 dX12_hours_16
  · refine zj_aload_n (j := 0) (i := 0) C rfl 0 rfl dX12_hours_17 ?_
    refine zj_getR C F zk_138 fl_X12_98 rfl rf_138_14 dX12_hours_18 ?_
    refine zj_bipush C 106 rfl dX12_hours_21 ?_
    refine zj_iaload C F zk_140 irc_106 dX12_hours_23 (fun c5 h6 => ?_)
    refine zj_sipush C 400 rfl dX12_hours_24 ?_
    refine zj_icmp_ne C 32 h6 irc_400 dX12_hours_27 rfl (fun c7 => ?_) (fun c7 => ?_)
    · refine zj_iconst C 0 dX12_hours_30 ?_
      exact zrt_i C Z irc_0 dX12_hours_31
    · refine zj_aload_n (j := 0) (i := 0) C rfl 0 rfl dX12_hours_32 ?_
      refine zj_callVv C F Z [] [] cal_X12_snap calv_X12_snap ml_X12_305 zk_138 rfl rfl (by decide) (Nat.le_of_ble_eq_true rfl) rfl dX12_hours_33 (fun q h => M_X12_snap l Γ F  m3 q h) (fun _ m8 _ => ?_)
      refine zj_aload_n (j := 0) (i := 0) C rfl 0 rfl dX12_hours_36 ?_
      refine zj_iload_n (j := 1) (i := 1) C rfl 1 rfl dX12_hours_37 ?_
      refine zj_callVi C F Z [.int (i32 x0)] [] cal_X12_passHours calv_X12_passHours ml_X12_319 zk_138 rfl rfl (by decide) (Nat.le_of_ble_eq_true rfl) rfl dX12_hours_38 (fun q h => M_X12_passHours l Γ F h_x0 m8 q h) (fun y9 m10 h_y9 => ?_)
      exact zrt_i C Z h_y9 dX12_hours_41
noncomputable def b_X12_shadow_0 (rec : Int → Int → Int → zMem → Option (Int × zMem)) (w3 : Int) (v5 : Int) (v6 : Int) (mem : zMem) : Option (Int × zMem) := if v6 ≥ 64 then (some (v5, mem)) else (zbind (f_X12_isCast w3 v6 mem) fun y2 m3 => if y2 = 0 then (rec w3 v5 (w32 (v6 + 1)) m3) else (rec w3 (w32 (v5 + 1)) (w32 (v6 + 1)) m3))
noncomputable def f_X12_shadow_0 : Nat → Int → Int → Int → zMem → Option (Int × zMem) := zfuel (fun _ _ _ _ => none) (b_X12_shadow_0)
set_option maxHeartbeats 4000000 in
theorem L_X12_shadow_0 (l : Launch) {Γ : zG} (F : zFull Γ) {X : zM} {q : Int × zMem} (C : zC X Γ "ShadowHeirsModel" cX12_shadow 7) (Z : zRt X l Γ 5 1 (some .int) q) : ∀ n : Nat, ∀ (w3 : Int) (v5 : Int) (v6 : Int) (h_w3 : lr w3) (h_v5 : ir v5) (h_v6 : ir v6) (mem : zMem), zJ X Γ 7 q (f_X12_shadow_0 n w3 v5 v6 mem) 36 [(3, .long (i64 w3)), (5, .int (i32 v5)), (6, .int (i32 v6))] [] mem := by
  intro n
  induction n with
  | zero => intros; exact zj_none
  | succ n ih =>
    intro w3 v5 v6 h_w3 h_v5 h_v6 mem
    show zJ X Γ 7 q (b_X12_shadow_0 (f_X12_shadow_0 n) w3 v5 v6 mem) _ _ _ _
    unfold b_X12_shadow_0
    refine zj_iload C 2 rfl dX12_shadow_36 ?_
    refine zj_bipush C 64 rfl dX12_shadow_38 ?_
    refine zj_icmp_ge C 61 h_v6 irc_64 dX12_shadow_40 rfl (fun c1 => ?_) (fun c1 => ?_)
    · refine zj_iload C 1 rfl dX12_shadow_61 ?_
      exact zrt_i C Z h_v5 dX12_shadow_63
    · refine zj_lload_n (j := 3) (i := 3) C rfl 0 rfl dX12_shadow_43 ?_
      refine zj_iload C 2 rfl dX12_shadow_44 ?_
      refine zj_callSi C Z [.long (i64 w3), .int (i32 v6)] [] cal_X12_isCast sta_X12_isCast ml_X12_255 rfl (by decide) (Nat.le_of_ble_eq_true rfl) rfl dX12_shadow_46 (fun q h => M_X12_isCast l Γ F h_w3 h_v6 mem q h) (fun y2 m3 h_y2 => ?_)
      refine zj_if_eq C 55 h_y2 dX12_shadow_49 rfl (fun c4 => ?_) (fun c4 => ?_)
      · refine zj_iinc C 2 [(6, .int (i32 (w32 (v6 + 1)))), (3, .long (i64 w3)), (5, .int (i32 v5))] rfl dX12_shadow_55 (by decide) rfl ?_
        refine zj_goto (tgt := 36) C dX12_shadow_58 rfl ?_
        exact zj_sub [1, 2, 0] rfl (ih w3 v5 (w32 (v6 + 1)) h_w3 h_v5 (ir_w _) m3)
      · refine zj_iinc C 1 [(5, .int (i32 (w32 (v5 + 1)))), (3, .long (i64 w3)), (6, .int (i32 v6))] rfl dX12_shadow_52 (by decide) rfl ?_
        refine zj_iinc C 2 [(6, .int (i32 (w32 (v6 + 1)))), (5, .int (i32 (w32 (v5 + 1)))), (3, .long (i64 w3))] rfl dX12_shadow_55 (by decide) rfl ?_
        refine zj_goto (tgt := 36) C dX12_shadow_58 rfl ?_
        exact zj_sub [2, 1, 0] rfl (ih w3 (w32 (v5 + 1)) (w32 (v6 + 1)) h_w3 (ir_w _) (ir_w _) m3)
noncomputable def f_X12_shadow (x0 : Int) (x1 : Int) (mem : zMem) : Option (Int × zMem) := pipe (zup mem 138 0 0) fun m1 => zbind (f_X12_isHouse x0 m1) fun y2 m3 => if y2 = 0 then (some ((-1), m3)) else (zbind (f_X12_isSun x1 m3) fun y5 m6 => if y5 = 0 then (some ((-1), m6)) else (zbind (f_X12_shadowOf x0 x1 m6) fun y8 m9 => f_X12_shadow_0 zN y8 0 0 m9))
set_option maxHeartbeats 4000000 in
theorem M_X12_shadow (l : Launch) (Γ : zG) (F : zFull Γ)  {x0 : Int} {x1 : Int} (h_x0 : ir x0) (h_x1 : ir x1) (mem : zMem) (q : Int × zMem) (h : f_X12_shadow x0 x1 mem = some q) : zMet l yX12_shadow cX12_shadow 7 (some .int) 5 Γ 1 [.ref (zad Γ 138), .int (i32 x0), .int (i32 x1)] mem q := by
  refine zMet_of (own := "ShadowHeirsModel") (by decide) rfl (Nat.le_of_ble_eq_true rfl) (fun X C Z => ?_)
  revert h
  show zJ X Γ 7 q (f_X12_shadow x0 x1 mem) 0 [(0, .ref (zad Γ 138)), (1, .int (i32 x0)), (2, .int (i32 x1))] [] mem
  unfold f_X12_shadow
  refine zj_aload_n (j := 0) (i := 0) C rfl 0 rfl dX12_shadow_0 ?_
  refine zj_iconst C 0 dX12_shadow_1 ?_
  refine zj_putI C F 0 rfl zk_138 fl_X12_1 rfl fp_12_0 irc_0 dX12_shadow_2 ?_
  refine zj_pipeM (fun m1 e_m1 => ?_)
  refine zj_aload_n (j := 0) (i := 0) C rfl 0 rfl dX12_shadow_5 ?_
  refine zj_iload_n (j := 1) (i := 1) C rfl 1 rfl dX12_shadow_6 ?_
  refine zj_callVi C F Z [.int (i32 x0)] [] cal_X12_isHouse calv_X12_isHouse ml_X12_268 zk_138 rfl rfl (by decide) (Nat.le_of_ble_eq_true rfl) rfl dX12_shadow_7 (fun q h => M_X12_isHouse l Γ F h_x0 m1 q h) (fun y2 m3 h_y2 => ?_)
  refine zj_if_eq C 21 h_y2 dX12_shadow_10 rfl (fun c4 => ?_) (fun c4 => ?_)
  · refine zj_iconst C (-1) dX12_shadow_21 ?_
    exact zrt_i C Z irc_m1 dX12_shadow_22
  · refine zj_aload_n (j := 0) (i := 0) C rfl 0 rfl dX12_shadow_13 ?_
    refine zj_iload_n (j := 2) (i := 2) C rfl 2 rfl dX12_shadow_14 ?_
    refine zj_callVi C F Z [.int (i32 x1)] [] cal_X12_isSun calv_X12_isSun ml_X12_322 zk_138 rfl rfl (by decide) (Nat.le_of_ble_eq_true rfl) rfl dX12_shadow_15 (fun q h => M_X12_isSun l Γ F h_x1 m3 q h) (fun y5 m6 h_y5 => ?_)
    refine zj_if_ne C 23 h_y5 dX12_shadow_18 rfl (fun c7 => ?_) (fun c7 => ?_)
    · refine zj_iconst C (-1) dX12_shadow_21 ?_
      exact zrt_i C Z irc_m1 dX12_shadow_22
    · refine zj_aload_n (j := 0) (i := 0) C rfl 0 rfl dX12_shadow_23 ?_
      refine zj_iload_n (j := 1) (i := 1) C rfl 1 rfl dX12_shadow_24 ?_
      refine zj_iload_n (j := 2) (i := 2) C rfl 2 rfl dX12_shadow_25 ?_
      refine zj_callVl C F Z [.int (i32 x0), .int (i32 x1)] [] cal_X12_shadowOf calv_X12_shadowOf ml_X12_251 zk_138 rfl rfl (by decide) (Nat.le_of_ble_eq_true rfl) rfl dX12_shadow_26 (fun q h => M_X12_shadowOf l Γ F h_x0 h_x1 m6 q h) (fun y8 m9 h_y8 => ?_)
      refine zj_lstore_n (j := 3) (i := 3) C rfl [(3, .long (i64 y8)), (0, .ref (zad Γ 138)), (1, .int (i32 x0)), (2, .int (i32 x1))] dX12_shadow_29 (by decide) rfl ?_
      refine zj_iconst C 0 dX12_shadow_30 ?_
      refine zj_istore C [(5, .int (i32 0)), (3, .long (i64 y8)), (0, .ref (zad Γ 138)), (1, .int (i32 x0)), (2, .int (i32 x1))] dX12_shadow_31 (by decide) rfl ?_
      refine zj_iconst C 0 dX12_shadow_33 ?_
      refine zj_istore C [(6, .int (i32 0)), (5, .int (i32 0)), (3, .long (i64 y8)), (0, .ref (zad Γ 138)), (1, .int (i32 x0)), (2, .int (i32 x1))] dX12_shadow_34 (by decide) rfl ?_
      exact zj_sub [2, 1, 0] rfl ((L_X12_shadow_0 l F C Z zN) y8 0 0 h_y8 irc_0 irc_0 m9)
noncomputable def f_X12_heirs (x0 : Int) (x1 : Int) (mem : zMem) : Option (Int × zMem) := pipe (zup mem 138 0 0) fun m1 => zbind (f_X12_isHouse x0 m1) fun y2 m3 => if y2 = 0 then (some ((-1), m3)) else (zbind (f_X12_isSun x1 m3) fun y5 m6 => if y5 = 0 then (some ((-1), m6)) else (zbind (f_X12_touchedBy x0 x1 m6) fun y8 m9 => some (y8, m9)))
set_option maxHeartbeats 4000000 in
theorem M_X12_heirs (l : Launch) (Γ : zG) (F : zFull Γ)  {x0 : Int} {x1 : Int} (h_x0 : ir x0) (h_x1 : ir x1) (mem : zMem) (q : Int × zMem) (h : f_X12_heirs x0 x1 mem = some q) : zMet l yX12_heirs cX12_heirs 3 (some .int) 6 Γ 1 [.ref (zad Γ 138), .int (i32 x0), .int (i32 x1)] mem q := by
  refine zMet_of (own := "ShadowHeirsModel") (by decide) rfl (Nat.le_of_ble_eq_true rfl) (fun X C Z => ?_)
  revert h
  show zJ X Γ 3 q (f_X12_heirs x0 x1 mem) 0 [(0, .ref (zad Γ 138)), (1, .int (i32 x0)), (2, .int (i32 x1))] [] mem
  unfold f_X12_heirs
  refine zj_aload_n (j := 0) (i := 0) C rfl 0 rfl dX12_heirs_0 ?_
  refine zj_iconst C 0 dX12_heirs_1 ?_
  refine zj_putI C F 0 rfl zk_138 fl_X12_1 rfl fp_12_0 irc_0 dX12_heirs_2 ?_
  refine zj_pipeM (fun m1 e_m1 => ?_)
  refine zj_aload_n (j := 0) (i := 0) C rfl 0 rfl dX12_heirs_5 ?_
  refine zj_iload_n (j := 1) (i := 1) C rfl 1 rfl dX12_heirs_6 ?_
  refine zj_callVi C F Z [.int (i32 x0)] [] cal_X12_isHouse calv_X12_isHouse ml_X12_268 zk_138 rfl rfl (by decide) (Nat.le_of_ble_eq_true rfl) rfl dX12_heirs_7 (fun q h => M_X12_isHouse l Γ F h_x0 m1 q h) (fun y2 m3 h_y2 => ?_)
  refine zj_if_eq C 30 h_y2 dX12_heirs_10 rfl (fun c4 => ?_) (fun c4 => ?_)
  · refine zj_iconst C (-1) dX12_heirs_30 ?_
    exact zrt_i C Z irc_m1 dX12_heirs_31
  · refine zj_aload_n (j := 0) (i := 0) C rfl 0 rfl dX12_heirs_13 ?_
    refine zj_iload_n (j := 2) (i := 2) C rfl 2 rfl dX12_heirs_14 ?_
    refine zj_callVi C F Z [.int (i32 x1)] [] cal_X12_isSun calv_X12_isSun ml_X12_322 zk_138 rfl rfl (by decide) (Nat.le_of_ble_eq_true rfl) rfl dX12_heirs_15 (fun q h => M_X12_isSun l Γ F h_x1 m3 q h) (fun y5 m6 h_y5 => ?_)
    refine zj_if_eq C 30 h_y5 dX12_heirs_18 rfl (fun c7 => ?_) (fun c7 => ?_)
    · refine zj_iconst C (-1) dX12_heirs_30 ?_
      exact zrt_i C Z irc_m1 dX12_heirs_31
    · refine zj_aload_n (j := 0) (i := 0) C rfl 0 rfl dX12_heirs_21 ?_
      refine zj_iload_n (j := 1) (i := 1) C rfl 1 rfl dX12_heirs_22 ?_
      refine zj_iload_n (j := 2) (i := 2) C rfl 2 rfl dX12_heirs_23 ?_
      refine zj_callVi C F Z [.int (i32 x0), .int (i32 x1)] [] cal_X12_touchedBy calv_X12_touchedBy ml_X12_277 zk_138 rfl rfl (by decide) (Nat.le_of_ble_eq_true rfl) rfl dX12_heirs_24 (fun q h => M_X12_touchedBy l Γ F h_x0 h_x1 m6 q h) (fun y8 m9 h_y8 => ?_)
      refine zj_goto (tgt := 31) C dX12_heirs_27 rfl ?_
      exact zrt_i C Z h_y8 dX12_heirs_31
noncomputable def f_X12_share (x0 : Int) (x1 : Int) (x2 : Int) (x3 : Int) (mem : zMem) : Option (Int × zMem) := pipe (zup mem 138 0 0) fun m1 => zbind (f_X12_isPerson x0 m1) fun y2 m3 => if y2 = 0 then (zbind (f_X12_refuse m3) fun y5 m6 => some (y5, m6)) else (zbind (f_X12_isHouse x1 m3) fun y7 m8 => if y7 = 0 then (zbind (f_X12_refuse m8) fun y10 m11 => some (y10, m11)) else (zbind (f_X12_isSun x2 m8) fun y12 m13 => if y12 = 0 then (zbind (f_X12_refuse m13) fun y15 m16 => some (y15, m16)) else (zbind (f_X12_isIn x3 0 1 m13) fun y17 m18 => if y17 = 0 then (zbind (f_X12_refuse m18) fun y20 m21 => some (y20, m21)) else (zbind (f_X12_touchedBy x1 x2 m18) fun y22 m23 => zbind (f_X12_has y22 x0 m23) fun y24 m25 => if x3 = 0 then (if y24 = 0 then (some (0, m25)) else (some (1, m25))) else (if y24 = 0 then (some (1, m25)) else (zbind (f_X12_touchedBy x1 x2 m25) fun y29 m30 => zbind (f_X12_bits y29 m30) fun y31 m32 => some (y31, m32)))))))
set_option maxHeartbeats 4000000 in
theorem M_X12_share (l : Launch) (Γ : zG) (F : zFull Γ)  {x0 : Int} {x1 : Int} {x2 : Int} {x3 : Int} (h_x0 : ir x0) (h_x1 : ir x1) (h_x2 : ir x2) (h_x3 : ir x3) (mem : zMem) (q : Int × zMem) (h : f_X12_share x0 x1 x2 x3 mem = some q) : zMet l yX12_share cX12_share 6 (some .int) 6 Γ 1 [.ref (zad Γ 138), .int (i32 x0), .int (i32 x1), .int (i32 x2), .int (i32 x3)] mem q := by
  refine zMet_of (own := "ShadowHeirsModel") (by decide) rfl (Nat.le_of_ble_eq_true rfl) (fun X C Z => ?_)
  revert h
  show zJ X Γ 6 q (f_X12_share x0 x1 x2 x3 mem) 0 [(0, .ref (zad Γ 138)), (1, .int (i32 x0)), (2, .int (i32 x1)), (3, .int (i32 x2)), (4, .int (i32 x3))] [] mem
  unfold f_X12_share
  refine zj_aload_n (j := 0) (i := 0) C rfl 0 rfl dX12_share_0 ?_
  refine zj_iconst C 0 dX12_share_1 ?_
  refine zj_putI C F 0 rfl zk_138 fl_X12_1 rfl fp_12_0 irc_0 dX12_share_2 ?_
  refine zj_pipeM (fun m1 e_m1 => ?_)
  refine zj_aload_n (j := 0) (i := 0) C rfl 0 rfl dX12_share_5 ?_
  refine zj_iload_n (j := 1) (i := 1) C rfl 1 rfl dX12_share_6 ?_
  refine zj_callVi C F Z [.int (i32 x0)] [] cal_X12_isPerson calv_X12_isPerson ml_X12_280 zk_138 rfl rfl (by decide) (Nat.le_of_ble_eq_true rfl) rfl dX12_share_7 (fun q h => M_X12_isPerson l Γ F h_x0 m1 q h) (fun y2 m3 h_y2 => ?_)
  refine zj_if_eq C 39 h_y2 dX12_share_10 rfl (fun c4 => ?_) (fun c4 => ?_)
  · refine zj_aload_n (j := 0) (i := 0) C rfl 0 rfl dX12_share_39 ?_
    refine zj_callVi C F Z [] [] cal_X12_refuse calv_X12_refuse ml_X12_271 zk_138 rfl rfl (by decide) (Nat.le_of_ble_eq_true rfl) rfl dX12_share_40 (fun q h => M_X12_refuse l Γ F  m3 q h) (fun y5 m6 h_y5 => ?_)
    exact zrt_i C Z h_y5 dX12_share_43
  · refine zj_aload_n (j := 0) (i := 0) C rfl 0 rfl dX12_share_13 ?_
    refine zj_iload_n (j := 2) (i := 2) C rfl 2 rfl dX12_share_14 ?_
    refine zj_callVi C F Z [.int (i32 x1)] [] cal_X12_isHouse calv_X12_isHouse ml_X12_268 zk_138 rfl rfl (by decide) (Nat.le_of_ble_eq_true rfl) rfl dX12_share_15 (fun q h => M_X12_isHouse l Γ F h_x1 m3 q h) (fun y7 m8 h_y7 => ?_)
    refine zj_if_eq C 39 h_y7 dX12_share_18 rfl (fun c9 => ?_) (fun c9 => ?_)
    · refine zj_aload_n (j := 0) (i := 0) C rfl 0 rfl dX12_share_39 ?_
      refine zj_callVi C F Z [] [] cal_X12_refuse calv_X12_refuse ml_X12_271 zk_138 rfl rfl (by decide) (Nat.le_of_ble_eq_true rfl) rfl dX12_share_40 (fun q h => M_X12_refuse l Γ F  m8 q h) (fun y10 m11 h_y10 => ?_)
      exact zrt_i C Z h_y10 dX12_share_43
    · refine zj_aload_n (j := 0) (i := 0) C rfl 0 rfl dX12_share_21 ?_
      refine zj_iload_n (j := 3) (i := 3) C rfl 3 rfl dX12_share_22 ?_
      refine zj_callVi C F Z [.int (i32 x2)] [] cal_X12_isSun calv_X12_isSun ml_X12_322 zk_138 rfl rfl (by decide) (Nat.le_of_ble_eq_true rfl) rfl dX12_share_23 (fun q h => M_X12_isSun l Γ F h_x2 m8 q h) (fun y12 m13 h_y12 => ?_)
      refine zj_if_eq C 39 h_y12 dX12_share_26 rfl (fun c14 => ?_) (fun c14 => ?_)
      · refine zj_aload_n (j := 0) (i := 0) C rfl 0 rfl dX12_share_39 ?_
        refine zj_callVi C F Z [] [] cal_X12_refuse calv_X12_refuse ml_X12_271 zk_138 rfl rfl (by decide) (Nat.le_of_ble_eq_true rfl) rfl dX12_share_40 (fun q h => M_X12_refuse l Γ F  m13 q h) (fun y15 m16 h_y15 => ?_)
        exact zrt_i C Z h_y15 dX12_share_43
      · refine zj_iload C 4 rfl dX12_share_29 ?_
        refine zj_iconst C 0 dX12_share_31 ?_
        refine zj_iconst C 1 dX12_share_32 ?_
        refine zj_callSi C Z [.int (i32 x3), .int (i32 0), .int (i32 1)] [] cal_X12_isIn sta_X12_isIn ml_X12_75 rfl (by decide) (Nat.le_of_ble_eq_true rfl) rfl dX12_share_33 (fun q h => M_X12_isIn l Γ F h_x3 irc_0 irc_1 m13 q h) (fun y17 m18 h_y17 => ?_)
        refine zj_if_ne C 44 h_y17 dX12_share_36 rfl (fun c19 => ?_) (fun c19 => ?_)
        · refine zj_aload_n (j := 0) (i := 0) C rfl 0 rfl dX12_share_39 ?_
          refine zj_callVi C F Z [] [] cal_X12_refuse calv_X12_refuse ml_X12_271 zk_138 rfl rfl (by decide) (Nat.le_of_ble_eq_true rfl) rfl dX12_share_40 (fun q h => M_X12_refuse l Γ F  m18 q h) (fun y20 m21 h_y20 => ?_)
          exact zrt_i C Z h_y20 dX12_share_43
        · refine zj_aload_n (j := 0) (i := 0) C rfl 0 rfl dX12_share_44 ?_
          refine zj_iload_n (j := 2) (i := 2) C rfl 2 rfl dX12_share_45 ?_
          refine zj_iload_n (j := 3) (i := 3) C rfl 3 rfl dX12_share_46 ?_
          refine zj_callVi C F Z [.int (i32 x1), .int (i32 x2)] [] cal_X12_touchedBy calv_X12_touchedBy ml_X12_277 zk_138 rfl rfl (by decide) (Nat.le_of_ble_eq_true rfl) rfl dX12_share_47 (fun q h => M_X12_touchedBy l Γ F h_x1 h_x2 m18 q h) (fun y22 m23 h_y22 => ?_)
          refine zj_iload_n (j := 1) (i := 1) C rfl 1 rfl dX12_share_50 ?_
          refine zj_callSi C Z [.int (i32 y22), .int (i32 x0)] [] cal_X12_has sta_X12_has ml_X12_235 rfl (by decide) (Nat.le_of_ble_eq_true rfl) rfl dX12_share_51 (fun q h => M_X12_has l Γ F h_y22 h_x0 m23 q h) (fun y24 m25 h_y24 => ?_)
          refine zj_istore C [(5, .int (i32 y24)), (0, .ref (zad Γ 138)), (1, .int (i32 x0)), (2, .int (i32 x1)), (3, .int (i32 x2)), (4, .int (i32 x3))] dX12_share_54 (by decide) rfl ?_
          refine zj_iload C 5 rfl dX12_share_56 ?_
          refine zj_if_ne C 72 h_x3 dX12_share_58 rfl (fun c26 => ?_) (fun c26 => ?_)
          · refine zj_iload C 0 rfl dX12_share_61 ?_
            refine zj_if_eq C 70 h_y24 dX12_share_63 rfl (fun c27 => ?_) (fun c27 => ?_)
            · refine zj_iconst C 0 dX12_share_70 ?_
              exact zrt_i C Z irc_0 dX12_share_71
            · refine zj_iconst C 1 dX12_share_66 ?_
              refine zj_goto (tgt := 71) C dX12_share_67 rfl ?_
              exact zrt_i C Z irc_1 dX12_share_71
          · refine zj_iload C 0 rfl dX12_share_72 ?_
            refine zj_if_eq C 89 h_y24 dX12_share_74 rfl (fun c28 => ?_) (fun c28 => ?_)
            · refine zj_iconst C 1 dX12_share_89 ?_
              exact zrt_i C Z irc_1 dX12_share_90
            · refine zj_aload_n (j := 0) (i := 0) C rfl 1 rfl dX12_share_77 ?_
              refine zj_iload_n (j := 2) (i := 2) C rfl 3 rfl dX12_share_78 ?_
              refine zj_iload_n (j := 3) (i := 3) C rfl 4 rfl dX12_share_79 ?_
              refine zj_callVi C F Z [.int (i32 x1), .int (i32 x2)] [] cal_X12_touchedBy calv_X12_touchedBy ml_X12_277 zk_138 rfl rfl (by decide) (Nat.le_of_ble_eq_true rfl) rfl dX12_share_80 (fun q h => M_X12_touchedBy l Γ F h_x1 h_x2 m25 q h) (fun y29 m30 h_y29 => ?_)
              refine zj_callSi C Z [.int (i32 y29)] [] cal_X12_bits sta_X12_bits ml_X12_295 rfl (by decide) (Nat.le_of_ble_eq_true rfl) rfl dX12_share_83 (fun q h => M_X12_bits l Γ F h_y29 m30 q h) (fun y31 m32 h_y31 => ?_)
              refine zj_goto (tgt := 90) C dX12_share_86 rfl ?_
              exact zrt_i C Z h_y31 dX12_share_90
noncomputable def b_X12_best_0 (rec : Int → Int → Int → Int → Int → zMem → Option (Int × zMem)) (v1 : Int) (v2 : Int) (v3 : Int) (v4 : Int) (v5 : Int) (mem : zMem) : Option (Int × zMem) := if ix 140 4 then if v5 ≥ (mem 140 4) then (some (v3, mem)) else (zbind (f_X12_touchedBy v2 v5 mem) fun y4 m5 => zbind (f_X12_has y4 v1 m5) fun y6 m7 => if y6 = 0 then (rec v1 v2 v3 v4 (w32 (v5 + 1)) m7) else (zbind (f_X12_bits y4 m7) fun y9 m10 => if y9 < v4 then (zbind (f_X12_bits y4 m10) fun y12 m13 => rec v1 v2 v5 y12 (w32 (v5 + 1)) m13) else (rec v1 v2 v3 v4 (w32 (v5 + 1)) m10))) else none
noncomputable def f_X12_best_0 : Nat → Int → Int → Int → Int → Int → zMem → Option (Int × zMem) := zfuel (fun _ _ _ _ _ _ => none) (b_X12_best_0)
set_option maxHeartbeats 4000000 in
theorem L_X12_best_0 (l : Launch) {Γ : zG} (F : zFull Γ) {X : zM} {q : Int × zMem} (C : zC X Γ "ShadowHeirsModel" cX12_best 7) (Z : zRt X l Γ 6 1 (some .int) q) : ∀ n : Nat, ∀ (v1 : Int) (v2 : Int) (v3 : Int) (v4 : Int) (v5 : Int) (h_v1 : ir v1) (h_v2 : ir v2) (h_v3 : ir v3) (h_v4 : ir v4) (h_v5 : ir v5) (mem : zMem), zJ X Γ 7 q (f_X12_best_0 n v1 v2 v3 v4 v5 mem) 33 [(0, .ref (zad Γ 138)), (1, .int (i32 v1)), (2, .int (i32 v2)), (3, .int (i32 v3)), (4, .int (i32 v4)), (5, .int (i32 v5))] [] mem := by
  intro n
  induction n with
  | zero => intros; exact zj_none
  | succ n ih =>
    intro v1 v2 v3 v4 v5 h_v1 h_v2 h_v3 h_v4 h_v5 mem
    show zJ X Γ 7 q (b_X12_best_0 (f_X12_best_0 n) v1 v2 v3 v4 v5 mem) _ _ _ _
    unfold b_X12_best_0
    refine zj_iload C 5 rfl dX12_best_33 ?_
    refine zj_aload_n (j := 0) (i := 0) C rfl 0 rfl dX12_best_35 ?_
    refine zj_getR C F zk_138 fl_X12_98 rfl rf_138_14 dX12_best_36 ?_
    refine zj_iconst C 4 dX12_best_39 ?_
    refine zj_iaload C F zk_140 irc_4 dX12_best_40 (fun c1 h2 => ?_)
    refine zj_icmp_ge C 91 h_v5 h2 dX12_best_41 rfl (fun c3 => ?_) (fun c3 => ?_)
    · refine zj_iload_n (j := 3) (i := 3) C rfl 3 rfl dX12_best_91 ?_
      exact zrt_i C Z h_v3 dX12_best_92
    · refine zj_aload_n (j := 0) (i := 0) C rfl 0 rfl dX12_best_44 ?_
      refine zj_iload_n (j := 2) (i := 2) C rfl 2 rfl dX12_best_45 ?_
      refine zj_iload C 5 rfl dX12_best_46 ?_
      refine zj_callVi C F Z [.int (i32 v2), .int (i32 v5)] [] cal_X12_touchedBy calv_X12_touchedBy ml_X12_277 zk_138 rfl rfl (by decide) (Nat.le_of_ble_eq_true rfl) rfl dX12_best_48 (fun q h => M_X12_touchedBy l Γ F h_v2 h_v5 mem q h) (fun y4 m5 h_y4 => ?_)
      refine zj_istore C [(6, .int (i32 y4)), (0, .ref (zad Γ 138)), (1, .int (i32 v1)), (2, .int (i32 v2)), (3, .int (i32 v3)), (4, .int (i32 v4)), (5, .int (i32 v5))] dX12_best_51 (by decide) rfl ?_
      refine zj_iload C 0 rfl dX12_best_53 ?_
      refine zj_iload_n (j := 1) (i := 1) C rfl 2 rfl dX12_best_55 ?_
      refine zj_callSi C Z [.int (i32 y4), .int (i32 v1)] [] cal_X12_has sta_X12_has ml_X12_235 rfl (by decide) (Nat.le_of_ble_eq_true rfl) rfl dX12_best_56 (fun q h => M_X12_has l Γ F h_y4 h_v1 m5 q h) (fun y6 m7 h_y6 => ?_)
      refine zj_if_eq C 85 h_y6 dX12_best_59 rfl (fun c8 => ?_) (fun c8 => ?_)
      · refine zj_iinc C 6 [(5, .int (i32 (w32 (v5 + 1)))), (6, .int (i32 y4)), (0, .ref (zad Γ 138)), (1, .int (i32 v1)), (2, .int (i32 v2)), (3, .int (i32 v3)), (4, .int (i32 v4))] rfl dX12_best_85 (by decide) rfl ?_
        refine zj_goto (tgt := 33) C dX12_best_88 rfl ?_
        exact zj_sub [2, 3, 4, 5, 6, 0] rfl (ih v1 v2 v3 v4 (w32 (v5 + 1)) h_v1 h_v2 h_v3 h_v4 (ir_w _) m7)
      · refine zj_iload C 0 rfl dX12_best_62 ?_
        refine zj_callSi C Z [.int (i32 y4)] [] cal_X12_bits sta_X12_bits ml_X12_295 rfl (by decide) (Nat.le_of_ble_eq_true rfl) rfl dX12_best_64 (fun q h => M_X12_bits l Γ F h_y4 m7 q h) (fun y9 m10 h_y9 => ?_)
        refine zj_iload C 5 rfl dX12_best_67 ?_
        refine zj_icmp_lt C 75 h_y9 h_v4 dX12_best_69 rfl (fun c11 => ?_) (fun c11 => ?_)
        · refine zj_iload C 0 rfl dX12_best_75 ?_
          refine zj_callSi C Z [.int (i32 y4)] [] cal_X12_bits sta_X12_bits ml_X12_295 rfl (by decide) (Nat.le_of_ble_eq_true rfl) rfl dX12_best_77 (fun q h => M_X12_bits l Γ F h_y4 m10 q h) (fun y12 m13 h_y12 => ?_)
          refine zj_istore C [(4, .int (i32 y12)), (6, .int (i32 y4)), (0, .ref (zad Γ 138)), (1, .int (i32 v1)), (2, .int (i32 v2)), (3, .int (i32 v3)), (5, .int (i32 v5))] dX12_best_80 (by decide) rfl ?_
          refine zj_iload C 6 rfl dX12_best_82 ?_
          refine zj_istore_n (j := 3) (i := 3) C rfl [(3, .int (i32 v5)), (4, .int (i32 y12)), (6, .int (i32 y4)), (0, .ref (zad Γ 138)), (1, .int (i32 v1)), (2, .int (i32 v2)), (5, .int (i32 v5))] dX12_best_84 (by decide) rfl ?_
          refine zj_iinc C 6 [(5, .int (i32 (w32 (v5 + 1)))), (3, .int (i32 v5)), (4, .int (i32 y12)), (6, .int (i32 y4)), (0, .ref (zad Γ 138)), (1, .int (i32 v1)), (2, .int (i32 v2))] rfl dX12_best_85 (by decide) rfl ?_
          refine zj_goto (tgt := 33) C dX12_best_88 rfl ?_
          exact zj_sub [4, 5, 6, 1, 2, 0] rfl (ih v1 v2 v5 y12 (w32 (v5 + 1)) h_v1 h_v2 h_v5 h_y12 (ir_w _) m13)
        · refine zj_goto (tgt := 85) C dX12_best_72 rfl ?_
          refine zj_iinc C 6 [(5, .int (i32 (w32 (v5 + 1)))), (6, .int (i32 y4)), (0, .ref (zad Γ 138)), (1, .int (i32 v1)), (2, .int (i32 v2)), (3, .int (i32 v3)), (4, .int (i32 v4))] rfl dX12_best_85 (by decide) rfl ?_
          refine zj_goto (tgt := 33) C dX12_best_88 rfl ?_
          exact zj_sub [2, 3, 4, 5, 6, 0] rfl (ih v1 v2 v3 v4 (w32 (v5 + 1)) h_v1 h_v2 h_v3 h_v4 (ir_w _) m10)
noncomputable def f_X12_best (x0 : Int) (x1 : Int) (mem : zMem) : Option (Int × zMem) := pipe (zup mem 138 0 0) fun m1 => zbind (f_X12_isPerson x0 m1) fun y2 m3 => if y2 = 0 then (some ((-1), m3)) else (zbind (f_X12_isHouse x1 m3) fun y5 m6 => if y5 = 0 then (some ((-1), m6)) else (f_X12_best_0 zN x0 x1 (-1) 100000 0 m6))
set_option maxHeartbeats 4000000 in
theorem M_X12_best (l : Launch) (Γ : zG) (F : zFull Γ)  {x0 : Int} {x1 : Int} (h_x0 : ir x0) (h_x1 : ir x1) (mem : zMem) (q : Int × zMem) (h : f_X12_best x0 x1 mem = some q) : zMet l yX12_best cX12_best 7 (some .int) 6 Γ 1 [.ref (zad Γ 138), .int (i32 x0), .int (i32 x1)] mem q := by
  refine zMet_of (own := "ShadowHeirsModel") (by decide) rfl (Nat.le_of_ble_eq_true rfl) (fun X C Z => ?_)
  revert h
  show zJ X Γ 7 q (f_X12_best x0 x1 mem) 0 [(0, .ref (zad Γ 138)), (1, .int (i32 x0)), (2, .int (i32 x1))] [] mem
  unfold f_X12_best
  refine zj_aload_n (j := 0) (i := 0) C rfl 0 rfl dX12_best_0 ?_
  refine zj_iconst C 0 dX12_best_1 ?_
  refine zj_putI C F 0 rfl zk_138 fl_X12_1 rfl fp_12_0 irc_0 dX12_best_2 ?_
  refine zj_pipeM (fun m1 e_m1 => ?_)
  refine zj_aload_n (j := 0) (i := 0) C rfl 0 rfl dX12_best_5 ?_
  refine zj_iload_n (j := 1) (i := 1) C rfl 1 rfl dX12_best_6 ?_
  refine zj_callVi C F Z [.int (i32 x0)] [] cal_X12_isPerson calv_X12_isPerson ml_X12_280 zk_138 rfl rfl (by decide) (Nat.le_of_ble_eq_true rfl) rfl dX12_best_7 (fun q h => M_X12_isPerson l Γ F h_x0 m1 q h) (fun y2 m3 h_y2 => ?_)
  refine zj_if_eq C 21 h_y2 dX12_best_10 rfl (fun c4 => ?_) (fun c4 => ?_)
  · refine zj_iconst C (-1) dX12_best_21 ?_
    exact zrt_i C Z irc_m1 dX12_best_22
  · refine zj_aload_n (j := 0) (i := 0) C rfl 0 rfl dX12_best_13 ?_
    refine zj_iload_n (j := 2) (i := 2) C rfl 2 rfl dX12_best_14 ?_
    refine zj_callVi C F Z [.int (i32 x1)] [] cal_X12_isHouse calv_X12_isHouse ml_X12_268 zk_138 rfl rfl (by decide) (Nat.le_of_ble_eq_true rfl) rfl dX12_best_15 (fun q h => M_X12_isHouse l Γ F h_x1 m3 q h) (fun y5 m6 h_y5 => ?_)
    refine zj_if_ne C 23 h_y5 dX12_best_18 rfl (fun c7 => ?_) (fun c7 => ?_)
    · refine zj_iconst C (-1) dX12_best_21 ?_
      exact zrt_i C Z irc_m1 dX12_best_22
    · refine zj_iconst C (-1) dX12_best_23 ?_
      refine zj_istore_n (j := 3) (i := 3) C rfl [(3, .int (i32 (-1))), (0, .ref (zad Γ 138)), (1, .int (i32 x0)), (2, .int (i32 x1))] dX12_best_24 (by decide) rfl ?_
      refine zj_ldcw C 100000 kc_X12_325 dX12_best_25 ?_
      refine zj_istore C [(4, .int (i32 100000)), (3, .int (i32 (-1))), (0, .ref (zad Γ 138)), (1, .int (i32 x0)), (2, .int (i32 x1))] dX12_best_28 (by decide) rfl ?_
      refine zj_iconst C 0 dX12_best_30 ?_
      refine zj_istore C [(5, .int (i32 0)), (4, .int (i32 100000)), (3, .int (i32 (-1))), (0, .ref (zad Γ 138)), (1, .int (i32 x0)), (2, .int (i32 x1))] dX12_best_31 (by decide) rfl ?_
      exact zj_sub [3, 4, 5, 2, 1, 0] rfl ((L_X12_best_0 l F C Z zN) x0 x1 (-1) 100000 0 h_x0 h_x1 irc_m1 irc_100000 irc_0 m6)
noncomputable def b_X12_spare_0 (rec : Int → Int → Int → Int → Int → zMem → Option (Int × zMem)) (v1 : Int) (v3 : Int) (v4 : Int) (v5 : Int) (v6 : Int) (mem : zMem) : Option (Int × zMem) := if ix 140 (w32 (26 + v3)) then zbind (f_X12_nextTo v5 (mem 140 (w32 (26 + v3))) mem) fun y3 m4 => if ix 140 (w32 (34 + v3)) then pipe (w32 (v6 - (m4 140 (w32 (34 + v3))))) fun y7 => if ix 140 (w32 (116 + v1)) then if y3 = (m4 140 (w32 (116 + v1))) then (some (v4, m4)) else (if ix 140 (w32 (128 + y3)) then pipe (w32 (y7 - (m4 140 (w32 (128 + y3))))) fun y13 => zbind (f_X12_houseAt y3 m4) fun y14 m15 => if y14 = (-1) then (zbind (f_X12_personsAt y3 m15) fun y17 m18 => if y17 = 0 then (if y7 > 9 then (rec v1 v3 v4 y3 y7 m18) else (if v4 = (-1) then (pipe (zup m18 138 26 y3) fun m22 => rec v1 v3 y13 y3 y7 m22) else (if y13 < v4 then (pipe (zup m18 138 26 y3) fun m24 => rec v1 v3 y13 y3 y7 m24) else (rec v1 v3 v4 y3 y7 m18)))) else (rec v1 v3 v4 y3 y7 m18)) else (rec v1 v3 v4 y3 y7 m15) else none) else none else none else none
noncomputable def f_X12_spare_0 : Nat → Int → Int → Int → Int → Int → zMem → Option (Int × zMem) := zfuel (fun _ _ _ _ _ _ => none) (b_X12_spare_0)
set_option maxHeartbeats 4000000 in
theorem L_X12_spare_0 (l : Launch) {Γ : zG} (F : zFull Γ) {X : zM} {q : Int × zMem} (C : zC X Γ "ShadowHeirsModel" cX12_spare 8) (Z : zRt X l Γ 6 1 (some .int) q) : ∀ n : Nat, ∀ (v1 : Int) (v3 : Int) (v4 : Int) (v5 : Int) (v6 : Int) (h_v1 : ir v1) (h_v3 : ir v3) (h_v4 : ir v4) (h_v5 : ir v5) (h_v6 : ir v6) (mem : zMem), zJ X Γ 8 q (f_X12_spare_0 n v1 v3 v4 v5 v6 mem) 70 [(0, .ref (zad Γ 138)), (1, .int (i32 v1)), (3, .int (i32 v3)), (4, .int (i32 v4)), (5, .int (i32 v5)), (6, .int (i32 v6))] [] mem := by
  intro n
  induction n with
  | zero => intros; exact zj_none
  | succ n ih =>
    intro v1 v3 v4 v5 v6 h_v1 h_v3 h_v4 h_v5 h_v6 mem
    show zJ X Γ 8 q (b_X12_spare_0 (f_X12_spare_0 n) v1 v3 v4 v5 v6 mem) _ _ _ _
    unfold b_X12_spare_0
    refine zj_aload_n (j := 0) (i := 0) C rfl 0 rfl dX12_spare_70 ?_
    refine zj_iload C 4 rfl dX12_spare_71 ?_
    refine zj_aload_n (j := 0) (i := 0) C rfl 0 rfl dX12_spare_73 ?_
    refine zj_getR C F zk_138 fl_X12_98 rfl rf_138_14 dX12_spare_74 ?_
    refine zj_bipush C 26 rfl dX12_spare_77 ?_
    refine zj_iload_n (j := 3) (i := 3) C rfl 2 rfl dX12_spare_79 ?_
    refine zj_iadd C dX12_spare_80 ?_
    refine zj_iaload C F zk_140 (ir_w _) dX12_spare_81 (fun c1 h2 => ?_)
    refine zj_callVi C F Z [.int (i32 v5), .int (i32 (mem 140 (w32 (26 + v3))))] [] cal_X12_nextTo calv_X12_nextTo ml_X12_247 zk_138 rfl rfl (by decide) (Nat.le_of_ble_eq_true rfl) rfl dX12_spare_82 (fun q h => M_X12_nextTo l Γ F h_v5 h2 mem q h) (fun y3 m4 h_y3 => ?_)
    refine zj_istore C [(5, .int (i32 y3)), (0, .ref (zad Γ 138)), (1, .int (i32 v1)), (3, .int (i32 v3)), (4, .int (i32 v4)), (6, .int (i32 v6))] dX12_spare_85 (by decide) rfl ?_
    refine zj_iload C 5 rfl dX12_spare_87 ?_
    refine zj_aload_n (j := 0) (i := 0) C rfl 1 rfl dX12_spare_89 ?_
    refine zj_getR C F zk_138 fl_X12_98 rfl rf_138_14 dX12_spare_90 ?_
    refine zj_bipush C 34 rfl dX12_spare_93 ?_
    refine zj_iload_n (j := 3) (i := 3) C rfl 3 rfl dX12_spare_95 ?_
    refine zj_iadd C dX12_spare_96 ?_
    refine zj_iaload C F zk_140 (ir_w _) dX12_spare_97 (fun c5 h6 => ?_)
    refine zj_isub C dX12_spare_98 ?_
    refine zj_pipeI (fun y7 e_y7 => ?_)
    have h_y7 := ir_eq e_y7 (ir_w _)
    refine zj_istore C [(6, .int (i32 y7)), (5, .int (i32 y3)), (0, .ref (zad Γ 138)), (1, .int (i32 v1)), (3, .int (i32 v3)), (4, .int (i32 v4))] dX12_spare_99 (by decide) rfl ?_
    refine zj_iload C 1 rfl dX12_spare_101 ?_
    refine zj_aload_n (j := 0) (i := 0) C rfl 2 rfl dX12_spare_103 ?_
    refine zj_getR C F zk_138 fl_X12_98 rfl rf_138_14 dX12_spare_104 ?_
    refine zj_bipush C 116 rfl dX12_spare_107 ?_
    refine zj_iload_n (j := 1) (i := 1) C rfl 3 rfl dX12_spare_109 ?_
    refine zj_iadd C dX12_spare_110 ?_
    refine zj_iaload C F zk_140 (ir_w _) dX12_spare_111 (fun c8 h9 => ?_)
    refine zj_icmp_ne C 118 h_y3 h9 dX12_spare_112 rfl (fun c10 => ?_) (fun c10 => ?_)
    · refine zj_iload C 5 rfl dX12_spare_115 ?_
      exact zrt_i C Z h_v4 dX12_spare_117
    · refine zj_iload C 0 rfl dX12_spare_118 ?_
      refine zj_aload_n (j := 0) (i := 0) C rfl 2 rfl dX12_spare_120 ?_
      refine zj_getR C F zk_138 fl_X12_98 rfl rf_138_14 dX12_spare_121 ?_
      refine zj_sipush C 128 rfl dX12_spare_124 ?_
      refine zj_iload C 1 rfl dX12_spare_127 ?_
      refine zj_iadd C dX12_spare_129 ?_
      refine zj_iaload C F zk_140 (ir_w _) dX12_spare_130 (fun c11 h12 => ?_)
      refine zj_isub C dX12_spare_131 ?_
      refine zj_pipeI (fun y13 e_y13 => ?_)
      have h_y13 := ir_eq e_y13 (ir_w _)
      refine zj_istore C [(7, .int (i32 y13)), (6, .int (i32 y7)), (5, .int (i32 y3)), (0, .ref (zad Γ 138)), (1, .int (i32 v1)), (3, .int (i32 v3)), (4, .int (i32 v4))] dX12_spare_132 (by decide) rfl ?_
      refine zj_aload_n (j := 0) (i := 0) C rfl 3 rfl dX12_spare_134 ?_
      refine zj_iload C 2 rfl dX12_spare_135 ?_
      refine zj_callVi C F Z [.int (i32 y3)] [] cal_X12_houseAt calv_X12_houseAt ml_X12_238 zk_138 rfl rfl (by decide) (Nat.le_of_ble_eq_true rfl) rfl dX12_spare_137 (fun q h => M_X12_houseAt l Γ F h_y3 m4 q h) (fun y14 m15 h_y14 => ?_)
      refine zj_iconst C (-1) dX12_spare_140 ?_
      refine zj_icmp_ne C 70 h_y14 irc_m1 dX12_spare_141 rfl (fun c16 => ?_) (fun c16 => ?_)
      · refine zj_aload_n (j := 0) (i := 0) C rfl 3 rfl dX12_spare_144 ?_
        refine zj_iload C 2 rfl dX12_spare_145 ?_
        refine zj_callVi C F Z [.int (i32 y3)] [] cal_X12_personsAt calv_X12_personsAt ml_X12_262 zk_138 rfl rfl (by decide) (Nat.le_of_ble_eq_true rfl) rfl dX12_spare_147 (fun q h => M_X12_personsAt l Γ F h_y3 m15 q h) (fun y17 m18 h_y17 => ?_)
        refine zj_if_ne C 70 h_y17 dX12_spare_150 rfl (fun c19 => ?_) (fun c19 => ?_)
        · refine zj_iload C 1 rfl dX12_spare_153 ?_
          refine zj_bipush C 9 rfl dX12_spare_155 ?_
          refine zj_icmp_gt C 70 h_y7 irc_9 dX12_spare_157 rfl (fun c20 => ?_) (fun c20 => ?_)
          · exact zj_sub [3, 4, 5, 6, 2, 1] rfl (ih v1 v3 v4 y3 y7 h_v1 h_v3 h_v4 h_y3 h_y7 m18)
          · refine zj_iload C 6 rfl dX12_spare_160 ?_
            refine zj_iconst C (-1) dX12_spare_162 ?_
            refine zj_icmp_eq C 176 h_v4 irc_m1 dX12_spare_163 rfl (fun c21 => ?_) (fun c21 => ?_)
            · refine zj_iload C 0 rfl dX12_spare_176 ?_
              refine zj_istore C [(4, .int (i32 y13)), (7, .int (i32 y13)), (6, .int (i32 y7)), (5, .int (i32 y3)), (0, .ref (zad Γ 138)), (1, .int (i32 v1)), (3, .int (i32 v3))] dX12_spare_178 (by decide) rfl ?_
              refine zj_aload_n (j := 0) (i := 0) C rfl 4 rfl dX12_spare_180 ?_
              refine zj_iload C 3 rfl dX12_spare_181 ?_
              refine zj_putI C F 26 rfl zk_138 fl_X12_127 rfl fp_12_26 h_y3 dX12_spare_183 ?_
              refine zj_pipeM (fun m22 e_m22 => ?_)
              refine zj_goto (tgt := 70) C dX12_spare_186 rfl ?_
              exact zj_sub [4, 5, 6, 0, 3, 2] rfl (ih v1 v3 y13 y3 y7 h_v1 h_v3 h_y13 h_y3 h_y7 m22)
            · refine zj_iload C 0 rfl dX12_spare_166 ?_
              refine zj_iload C 6 rfl dX12_spare_168 ?_
              refine zj_icmp_lt C 176 h_y13 h_v4 dX12_spare_170 rfl (fun c23 => ?_) (fun c23 => ?_)
              · refine zj_iload C 0 rfl dX12_spare_176 ?_
                refine zj_istore C [(4, .int (i32 y13)), (7, .int (i32 y13)), (6, .int (i32 y7)), (5, .int (i32 y3)), (0, .ref (zad Γ 138)), (1, .int (i32 v1)), (3, .int (i32 v3))] dX12_spare_178 (by decide) rfl ?_
                refine zj_aload_n (j := 0) (i := 0) C rfl 4 rfl dX12_spare_180 ?_
                refine zj_iload C 3 rfl dX12_spare_181 ?_
                refine zj_putI C F 26 rfl zk_138 fl_X12_127 rfl fp_12_26 h_y3 dX12_spare_183 ?_
                refine zj_pipeM (fun m24 e_m24 => ?_)
                refine zj_goto (tgt := 70) C dX12_spare_186 rfl ?_
                exact zj_sub [4, 5, 6, 0, 3, 2] rfl (ih v1 v3 y13 y3 y7 h_v1 h_v3 h_y13 h_y3 h_y7 m24)
              · refine zj_goto (tgt := 70) C dX12_spare_173 rfl ?_
                exact zj_sub [3, 4, 5, 6, 2, 1] rfl (ih v1 v3 v4 y3 y7 h_v1 h_v3 h_v4 h_y3 h_y7 m18)
        · exact zj_sub [3, 4, 5, 6, 2, 1] rfl (ih v1 v3 v4 y3 y7 h_v1 h_v3 h_v4 h_y3 h_y7 m18)
      · exact zj_sub [3, 4, 5, 6, 2, 1] rfl (ih v1 v3 v4 y3 y7 h_v1 h_v3 h_v4 h_y3 h_y7 m15)
noncomputable def f_X12_spare (x0 : Int) (x1 : Int) (x2 : Int) (mem : zMem) : Option (Int × zMem) := pipe (zup mem 138 0 0) fun m1 => zbind (f_X12_isPerson x0 m1) fun y2 m3 => if y2 = 0 then (some ((-1), m3)) else (zbind (f_X12_isHouse x1 m3) fun y5 m6 => if y5 = 0 then (some ((-1), m6)) else (zbind (f_X12_isSun x2 m6) fun y8 m9 => if y8 = 0 then (some ((-1), m9)) else (zbind (f_X12_touchedBy x1 x2 m9) fun y11 m12 => zbind (f_X12_has y11 x0 m12) fun y13 m14 => if y13 = 0 then (some (0, m14)) else (if ix 140 (w32 (5 + x1)) then pipe (m14 140 (w32 (5 + x1))) fun y18 => if ix 140 (w32 (10 + x1)) then pipe (m14 140 (w32 (10 + x1))) fun y21 => f_X12_spare_0 zN x0 x2 (-1) y18 y21 m14 else none else none))))
set_option maxHeartbeats 4000000 in
theorem M_X12_spare (l : Launch) (Γ : zG) (F : zFull Γ)  {x0 : Int} {x1 : Int} {x2 : Int} (h_x0 : ir x0) (h_x1 : ir x1) (h_x2 : ir x2) (mem : zMem) (q : Int × zMem) (h : f_X12_spare x0 x1 x2 mem = some q) : zMet l yX12_spare cX12_spare 8 (some .int) 6 Γ 1 [.ref (zad Γ 138), .int (i32 x0), .int (i32 x1), .int (i32 x2)] mem q := by
  refine zMet_of (own := "ShadowHeirsModel") (by decide) rfl (Nat.le_of_ble_eq_true rfl) (fun X C Z => ?_)
  revert h
  show zJ X Γ 8 q (f_X12_spare x0 x1 x2 mem) 0 [(0, .ref (zad Γ 138)), (1, .int (i32 x0)), (2, .int (i32 x1)), (3, .int (i32 x2))] [] mem
  unfold f_X12_spare
  refine zj_aload_n (j := 0) (i := 0) C rfl 0 rfl dX12_spare_0 ?_
  refine zj_iconst C 0 dX12_spare_1 ?_
  refine zj_putI C F 0 rfl zk_138 fl_X12_1 rfl fp_12_0 irc_0 dX12_spare_2 ?_
  refine zj_pipeM (fun m1 e_m1 => ?_)
  refine zj_aload_n (j := 0) (i := 0) C rfl 0 rfl dX12_spare_5 ?_
  refine zj_iload_n (j := 1) (i := 1) C rfl 1 rfl dX12_spare_6 ?_
  refine zj_callVi C F Z [.int (i32 x0)] [] cal_X12_isPerson calv_X12_isPerson ml_X12_280 zk_138 rfl rfl (by decide) (Nat.le_of_ble_eq_true rfl) rfl dX12_spare_7 (fun q h => M_X12_isPerson l Γ F h_x0 m1 q h) (fun y2 m3 h_y2 => ?_)
  refine zj_if_eq C 29 h_y2 dX12_spare_10 rfl (fun c4 => ?_) (fun c4 => ?_)
  · refine zj_iconst C (-1) dX12_spare_29 ?_
    exact zrt_i C Z irc_m1 dX12_spare_30
  · refine zj_aload_n (j := 0) (i := 0) C rfl 0 rfl dX12_spare_13 ?_
    refine zj_iload_n (j := 2) (i := 2) C rfl 2 rfl dX12_spare_14 ?_
    refine zj_callVi C F Z [.int (i32 x1)] [] cal_X12_isHouse calv_X12_isHouse ml_X12_268 zk_138 rfl rfl (by decide) (Nat.le_of_ble_eq_true rfl) rfl dX12_spare_15 (fun q h => M_X12_isHouse l Γ F h_x1 m3 q h) (fun y5 m6 h_y5 => ?_)
    refine zj_if_eq C 29 h_y5 dX12_spare_18 rfl (fun c7 => ?_) (fun c7 => ?_)
    · refine zj_iconst C (-1) dX12_spare_29 ?_
      exact zrt_i C Z irc_m1 dX12_spare_30
    · refine zj_aload_n (j := 0) (i := 0) C rfl 0 rfl dX12_spare_21 ?_
      refine zj_iload_n (j := 3) (i := 3) C rfl 3 rfl dX12_spare_22 ?_
      refine zj_callVi C F Z [.int (i32 x2)] [] cal_X12_isSun calv_X12_isSun ml_X12_322 zk_138 rfl rfl (by decide) (Nat.le_of_ble_eq_true rfl) rfl dX12_spare_23 (fun q h => M_X12_isSun l Γ F h_x2 m6 q h) (fun y8 m9 h_y8 => ?_)
      refine zj_if_ne C 31 h_y8 dX12_spare_26 rfl (fun c10 => ?_) (fun c10 => ?_)
      · refine zj_iconst C (-1) dX12_spare_29 ?_
        exact zrt_i C Z irc_m1 dX12_spare_30
      · refine zj_aload_n (j := 0) (i := 0) C rfl 0 rfl dX12_spare_31 ?_
        refine zj_iload_n (j := 2) (i := 2) C rfl 2 rfl dX12_spare_32 ?_
        refine zj_iload_n (j := 3) (i := 3) C rfl 3 rfl dX12_spare_33 ?_
        refine zj_callVi C F Z [.int (i32 x1), .int (i32 x2)] [] cal_X12_touchedBy calv_X12_touchedBy ml_X12_277 zk_138 rfl rfl (by decide) (Nat.le_of_ble_eq_true rfl) rfl dX12_spare_34 (fun q h => M_X12_touchedBy l Γ F h_x1 h_x2 m9 q h) (fun y11 m12 h_y11 => ?_)
        refine zj_iload_n (j := 1) (i := 1) C rfl 1 rfl dX12_spare_37 ?_
        refine zj_callSi C Z [.int (i32 y11), .int (i32 x0)] [] cal_X12_has sta_X12_has ml_X12_235 rfl (by decide) (Nat.le_of_ble_eq_true rfl) rfl dX12_spare_38 (fun q h => M_X12_has l Γ F h_y11 h_x0 m12 q h) (fun y13 m14 h_y13 => ?_)
        refine zj_if_ne C 46 h_y13 dX12_spare_41 rfl (fun c15 => ?_) (fun c15 => ?_)
        · refine zj_iconst C 0 dX12_spare_44 ?_
          exact zrt_i C Z irc_0 dX12_spare_45
        · refine zj_iconst C (-1) dX12_spare_46 ?_
          refine zj_istore C [(4, .int (i32 (-1))), (0, .ref (zad Γ 138)), (1, .int (i32 x0)), (2, .int (i32 x1)), (3, .int (i32 x2))] dX12_spare_47 (by decide) rfl ?_
          refine zj_aload_n (j := 0) (i := 0) C rfl 1 rfl dX12_spare_49 ?_
          refine zj_getR C F zk_138 fl_X12_98 rfl rf_138_14 dX12_spare_50 ?_
          refine zj_iconst C 5 dX12_spare_53 ?_
          refine zj_iload_n (j := 2) (i := 2) C rfl 3 rfl dX12_spare_54 ?_
          refine zj_iadd C dX12_spare_55 ?_
          refine zj_iaload C F zk_140 (ir_w _) dX12_spare_56 (fun c16 h17 => ?_)
          refine zj_pipeI (fun y18 e_y18 => ?_)
          have h_y18 := ir_eq e_y18 h17
          refine zj_istore C [(5, .int (i32 y18)), (4, .int (i32 (-1))), (0, .ref (zad Γ 138)), (1, .int (i32 x0)), (2, .int (i32 x1)), (3, .int (i32 x2))] dX12_spare_57 (by decide) rfl ?_
          refine zj_aload_n (j := 0) (i := 0) C rfl 2 rfl dX12_spare_59 ?_
          refine zj_getR C F zk_138 fl_X12_98 rfl rf_138_14 dX12_spare_60 ?_
          refine zj_bipush C 10 rfl dX12_spare_63 ?_
          refine zj_iload_n (j := 2) (i := 2) C rfl 4 rfl dX12_spare_65 ?_
          refine zj_iadd C dX12_spare_66 ?_
          refine zj_iaload C F zk_140 (ir_w _) dX12_spare_67 (fun c19 h20 => ?_)
          refine zj_pipeI (fun y21 e_y21 => ?_)
          have h_y21 := ir_eq e_y21 h20
          refine zj_istore C [(6, .int (i32 y21)), (5, .int (i32 y18)), (4, .int (i32 (-1))), (0, .ref (zad Γ 138)), (1, .int (i32 x0)), (2, .int (i32 x1)), (3, .int (i32 x2))] dX12_spare_68 (by decide) rfl ?_
          exact zj_sub [3, 4, 6, 2, 1, 0] rfl ((L_X12_spare_0 l F C Z zN) x0 x2 (-1) y18 y21 h_x0 h_x2 irc_m1 h_y18 h_y21 m14)
noncomputable def f_X12_spareAt  (mem : zMem) : Option (Int × zMem) := pipe (zup mem 138 0 0) fun m1 => some ((m1 138 26), m1)
set_option maxHeartbeats 4000000 in
theorem M_X12_spareAt (l : Launch) (Γ : zG) (F : zFull Γ)    (mem : zMem) (q : Int × zMem) (h : f_X12_spareAt  mem = some q) : zMet l yX12_spareAt cX12_spareAt 1 (some .int) 1 Γ 1 [.ref (zad Γ 138)] mem q := by
  refine zMet_of (own := "ShadowHeirsModel") (by decide) rfl (Nat.le_of_ble_eq_true rfl) (fun X C Z => ?_)
  revert h
  show zJ X Γ 1 q (f_X12_spareAt  mem) 0 [(0, .ref (zad Γ 138))] [] mem
  unfold f_X12_spareAt
  refine zj_aload_n (j := 0) (i := 0) C rfl 0 rfl dX12_spareAt_0 ?_
  refine zj_iconst C 0 dX12_spareAt_1 ?_
  refine zj_putI C F 0 rfl zk_138 fl_X12_1 rfl fp_12_0 irc_0 dX12_spareAt_2 ?_
  refine zj_pipeM (fun m1 e_m1 => ?_)
  refine zj_aload_n (j := 0) (i := 0) C rfl 0 rfl dX12_spareAt_5 ?_
  refine zj_getI C F 26 rfl zk_138 fl_X12_127 rfl dX12_spareAt_6 (fun h2 => ?_)
  exact zrt_i C Z h2 dX12_spareAt_9
noncomputable def b_X12_layFar_0 (rec : Nat → Int → Int → Int → zMem → Option (Int × zMem)) (tag : Nat) (v2 : Int) (v3 : Int) (v4 : Int) (mem : zMem) : Option (Int × zMem) := match tag with
  | 0 => if v3 ≥ v2 then (some (0, mem)) else (rec 1 v2 v3 0 mem)
  | _ => if v4 ≥ 4 then (rec 0 v2 (w32 (v3 + 1)) 0 mem) else (if ix 150 v3 then zbind (f_X12_nextTo (mem 150 v3) v4 mem) fun y1004 m1005 => if y1004 = (-1) then (rec 1 v2 v3 (w32 (v4 + 1)) m1005) else (zbind (f_X12_isOpen y1004 m1005) fun y1007 m1008 => if y1007 = 0 then (rec 1 v2 v3 (w32 (v4 + 1)) m1008) else (if ix 149 y1004 then if (m1008 149 y1004) ≥ 100000 then (if ix 150 v3 then if ix 149 (m1008 150 v3) then if ix 149 y1004 then pipe (zup m1008 149 y1004 (w32 ((m1008 149 (m1008 150 v3)) + 1))) fun m1018 => if ix 150 v2 then pipe (zup m1018 150 v2 y1004) fun m1020 => rec 1 (w32 (v2 + 1)) v3 (w32 (v4 + 1)) m1020 else none else none else none else none) else (rec 1 v2 v3 (w32 (v4 + 1)) m1008) else none)) else none)
noncomputable def f_X12_layFar_0 : Nat → Nat → Int → Int → Int → zMem → Option (Int × zMem) := zfuel (fun _ _ _ _ _ => none) (b_X12_layFar_0)
set_option maxHeartbeats 4000000 in
theorem L_X12_layFar_0 (l : Launch) {Γ : zG} (F : zFull Γ) {X : zM} {q : Int × zMem} (C : zC X Γ "ShadowHeirsModel" cX12_layFar 6) (Z : zRt X l Γ 4 0 none q) : ∀ n : Nat, (∀ (v2 : Int) (v3 : Int) (v4 : Int) (h_v2 : ir v2) (h_v3 : ir v3) (mem : zMem), zJ X Γ 6 q (f_X12_layFar_0 n 0 v2 v3 v4 mem) 41 [(0, .ref (zad Γ 138)), (2, .int (i32 v2)), (3, .int (i32 v3))] [] mem) ∧ (∀ (v2 : Int) (v3 : Int) (v4 : Int) (h_v2 : ir v2) (h_v3 : ir v3) (h_v4 : ir v4) (mem : zMem), zJ X Γ 6 q (f_X12_layFar_0 n 1 v2 v3 v4 mem) 49 [(0, .ref (zad Γ 138)), (2, .int (i32 v2)), (3, .int (i32 v3)), (4, .int (i32 v4))] [] mem) := by
  intro n
  induction n with
  | zero => exact ⟨(by intros; exact zj_none), (by intros; exact zj_none)⟩
  | succ n ih =>
    refine ⟨?_, ?_⟩
    · intro v2 v3 v4 h_v2 h_v3 mem
      show zJ X Γ 6 q (b_X12_layFar_0 (f_X12_layFar_0 n) 0 v2 v3 v4 mem) _ _ _ _
      unfold b_X12_layFar_0
      refine zj_iload_n (j := 3) (i := 3) C rfl 2 rfl dX12_layFar_41 ?_
      refine zj_iload_n (j := 2) (i := 2) C rfl 1 rfl dX12_layFar_42 ?_
      refine zj_icmp_ge C 143 h_v3 h_v2 dX12_layFar_43 rfl (fun c1 => ?_) (fun c1 => ?_)
      · exact zrt_v C Z dX12_layFar_143
      · refine zj_iconst C 0 dX12_layFar_46 ?_
        refine zj_istore C [(4, .int (i32 0)), (0, .ref (zad Γ 138)), (2, .int (i32 v2)), (3, .int (i32 v3))] dX12_layFar_47 (by decide) rfl ?_
        exact zj_sub [1, 2, 3, 0] rfl (ih.2 v2 v3 0 h_v2 h_v3 irc_0 mem)
    · intro v2 v3 v4 h_v2 h_v3 h_v4 mem
      show zJ X Γ 6 q (b_X12_layFar_0 (f_X12_layFar_0 n) 1 v2 v3 v4 mem) _ _ _ _
      unfold b_X12_layFar_0
      refine zj_iload C 3 rfl dX12_layFar_49 ?_
      refine zj_iconst C 4 dX12_layFar_51 ?_
      refine zj_icmp_ge C 137 h_v4 irc_4 dX12_layFar_52 rfl (fun c1001 => ?_) (fun c1001 => ?_)
      · refine zj_iinc C 2 [(3, .int (i32 (w32 (v3 + 1)))), (0, .ref (zad Γ 138)), (2, .int (i32 v2)), (4, .int (i32 v4))] rfl dX12_layFar_137 (by decide) rfl ?_
        refine zj_goto (tgt := 41) C dX12_layFar_140 rfl ?_
        exact zj_sub [1, 2, 0] rfl (ih.1 v2 (w32 (v3 + 1)) 0 h_v2 (ir_w _) mem)
      · refine zj_aload_n (j := 0) (i := 0) C rfl 0 rfl dX12_layFar_55 ?_
        refine zj_aload_n (j := 0) (i := 0) C rfl 0 rfl dX12_layFar_56 ?_
        refine zj_getR C F zk_138 fl_X12_133 rfl rf_138_28 dX12_layFar_57 ?_
        refine zj_iload_n (j := 3) (i := 3) C rfl 2 rfl dX12_layFar_60 ?_
        refine zj_iaload C F zk_150 h_v3 dX12_layFar_61 (fun c1002 h1003 => ?_)
        refine zj_iload C 3 rfl dX12_layFar_62 ?_
        refine zj_callVi C F Z [.int (i32 (mem 150 v3)), .int (i32 v4)] [] cal_X12_nextTo calv_X12_nextTo ml_X12_247 zk_138 rfl rfl (by decide) (Nat.le_of_ble_eq_true rfl) rfl dX12_layFar_64 (fun q h => M_X12_nextTo l Γ F h1003 h_v4 mem q h) (fun y1004 m1005 h_y1004 => ?_)
        refine zj_istore C [(5, .int (i32 y1004)), (0, .ref (zad Γ 138)), (2, .int (i32 v2)), (3, .int (i32 v3)), (4, .int (i32 v4))] dX12_layFar_67 (by decide) rfl ?_
        refine zj_iload C 0 rfl dX12_layFar_69 ?_
        refine zj_iconst C (-1) dX12_layFar_71 ?_
        refine zj_icmp_eq C 131 h_y1004 irc_m1 dX12_layFar_72 rfl (fun c1006 => ?_) (fun c1006 => ?_)
        · refine zj_iinc C 4 [(4, .int (i32 (w32 (v4 + 1)))), (5, .int (i32 y1004)), (0, .ref (zad Γ 138)), (2, .int (i32 v2)), (3, .int (i32 v3))] rfl dX12_layFar_131 (by decide) rfl ?_
          refine zj_goto (tgt := 49) C dX12_layFar_134 rfl ?_
          exact zj_sub [2, 3, 4, 0] rfl (ih.2 v2 v3 (w32 (v4 + 1)) h_v2 h_v3 (ir_w _) m1005)
        · refine zj_aload_n (j := 0) (i := 0) C rfl 1 rfl dX12_layFar_75 ?_
          refine zj_iload C 0 rfl dX12_layFar_76 ?_
          refine zj_callVi C F Z [.int (i32 y1004)] [] cal_X12_isOpen calv_X12_isOpen ml_X12_289 zk_138 rfl rfl (by decide) (Nat.le_of_ble_eq_true rfl) rfl dX12_layFar_78 (fun q h => M_X12_isOpen l Γ F h_y1004 m1005 q h) (fun y1007 m1008 h_y1007 => ?_)
          refine zj_if_eq C 131 h_y1007 dX12_layFar_81 rfl (fun c1009 => ?_) (fun c1009 => ?_)
          · refine zj_iinc C 4 [(4, .int (i32 (w32 (v4 + 1)))), (5, .int (i32 y1004)), (0, .ref (zad Γ 138)), (2, .int (i32 v2)), (3, .int (i32 v3))] rfl dX12_layFar_131 (by decide) rfl ?_
            refine zj_goto (tgt := 49) C dX12_layFar_134 rfl ?_
            exact zj_sub [2, 3, 4, 0] rfl (ih.2 v2 v3 (w32 (v4 + 1)) h_v2 h_v3 (ir_w _) m1008)
          · refine zj_aload_n (j := 0) (i := 0) C rfl 1 rfl dX12_layFar_84 ?_
            refine zj_getR C F zk_138 fl_X12_130 rfl rf_138_27 dX12_layFar_85 ?_
            refine zj_iload C 0 rfl dX12_layFar_88 ?_
            refine zj_iaload C F zk_149 h_y1004 dX12_layFar_90 (fun c1010 h1011 => ?_)
            refine zj_ldcw C 100000 kc_X12_325 dX12_layFar_91 ?_
            refine zj_icmp_ge C 100 h1011 irc_100000 dX12_layFar_94 rfl (fun c1012 => ?_) (fun c1012 => ?_)
            · refine zj_aload_n (j := 0) (i := 0) C rfl 1 rfl dX12_layFar_100 ?_
              refine zj_getR C F zk_138 fl_X12_130 rfl rf_138_27 dX12_layFar_101 ?_
              refine zj_iload C 0 rfl dX12_layFar_104 ?_
              refine zj_aload_n (j := 0) (i := 0) C rfl 1 rfl dX12_layFar_106 ?_
              refine zj_getR C F zk_138 fl_X12_130 rfl rf_138_27 dX12_layFar_107 ?_
              refine zj_aload_n (j := 0) (i := 0) C rfl 1 rfl dX12_layFar_110 ?_
              refine zj_getR C F zk_138 fl_X12_133 rfl rf_138_28 dX12_layFar_111 ?_
              refine zj_iload_n (j := 3) (i := 3) C rfl 3 rfl dX12_layFar_114 ?_
              refine zj_iaload C F zk_150 h_v3 dX12_layFar_115 (fun c1013 h1014 => ?_)
              refine zj_iaload C F zk_149 h1014 dX12_layFar_116 (fun c1015 h1016 => ?_)
              refine zj_iconst C 1 dX12_layFar_117 ?_
              refine zj_iadd C dX12_layFar_118 ?_
              refine zj_iastore C F zk_149 h_y1004 (ir_w _) dX12_layFar_119 (fun c1017 => ?_)
              refine zj_pipeM (fun m1018 e_m1018 => ?_)
              refine zj_aload_n (j := 0) (i := 0) C rfl 1 rfl dX12_layFar_120 ?_
              refine zj_getR C F zk_138 fl_X12_133 rfl rf_138_28 dX12_layFar_121 ?_
              refine zj_iload_n (j := 2) (i := 2) C rfl 2 rfl dX12_layFar_124 ?_
              refine zj_iload C 0 rfl dX12_layFar_125 ?_
              refine zj_iastore C F zk_150 h_v2 h_y1004 dX12_layFar_127 (fun c1019 => ?_)
              refine zj_pipeM (fun m1020 e_m1020 => ?_)
              refine zj_iinc C 2 [(2, .int (i32 (w32 (v2 + 1)))), (5, .int (i32 y1004)), (0, .ref (zad Γ 138)), (3, .int (i32 v3)), (4, .int (i32 v4))] rfl dX12_layFar_128 (by decide) rfl ?_
              refine zj_iinc C 4 [(4, .int (i32 (w32 (v4 + 1)))), (2, .int (i32 (w32 (v2 + 1)))), (5, .int (i32 y1004)), (0, .ref (zad Γ 138)), (3, .int (i32 v3))] rfl dX12_layFar_131 (by decide) rfl ?_
              refine zj_goto (tgt := 49) C dX12_layFar_134 rfl ?_
              exact zj_sub [3, 1, 4, 0] rfl (ih.2 (w32 (v2 + 1)) v3 (w32 (v4 + 1)) (ir_w _) h_v3 (ir_w _) m1020)
            · refine zj_goto (tgt := 131) C dX12_layFar_97 rfl ?_
              refine zj_iinc C 4 [(4, .int (i32 (w32 (v4 + 1)))), (5, .int (i32 y1004)), (0, .ref (zad Γ 138)), (2, .int (i32 v2)), (3, .int (i32 v3))] rfl dX12_layFar_131 (by decide) rfl ?_
              refine zj_goto (tgt := 49) C dX12_layFar_134 rfl ?_
              exact zj_sub [2, 3, 4, 0] rfl (ih.2 v2 v3 (w32 (v4 + 1)) h_v2 h_v3 (ir_w _) m1008)
noncomputable def b_X12_layFar_1 (rec : Int → Int → zMem → Option (Int × zMem)) (v1 : Int) (v2 : Int) (mem : zMem) : Option (Int × zMem) := if v2 ≥ 64 then (if ix 149 v1 then pipe (zup mem 149 v1 0) fun m3 => if ix 150 0 then pipe (zup m3 150 0 v1) fun m5 => f_X12_layFar_0 zN 0 1 0 0 m5 else none else none) else (if ix 149 v2 then pipe (zup mem 149 v2 100000) fun m7 => rec v1 (w32 (v2 + 1)) m7 else none)
noncomputable def f_X12_layFar_1 : Nat → Int → Int → zMem → Option (Int × zMem) := zfuel (fun _ _ _ => none) (b_X12_layFar_1)
set_option maxHeartbeats 4000000 in
theorem L_X12_layFar_1 (l : Launch) {Γ : zG} (F : zFull Γ) {X : zM} {q : Int × zMem} (C : zC X Γ "ShadowHeirsModel" cX12_layFar 6) (Z : zRt X l Γ 4 0 none q) : ∀ n : Nat, ∀ (v1 : Int) (v2 : Int) (h_v1 : ir v1) (h_v2 : ir v2) (mem : zMem), zJ X Γ 6 q (f_X12_layFar_1 n v1 v2 mem) 2 [(0, .ref (zad Γ 138)), (1, .int (i32 v1)), (2, .int (i32 v2))] [] mem := by
  intro n
  induction n with
  | zero => intros; exact zj_none
  | succ n ih =>
    intro v1 v2 h_v1 h_v2 mem
    show zJ X Γ 6 q (b_X12_layFar_1 (f_X12_layFar_1 n) v1 v2 mem) _ _ _ _
    unfold b_X12_layFar_1
    refine zj_iload_n (j := 2) (i := 2) C rfl 2 rfl dX12_layFar_2 ?_
    refine zj_bipush C 64 rfl dX12_layFar_3 ?_
    refine zj_icmp_ge C 23 h_v2 irc_64 dX12_layFar_5 rfl (fun c1 => ?_) (fun c1 => ?_)
    · refine zj_aload_n (j := 0) (i := 0) C rfl 0 rfl dX12_layFar_23 ?_
      refine zj_getR C F zk_138 fl_X12_130 rfl rf_138_27 dX12_layFar_24 ?_
      refine zj_iload_n (j := 1) (i := 1) C rfl 1 rfl dX12_layFar_27 ?_
      refine zj_iconst C 0 dX12_layFar_28 ?_
      refine zj_iastore C F zk_149 h_v1 irc_0 dX12_layFar_29 (fun c2 => ?_)
      refine zj_pipeM (fun m3 e_m3 => ?_)
      refine zj_aload_n (j := 0) (i := 0) C rfl 0 rfl dX12_layFar_30 ?_
      refine zj_getR C F zk_138 fl_X12_133 rfl rf_138_28 dX12_layFar_31 ?_
      refine zj_iconst C 0 dX12_layFar_34 ?_
      refine zj_iload_n (j := 1) (i := 1) C rfl 1 rfl dX12_layFar_35 ?_
      refine zj_iastore C F zk_150 irc_0 h_v1 dX12_layFar_36 (fun c4 => ?_)
      refine zj_pipeM (fun m5 e_m5 => ?_)
      refine zj_iconst C 1 dX12_layFar_37 ?_
      refine zj_istore_n (j := 2) (i := 2) C rfl [(2, .int (i32 1)), (0, .ref (zad Γ 138)), (1, .int (i32 v1))] dX12_layFar_38 (by decide) rfl ?_
      refine zj_iconst C 0 dX12_layFar_39 ?_
      refine zj_istore_n (j := 3) (i := 3) C rfl [(3, .int (i32 0)), (2, .int (i32 1)), (0, .ref (zad Γ 138)), (1, .int (i32 v1))] dX12_layFar_40 (by decide) rfl ?_
      exact zj_sub [2, 1, 0] rfl ((L_X12_layFar_0 l F C Z zN).1 1 0 0 irc_1 irc_0 m5)
    · refine zj_aload_n (j := 0) (i := 0) C rfl 0 rfl dX12_layFar_8 ?_
      refine zj_getR C F zk_138 fl_X12_130 rfl rf_138_27 dX12_layFar_9 ?_
      refine zj_iload_n (j := 2) (i := 2) C rfl 2 rfl dX12_layFar_12 ?_
      refine zj_ldcw C 100000 kc_X12_325 dX12_layFar_13 ?_
      refine zj_iastore C F zk_149 h_v2 irc_100000 dX12_layFar_16 (fun c6 => ?_)
      refine zj_pipeM (fun m7 e_m7 => ?_)
      refine zj_iinc C 2 [(2, .int (i32 (w32 (v2 + 1)))), (0, .ref (zad Γ 138)), (1, .int (i32 v1))] rfl dX12_layFar_17 (by decide) rfl ?_
      refine zj_goto (tgt := 2) C dX12_layFar_20 rfl ?_
      exact zj_sub [1, 2, 0] rfl (ih v1 (w32 (v2 + 1)) h_v1 (ir_w _) m7)
noncomputable def f_X12_layFar (x0 : Int) (mem : zMem) : Option (Int × zMem) := f_X12_layFar_1 zN x0 0 mem
set_option maxHeartbeats 4000000 in
theorem M_X12_layFar (l : Launch) (Γ : zG) (F : zFull Γ)  {x0 : Int} (h_x0 : ir x0) (mem : zMem) (q : Int × zMem) (h : f_X12_layFar x0 mem = some q) : zMet l yX12_layFar cX12_layFar 6 none 4 Γ 0 [.ref (zad Γ 138), .int (i32 x0)] mem q := by
  refine zMet_of (own := "ShadowHeirsModel") (by decide) rfl (Nat.le_of_ble_eq_true rfl) (fun X C Z => ?_)
  revert h
  show zJ X Γ 6 q (f_X12_layFar x0 mem) 0 [(0, .ref (zad Γ 138)), (1, .int (i32 x0))] [] mem
  unfold f_X12_layFar
  refine zj_iconst C 0 dX12_layFar_0 ?_
  refine zj_istore_n (j := 2) (i := 2) C rfl [(2, .int (i32 0)), (0, .ref (zad Γ 138)), (1, .int (i32 x0))] dX12_layFar_1 (by decide) rfl ?_
  exact zj_sub [1, 2, 0] rfl ((L_X12_layFar_1 l F C Z zN) x0 0 h_x0 irc_0 mem)
noncomputable def b_X12_near_0 (rec : Int → Int → Int → zMem → Option (Int × zMem)) (w4 : Int) (v6 : Int) (v7 : Int) (mem : zMem) : Option (Int × zMem) := if v7 ≥ 64 then (if v6 = 100000 then (some ((-1), mem)) else (some (v6, mem))) else (zbind (f_X12_isCast w4 v7 mem) fun y3 m4 => if y3 = 0 then (rec w4 v6 (w32 (v7 + 1)) m4) else (if ix 149 v7 then zbind (f_X12_least v6 (m4 149 v7) m4) fun y8 m9 => rec w4 y8 (w32 (v7 + 1)) m9 else none))
noncomputable def f_X12_near_0 : Nat → Int → Int → Int → zMem → Option (Int × zMem) := zfuel (fun _ _ _ _ => none) (b_X12_near_0)
set_option maxHeartbeats 4000000 in
theorem L_X12_near_0 (l : Launch) {Γ : zG} (F : zFull Γ) {X : zM} {q : Int × zMem} (C : zC X Γ "ShadowHeirsModel" cX12_near 8) (Z : zRt X l Γ 5 1 (some .int) q) : ∀ n : Nat, ∀ (w4 : Int) (v6 : Int) (v7 : Int) (h_w4 : lr w4) (h_v6 : ir v6) (h_v7 : ir v7) (mem : zMem), zJ X Γ 8 q (f_X12_near_0 n w4 v6 v7 mem) 60 [(0, .ref (zad Γ 138)), (4, .long (i64 w4)), (6, .int (i32 v6)), (7, .int (i32 v7))] [] mem := by
  intro n
  induction n with
  | zero => intros; exact zj_none
  | succ n ih =>
    intro w4 v6 v7 h_w4 h_v6 h_v7 mem
    show zJ X Γ 8 q (b_X12_near_0 (f_X12_near_0 n) w4 v6 v7 mem) _ _ _ _
    unfold b_X12_near_0
    refine zj_iload C 3 rfl dX12_near_60 ?_
    refine zj_bipush C 64 rfl dX12_near_62 ?_
    refine zj_icmp_ge C 97 h_v7 irc_64 dX12_near_64 rfl (fun c1 => ?_) (fun c1 => ?_)
    · refine zj_iload C 2 rfl dX12_near_97 ?_
      refine zj_ldcw C 100000 kc_X12_325 dX12_near_99 ?_
      refine zj_icmp_ne C 109 h_v6 irc_100000 dX12_near_102 rfl (fun c2 => ?_) (fun c2 => ?_)
      · refine zj_iconst C (-1) dX12_near_105 ?_
        refine zj_goto (tgt := 111) C dX12_near_106 rfl ?_
        exact zrt_i C Z irc_m1 dX12_near_111
      · refine zj_iload C 2 rfl dX12_near_109 ?_
        exact zrt_i C Z h_v6 dX12_near_111
    · refine zj_lload C 1 rfl dX12_near_67 ?_
      refine zj_iload C 3 rfl dX12_near_69 ?_
      refine zj_callSi C Z [.long (i64 w4), .int (i32 v7)] [] cal_X12_isCast sta_X12_isCast ml_X12_255 rfl (by decide) (Nat.le_of_ble_eq_true rfl) rfl dX12_near_71 (fun q h => M_X12_isCast l Γ F h_w4 h_v7 mem q h) (fun y3 m4 h_y3 => ?_)
      refine zj_if_eq C 91 h_y3 dX12_near_74 rfl (fun c5 => ?_) (fun c5 => ?_)
      · refine zj_iinc C 3 [(7, .int (i32 (w32 (v7 + 1)))), (0, .ref (zad Γ 138)), (4, .long (i64 w4)), (6, .int (i32 v6))] rfl dX12_near_91 (by decide) rfl ?_
        refine zj_goto (tgt := 60) C dX12_near_94 rfl ?_
        exact zj_sub [1, 2, 3, 0] rfl (ih w4 v6 (w32 (v7 + 1)) h_w4 h_v6 (ir_w _) m4)
      · refine zj_iload C 2 rfl dX12_near_77 ?_
        refine zj_aload_n (j := 0) (i := 0) C rfl 0 rfl dX12_near_79 ?_
        refine zj_getR C F zk_138 fl_X12_130 rfl rf_138_27 dX12_near_80 ?_
        refine zj_iload C 3 rfl dX12_near_83 ?_
        refine zj_iaload C F zk_149 h_v7 dX12_near_85 (fun c6 h7 => ?_)
        refine zj_callSi C Z [.int (i32 v6), .int (i32 (m4 149 v7))] [] cal_X12_least sta_X12_least ml_X12_316 rfl (by decide) (Nat.le_of_ble_eq_true rfl) rfl dX12_near_86 (fun q h => M_X12_least l Γ F h_v6 h7 m4 q h) (fun y8 m9 h_y8 => ?_)
        refine zj_istore C [(6, .int (i32 y8)), (0, .ref (zad Γ 138)), (4, .long (i64 w4)), (7, .int (i32 v7))] dX12_near_89 (by decide) rfl ?_
        refine zj_iinc C 3 [(7, .int (i32 (w32 (v7 + 1)))), (6, .int (i32 y8)), (0, .ref (zad Γ 138)), (4, .long (i64 w4))] rfl dX12_near_91 (by decide) rfl ?_
        refine zj_goto (tgt := 60) C dX12_near_94 rfl ?_
        exact zj_sub [2, 3, 1, 0] rfl (ih w4 y8 (w32 (v7 + 1)) h_w4 h_y8 (ir_w _) m9)
noncomputable def f_X12_near (x0 : Int) (x1 : Int) (x2 : Int) (mem : zMem) : Option (Int × zMem) := pipe (zup mem 138 0 0) fun m1 => zbind (f_X12_isPerson x0 m1) fun y2 m3 => if y2 = 0 then (some ((-1), m3)) else (zbind (f_X12_isHouse x1 m3) fun y5 m6 => if y5 = 0 then (some ((-1), m6)) else (zbind (f_X12_isSun x2 m6) fun y8 m9 => if y8 = 0 then (some ((-1), m9)) else (if ix 140 (w32 (116 + x0)) then zbind (f_X12_layFar (m9 140 (w32 (116 + x0))) m9) fun _ m13 => zbind (f_X12_shadowOf x1 x2 m13) fun y14 m15 => f_X12_near_0 zN y14 100000 0 m15 else none)))
set_option maxHeartbeats 4000000 in
theorem M_X12_near (l : Launch) (Γ : zG) (F : zFull Γ)  {x0 : Int} {x1 : Int} {x2 : Int} (h_x0 : ir x0) (h_x1 : ir x1) (h_x2 : ir x2) (mem : zMem) (q : Int × zMem) (h : f_X12_near x0 x1 x2 mem = some q) : zMet l yX12_near cX12_near 8 (some .int) 5 Γ 1 [.ref (zad Γ 138), .int (i32 x0), .int (i32 x1), .int (i32 x2)] mem q := by
  refine zMet_of (own := "ShadowHeirsModel") (by decide) rfl (Nat.le_of_ble_eq_true rfl) (fun X C Z => ?_)
  revert h
  show zJ X Γ 8 q (f_X12_near x0 x1 x2 mem) 0 [(0, .ref (zad Γ 138)), (1, .int (i32 x0)), (2, .int (i32 x1)), (3, .int (i32 x2))] [] mem
  unfold f_X12_near
  refine zj_aload_n (j := 0) (i := 0) C rfl 0 rfl dX12_near_0 ?_
  refine zj_iconst C 0 dX12_near_1 ?_
  refine zj_putI C F 0 rfl zk_138 fl_X12_1 rfl fp_12_0 irc_0 dX12_near_2 ?_
  refine zj_pipeM (fun m1 e_m1 => ?_)
  refine zj_aload_n (j := 0) (i := 0) C rfl 0 rfl dX12_near_5 ?_
  refine zj_iload_n (j := 1) (i := 1) C rfl 1 rfl dX12_near_6 ?_
  refine zj_callVi C F Z [.int (i32 x0)] [] cal_X12_isPerson calv_X12_isPerson ml_X12_280 zk_138 rfl rfl (by decide) (Nat.le_of_ble_eq_true rfl) rfl dX12_near_7 (fun q h => M_X12_isPerson l Γ F h_x0 m1 q h) (fun y2 m3 h_y2 => ?_)
  refine zj_if_eq C 29 h_y2 dX12_near_10 rfl (fun c4 => ?_) (fun c4 => ?_)
  · refine zj_iconst C (-1) dX12_near_29 ?_
    exact zrt_i C Z irc_m1 dX12_near_30
  · refine zj_aload_n (j := 0) (i := 0) C rfl 0 rfl dX12_near_13 ?_
    refine zj_iload_n (j := 2) (i := 2) C rfl 2 rfl dX12_near_14 ?_
    refine zj_callVi C F Z [.int (i32 x1)] [] cal_X12_isHouse calv_X12_isHouse ml_X12_268 zk_138 rfl rfl (by decide) (Nat.le_of_ble_eq_true rfl) rfl dX12_near_15 (fun q h => M_X12_isHouse l Γ F h_x1 m3 q h) (fun y5 m6 h_y5 => ?_)
    refine zj_if_eq C 29 h_y5 dX12_near_18 rfl (fun c7 => ?_) (fun c7 => ?_)
    · refine zj_iconst C (-1) dX12_near_29 ?_
      exact zrt_i C Z irc_m1 dX12_near_30
    · refine zj_aload_n (j := 0) (i := 0) C rfl 0 rfl dX12_near_21 ?_
      refine zj_iload_n (j := 3) (i := 3) C rfl 3 rfl dX12_near_22 ?_
      refine zj_callVi C F Z [.int (i32 x2)] [] cal_X12_isSun calv_X12_isSun ml_X12_322 zk_138 rfl rfl (by decide) (Nat.le_of_ble_eq_true rfl) rfl dX12_near_23 (fun q h => M_X12_isSun l Γ F h_x2 m6 q h) (fun y8 m9 h_y8 => ?_)
      refine zj_if_ne C 31 h_y8 dX12_near_26 rfl (fun c10 => ?_) (fun c10 => ?_)
      · refine zj_iconst C (-1) dX12_near_29 ?_
        exact zrt_i C Z irc_m1 dX12_near_30
      · refine zj_aload_n (j := 0) (i := 0) C rfl 0 rfl dX12_near_31 ?_
        refine zj_aload_n (j := 0) (i := 0) C rfl 0 rfl dX12_near_32 ?_
        refine zj_getR C F zk_138 fl_X12_98 rfl rf_138_14 dX12_near_33 ?_
        refine zj_bipush C 116 rfl dX12_near_36 ?_
        refine zj_iload_n (j := 1) (i := 1) C rfl 1 rfl dX12_near_38 ?_
        refine zj_iadd C dX12_near_39 ?_
        refine zj_iaload C F zk_140 (ir_w _) dX12_near_40 (fun c11 h12 => ?_)
        refine zj_callVv C F Z [.int (i32 (m9 140 (w32 (116 + x0))))] [] cal_X12_layFar calv_X12_layFar ml_X12_326 zk_138 rfl rfl (by decide) (Nat.le_of_ble_eq_true rfl) rfl dX12_near_41 (fun q h => M_X12_layFar l Γ F h12 m9 q h) (fun _ m13 _ => ?_)
        refine zj_aload_n (j := 0) (i := 0) C rfl 0 rfl dX12_near_44 ?_
        refine zj_iload_n (j := 2) (i := 2) C rfl 2 rfl dX12_near_45 ?_
        refine zj_iload_n (j := 3) (i := 3) C rfl 3 rfl dX12_near_46 ?_
        refine zj_callVl C F Z [.int (i32 x1), .int (i32 x2)] [] cal_X12_shadowOf calv_X12_shadowOf ml_X12_251 zk_138 rfl rfl (by decide) (Nat.le_of_ble_eq_true rfl) rfl dX12_near_47 (fun q h => M_X12_shadowOf l Γ F h_x1 h_x2 m13 q h) (fun y14 m15 h_y14 => ?_)
        refine zj_lstore C [(4, .long (i64 y14)), (0, .ref (zad Γ 138)), (1, .int (i32 x0)), (2, .int (i32 x1)), (3, .int (i32 x2))] dX12_near_50 (by decide) rfl ?_
        refine zj_ldcw C 100000 kc_X12_325 dX12_near_52 ?_
        refine zj_istore C [(6, .int (i32 100000)), (4, .long (i64 y14)), (0, .ref (zad Γ 138)), (1, .int (i32 x0)), (2, .int (i32 x1)), (3, .int (i32 x2))] dX12_near_55 (by decide) rfl ?_
        refine zj_iconst C 0 dX12_near_57 ?_
        refine zj_istore C [(7, .int (i32 0)), (6, .int (i32 100000)), (4, .long (i64 y14)), (0, .ref (zad Γ 138)), (1, .int (i32 x0)), (2, .int (i32 x1)), (3, .int (i32 x2))] dX12_near_58 (by decide) rfl ?_
        exact zj_sub [3, 2, 1, 0] rfl ((L_X12_near_0 l F C Z zN) y14 100000 0 h_y14 irc_100000 irc_0 m15)
noncomputable def b_X12_fits_0 (rec : Int → Int → Int → zMem → Option (Int × zMem)) (v2 : Int) (v3 : Int) (v4 : Int) (mem : zMem) : Option (Int × zMem) := if v4 ≥ v2 then (some (1, mem)) else (if ix 139 v4 then zbind (f_X12_has v3 (mem 139 v4) mem) fun y4 m5 => if ix 139 (w32 (v4 + 1)) then if (m5 139 (w32 (v4 + 1))) = 1 then (if y4 = 1 then (rec v2 v3 (w32 (v4 + 2)) m5) else (some (0, m5))) else (if y4 = 0 then (rec v2 v3 (w32 (v4 + 2)) m5) else (some (0, m5))) else none else none)
noncomputable def f_X12_fits_0 : Nat → Int → Int → Int → zMem → Option (Int × zMem) := zfuel (fun _ _ _ _ => none) (b_X12_fits_0)
set_option maxHeartbeats 4000000 in
theorem L_X12_fits_0 (l : Launch) {Γ : zG} (F : zFull Γ) {X : zM} {q : Int × zMem} (C : zC X Γ "ShadowHeirsModel" cX12_fits 5) (Z : zRt X l Γ 6 1 (some .boolean) q) : ∀ n : Nat, ∀ (v2 : Int) (v3 : Int) (v4 : Int) (h_v2 : ir v2) (h_v3 : ir v3) (h_v4 : ir v4) (mem : zMem), zJ X Γ 5 q (f_X12_fits_0 n v2 v3 v4 mem) 15 [(0, .ref (zad Γ 138)), (2, .int (i32 v2)), (3, .int (i32 v3)), (4, .int (i32 v4))] [] mem := by
  intro n
  induction n with
  | zero => intros; exact zj_none
  | succ n ih =>
    intro v2 v3 v4 h_v2 h_v3 h_v4 mem
    show zJ X Γ 5 q (b_X12_fits_0 (f_X12_fits_0 n) v2 v3 v4 mem) _ _ _ _
    unfold b_X12_fits_0
    refine zj_iload C 3 rfl dX12_fits_15 ?_
    refine zj_iload_n (j := 2) (i := 2) C rfl 1 rfl dX12_fits_17 ?_
    refine zj_icmp_ge C 61 h_v4 h_v2 dX12_fits_18 rfl (fun c1 => ?_) (fun c1 => ?_)
    · refine zj_iconst C 1 dX12_fits_61 ?_
      exact zrt_z C Z (Or.inr rfl) dX12_fits_62
    · refine zj_iload_n (j := 3) (i := 3) C rfl 2 rfl dX12_fits_21 ?_
      refine zj_aload_n (j := 0) (i := 0) C rfl 0 rfl dX12_fits_22 ?_
      refine zj_getR C F zk_138 fl_X12_7 rfl rf_138_1 dX12_fits_23 ?_
      refine zj_iload C 3 rfl dX12_fits_26 ?_
      refine zj_iaload C F zk_139 h_v4 dX12_fits_28 (fun c2 h3 => ?_)
      refine zj_callSi C Z [.int (i32 v3), .int (i32 (mem 139 v4))] [] cal_X12_has sta_X12_has ml_X12_235 rfl (by decide) (Nat.le_of_ble_eq_true rfl) rfl dX12_fits_29 (fun q h => M_X12_has l Γ F h_v3 h3 mem q h) (fun y4 m5 h_y4 => ?_)
      refine zj_aload_n (j := 0) (i := 0) C rfl 0 rfl dX12_fits_32 ?_
      refine zj_getR C F zk_138 fl_X12_7 rfl rf_138_1 dX12_fits_33 ?_
      refine zj_iload C 3 rfl dX12_fits_36 ?_
      refine zj_iconst C 1 dX12_fits_38 ?_
      refine zj_iadd C dX12_fits_39 ?_
      refine zj_iaload C F zk_139 (ir_w _) dX12_fits_40 (fun c6 h7 => ?_)
      refine zj_iconst C 1 dX12_fits_41 ?_
      refine zj_icmp_ne C 49 h7 irc_1 dX12_fits_42 rfl (fun c8 => ?_) (fun c8 => ?_)
      · refine zj_iconst C 1 dX12_fits_45 ?_
        refine zj_goto (tgt := 50) C dX12_fits_46 rfl ?_
        refine zj_icmp_eq C 55 h_y4 irc_1 dX12_fits_50 rfl (fun c9 => ?_) (fun c9 => ?_)
        · refine zj_iinc C 3 [(4, .int (i32 (w32 (v4 + 2)))), (0, .ref (zad Γ 138)), (2, .int (i32 v2)), (3, .int (i32 v3))] rfl dX12_fits_55 (by decide) rfl ?_
          refine zj_goto (tgt := 15) C dX12_fits_58 rfl ?_
          exact zj_sub [1, 2, 3, 0] rfl (ih v2 v3 (w32 (v4 + 2)) h_v2 h_v3 (ir_w _) m5)
        · refine zj_iconst C 0 dX12_fits_53 ?_
          exact zrt_z C Z (Or.inl rfl) dX12_fits_54
      · refine zj_iconst C 0 dX12_fits_49 ?_
        refine zj_icmp_eq C 55 h_y4 irc_0 dX12_fits_50 rfl (fun c10 => ?_) (fun c10 => ?_)
        · refine zj_iinc C 3 [(4, .int (i32 (w32 (v4 + 2)))), (0, .ref (zad Γ 138)), (2, .int (i32 v2)), (3, .int (i32 v3))] rfl dX12_fits_55 (by decide) rfl ?_
          refine zj_goto (tgt := 15) C dX12_fits_58 rfl ?_
          exact zj_sub [1, 2, 3, 0] rfl (ih v2 v3 (w32 (v4 + 2)) h_v2 h_v3 (ir_w _) m5)
        · refine zj_iconst C 0 dX12_fits_53 ?_
          exact zrt_z C Z (Or.inl rfl) dX12_fits_54
noncomputable def f_X12_fits (x0 : Int) (x1 : Int) (mem : zMem) : Option (Int × zMem) := if ix 139 0 then zbind (f_X12_touchedBy (mem 139 0) x0 mem) fun y3 m4 => f_X12_fits_0 zN x1 y3 1 m4 else none
set_option maxHeartbeats 4000000 in
theorem M_X12_fits (l : Launch) (Γ : zG) (F : zFull Γ)  {x0 : Int} {x1 : Int} (h_x0 : ir x0) (h_x1 : ir x1) (mem : zMem) (q : Int × zMem) (h : f_X12_fits x0 x1 mem = some q) : zMet l yX12_fits cX12_fits 5 (some .boolean) 6 Γ 1 [.ref (zad Γ 138), .int (i32 x0), .int (i32 x1)] mem q := by
  refine zMet_of (own := "ShadowHeirsModel") (by decide) rfl (Nat.le_of_ble_eq_true rfl) (fun X C Z => ?_)
  revert h
  show zJ X Γ 5 q (f_X12_fits x0 x1 mem) 0 [(0, .ref (zad Γ 138)), (1, .int (i32 x0)), (2, .int (i32 x1))] [] mem
  unfold f_X12_fits
  refine zj_aload_n (j := 0) (i := 0) C rfl 0 rfl dX12_fits_0 ?_
  refine zj_aload_n (j := 0) (i := 0) C rfl 0 rfl dX12_fits_1 ?_
  refine zj_getR C F zk_138 fl_X12_7 rfl rf_138_1 dX12_fits_2 ?_
  refine zj_iconst C 0 dX12_fits_5 ?_
  refine zj_iaload C F zk_139 irc_0 dX12_fits_6 (fun c1 h2 => ?_)
  refine zj_iload_n (j := 1) (i := 1) C rfl 1 rfl dX12_fits_7 ?_
  refine zj_callVi C F Z [.int (i32 (mem 139 0)), .int (i32 x0)] [] cal_X12_touchedBy calv_X12_touchedBy ml_X12_277 zk_138 rfl rfl (by decide) (Nat.le_of_ble_eq_true rfl) rfl dX12_fits_8 (fun q h => M_X12_touchedBy l Γ F h2 h_x0 mem q h) (fun y3 m4 h_y3 => ?_)
  refine zj_istore_n (j := 3) (i := 3) C rfl [(3, .int (i32 y3)), (0, .ref (zad Γ 138)), (1, .int (i32 x0)), (2, .int (i32 x1))] dX12_fits_11 (by decide) rfl ?_
  refine zj_iconst C 1 dX12_fits_12 ?_
  refine zj_istore C [(4, .int (i32 1)), (3, .int (i32 y3)), (0, .ref (zad Γ 138)), (1, .int (i32 x0)), (2, .int (i32 x1))] dX12_fits_13 (by decide) rfl ?_
  exact zj_sub [2, 4, 1, 0] rfl ((L_X12_fits_0 l F C Z zN) x1 y3 1 h_x1 h_y3 irc_1 m4)
noncomputable def b_X12_leftBy_0 (rec : Int → Int → Int → Int → Int → zMem → Option (Int × zMem)) (v1 : Int) (v2 : Int) (v3 : Int) (v4 : Int) (v5 : Int) (mem : zMem) : Option (Int × zMem) := if ix 140 4 then if v5 ≥ (mem 140 4) then (zbind (f_X12_bits v1 mem) fun y4 m5 => if v4 ≤ (w32 (y4 - v4)) then (zbind (f_X12_bits v1 m5) fun y7 m8 => some ((w32 (y7 - v4)), m8)) else (some (v4, m5))) else (zbind (f_X12_has v1 v5 mem) fun y9 m10 => if y9 = 0 then (rec v1 v2 v3 v4 (w32 (v5 + 1)) m10) else (zbind (f_X12_touchedBy v2 v5 m10) fun y12 m13 => zbind (f_X12_has y12 v3 m13) fun y14 m15 => if y14 = 0 then (rec v1 v2 v3 v4 (w32 (v5 + 1)) m15) else (rec v1 v2 v3 (w32 (v4 + 1)) (w32 (v5 + 1)) m15))) else none
noncomputable def f_X12_leftBy_0 : Nat → Int → Int → Int → Int → Int → zMem → Option (Int × zMem) := zfuel (fun _ _ _ _ _ _ => none) (b_X12_leftBy_0)
set_option maxHeartbeats 4000000 in
theorem L_X12_leftBy_0 (l : Launch) {Γ : zG} (F : zFull Γ) {X : zM} {q : Int × zMem} (C : zC X Γ "ShadowHeirsModel" cX12_leftBy 6) (Z : zRt X l Γ 6 1 (some .int) q) : ∀ n : Nat, ∀ (v1 : Int) (v2 : Int) (v3 : Int) (v4 : Int) (v5 : Int) (h_v1 : ir v1) (h_v2 : ir v2) (h_v3 : ir v3) (h_v4 : ir v4) (h_v5 : ir v5) (mem : zMem), zJ X Γ 6 q (f_X12_leftBy_0 n v1 v2 v3 v4 v5 mem) 6 [(0, .ref (zad Γ 138)), (1, .int (i32 v1)), (2, .int (i32 v2)), (3, .int (i32 v3)), (4, .int (i32 v4)), (5, .int (i32 v5))] [] mem := by
  intro n
  induction n with
  | zero => intros; exact zj_none
  | succ n ih =>
    intro v1 v2 v3 v4 v5 h_v1 h_v2 h_v3 h_v4 h_v5 mem
    show zJ X Γ 6 q (b_X12_leftBy_0 (f_X12_leftBy_0 n) v1 v2 v3 v4 v5 mem) _ _ _ _
    unfold b_X12_leftBy_0
    refine zj_iload C 5 rfl dX12_leftBy_6 ?_
    refine zj_aload_n (j := 0) (i := 0) C rfl 0 rfl dX12_leftBy_8 ?_
    refine zj_getR C F zk_138 fl_X12_98 rfl rf_138_14 dX12_leftBy_9 ?_
    refine zj_iconst C 4 dX12_leftBy_12 ?_
    refine zj_iaload C F zk_140 irc_4 dX12_leftBy_13 (fun c1 h2 => ?_)
    refine zj_icmp_ge C 49 h_v5 h2 dX12_leftBy_14 rfl (fun c3 => ?_) (fun c3 => ?_)
    · refine zj_iload C 4 rfl dX12_leftBy_49 ?_
      refine zj_iload_n (j := 1) (i := 1) C rfl 1 rfl dX12_leftBy_51 ?_
      refine zj_callSi C Z [.int (i32 v1)] [.int (i32 v4)] cal_X12_bits sta_X12_bits ml_X12_295 rfl (by decide) (Nat.le_of_ble_eq_true rfl) rfl dX12_leftBy_52 (fun q h => M_X12_bits l Γ F h_v1 mem q h) (fun y4 m5 h_y4 => ?_)
      refine zj_iload C 4 rfl dX12_leftBy_55 ?_
      refine zj_isub C dX12_leftBy_57 ?_
      refine zj_icmp_le C 66 h_v4 (ir_w _) dX12_leftBy_58 rfl (fun c6 => ?_) (fun c6 => ?_)
      · refine zj_iload_n (j := 1) (i := 1) C rfl 1 rfl dX12_leftBy_66 ?_
        refine zj_callSi C Z [.int (i32 v1)] [] cal_X12_bits sta_X12_bits ml_X12_295 rfl (by decide) (Nat.le_of_ble_eq_true rfl) rfl dX12_leftBy_67 (fun q h => M_X12_bits l Γ F h_v1 m5 q h) (fun y7 m8 h_y7 => ?_)
        refine zj_iload C 4 rfl dX12_leftBy_70 ?_
        refine zj_isub C dX12_leftBy_72 ?_
        exact zrt_i C Z (ir_w _) dX12_leftBy_73
      · refine zj_iload C 4 rfl dX12_leftBy_61 ?_
        refine zj_goto (tgt := 73) C dX12_leftBy_63 rfl ?_
        exact zrt_i C Z h_v4 dX12_leftBy_73
    · refine zj_iload_n (j := 1) (i := 1) C rfl 1 rfl dX12_leftBy_17 ?_
      refine zj_iload C 5 rfl dX12_leftBy_18 ?_
      refine zj_callSi C Z [.int (i32 v1), .int (i32 v5)] [] cal_X12_has sta_X12_has ml_X12_235 rfl (by decide) (Nat.le_of_ble_eq_true rfl) rfl dX12_leftBy_20 (fun q h => M_X12_has l Γ F h_v1 h_v5 mem q h) (fun y9 m10 h_y9 => ?_)
      refine zj_if_eq C 43 h_y9 dX12_leftBy_23 rfl (fun c11 => ?_) (fun c11 => ?_)
      · refine zj_iinc C 5 [(5, .int (i32 (w32 (v5 + 1)))), (0, .ref (zad Γ 138)), (1, .int (i32 v1)), (2, .int (i32 v2)), (3, .int (i32 v3)), (4, .int (i32 v4))] rfl dX12_leftBy_43 (by decide) rfl ?_
        refine zj_goto (tgt := 6) C dX12_leftBy_46 rfl ?_
        exact zj_sub [1, 2, 3, 4, 5, 0] rfl (ih v1 v2 v3 v4 (w32 (v5 + 1)) h_v1 h_v2 h_v3 h_v4 (ir_w _) m10)
      · refine zj_aload_n (j := 0) (i := 0) C rfl 0 rfl dX12_leftBy_26 ?_
        refine zj_iload_n (j := 2) (i := 2) C rfl 2 rfl dX12_leftBy_27 ?_
        refine zj_iload C 5 rfl dX12_leftBy_28 ?_
        refine zj_callVi C F Z [.int (i32 v2), .int (i32 v5)] [] cal_X12_touchedBy calv_X12_touchedBy ml_X12_277 zk_138 rfl rfl (by decide) (Nat.le_of_ble_eq_true rfl) rfl dX12_leftBy_30 (fun q h => M_X12_touchedBy l Γ F h_v2 h_v5 m10 q h) (fun y12 m13 h_y12 => ?_)
        refine zj_iload_n (j := 3) (i := 3) C rfl 3 rfl dX12_leftBy_33 ?_
        refine zj_callSi C Z [.int (i32 y12), .int (i32 v3)] [] cal_X12_has sta_X12_has ml_X12_235 rfl (by decide) (Nat.le_of_ble_eq_true rfl) rfl dX12_leftBy_34 (fun q h => M_X12_has l Γ F h_y12 h_v3 m13 q h) (fun y14 m15 h_y14 => ?_)
        refine zj_if_eq C 43 h_y14 dX12_leftBy_37 rfl (fun c16 => ?_) (fun c16 => ?_)
        · refine zj_iinc C 5 [(5, .int (i32 (w32 (v5 + 1)))), (0, .ref (zad Γ 138)), (1, .int (i32 v1)), (2, .int (i32 v2)), (3, .int (i32 v3)), (4, .int (i32 v4))] rfl dX12_leftBy_43 (by decide) rfl ?_
          refine zj_goto (tgt := 6) C dX12_leftBy_46 rfl ?_
          exact zj_sub [1, 2, 3, 4, 5, 0] rfl (ih v1 v2 v3 v4 (w32 (v5 + 1)) h_v1 h_v2 h_v3 h_v4 (ir_w _) m15)
        · refine zj_iinc C 4 [(4, .int (i32 (w32 (v4 + 1)))), (0, .ref (zad Γ 138)), (1, .int (i32 v1)), (2, .int (i32 v2)), (3, .int (i32 v3)), (5, .int (i32 v5))] rfl dX12_leftBy_40 (by decide) rfl ?_
          refine zj_iinc C 5 [(5, .int (i32 (w32 (v5 + 1)))), (4, .int (i32 (w32 (v4 + 1)))), (0, .ref (zad Γ 138)), (1, .int (i32 v1)), (2, .int (i32 v2)), (3, .int (i32 v3))] rfl dX12_leftBy_43 (by decide) rfl ?_
          refine zj_goto (tgt := 6) C dX12_leftBy_46 rfl ?_
          exact zj_sub [2, 3, 4, 5, 1, 0] rfl (ih v1 v2 v3 (w32 (v4 + 1)) (w32 (v5 + 1)) h_v1 h_v2 h_v3 (ir_w _) (ir_w _) m15)
noncomputable def f_X12_leftBy (x0 : Int) (x1 : Int) (x2 : Int) (mem : zMem) : Option (Int × zMem) := f_X12_leftBy_0 zN x0 x1 x2 0 0 mem
set_option maxHeartbeats 4000000 in
theorem M_X12_leftBy (l : Launch) (Γ : zG) (F : zFull Γ)  {x0 : Int} {x1 : Int} {x2 : Int} (h_x0 : ir x0) (h_x1 : ir x1) (h_x2 : ir x2) (mem : zMem) (q : Int × zMem) (h : f_X12_leftBy x0 x1 x2 mem = some q) : zMet l yX12_leftBy cX12_leftBy 6 (some .int) 6 Γ 1 [.ref (zad Γ 138), .int (i32 x0), .int (i32 x1), .int (i32 x2)] mem q := by
  refine zMet_of (own := "ShadowHeirsModel") (by decide) rfl (Nat.le_of_ble_eq_true rfl) (fun X C Z => ?_)
  revert h
  show zJ X Γ 6 q (f_X12_leftBy x0 x1 x2 mem) 0 [(0, .ref (zad Γ 138)), (1, .int (i32 x0)), (2, .int (i32 x1)), (3, .int (i32 x2))] [] mem
  unfold f_X12_leftBy
  refine zj_iconst C 0 dX12_leftBy_0 ?_
  refine zj_istore C [(4, .int (i32 0)), (0, .ref (zad Γ 138)), (1, .int (i32 x0)), (2, .int (i32 x1)), (3, .int (i32 x2))] dX12_leftBy_1 (by decide) rfl ?_
  refine zj_iconst C 0 dX12_leftBy_3 ?_
  refine zj_istore C [(5, .int (i32 0)), (4, .int (i32 0)), (0, .ref (zad Γ 138)), (1, .int (i32 x0)), (2, .int (i32 x1)), (3, .int (i32 x2))] dX12_leftBy_4 (by decide) rfl ?_
  exact zj_sub [2, 3, 4, 5, 1, 0] rfl ((L_X12_leftBy_0 l F C Z zN) x0 x1 x2 0 0 h_x0 h_x1 h_x2 irc_0 irc_0 mem)
noncomputable def b_X12_when_0 (rec : Int → Int → zMem → Option (Int × zMem)) (v2 : Int) (v3 : Int) (mem : zMem) : Option (Int × zMem) := if ix 140 3 then if v3 ≥ (mem 140 3) then (some (v2, mem)) else (if ix 139 0 then zbind (f_X12_leftBy v2 (mem 139 0) v3 mem) fun y6 m7 => if ix 139 0 then zbind (f_X12_leftBy v2 (m7 139 0) (m7 138 32) m7) fun y11 m12 => if y6 ≥ y11 then (rec v2 (w32 (v3 + 1)) m12) else (pipe (zup m12 138 32 v3) fun m14 => rec v2 (w32 (v3 + 1)) m14) else none else none) else none
noncomputable def f_X12_when_0 : Nat → Int → Int → zMem → Option (Int × zMem) := zfuel (fun _ _ _ => none) (b_X12_when_0)
set_option maxHeartbeats 4000000 in
theorem L_X12_when_0 (l : Launch) {Γ : zG} (F : zFull Γ) {X : zM} {q : Int × zMem} (C : zC X Γ "ShadowHeirsModel" cX12_when 4) (Z : zRt X l Γ 7 1 (some .int) q) : ∀ n : Nat, ∀ (v2 : Int) (v3 : Int) (h_v2 : ir v2) (h_v3 : ir v3) (mem : zMem), zJ X Γ 4 q (f_X12_when_0 n v2 v3 mem) 132 [(0, .ref (zad Γ 138)), (2, .int (i32 v2)), (3, .int (i32 v3))] [] mem := by
  intro n
  induction n with
  | zero => intros; exact zj_none
  | succ n ih =>
    intro v2 v3 h_v2 h_v3 mem
    show zJ X Γ 4 q (b_X12_when_0 (f_X12_when_0 n) v2 v3 mem) _ _ _ _
    unfold b_X12_when_0
    refine zj_iload_n (j := 3) (i := 3) C rfl 2 rfl dX12_when_132 ?_
    refine zj_aload_n (j := 0) (i := 0) C rfl 0 rfl dX12_when_133 ?_
    refine zj_getR C F zk_138 fl_X12_98 rfl rf_138_14 dX12_when_134 ?_
    refine zj_iconst C 3 dX12_when_137 ?_
    refine zj_iaload C F zk_140 irc_3 dX12_when_138 (fun c1 h2 => ?_)
    refine zj_icmp_ge C 183 h_v3 h2 dX12_when_139 rfl (fun c3 => ?_) (fun c3 => ?_)
    · refine zj_iload_n (j := 2) (i := 2) C rfl 1 rfl dX12_when_183 ?_
      exact zrt_i C Z h_v2 dX12_when_184
    · refine zj_aload_n (j := 0) (i := 0) C rfl 0 rfl dX12_when_142 ?_
      refine zj_iload_n (j := 2) (i := 2) C rfl 1 rfl dX12_when_143 ?_
      refine zj_aload_n (j := 0) (i := 0) C rfl 0 rfl dX12_when_144 ?_
      refine zj_getR C F zk_138 fl_X12_7 rfl rf_138_1 dX12_when_145 ?_
      refine zj_iconst C 0 dX12_when_148 ?_
      refine zj_iaload C F zk_139 irc_0 dX12_when_149 (fun c4 h5 => ?_)
      refine zj_iload_n (j := 3) (i := 3) C rfl 2 rfl dX12_when_150 ?_
      refine zj_callVi C F Z [.int (i32 v2), .int (i32 (mem 139 0)), .int (i32 v3)] [] cal_X12_leftBy calv_X12_leftBy ml_X12_340 zk_138 rfl rfl (by decide) (Nat.le_of_ble_eq_true rfl) rfl dX12_when_151 (fun q h => M_X12_leftBy l Γ F h_v2 h5 h_v3 mem q h) (fun y6 m7 h_y6 => ?_)
      refine zj_aload_n (j := 0) (i := 0) C rfl 0 rfl dX12_when_154 ?_
      refine zj_iload_n (j := 2) (i := 2) C rfl 1 rfl dX12_when_155 ?_
      refine zj_aload_n (j := 0) (i := 0) C rfl 0 rfl dX12_when_156 ?_
      refine zj_getR C F zk_138 fl_X12_7 rfl rf_138_1 dX12_when_157 ?_
      refine zj_iconst C 0 dX12_when_160 ?_
      refine zj_iaload C F zk_139 irc_0 dX12_when_161 (fun c8 h9 => ?_)
      refine zj_aload_n (j := 0) (i := 0) C rfl 0 rfl dX12_when_162 ?_
      refine zj_getI C F 32 rfl zk_138 fl_X12_142 rfl dX12_when_163 (fun h10 => ?_)
      refine zj_callVi C F Z [.int (i32 v2), .int (i32 (m7 139 0)), .int (i32 (m7 138 32))] [.int (i32 y6)] cal_X12_leftBy calv_X12_leftBy ml_X12_340 zk_138 rfl rfl (by decide) (Nat.le_of_ble_eq_true rfl) rfl dX12_when_166 (fun q h => M_X12_leftBy l Γ F h_v2 h9 h10 m7 q h) (fun y11 m12 h_y11 => ?_)
      refine zj_icmp_ge C 177 h_y6 h_y11 dX12_when_169 rfl (fun c13 => ?_) (fun c13 => ?_)
      · refine zj_iinc C 2 [(3, .int (i32 (w32 (v3 + 1)))), (0, .ref (zad Γ 138)), (2, .int (i32 v2))] rfl dX12_when_177 (by decide) rfl ?_
        refine zj_goto (tgt := 132) C dX12_when_180 rfl ?_
        exact zj_sub [1, 2, 0] rfl (ih v2 (w32 (v3 + 1)) h_v2 (ir_w _) m12)
      · refine zj_aload_n (j := 0) (i := 0) C rfl 0 rfl dX12_when_172 ?_
        refine zj_iload_n (j := 3) (i := 3) C rfl 2 rfl dX12_when_173 ?_
        refine zj_putI C F 32 rfl zk_138 fl_X12_142 rfl fp_12_32 h_v3 dX12_when_174 ?_
        refine zj_pipeM (fun m14 e_m14 => ?_)
        refine zj_iinc C 2 [(3, .int (i32 (w32 (v3 + 1)))), (0, .ref (zad Γ 138)), (2, .int (i32 v2))] rfl dX12_when_177 (by decide) rfl ?_
        refine zj_goto (tgt := 132) C dX12_when_180 rfl ?_
        exact zj_sub [1, 2, 0] rfl (ih v2 (w32 (v3 + 1)) h_v2 (ir_w _) m14)
noncomputable def b_X12_when_1 (rec : Int → Int → Int → zMem → Option (Int × zMem)) (v1 : Int) (v2 : Int) (v3 : Int) (mem : zMem) : Option (Int × zMem) := if ix 140 4 then if v3 ≥ (mem 140 4) then (if v2 = 0 then (some (0, mem)) else (pipe (zup mem 138 32 0) fun m5 => f_X12_when_0 zN v2 1 m5)) else (zbind (f_X12_fits v3 v1 mem) fun y6 m7 => if y6 = 0 then (rec v1 v2 (w32 (v3 + 1)) m7) else (pipe (zor v2 (zshl 1 v3)) fun y9 => rec v1 y9 (w32 (v3 + 1)) m7)) else none
noncomputable def f_X12_when_1 : Nat → Int → Int → Int → zMem → Option (Int × zMem) := zfuel (fun _ _ _ _ => none) (b_X12_when_1)
set_option maxHeartbeats 4000000 in
theorem L_X12_when_1 (l : Launch) {Γ : zG} (F : zFull Γ) {X : zM} {q : Int × zMem} (C : zC X Γ "ShadowHeirsModel" cX12_when 4) (Z : zRt X l Γ 7 1 (some .int) q) : ∀ n : Nat, ∀ (v1 : Int) (v2 : Int) (v3 : Int) (h_v1 : ir v1) (h_v2 : ir v2) (h_v3 : ir v3) (mem : zMem), zJ X Γ 4 q (f_X12_when_1 n v1 v2 v3 mem) 88 [(0, .ref (zad Γ 138)), (1, .int (i32 v1)), (2, .int (i32 v2)), (3, .int (i32 v3))] [] mem := by
  intro n
  induction n with
  | zero => intros; exact zj_none
  | succ n ih =>
    intro v1 v2 v3 h_v1 h_v2 h_v3 mem
    show zJ X Γ 4 q (b_X12_when_1 (f_X12_when_1 n) v1 v2 v3 mem) _ _ _ _
    unfold b_X12_when_1
    refine zj_iload_n (j := 3) (i := 3) C rfl 3 rfl dX12_when_88 ?_
    refine zj_aload_n (j := 0) (i := 0) C rfl 0 rfl dX12_when_89 ?_
    refine zj_getR C F zk_138 fl_X12_98 rfl rf_138_14 dX12_when_90 ?_
    refine zj_iconst C 4 dX12_when_93 ?_
    refine zj_iaload C F zk_140 irc_4 dX12_when_94 (fun c1 h2 => ?_)
    refine zj_icmp_ge C 119 h_v3 h2 dX12_when_95 rfl (fun c3 => ?_) (fun c3 => ?_)
    · refine zj_iload_n (j := 2) (i := 2) C rfl 2 rfl dX12_when_119 ?_
      refine zj_if_ne C 125 h_v2 dX12_when_120 rfl (fun c4 => ?_) (fun c4 => ?_)
      · refine zj_iconst C 0 dX12_when_123 ?_
        exact zrt_i C Z irc_0 dX12_when_124
      · refine zj_aload_n (j := 0) (i := 0) C rfl 0 rfl dX12_when_125 ?_
        refine zj_iconst C 0 dX12_when_126 ?_
        refine zj_putI C F 32 rfl zk_138 fl_X12_142 rfl fp_12_32 irc_0 dX12_when_127 ?_
        refine zj_pipeM (fun m5 e_m5 => ?_)
        refine zj_iconst C 1 dX12_when_130 ?_
        refine zj_istore_n (j := 3) (i := 3) C rfl [(3, .int (i32 1)), (0, .ref (zad Γ 138)), (1, .int (i32 v1)), (2, .int (i32 v2))] dX12_when_131 (by decide) rfl ?_
        exact zj_sub [1, 3, 0] rfl ((L_X12_when_0 l F C Z zN) v2 1 h_v2 irc_1 m5)
    · refine zj_aload_n (j := 0) (i := 0) C rfl 0 rfl dX12_when_98 ?_
      refine zj_iload_n (j := 3) (i := 3) C rfl 3 rfl dX12_when_99 ?_
      refine zj_iload_n (j := 1) (i := 1) C rfl 1 rfl dX12_when_100 ?_
      refine zj_callVi C F Z [.int (i32 v3), .int (i32 v1)] [] cal_X12_fits calv_X12_fits ml_X12_337 zk_138 rfl rfl (by decide) (Nat.le_of_ble_eq_true rfl) rfl dX12_when_101 (fun q h => M_X12_fits l Γ F h_v3 h_v1 mem q h) (fun y6 m7 h_y6 => ?_)
      refine zj_if_eq C 113 h_y6 dX12_when_104 rfl (fun c8 => ?_) (fun c8 => ?_)
      · refine zj_iinc C 3 [(3, .int (i32 (w32 (v3 + 1)))), (0, .ref (zad Γ 138)), (1, .int (i32 v1)), (2, .int (i32 v2))] rfl dX12_when_113 (by decide) rfl ?_
        refine zj_goto (tgt := 88) C dX12_when_116 rfl ?_
        exact zj_sub [1, 2, 3, 0] rfl (ih v1 v2 (w32 (v3 + 1)) h_v1 h_v2 (ir_w _) m7)
      · refine zj_iload_n (j := 2) (i := 2) C rfl 2 rfl dX12_when_107 ?_
        refine zj_iconst C 1 dX12_when_108 ?_
        refine zj_iload_n (j := 3) (i := 3) C rfl 3 rfl dX12_when_109 ?_
        refine zj_ishl C dX12_when_110 ?_
        refine zj_ior C dX12_when_111 ?_
        refine zj_pipeI (fun y9 e_y9 => ?_)
        have h_y9 := ir_eq e_y9 (ir_toInt _)
        refine zj_istore_n (j := 2) (i := 2) C rfl [(2, .int (i32 y9)), (0, .ref (zad Γ 138)), (1, .int (i32 v1)), (3, .int (i32 v3))] dX12_when_112 (by decide) rfl ?_
        refine zj_iinc C 3 [(3, .int (i32 (w32 (v3 + 1)))), (2, .int (i32 y9)), (0, .ref (zad Γ 138)), (1, .int (i32 v1))] rfl dX12_when_113 (by decide) rfl ?_
        refine zj_goto (tgt := 88) C dX12_when_116 rfl ?_
        exact zj_sub [2, 3, 1, 0] rfl (ih v1 y9 (w32 (v3 + 1)) h_v1 h_y9 (ir_w _) m7)
noncomputable def b_X12_when_2 (rec : Int → Int → zMem → Option (Int × zMem)) (v1 : Int) (v2 : Int) (mem : zMem) : Option (Int × zMem) := if v2 ≥ v1 then (f_X12_when_1 zN v1 0 0 mem) else (if ix 139 v2 then zbind (f_X12_isPerson (mem 139 v2) mem) fun y4 m5 => if y4 = 0 then (some ((-1), m5)) else (if ix 139 (w32 (v2 + 1)) then if (m5 139 (w32 (v2 + 1))) ≤ 1 then (rec v1 (w32 (v2 + 2)) m5) else (some ((-1), m5)) else none) else none)
noncomputable def f_X12_when_2 : Nat → Int → Int → zMem → Option (Int × zMem) := zfuel (fun _ _ _ => none) (b_X12_when_2)
set_option maxHeartbeats 4000000 in
theorem L_X12_when_2 (l : Launch) {Γ : zG} (F : zFull Γ) {X : zM} {q : Int × zMem} (C : zC X Γ "ShadowHeirsModel" cX12_when 4) (Z : zRt X l Γ 7 1 (some .int) q) : ∀ n : Nat, ∀ (v1 : Int) (v2 : Int) (h_v1 : ir v1) (h_v2 : ir v2) (mem : zMem), zJ X Γ 4 q (f_X12_when_2 n v1 v2 mem) 46 [(0, .ref (zad Γ 138)), (1, .int (i32 v1)), (2, .int (i32 v2))] [] mem := by
  intro n
  induction n with
  | zero => intros; exact zj_none
  | succ n ih =>
    intro v1 v2 h_v1 h_v2 mem
    show zJ X Γ 4 q (b_X12_when_2 (f_X12_when_2 n) v1 v2 mem) _ _ _ _
    unfold b_X12_when_2
    refine zj_iload_n (j := 2) (i := 2) C rfl 2 rfl dX12_when_46 ?_
    refine zj_iload_n (j := 1) (i := 1) C rfl 1 rfl dX12_when_47 ?_
    refine zj_icmp_ge C 84 h_v2 h_v1 dX12_when_48 rfl (fun c1 => ?_) (fun c1 => ?_)
    · refine zj_iconst C 0 dX12_when_84 ?_
      refine zj_istore_n (j := 2) (i := 2) C rfl [(2, .int (i32 0)), (0, .ref (zad Γ 138)), (1, .int (i32 v1))] dX12_when_85 (by decide) rfl ?_
      refine zj_iconst C 0 dX12_when_86 ?_
      refine zj_istore_n (j := 3) (i := 3) C rfl [(3, .int (i32 0)), (2, .int (i32 0)), (0, .ref (zad Γ 138)), (1, .int (i32 v1))] dX12_when_87 (by decide) rfl ?_
      exact zj_sub [2, 3, 1, 0] rfl ((L_X12_when_1 l F C Z zN) v1 0 0 h_v1 irc_0 irc_0 mem)
    · refine zj_aload_n (j := 0) (i := 0) C rfl 0 rfl dX12_when_51 ?_
      refine zj_aload_n (j := 0) (i := 0) C rfl 0 rfl dX12_when_52 ?_
      refine zj_getR C F zk_138 fl_X12_7 rfl rf_138_1 dX12_when_53 ?_
      refine zj_iload_n (j := 2) (i := 2) C rfl 2 rfl dX12_when_56 ?_
      refine zj_iaload C F zk_139 h_v2 dX12_when_57 (fun c2 h3 => ?_)
      refine zj_callVi C F Z [.int (i32 (mem 139 v2))] [] cal_X12_isPerson calv_X12_isPerson ml_X12_280 zk_138 rfl rfl (by decide) (Nat.le_of_ble_eq_true rfl) rfl dX12_when_58 (fun q h => M_X12_isPerson l Γ F h3 mem q h) (fun y4 m5 h_y4 => ?_)
      refine zj_if_eq C 76 h_y4 dX12_when_61 rfl (fun c6 => ?_) (fun c6 => ?_)
      · refine zj_iconst C (-1) dX12_when_76 ?_
        exact zrt_i C Z irc_m1 dX12_when_77
      · refine zj_aload_n (j := 0) (i := 0) C rfl 0 rfl dX12_when_64 ?_
        refine zj_getR C F zk_138 fl_X12_7 rfl rf_138_1 dX12_when_65 ?_
        refine zj_iload_n (j := 2) (i := 2) C rfl 2 rfl dX12_when_68 ?_
        refine zj_iconst C 1 dX12_when_69 ?_
        refine zj_iadd C dX12_when_70 ?_
        refine zj_iaload C F zk_139 (ir_w _) dX12_when_71 (fun c7 h8 => ?_)
        refine zj_iconst C 1 dX12_when_72 ?_
        refine zj_icmp_le C 78 h8 irc_1 dX12_when_73 rfl (fun c9 => ?_) (fun c9 => ?_)
        · refine zj_iinc C 2 [(2, .int (i32 (w32 (v2 + 2)))), (0, .ref (zad Γ 138)), (1, .int (i32 v1))] rfl dX12_when_78 (by decide) rfl ?_
          refine zj_goto (tgt := 46) C dX12_when_81 rfl ?_
          exact zj_sub [1, 2, 0] rfl (ih v1 (w32 (v2 + 2)) h_v1 (ir_w _) m5)
        · refine zj_iconst C (-1) dX12_when_76 ?_
          exact zrt_i C Z irc_m1 dX12_when_77
noncomputable def f_X12_when  (mem : zMem) : Option (Int × zMem) := pipe (zup mem 138 0 0) fun m1 => zbind (f_X12_take m1) fun y2 m3 => if (zrem y2 2) = 1 then (zbind (f_X12_isIn (zdiv y2 2) 1 6 m3) fun y5 m6 => if y5 = 0 then (some ((-1), m6)) else (if ix 139 0 then zbind (f_X12_isHouse (m6 139 0) m6) fun y10 m11 => if y10 = 0 then (some ((-1), m11)) else (f_X12_when_2 zN y2 1 m11) else none)) else (some ((-1), m3))
set_option maxHeartbeats 4000000 in
theorem M_X12_when (l : Launch) (Γ : zG) (F : zFull Γ)    (mem : zMem) (q : Int × zMem) (h : f_X12_when  mem = some q) : zMet l yX12_when cX12_when 4 (some .int) 7 Γ 1 [.ref (zad Γ 138)] mem q := by
  refine zMet_of (own := "ShadowHeirsModel") (by decide) rfl (Nat.le_of_ble_eq_true rfl) (fun X C Z => ?_)
  revert h
  show zJ X Γ 4 q (f_X12_when  mem) 0 [(0, .ref (zad Γ 138))] [] mem
  unfold f_X12_when
  refine zj_aload_n (j := 0) (i := 0) C rfl 0 rfl dX12_when_0 ?_
  refine zj_iconst C 0 dX12_when_1 ?_
  refine zj_putI C F 0 rfl zk_138 fl_X12_1 rfl fp_12_0 irc_0 dX12_when_2 ?_
  refine zj_pipeM (fun m1 e_m1 => ?_)
  refine zj_aload_n (j := 0) (i := 0) C rfl 0 rfl dX12_when_5 ?_
  refine zj_callVi C F Z [] [] cal_X12_take calv_X12_take ml_X12_89 zk_138 rfl rfl (by decide) (Nat.le_of_ble_eq_true rfl) rfl dX12_when_6 (fun q h => M_X12_take l Γ F  m1 q h) (fun y2 m3 h_y2 => ?_)
  refine zj_istore_n (j := 1) (i := 1) C rfl [(1, .int (i32 y2)), (0, .ref (zad Γ 138))] dX12_when_9 (by decide) rfl ?_
  refine zj_iload_n (j := 1) (i := 1) C rfl 0 rfl dX12_when_10 ?_
  refine zj_iconst C 2 dX12_when_11 ?_
  refine zj_iremc C (by decide) dX12_when_12 ?_
  refine zj_iconst C 1 dX12_when_13 ?_
  refine zj_icmp_ne C 42 (ir_toInt _) irc_1 dX12_when_14 rfl (fun c4 => ?_) (fun c4 => ?_)
  · refine zj_iload_n (j := 1) (i := 1) C rfl 0 rfl dX12_when_17 ?_
    refine zj_iconst C 2 dX12_when_18 ?_
    refine zj_idivc C (by decide) dX12_when_19 ?_
    refine zj_iconst C 1 dX12_when_20 ?_
    refine zj_bipush C 6 rfl dX12_when_21 ?_
    refine zj_callSi C Z [.int (i32 (zdiv y2 2)), .int (i32 1), .int (i32 6)] [] cal_X12_isIn sta_X12_isIn ml_X12_75 rfl (by decide) (Nat.le_of_ble_eq_true rfl) rfl dX12_when_23 (fun q h => M_X12_isIn l Γ F (ir_toInt _) irc_1 irc_6 m3 q h) (fun y5 m6 h_y5 => ?_)
    refine zj_if_eq C 42 h_y5 dX12_when_26 rfl (fun c7 => ?_) (fun c7 => ?_)
    · refine zj_iconst C (-1) dX12_when_42 ?_
      exact zrt_i C Z irc_m1 dX12_when_43
    · refine zj_aload_n (j := 0) (i := 0) C rfl 1 rfl dX12_when_29 ?_
      refine zj_aload_n (j := 0) (i := 0) C rfl 1 rfl dX12_when_30 ?_
      refine zj_getR C F zk_138 fl_X12_7 rfl rf_138_1 dX12_when_31 ?_
      refine zj_iconst C 0 dX12_when_34 ?_
      refine zj_iaload C F zk_139 irc_0 dX12_when_35 (fun c8 h9 => ?_)
      refine zj_callVi C F Z [.int (i32 (m6 139 0))] [] cal_X12_isHouse calv_X12_isHouse ml_X12_268 zk_138 rfl rfl (by decide) (Nat.le_of_ble_eq_true rfl) rfl dX12_when_36 (fun q h => M_X12_isHouse l Γ F h9 m6 q h) (fun y10 m11 h_y10 => ?_)
      refine zj_if_ne C 44 h_y10 dX12_when_39 rfl (fun c12 => ?_) (fun c12 => ?_)
      · refine zj_iconst C (-1) dX12_when_42 ?_
        exact zrt_i C Z irc_m1 dX12_when_43
      · refine zj_iconst C 1 dX12_when_44 ?_
        refine zj_istore_n (j := 2) (i := 2) C rfl [(2, .int (i32 1)), (1, .int (i32 y2)), (0, .ref (zad Γ 138))] dX12_when_45 (by decide) rfl ?_
        exact zj_sub [2, 1, 0] rfl ((L_X12_when_2 l F C Z zN) y2 1 h_y2 irc_1 m11)
  · refine zj_iconst C (-1) dX12_when_42 ?_
    exact zrt_i C Z irc_m1 dX12_when_43
noncomputable def f_X12_ask  (mem : zMem) : Option (Int × zMem) := pipe (zup mem 138 0 0) fun m1 => some ((m1 138 32), m1)
set_option maxHeartbeats 4000000 in
theorem M_X12_ask (l : Launch) (Γ : zG) (F : zFull Γ)    (mem : zMem) (q : Int × zMem) (h : f_X12_ask  mem = some q) : zMet l yX12_ask cX12_ask 1 (some .int) 1 Γ 1 [.ref (zad Γ 138)] mem q := by
  refine zMet_of (own := "ShadowHeirsModel") (by decide) rfl (Nat.le_of_ble_eq_true rfl) (fun X C Z => ?_)
  revert h
  show zJ X Γ 1 q (f_X12_ask  mem) 0 [(0, .ref (zad Γ 138))] [] mem
  unfold f_X12_ask
  refine zj_aload_n (j := 0) (i := 0) C rfl 0 rfl dX12_ask_0 ?_
  refine zj_iconst C 0 dX12_ask_1 ?_
  refine zj_putI C F 0 rfl zk_138 fl_X12_1 rfl fp_12_0 irc_0 dX12_ask_2 ?_
  refine zj_pipeM (fun m1 e_m1 => ?_)
  refine zj_aload_n (j := 0) (i := 0) C rfl 0 rfl dX12_ask_5 ?_
  refine zj_getI C F 32 rfl zk_138 fl_X12_142 rfl dX12_ask_6 (fun h2 => ?_)
  exact zrt_i C Z h2 dX12_ask_9
noncomputable def b_X12_longest_0 (rec : Nat → Int → Int → Int → zMem → Option (Int × zMem)) (tag : Nat) (v1 : Int) (v2 : Int) (v3 : Int) (mem : zMem) : Option (Int × zMem) := match tag with
  | 0 => if ix 140 2 then if v2 ≥ (mem 140 2) then (some (v1, mem)) else (rec 1 v1 v2 0 mem) else none
  | _ => if ix 140 4 then if v3 ≥ (mem 140 4) then (rec 0 v1 (w32 (v2 + 1)) 0 mem) else (zbind (f_X12_shadow v2 v3 mem) fun y1004 m1005 => if y1004 > v1 then (pipe (zup m1005 138 33 v2) fun m1007 => pipe (zup m1007 138 34 v3) fun m1008 => rec 1 y1004 v2 (w32 (v3 + 1)) m1008) else (rec 1 v1 v2 (w32 (v3 + 1)) m1005)) else none
noncomputable def f_X12_longest_0 : Nat → Nat → Int → Int → Int → zMem → Option (Int × zMem) := zfuel (fun _ _ _ _ _ => none) (b_X12_longest_0)
set_option maxHeartbeats 4000000 in
theorem L_X12_longest_0 (l : Launch) {Γ : zG} (F : zFull Γ) {X : zM} {q : Int × zMem} (C : zC X Γ "ShadowHeirsModel" cX12_longest 5) (Z : zRt X l Γ 6 1 (some .int) q) : ∀ n : Nat, (∀ (v1 : Int) (v2 : Int) (v3 : Int) (h_v1 : ir v1) (h_v2 : ir v2) (mem : zMem), zJ X Γ 5 q (f_X12_longest_0 n 0 v1 v2 v3 mem) 9 [(0, .ref (zad Γ 138)), (1, .int (i32 v1)), (2, .int (i32 v2))] [] mem) ∧ (∀ (v1 : Int) (v2 : Int) (v3 : Int) (h_v1 : ir v1) (h_v2 : ir v2) (h_v3 : ir v3) (mem : zMem), zJ X Γ 5 q (f_X12_longest_0 n 1 v1 v2 v3 mem) 21 [(0, .ref (zad Γ 138)), (1, .int (i32 v1)), (2, .int (i32 v2)), (3, .int (i32 v3))] [] mem) := by
  intro n
  induction n with
  | zero => exact ⟨(by intros; exact zj_none), (by intros; exact zj_none)⟩
  | succ n ih =>
    refine ⟨?_, ?_⟩
    · intro v1 v2 v3 h_v1 h_v2 mem
      show zJ X Γ 5 q (b_X12_longest_0 (f_X12_longest_0 n) 0 v1 v2 v3 mem) _ _ _ _
      unfold b_X12_longest_0
      refine zj_iload_n (j := 2) (i := 2) C rfl 2 rfl dX12_longest_9 ?_
      refine zj_aload_n (j := 0) (i := 0) C rfl 0 rfl dX12_longest_10 ?_
      refine zj_getR C F zk_138 fl_X12_98 rfl rf_138_14 dX12_longest_11 ?_
      refine zj_iconst C 2 dX12_longest_14 ?_
      refine zj_iaload C F zk_140 irc_2 dX12_longest_15 (fun c1 h2 => ?_)
      refine zj_icmp_ge C 73 h_v2 h2 dX12_longest_16 rfl (fun c3 => ?_) (fun c3 => ?_)
      · refine zj_iload_n (j := 1) (i := 1) C rfl 1 rfl dX12_longest_73 ?_
        exact zrt_i C Z h_v1 dX12_longest_74
      · refine zj_iconst C 0 dX12_longest_19 ?_
        refine zj_istore_n (j := 3) (i := 3) C rfl [(3, .int (i32 0)), (0, .ref (zad Γ 138)), (1, .int (i32 v1)), (2, .int (i32 v2))] dX12_longest_20 (by decide) rfl ?_
        exact zj_sub [1, 2, 3, 0] rfl (ih.2 v1 v2 0 h_v1 h_v2 irc_0 mem)
    · intro v1 v2 v3 h_v1 h_v2 h_v3 mem
      show zJ X Γ 5 q (b_X12_longest_0 (f_X12_longest_0 n) 1 v1 v2 v3 mem) _ _ _ _
      unfold b_X12_longest_0
      refine zj_iload_n (j := 3) (i := 3) C rfl 3 rfl dX12_longest_21 ?_
      refine zj_aload_n (j := 0) (i := 0) C rfl 0 rfl dX12_longest_22 ?_
      refine zj_getR C F zk_138 fl_X12_98 rfl rf_138_14 dX12_longest_23 ?_
      refine zj_iconst C 4 dX12_longest_26 ?_
      refine zj_iaload C F zk_140 irc_4 dX12_longest_27 (fun c1001 h1002 => ?_)
      refine zj_icmp_ge C 67 h_v3 h1002 dX12_longest_28 rfl (fun c1003 => ?_) (fun c1003 => ?_)
      · refine zj_iinc C 2 [(2, .int (i32 (w32 (v2 + 1)))), (0, .ref (zad Γ 138)), (1, .int (i32 v1)), (3, .int (i32 v3))] rfl dX12_longest_67 (by decide) rfl ?_
        refine zj_goto (tgt := 9) C dX12_longest_70 rfl ?_
        exact zj_sub [1, 2, 0] rfl (ih.1 v1 (w32 (v2 + 1)) 0 h_v1 (ir_w _) mem)
      · refine zj_aload_n (j := 0) (i := 0) C rfl 0 rfl dX12_longest_31 ?_
        refine zj_iload_n (j := 2) (i := 2) C rfl 2 rfl dX12_longest_32 ?_
        refine zj_iload_n (j := 3) (i := 3) C rfl 3 rfl dX12_longest_33 ?_
        refine zj_callVi C F Z [.int (i32 v2), .int (i32 v3)] [] cal_X12_shadow calv_X12_shadow ml_X12_343 zk_138 rfl rfl (by decide) (Nat.le_of_ble_eq_true rfl) rfl dX12_longest_34 (fun q h => M_X12_shadow l Γ F h_v2 h_v3 mem q h) (fun y1004 m1005 h_y1004 => ?_)
        refine zj_istore C [(4, .int (i32 y1004)), (0, .ref (zad Γ 138)), (1, .int (i32 v1)), (2, .int (i32 v2)), (3, .int (i32 v3))] dX12_longest_37 (by decide) rfl ?_
        refine zj_iload C 0 rfl dX12_longest_39 ?_
        refine zj_iload_n (j := 1) (i := 1) C rfl 2 rfl dX12_longest_41 ?_
        refine zj_icmp_gt C 48 h_y1004 h_v1 dX12_longest_42 rfl (fun c1006 => ?_) (fun c1006 => ?_)
        · refine zj_iload C 0 rfl dX12_longest_48 ?_
          refine zj_istore_n (j := 1) (i := 1) C rfl [(1, .int (i32 y1004)), (4, .int (i32 y1004)), (0, .ref (zad Γ 138)), (2, .int (i32 v2)), (3, .int (i32 v3))] dX12_longest_50 (by decide) rfl ?_
          refine zj_aload_n (j := 0) (i := 0) C rfl 2 rfl dX12_longest_51 ?_
          refine zj_iload_n (j := 2) (i := 2) C rfl 3 rfl dX12_longest_52 ?_
          refine zj_putI C F 33 rfl zk_138 fl_X12_145 rfl fp_12_33 h_v2 dX12_longest_53 ?_
          refine zj_pipeM (fun m1007 e_m1007 => ?_)
          refine zj_aload_n (j := 0) (i := 0) C rfl 2 rfl dX12_longest_56 ?_
          refine zj_iload_n (j := 3) (i := 3) C rfl 4 rfl dX12_longest_57 ?_
          refine zj_putI C F 34 rfl zk_138 fl_X12_148 rfl fp_12_34 h_v3 dX12_longest_58 ?_
          refine zj_pipeM (fun m1008 e_m1008 => ?_)
          refine zj_iinc C 4 [(3, .int (i32 (w32 (v3 + 1)))), (1, .int (i32 y1004)), (4, .int (i32 y1004)), (0, .ref (zad Γ 138)), (2, .int (i32 v2))] rfl dX12_longest_61 (by decide) rfl ?_
          refine zj_goto (tgt := 21) C dX12_longest_64 rfl ?_
          exact zj_sub [3, 1, 4, 0] rfl (ih.2 y1004 v2 (w32 (v3 + 1)) h_y1004 h_v2 (ir_w _) m1008)
        · refine zj_goto (tgt := 61) C dX12_longest_45 rfl ?_
          refine zj_iinc C 4 [(3, .int (i32 (w32 (v3 + 1)))), (4, .int (i32 y1004)), (0, .ref (zad Γ 138)), (1, .int (i32 v1)), (2, .int (i32 v2))] rfl dX12_longest_61 (by decide) rfl ?_
          refine zj_goto (tgt := 21) C dX12_longest_64 rfl ?_
          exact zj_sub [2, 3, 4, 0] rfl (ih.2 v1 v2 (w32 (v3 + 1)) h_v1 h_v2 (ir_w _) m1005)
noncomputable def f_X12_longest  (mem : zMem) : Option (Int × zMem) := pipe (zup mem 138 0 0) fun m1 => f_X12_longest_0 zN 0 0 0 0 m1
set_option maxHeartbeats 4000000 in
theorem M_X12_longest (l : Launch) (Γ : zG) (F : zFull Γ)    (mem : zMem) (q : Int × zMem) (h : f_X12_longest  mem = some q) : zMet l yX12_longest cX12_longest 5 (some .int) 6 Γ 1 [.ref (zad Γ 138)] mem q := by
  refine zMet_of (own := "ShadowHeirsModel") (by decide) rfl (Nat.le_of_ble_eq_true rfl) (fun X C Z => ?_)
  revert h
  show zJ X Γ 5 q (f_X12_longest  mem) 0 [(0, .ref (zad Γ 138))] [] mem
  unfold f_X12_longest
  refine zj_aload_n (j := 0) (i := 0) C rfl 0 rfl dX12_longest_0 ?_
  refine zj_iconst C 0 dX12_longest_1 ?_
  refine zj_putI C F 0 rfl zk_138 fl_X12_1 rfl fp_12_0 irc_0 dX12_longest_2 ?_
  refine zj_pipeM (fun m1 e_m1 => ?_)
  refine zj_iconst C 0 dX12_longest_5 ?_
  refine zj_istore_n (j := 1) (i := 1) C rfl [(1, .int (i32 0)), (0, .ref (zad Γ 138))] dX12_longest_6 (by decide) rfl ?_
  refine zj_iconst C 0 dX12_longest_7 ?_
  refine zj_istore_n (j := 2) (i := 2) C rfl [(2, .int (i32 0)), (1, .int (i32 0)), (0, .ref (zad Γ 138))] dX12_longest_8 (by decide) rfl ?_
  exact zj_sub [2, 1, 0] rfl ((L_X12_longest_0 l F C Z zN).1 0 0 0 irc_0 irc_0 m1)
noncomputable def f_X12_longestAt (x0 : Int) (mem : zMem) : Option (Int × zMem) := pipe (zup mem 138 0 0) fun m1 => if x0 = 0 then (some ((m1 138 33), m1)) else (if x0 = 1 then (some ((m1 138 34), m1)) else (some ((-1), m1)))
set_option maxHeartbeats 4000000 in
theorem M_X12_longestAt (l : Launch) (Γ : zG) (F : zFull Γ)  {x0 : Int} (h_x0 : ir x0) (mem : zMem) (q : Int × zMem) (h : f_X12_longestAt x0 mem = some q) : zMet l yX12_longestAt cX12_longestAt 2 (some .int) 1 Γ 1 [.ref (zad Γ 138), .int (i32 x0)] mem q := by
  refine zMet_of (own := "ShadowHeirsModel") (by decide) rfl (Nat.le_of_ble_eq_true rfl) (fun X C Z => ?_)
  revert h
  show zJ X Γ 2 q (f_X12_longestAt x0 mem) 0 [(0, .ref (zad Γ 138)), (1, .int (i32 x0))] [] mem
  unfold f_X12_longestAt
  refine zj_aload_n (j := 0) (i := 0) C rfl 0 rfl dX12_longestAt_0 ?_
  refine zj_iconst C 0 dX12_longestAt_1 ?_
  refine zj_putI C F 0 rfl zk_138 fl_X12_1 rfl fp_12_0 irc_0 dX12_longestAt_2 ?_
  refine zj_pipeM (fun m1 e_m1 => ?_)
  refine zj_iload_n (j := 1) (i := 1) C rfl 1 rfl dX12_longestAt_5 ?_
  refine zj_if_ne C 16 h_x0 dX12_longestAt_6 rfl (fun c2 => ?_) (fun c2 => ?_)
  · refine zj_aload_n (j := 0) (i := 0) C rfl 0 rfl dX12_longestAt_9 ?_
    refine zj_getI C F 33 rfl zk_138 fl_X12_145 rfl dX12_longestAt_10 (fun h3 => ?_)
    refine zj_goto (tgt := 29) C dX12_longestAt_13 rfl ?_
    exact zrt_i C Z h3 dX12_longestAt_29
  · refine zj_iload_n (j := 1) (i := 1) C rfl 1 rfl dX12_longestAt_16 ?_
    refine zj_iconst C 1 dX12_longestAt_17 ?_
    refine zj_icmp_ne C 28 h_x0 irc_1 dX12_longestAt_18 rfl (fun c4 => ?_) (fun c4 => ?_)
    · refine zj_aload_n (j := 0) (i := 0) C rfl 0 rfl dX12_longestAt_21 ?_
      refine zj_getI C F 34 rfl zk_138 fl_X12_148 rfl dX12_longestAt_22 (fun h5 => ?_)
      refine zj_goto (tgt := 29) C dX12_longestAt_25 rfl ?_
      exact zrt_i C Z h5 dX12_longestAt_29
    · refine zj_iconst C (-1) dX12_longestAt_28 ?_
      exact zrt_i C Z irc_m1 dX12_longestAt_29
noncomputable def f_X12_write (x0 : Int) (mem : zMem) : Option (Int × zMem) := if ix 153 (mem 138 36) then pipe (zup mem 153 (mem 138 36) x0) fun m3 => pipe (zup m3 138 36 (w32 ((m3 138 36) + 1))) fun m5 => some (0, m5) else none
set_option maxHeartbeats 4000000 in
theorem M_X12_write (l : Launch) (Γ : zG) (F : zFull Γ)  {x0 : Int} (h_x0 : ir x0) (mem : zMem) (q : Int × zMem) (h : f_X12_write x0 mem = some q) : zMet l yX12_write cX12_write 2 none 1 Γ 0 [.ref (zad Γ 138), .int (i32 x0)] mem q := by
  refine zMet_of (own := "ShadowHeirsModel") (by decide) rfl (Nat.le_of_ble_eq_true rfl) (fun X C Z => ?_)
  revert h
  show zJ X Γ 2 q (f_X12_write x0 mem) 0 [(0, .ref (zad Γ 138)), (1, .int (i32 x0))] [] mem
  unfold f_X12_write
  refine zj_aload_n (j := 0) (i := 0) C rfl 0 rfl dX12_write_0 ?_
  refine zj_getR C F zk_138 fl_X12_151 rfl rf_138_35 dX12_write_1 ?_
  refine zj_aload_n (j := 0) (i := 0) C rfl 0 rfl dX12_write_4 ?_
  refine zj_getI C F 36 rfl zk_138 fl_X12_346 rfl dX12_write_5 (fun h1 => ?_)
  refine zj_iload_n (j := 1) (i := 1) C rfl 1 rfl dX12_write_8 ?_
  refine zj_iastore C F zk_153 h1 h_x0 dX12_write_9 (fun c2 => ?_)
  refine zj_pipeM (fun m3 e_m3 => ?_)
  refine zj_aload_n (j := 0) (i := 0) C rfl 0 rfl dX12_write_10 ?_
  refine zj_dup C rfl dX12_write_11 ?_
  refine zj_getI C F 36 rfl zk_138 fl_X12_346 rfl dX12_write_12 (fun h4 => ?_)
  refine zj_iconst C 1 dX12_write_15 ?_
  refine zj_iadd C dX12_write_16 ?_
  refine zj_putI C F 36 rfl zk_138 fl_X12_346 rfl fp_12_36 (ir_w _) dX12_write_17 ?_
  refine zj_pipeM (fun m5 e_m5 => ?_)
  exact zrt_v C Z dX12_write_20
noncomputable def f_X12_byteAt (x0 : Int) (mem : zMem) : Option (Int × zMem) := pipe (zup mem 138 0 0) fun m1 => zbind (f_X12_isIn x0 0 (w32 ((m1 138 36) - 1)) m1) fun y3 m4 => if y3 = 0 then (some ((-1), m4)) else (if ix 153 x0 then some ((m4 153 x0), m4) else none)
set_option maxHeartbeats 4000000 in
theorem M_X12_byteAt (l : Launch) (Γ : zG) (F : zFull Γ)  {x0 : Int} (h_x0 : ir x0) (mem : zMem) (q : Int × zMem) (h : f_X12_byteAt x0 mem = some q) : zMet l yX12_byteAt cX12_byteAt 2 (some .int) 2 Γ 1 [.ref (zad Γ 138), .int (i32 x0)] mem q := by
  refine zMet_of (own := "ShadowHeirsModel") (by decide) rfl (Nat.le_of_ble_eq_true rfl) (fun X C Z => ?_)
  revert h
  show zJ X Γ 2 q (f_X12_byteAt x0 mem) 0 [(0, .ref (zad Γ 138)), (1, .int (i32 x0))] [] mem
  unfold f_X12_byteAt
  refine zj_aload_n (j := 0) (i := 0) C rfl 0 rfl dX12_byteAt_0 ?_
  refine zj_iconst C 0 dX12_byteAt_1 ?_
  refine zj_putI C F 0 rfl zk_138 fl_X12_1 rfl fp_12_0 irc_0 dX12_byteAt_2 ?_
  refine zj_pipeM (fun m1 e_m1 => ?_)
  refine zj_iload_n (j := 1) (i := 1) C rfl 1 rfl dX12_byteAt_5 ?_
  refine zj_iconst C 0 dX12_byteAt_6 ?_
  refine zj_aload_n (j := 0) (i := 0) C rfl 0 rfl dX12_byteAt_7 ?_
  refine zj_getI C F 36 rfl zk_138 fl_X12_346 rfl dX12_byteAt_8 (fun h2 => ?_)
  refine zj_iconst C 1 dX12_byteAt_11 ?_
  refine zj_isub C dX12_byteAt_12 ?_
  refine zj_callSi C Z [.int (i32 x0), .int (i32 0), .int (i32 (w32 ((m1 138 36) - 1)))] [] cal_X12_isIn sta_X12_isIn ml_X12_75 rfl (by decide) (Nat.le_of_ble_eq_true rfl) rfl dX12_byteAt_13 (fun q h => M_X12_isIn l Γ F h_x0 irc_0 (ir_w _) m1 q h) (fun y3 m4 h_y3 => ?_)
  refine zj_if_eq C 28 h_y3 dX12_byteAt_16 rfl (fun c5 => ?_) (fun c5 => ?_)
  · refine zj_iconst C (-1) dX12_byteAt_28 ?_
    exact zrt_i C Z irc_m1 dX12_byteAt_29
  · refine zj_aload_n (j := 0) (i := 0) C rfl 0 rfl dX12_byteAt_19 ?_
    refine zj_getR C F zk_138 fl_X12_151 rfl rf_138_35 dX12_byteAt_20 ?_
    refine zj_iload_n (j := 1) (i := 1) C rfl 1 rfl dX12_byteAt_23 ?_
    refine zj_iaload C F zk_153 h_x0 dX12_byteAt_24 (fun c6 h7 => ?_)
    refine zj_goto (tgt := 29) C dX12_byteAt_25 rfl ?_
    exact zrt_i C Z h7 dX12_byteAt_29
noncomputable def f_X12_draw (x0 : Int) (mem : zMem) : Option (Int × zMem) := pipe (zup mem 138 37 (w32 ((w32 ((mem 138 37) * 1103515245)) + 12345))) fun m2 => if x0 = 0 then none else some ((zrem (zush (m2 138 37) 8) x0), m2)
set_option maxHeartbeats 4000000 in
theorem M_X12_draw (l : Launch) (Γ : zG) (F : zFull Γ)  {x0 : Int} (h_x0 : ir x0) (mem : zMem) (q : Int × zMem) (h : f_X12_draw x0 mem = some q) : zMet l yX12_draw cX12_draw 2 (some .int) 1 Γ 1 [.ref (zad Γ 138), .int (i32 x0)] mem q := by
  refine zMet_of (own := "ShadowHeirsModel") (by decide) rfl (Nat.le_of_ble_eq_true rfl) (fun X C Z => ?_)
  revert h
  show zJ X Γ 2 q (f_X12_draw x0 mem) 0 [(0, .ref (zad Γ 138)), (1, .int (i32 x0))] [] mem
  unfold f_X12_draw
  refine zj_aload_n (j := 0) (i := 0) C rfl 0 rfl dX12_draw_0 ?_
  refine zj_aload_n (j := 0) (i := 0) C rfl 0 rfl dX12_draw_1 ?_
  refine zj_getI C F 37 rfl zk_138 fl_X12_365 rfl dX12_draw_2 (fun h1 => ?_)
  refine zj_ldcw C 1103515245 kc_X12_368 dX12_draw_5 ?_
  refine zj_imul C dX12_draw_8 ?_
  refine zj_sipush C 12345 rfl dX12_draw_9 ?_
  refine zj_iadd C dX12_draw_12 ?_
  refine zj_putI C F 37 rfl zk_138 fl_X12_365 rfl fp_12_37 (ir_w _) dX12_draw_13 ?_
  refine zj_pipeM (fun m2 e_m2 => ?_)
  refine zj_aload_n (j := 0) (i := 0) C rfl 0 rfl dX12_draw_16 ?_
  refine zj_getI C F 37 rfl zk_138 fl_X12_365 rfl dX12_draw_17 (fun h3 => ?_)
  refine zj_bipush C 8 rfl dX12_draw_20 ?_
  refine zj_iushr C dX12_draw_22 ?_
  refine zj_iload_n (j := 1) (i := 1) C rfl 1 rfl dX12_draw_23 ?_
  refine zj_irem C h_x0 dX12_draw_24 (fun c4 => ?_)
  exact zrt_i C Z (ir_toInt _) dX12_draw_25
noncomputable def f_X12_doIf (x0 : Int) (x1 : Int) (x2 : Int) (mem : zMem) : Option (Int × zMem) := zbind (f_X12_why x0 x1 x2 mem) fun y1 m2 => if y1 = 0 then (zbind (f_X12_live x0 x1 x2 m2) fun _ m4 => some (0, m4)) else (some (0, m2))
set_option maxHeartbeats 4000000 in
theorem M_X12_doIf (l : Launch) (Γ : zG) (F : zFull Γ)  {x0 : Int} {x1 : Int} {x2 : Int} (h_x0 : ir x0) (h_x1 : ir x1) (h_x2 : ir x2) (mem : zMem) (q : Int × zMem) (h : f_X12_doIf x0 x1 x2 mem = some q) : zMet l yX12_doIf cX12_doIf 4 none 8 Γ 0 [.ref (zad Γ 138), .int (i32 x0), .int (i32 x1), .int (i32 x2)] mem q := by
  refine zMet_of (own := "ShadowHeirsModel") (by decide) rfl (Nat.le_of_ble_eq_true rfl) (fun X C Z => ?_)
  revert h
  show zJ X Γ 4 q (f_X12_doIf x0 x1 x2 mem) 0 [(0, .ref (zad Γ 138)), (1, .int (i32 x0)), (2, .int (i32 x1)), (3, .int (i32 x2))] [] mem
  unfold f_X12_doIf
  refine zj_aload_n (j := 0) (i := 0) C rfl 0 rfl dX12_doIf_0 ?_
  refine zj_iload_n (j := 1) (i := 1) C rfl 1 rfl dX12_doIf_1 ?_
  refine zj_iload_n (j := 2) (i := 2) C rfl 2 rfl dX12_doIf_2 ?_
  refine zj_iload_n (j := 3) (i := 3) C rfl 3 rfl dX12_doIf_3 ?_
  refine zj_callVi C F Z [.int (i32 x0), .int (i32 x1), .int (i32 x2)] [] cal_X12_why calv_X12_why ml_X12_301 zk_138 rfl rfl (by decide) (Nat.le_of_ble_eq_true rfl) rfl dX12_doIf_4 (fun q h => M_X12_why l Γ F h_x0 h_x1 h_x2 mem q h) (fun y1 m2 h_y1 => ?_)
  refine zj_if_ne C 17 h_y1 dX12_doIf_7 rfl (fun c3 => ?_) (fun c3 => ?_)
  · refine zj_aload_n (j := 0) (i := 0) C rfl 0 rfl dX12_doIf_10 ?_
    refine zj_iload_n (j := 1) (i := 1) C rfl 1 rfl dX12_doIf_11 ?_
    refine zj_iload_n (j := 2) (i := 2) C rfl 2 rfl dX12_doIf_12 ?_
    refine zj_iload_n (j := 3) (i := 3) C rfl 3 rfl dX12_doIf_13 ?_
    refine zj_callVv C F Z [.int (i32 x0), .int (i32 x1), .int (i32 x2)] [] cal_X12_live calv_X12_live ml_X12_308 zk_138 rfl rfl (by decide) (Nat.le_of_ble_eq_true rfl) rfl dX12_doIf_14 (fun q h => M_X12_live l Γ F h_x0 h_x1 h_x2 m2 q h) (fun _ m4 _ => ?_)
    exact zrt_v C Z dX12_doIf_17
  · exact zrt_v C Z dX12_doIf_17
noncomputable def f_X12_drawsFor (x0 : Int) (mem : zMem) : Option (Int × zMem) := zbind (f_X12_draw 6 mem) fun y1 m2 => if y1 ≥ 4 then (if y1 = 4 then (if ix 140 0 then zbind (f_X12_draw (m2 140 0) m2) fun y7 m8 => if ix 140 1 then zbind (f_X12_draw (m8 140 1) m8) fun y11 m12 => zbind (f_X12_doIf 1 (w32 ((w32 (8 * y11)) + y7)) 0 m12) fun _ m13 => some (0, m13) else none else none) else (some (0, m2))) else (zbind (f_X12_doIf 0 x0 y1 m2) fun _ m14 => if y1 = 4 then (if ix 140 0 then zbind (f_X12_draw (m14 140 0) m14) fun y18 m19 => if ix 140 1 then zbind (f_X12_draw (m19 140 1) m19) fun y22 m23 => zbind (f_X12_doIf 1 (w32 ((w32 (8 * y22)) + y18)) 0 m23) fun _ m24 => some (0, m24) else none else none) else (some (0, m14)))
set_option maxHeartbeats 4000000 in
theorem M_X12_drawsFor (l : Launch) (Γ : zG) (F : zFull Γ)  {x0 : Int} (h_x0 : ir x0) (mem : zMem) (q : Int × zMem) (h : f_X12_drawsFor x0 mem = some q) : zMet l yX12_drawsFor cX12_drawsFor 4 none 9 Γ 0 [.ref (zad Γ 138), .int (i32 x0)] mem q := by
  refine zMet_of (own := "ShadowHeirsModel") (by decide) rfl (Nat.le_of_ble_eq_true rfl) (fun X C Z => ?_)
  revert h
  show zJ X Γ 4 q (f_X12_drawsFor x0 mem) 0 [(0, .ref (zad Γ 138)), (1, .int (i32 x0))] [] mem
  unfold f_X12_drawsFor
  refine zj_aload_n (j := 0) (i := 0) C rfl 0 rfl dX12_drawsFor_0 ?_
  refine zj_bipush C 6 rfl dX12_drawsFor_1 ?_
  refine zj_callVi C F Z [.int (i32 6)] [] cal_X12_draw calv_X12_draw ml_X12_369 zk_138 rfl rfl (by decide) (Nat.le_of_ble_eq_true rfl) rfl dX12_drawsFor_3 (fun q h => M_X12_draw l Γ F irc_6 mem q h) (fun y1 m2 h_y1 => ?_)
  refine zj_istore_n (j := 2) (i := 2) C rfl [(2, .int (i32 y1)), (0, .ref (zad Γ 138)), (1, .int (i32 x0))] dX12_drawsFor_6 (by decide) rfl ?_
  refine zj_iload_n (j := 2) (i := 2) C rfl 0 rfl dX12_drawsFor_7 ?_
  refine zj_iconst C 4 dX12_drawsFor_8 ?_
  refine zj_icmp_ge C 19 h_y1 irc_4 dX12_drawsFor_9 rfl (fun c3 => ?_) (fun c3 => ?_)
  · refine zj_iload_n (j := 2) (i := 2) C rfl 0 rfl dX12_drawsFor_19 ?_
    refine zj_iconst C 4 dX12_drawsFor_20 ?_
    refine zj_icmp_eq C 25 h_y1 irc_4 dX12_drawsFor_21 rfl (fun c4 => ?_) (fun c4 => ?_)
    · refine zj_aload_n (j := 0) (i := 0) C rfl 1 rfl dX12_drawsFor_25 ?_
      refine zj_aload_n (j := 0) (i := 0) C rfl 1 rfl dX12_drawsFor_26 ?_
      refine zj_getR C F zk_138 fl_X12_98 rfl rf_138_14 dX12_drawsFor_27 ?_
      refine zj_iconst C 0 dX12_drawsFor_30 ?_
      refine zj_iaload C F zk_140 irc_0 dX12_drawsFor_31 (fun c5 h6 => ?_)
      refine zj_callVi C F Z [.int (i32 (m2 140 0))] [] cal_X12_draw calv_X12_draw ml_X12_369 zk_138 rfl rfl (by decide) (Nat.le_of_ble_eq_true rfl) rfl dX12_drawsFor_32 (fun q h => M_X12_draw l Γ F h6 m2 q h) (fun y7 m8 h_y7 => ?_)
      refine zj_istore_n (j := 3) (i := 3) C rfl [(3, .int (i32 y7)), (2, .int (i32 y1)), (0, .ref (zad Γ 138)), (1, .int (i32 x0))] dX12_drawsFor_35 (by decide) rfl ?_
      refine zj_aload_n (j := 0) (i := 0) C rfl 2 rfl dX12_drawsFor_36 ?_
      refine zj_iconst C 1 dX12_drawsFor_37 ?_
      refine zj_bipush C 8 rfl dX12_drawsFor_38 ?_
      refine zj_aload_n (j := 0) (i := 0) C rfl 2 rfl dX12_drawsFor_40 ?_
      refine zj_aload_n (j := 0) (i := 0) C rfl 2 rfl dX12_drawsFor_41 ?_
      refine zj_getR C F zk_138 fl_X12_98 rfl rf_138_14 dX12_drawsFor_42 ?_
      refine zj_iconst C 1 dX12_drawsFor_45 ?_
      refine zj_iaload C F zk_140 irc_1 dX12_drawsFor_46 (fun c9 h10 => ?_)
      refine zj_callVi C F Z [.int (i32 (m8 140 1))] [.int (i32 8), .int (i32 1), .ref (zad Γ 138)] cal_X12_draw calv_X12_draw ml_X12_369 zk_138 rfl rfl (by decide) (Nat.le_of_ble_eq_true rfl) rfl dX12_drawsFor_47 (fun q h => M_X12_draw l Γ F h10 m8 q h) (fun y11 m12 h_y11 => ?_)
      refine zj_imul C dX12_drawsFor_50 ?_
      refine zj_iload_n (j := 3) (i := 3) C rfl 0 rfl dX12_drawsFor_51 ?_
      refine zj_iadd C dX12_drawsFor_52 ?_
      refine zj_iconst C 0 dX12_drawsFor_53 ?_
      refine zj_callVv C F Z [.int (i32 1), .int (i32 (w32 ((w32 (8 * y11)) + y7))), .int (i32 0)] [] cal_X12_doIf calv_X12_doIf ml_X12_372 zk_138 rfl rfl (by decide) (Nat.le_of_ble_eq_true rfl) rfl dX12_drawsFor_54 (fun q h => M_X12_doIf l Γ F irc_1 (ir_w _) irc_0 m12 q h) (fun _ m13 _ => ?_)
      exact zrt_v C Z dX12_drawsFor_57
    · exact zrt_v C Z dX12_drawsFor_24
  · refine zj_aload_n (j := 0) (i := 0) C rfl 1 rfl dX12_drawsFor_12 ?_
    refine zj_iconst C 0 dX12_drawsFor_13 ?_
    refine zj_iload_n (j := 1) (i := 1) C rfl 2 rfl dX12_drawsFor_14 ?_
    refine zj_iload_n (j := 2) (i := 2) C rfl 0 rfl dX12_drawsFor_15 ?_
    refine zj_callVv C F Z [.int (i32 0), .int (i32 x0), .int (i32 y1)] [] cal_X12_doIf calv_X12_doIf ml_X12_372 zk_138 rfl rfl (by decide) (Nat.le_of_ble_eq_true rfl) rfl dX12_drawsFor_16 (fun q h => M_X12_doIf l Γ F irc_0 h_x0 h_y1 m2 q h) (fun _ m14 _ => ?_)
    refine zj_iload_n (j := 2) (i := 2) C rfl 0 rfl dX12_drawsFor_19 ?_
    refine zj_iconst C 4 dX12_drawsFor_20 ?_
    refine zj_icmp_eq C 25 h_y1 irc_4 dX12_drawsFor_21 rfl (fun c15 => ?_) (fun c15 => ?_)
    · refine zj_aload_n (j := 0) (i := 0) C rfl 1 rfl dX12_drawsFor_25 ?_
      refine zj_aload_n (j := 0) (i := 0) C rfl 1 rfl dX12_drawsFor_26 ?_
      refine zj_getR C F zk_138 fl_X12_98 rfl rf_138_14 dX12_drawsFor_27 ?_
      refine zj_iconst C 0 dX12_drawsFor_30 ?_
      refine zj_iaload C F zk_140 irc_0 dX12_drawsFor_31 (fun c16 h17 => ?_)
      refine zj_callVi C F Z [.int (i32 (m14 140 0))] [] cal_X12_draw calv_X12_draw ml_X12_369 zk_138 rfl rfl (by decide) (Nat.le_of_ble_eq_true rfl) rfl dX12_drawsFor_32 (fun q h => M_X12_draw l Γ F h17 m14 q h) (fun y18 m19 h_y18 => ?_)
      refine zj_istore_n (j := 3) (i := 3) C rfl [(3, .int (i32 y18)), (2, .int (i32 y1)), (0, .ref (zad Γ 138)), (1, .int (i32 x0))] dX12_drawsFor_35 (by decide) rfl ?_
      refine zj_aload_n (j := 0) (i := 0) C rfl 2 rfl dX12_drawsFor_36 ?_
      refine zj_iconst C 1 dX12_drawsFor_37 ?_
      refine zj_bipush C 8 rfl dX12_drawsFor_38 ?_
      refine zj_aload_n (j := 0) (i := 0) C rfl 2 rfl dX12_drawsFor_40 ?_
      refine zj_aload_n (j := 0) (i := 0) C rfl 2 rfl dX12_drawsFor_41 ?_
      refine zj_getR C F zk_138 fl_X12_98 rfl rf_138_14 dX12_drawsFor_42 ?_
      refine zj_iconst C 1 dX12_drawsFor_45 ?_
      refine zj_iaload C F zk_140 irc_1 dX12_drawsFor_46 (fun c20 h21 => ?_)
      refine zj_callVi C F Z [.int (i32 (m19 140 1))] [.int (i32 8), .int (i32 1), .ref (zad Γ 138)] cal_X12_draw calv_X12_draw ml_X12_369 zk_138 rfl rfl (by decide) (Nat.le_of_ble_eq_true rfl) rfl dX12_drawsFor_47 (fun q h => M_X12_draw l Γ F h21 m19 q h) (fun y22 m23 h_y22 => ?_)
      refine zj_imul C dX12_drawsFor_50 ?_
      refine zj_iload_n (j := 3) (i := 3) C rfl 0 rfl dX12_drawsFor_51 ?_
      refine zj_iadd C dX12_drawsFor_52 ?_
      refine zj_iconst C 0 dX12_drawsFor_53 ?_
      refine zj_callVv C F Z [.int (i32 1), .int (i32 (w32 ((w32 (8 * y22)) + y18))), .int (i32 0)] [] cal_X12_doIf calv_X12_doIf ml_X12_372 zk_138 rfl rfl (by decide) (Nat.le_of_ble_eq_true rfl) rfl dX12_drawsFor_54 (fun q h => M_X12_doIf l Γ F irc_1 (ir_w _) irc_0 m23 q h) (fun _ m24 _ => ?_)
      exact zrt_v C Z dX12_drawsFor_57
    · exact zrt_v C Z dX12_drawsFor_24
