noncomputable def f_X11_spare (x0 : Int) (x1 : Int) (x2 : Int) (mem : zMem) : Option (Int × zMem) := zbind (f_X5_hasPerson 4 x0 mem) fun y1 m2 => if y1 = 0 then (some ((-1), m2)) else (zbind (f_X5_hasShadow 4 x1 x2 m2) fun y4 m5 => if y4 = 0 then (some ((-1), m5)) else (if ix 13 x0 then zbind (f_X5_stepsAlong 4 x1 x2 (m5 13 x0) m5) fun y9 m10 => if y9 < 1 then (some (0, m10)) else (zbind (f_X3_reach 20 x1 x2 m10) fun y12 m13 => if y9 ≤ y12 then (zbind (f_X3_spotThatSpares 20 x1 x2 y9 m13) fun y15 m16 => if y15 = (-1) then (some ((-1), m16)) else (pipe (zup m16 0 16 y15) fun m18 => zbind (f_X3_stonesToStop 20 x1 x2 y15 m18) fun y19 m20 => some (y19, m20))) else (some (0, m13))) else none))
set_option maxHeartbeats 4000000 in
theorem M_X11_spare (l : Launch) (Γ : zG) (F : zFull Γ)  {x0 : Int} {x1 : Int} {x2 : Int} (h_x0 : ir x0) (h_x1 : ir x1) (h_x2 : ir x2) (mem : zMem) (q : Int × zMem) (h : f_X11_spare x0 x1 x2 mem = some q) : zMet l yX11_spare cX11_spare 6 (some .int) 5 Γ 1 [.ref (zad Γ 0), .int (i32 x0), .int (i32 x1), .int (i32 x2)] mem q := by
  refine zMet_of (own := "ShadowHeirs") (by decide) rfl (Nat.le_of_ble_eq_true rfl) (fun X C Z => ?_)
  revert h
  show zJ X Γ 6 q (f_X11_spare x0 x1 x2 mem) 0 [(0, .ref (zad Γ 0)), (1, .int (i32 x0)), (2, .int (i32 x1)), (3, .int (i32 x2))] [] mem
  unfold f_X11_spare
  refine zj_aload_n (j := 0) (i := 0) C rfl 0 rfl dX11_spare_0 ?_
  refine zj_getR C F zk_0 fl_X11_19 rfl rf_0_1 dX11_spare_1 ?_
  refine zj_iload_n (j := 1) (i := 1) C rfl 1 rfl dX11_spare_4 ?_
  refine zj_callVi C F Z [.int (i32 x0)] [] cal_X5_hasPerson calv_X5_hasPerson ml_X11_200 zk_4 rfl rfl (by decide) (Nat.le_of_ble_eq_true rfl) rfl dX11_spare_5 (fun q h => M_X5_hasPerson l Γ F zk_4 h_x0 mem q h) (fun y1 m2 h_y1 => ?_)
  refine zj_if_eq C 23 h_y1 dX11_spare_8 rfl (fun c3 => ?_) (fun c3 => ?_)
  · refine zj_iconst C (-1) dX11_spare_23 ?_
    exact zrt_i C Z irc_m1 dX11_spare_24
  · refine zj_aload_n (j := 0) (i := 0) C rfl 0 rfl dX11_spare_11 ?_
    refine zj_getR C F zk_0 fl_X11_19 rfl rf_0_1 dX11_spare_12 ?_
    refine zj_iload_n (j := 2) (i := 2) C rfl 2 rfl dX11_spare_15 ?_
    refine zj_iload_n (j := 3) (i := 3) C rfl 3 rfl dX11_spare_16 ?_
    refine zj_callVi C F Z [.int (i32 x1), .int (i32 x2)] [] cal_X5_hasShadow calv_X5_hasShadow ml_X11_274 zk_4 rfl rfl (by decide) (Nat.le_of_ble_eq_true rfl) rfl dX11_spare_17 (fun q h => M_X5_hasShadow l Γ F zk_4 h_x1 h_x2 m2 q h) (fun y4 m5 h_y4 => ?_)
    refine zj_if_ne C 25 h_y4 dX11_spare_20 rfl (fun c6 => ?_) (fun c6 => ?_)
    · refine zj_iconst C (-1) dX11_spare_23 ?_
      exact zrt_i C Z irc_m1 dX11_spare_24
    · refine zj_aload_n (j := 0) (i := 0) C rfl 0 rfl dX11_spare_25 ?_
      refine zj_getR C F zk_0 fl_X11_19 rfl rf_0_1 dX11_spare_26 ?_
      refine zj_iload_n (j := 2) (i := 2) C rfl 2 rfl dX11_spare_29 ?_
      refine zj_iload_n (j := 3) (i := 3) C rfl 3 rfl dX11_spare_30 ?_
      refine zj_aload_n (j := 0) (i := 0) C rfl 0 rfl dX11_spare_31 ?_
      refine zj_getR C F zk_0 fl_X11_26 rfl rf_0_2 dX11_spare_32 ?_
      refine zj_getR C F zk_11 fl_X11_205 rfl rf_11_1 dX11_spare_35 ?_
      refine zj_iload_n (j := 1) (i := 1) C rfl 1 rfl dX11_spare_38 ?_
      refine zj_iaload C F zk_13 h_x0 dX11_spare_39 (fun c7 h8 => ?_)
      refine zj_callVi C F Z [.int (i32 x1), .int (i32 x2), .int (i32 (m5 13 x0))] [] cal_X5_stepsAlong calv_X5_stepsAlong ml_X11_289 zk_4 rfl rfl (by decide) (Nat.le_of_ble_eq_true rfl) rfl dX11_spare_40 (fun q h => M_X5_stepsAlong l Γ F zk_4 h_x1 h_x2 h8 m5 q h) (fun y9 m10 h_y9 => ?_)
      refine zj_istore C [(4, .int (i32 y9)), (0, .ref (zad Γ 0)), (1, .int (i32 x0)), (2, .int (i32 x1)), (3, .int (i32 x2))] dX11_spare_43 (by decide) rfl ?_
      refine zj_iload C 0 rfl dX11_spare_45 ?_
      refine zj_iconst C 1 dX11_spare_47 ?_
      refine zj_icmp_lt C 65 h_y9 irc_1 dX11_spare_48 rfl (fun c11 => ?_) (fun c11 => ?_)
      · refine zj_iconst C 0 dX11_spare_65 ?_
        exact zrt_i C Z irc_0 dX11_spare_66
      · refine zj_iload C 0 rfl dX11_spare_51 ?_
        refine zj_aload_n (j := 0) (i := 0) C rfl 1 rfl dX11_spare_53 ?_
        refine zj_getR C F zk_0 fl_X11_42 rfl rf_0_4 dX11_spare_54 ?_
        refine zj_iload_n (j := 2) (i := 2) C rfl 3 rfl dX11_spare_57 ?_
        refine zj_iload_n (j := 3) (i := 3) C rfl 4 rfl dX11_spare_58 ?_
        refine zj_callVi C F Z [.int (i32 x1), .int (i32 x2)] [.int (i32 y9)] cal_X3_reach calv_X3_reach ml_X11_277 zk_20 rfl rfl (by decide) (Nat.le_of_ble_eq_true rfl) rfl dX11_spare_59 (fun q h => M_X3_reach l Γ F zk_20 h_x1 h_x2 m10 q h) (fun y12 m13 h_y12 => ?_)
        refine zj_icmp_le C 67 h_y9 h_y12 dX11_spare_62 rfl (fun c14 => ?_) (fun c14 => ?_)
        · refine zj_aload_n (j := 0) (i := 0) C rfl 1 rfl dX11_spare_67 ?_
          refine zj_getR C F zk_0 fl_X11_42 rfl rf_0_4 dX11_spare_68 ?_
          refine zj_iload_n (j := 2) (i := 2) C rfl 3 rfl dX11_spare_71 ?_
          refine zj_iload_n (j := 3) (i := 3) C rfl 4 rfl dX11_spare_72 ?_
          refine zj_iload C 0 rfl dX11_spare_73 ?_
          refine zj_callVi C F Z [.int (i32 x1), .int (i32 x2), .int (i32 y9)] [] cal_X3_spotThatSpares calv_X3_spotThatSpares ml_X11_292 zk_20 rfl rfl (by decide) (Nat.le_of_ble_eq_true rfl) rfl dX11_spare_75 (fun q h => M_X3_spotThatSpares l Γ F zk_20 h_x1 h_x2 h_y9 m13 q h) (fun y15 m16 h_y15 => ?_)
          refine zj_istore C [(5, .int (i32 y15)), (4, .int (i32 y9)), (0, .ref (zad Γ 0)), (1, .int (i32 x0)), (2, .int (i32 x1)), (3, .int (i32 x2))] dX11_spare_78 (by decide) rfl ?_
          refine zj_iload C 0 rfl dX11_spare_80 ?_
          refine zj_iconst C (-1) dX11_spare_82 ?_
          refine zj_icmp_ne C 88 h_y15 irc_m1 dX11_spare_83 rfl (fun c17 => ?_) (fun c17 => ?_)
          · refine zj_iconst C (-1) dX11_spare_86 ?_
            exact zrt_i C Z irc_m1 dX11_spare_87
          · refine zj_aload_n (j := 0) (i := 0) C rfl 2 rfl dX11_spare_88 ?_
            refine zj_iload C 0 rfl dX11_spare_89 ?_
            refine zj_putI C F 16 rfl zk_0 fl_X11_110 rfl fp_11_16 h_y15 dX11_spare_91 ?_
            refine zj_pipeM (fun m18 e_m18 => ?_)
            refine zj_aload_n (j := 0) (i := 0) C rfl 2 rfl dX11_spare_94 ?_
            refine zj_getR C F zk_0 fl_X11_42 rfl rf_0_4 dX11_spare_95 ?_
            refine zj_iload_n (j := 2) (i := 2) C rfl 4 rfl dX11_spare_98 ?_
            refine zj_iload_n (j := 3) (i := 3) C rfl 5 rfl dX11_spare_99 ?_
            refine zj_iload C 0 rfl dX11_spare_100 ?_
            refine zj_callVi C F Z [.int (i32 x1), .int (i32 x2), .int (i32 y15)] [] cal_X3_stonesToStop calv_X3_stonesToStop ml_X11_295 zk_20 rfl rfl (by decide) (Nat.le_of_ble_eq_true rfl) rfl dX11_spare_102 (fun q h => M_X3_stonesToStop l Γ F zk_20 h_x1 h_x2 h_y15 m18 q h) (fun y19 m20 h_y19 => ?_)
            exact zrt_i C Z h_y19 dX11_spare_105
        · refine zj_iconst C 0 dX11_spare_65 ?_
          exact zrt_i C Z irc_0 dX11_spare_66
noncomputable def f_X11_crowd (x0 : Int) (x1 : Int) (x2 : Int) (mem : zMem) : Option (Int × zMem) := zbind (f_X5_hasShadow 4 x0 x1 mem) fun y1 m2 => if y1 = 0 then (some ((-1), m2)) else (if x2 < 0 then (some ((-1), m2)) else (if x2 ≤ 30 then (zbind (f_X10_mostInShadow x0 x1 x2 m2) fun y6 m7 => some (y6, m7)) else (some ((-1), m2))))
set_option maxHeartbeats 4000000 in
theorem M_X11_crowd (l : Launch) (Γ : zG) (F : zFull Γ)  {x0 : Int} {x1 : Int} {x2 : Int} (h_x0 : ir x0) (h_x1 : ir x1) (h_x2 : ir x2) (mem : zMem) (q : Int × zMem) (h : f_X11_crowd x0 x1 x2 mem = some q) : zMet l yX11_crowd cX11_crowd 4 (some .int) 5 Γ 1 [.ref (zad Γ 0), .int (i32 x0), .int (i32 x1), .int (i32 x2)] mem q := by
  refine zMet_of (own := "ShadowHeirs") (by decide) rfl (Nat.le_of_ble_eq_true rfl) (fun X C Z => ?_)
  revert h
  show zJ X Γ 4 q (f_X11_crowd x0 x1 x2 mem) 0 [(0, .ref (zad Γ 0)), (1, .int (i32 x0)), (2, .int (i32 x1)), (3, .int (i32 x2))] [] mem
  unfold f_X11_crowd
  refine zj_aload_n (j := 0) (i := 0) C rfl 0 rfl dX11_crowd_0 ?_
  refine zj_getR C F zk_0 fl_X11_19 rfl rf_0_1 dX11_crowd_1 ?_
  refine zj_iload_n (j := 1) (i := 1) C rfl 1 rfl dX11_crowd_4 ?_
  refine zj_iload_n (j := 2) (i := 2) C rfl 2 rfl dX11_crowd_5 ?_
  refine zj_callVi C F Z [.int (i32 x0), .int (i32 x1)] [] cal_X5_hasShadow calv_X5_hasShadow ml_X11_274 zk_4 rfl rfl (by decide) (Nat.le_of_ble_eq_true rfl) rfl dX11_crowd_6 (fun q h => M_X5_hasShadow l Γ F zk_4 h_x0 h_x1 mem q h) (fun y1 m2 h_y1 => ?_)
  refine zj_if_eq C 22 h_y1 dX11_crowd_9 rfl (fun c3 => ?_) (fun c3 => ?_)
  · refine zj_iconst C (-1) dX11_crowd_22 ?_
    exact zrt_i C Z irc_m1 dX11_crowd_23
  · refine zj_iload_n (j := 3) (i := 3) C rfl 3 rfl dX11_crowd_12 ?_
    refine zj_if_lt C 22 h_x2 dX11_crowd_13 rfl (fun c4 => ?_) (fun c4 => ?_)
    · refine zj_iconst C (-1) dX11_crowd_22 ?_
      exact zrt_i C Z irc_m1 dX11_crowd_23
    · refine zj_iload_n (j := 3) (i := 3) C rfl 3 rfl dX11_crowd_16 ?_
      refine zj_bipush C 30 rfl dX11_crowd_17 ?_
      refine zj_icmp_le C 24 h_x2 irc_30 dX11_crowd_19 rfl (fun c5 => ?_) (fun c5 => ?_)
      · refine zj_aload_n (j := 0) (i := 0) C rfl 0 rfl dX11_crowd_24 ?_
        refine zj_getR C F zk_0 fl_X11_88 rfl rf_0_12 dX11_crowd_25 ?_
        refine zj_iload_n (j := 1) (i := 1) C rfl 1 rfl dX11_crowd_28 ?_
        refine zj_iload_n (j := 2) (i := 2) C rfl 2 rfl dX11_crowd_29 ?_
        refine zj_iload_n (j := 3) (i := 3) C rfl 3 rfl dX11_crowd_30 ?_
        refine zj_callVi C F Z [.int (i32 x0), .int (i32 x1), .int (i32 x2)] [] cal_X10_mostInShadow calv_X10_mostInShadow ml_X11_298 zk_97 rfl rfl (by decide) (Nat.le_of_ble_eq_true rfl) rfl dX11_crowd_31 (fun q h => M_X10_mostInShadow l Γ F h_x0 h_x1 h_x2 m2 q h) (fun y6 m7 h_y6 => ?_)
        exact zrt_i C Z h_y6 dX11_crowd_34
      · refine zj_iconst C (-1) dX11_crowd_22 ?_
        exact zrt_i C Z irc_m1 dX11_crowd_23
noncomputable def f_X11_sentence  (mem : zMem) : Option (Int × zMem) := zbind (f_X8_readText 49 4 mem) fun _ m1 => zbind (f_X11_closeTape m1) fun y2 m3 => if y2 = 0 then (zbind (f_X8_copyFrom 16 49 m3) fun _ m5 => some ((m5 16 4), m5)) else (some ((w32 ((-1) - (m3 1 10))), m3))
set_option maxHeartbeats 4000000 in
theorem M_X11_sentence (l : Launch) (Γ : zG) (F : zFull Γ)    (mem : zMem) (q : Int × zMem) (h : f_X11_sentence  mem = some q) : zMet l yX11_sentence cX11_sentence 1 (some .int) 46 Γ 1 [.ref (zad Γ 0)] mem q := by
  refine zMet_of (own := "ShadowHeirs") (by decide) rfl (Nat.le_of_ble_eq_true rfl) (fun X C Z => ?_)
  revert h
  show zJ X Γ 1 q (f_X11_sentence  mem) 0 [(0, .ref (zad Γ 0))] [] mem
  unfold f_X11_sentence
  refine zj_aload_n (j := 0) (i := 0) C rfl 0 rfl dX11_sentence_0 ?_
  refine zj_getR C F zk_0 fl_X11_65 rfl rf_0_8 dX11_sentence_1 ?_
  refine zj_aload_n (j := 0) (i := 0) C rfl 0 rfl dX11_sentence_4 ?_
  refine zj_getR C F zk_0 fl_X11_10 rfl rf_0_0 dX11_sentence_5 ?_
  refine zj_aload_n (j := 0) (i := 0) C rfl 0 rfl dX11_sentence_8 ?_
  refine zj_getR C F zk_0 fl_X11_19 rfl rf_0_1 dX11_sentence_9 ?_
  refine zj_callVv C F Z [.ref (zad Γ 1), .ref (zad Γ 4)] [] cal_X8_readText calv_X8_readText ml_X11_351 zk_49 rfl rfl (by decide) (Nat.le_of_ble_eq_true rfl) rfl dX11_sentence_12 (fun q h => M_X8_readText l Γ F zk_49 zk_4 mem q h) (fun _ m1 _ => ?_)
  refine zj_aload_n (j := 0) (i := 0) C rfl 0 rfl dX11_sentence_15 ?_
  refine zj_callVi C F Z [] [] cal_X11_closeTape calv_X11_closeTape ml_X11_137 zk_0 rfl rfl (by decide) (Nat.le_of_ble_eq_true rfl) rfl dX11_sentence_16 (fun q h => M_X11_closeTape l Γ F  m1 q h) (fun y2 m3 h_y2 => ?_)
  refine zj_if_eq C 32 h_y2 dX11_sentence_19 rfl (fun c4 => ?_) (fun c4 => ?_)
  · refine zj_aload_n (j := 0) (i := 0) C rfl 0 rfl dX11_sentence_32 ?_
    refine zj_getR C F zk_0 fl_X11_33 rfl rf_0_3 dX11_sentence_33 ?_
    refine zj_aload_n (j := 0) (i := 0) C rfl 0 rfl dX11_sentence_36 ?_
    refine zj_getR C F zk_0 fl_X11_65 rfl rf_0_8 dX11_sentence_37 ?_
    refine zj_callVv C F Z [.ref (zad Γ 49)] [] cal_X8_copyFrom calv_X8_copyFrom ml_X11_355 zk_16 rfl rfl (by decide) (Nat.le_of_ble_eq_true rfl) rfl dX11_sentence_40 (fun q h => M_X8_copyFrom l Γ F zk_16 zk_49 m3 q h) (fun _ m5 _ => ?_)
    refine zj_aload_n (j := 0) (i := 0) C rfl 0 rfl dX11_sentence_43 ?_
    refine zj_getR C F zk_0 fl_X11_33 rfl rf_0_3 dX11_sentence_44 ?_
    refine zj_getI C F 4 rfl zk_16 fl_X11_358 rfl dX11_sentence_47 (fun h6 => ?_)
    exact zrt_i C Z h6 dX11_sentence_50
  · refine zj_iconst C (-1) dX11_sentence_22 ?_
    refine zj_aload_n (j := 0) (i := 0) C rfl 0 rfl dX11_sentence_23 ?_
    refine zj_getR C F zk_0 fl_X11_10 rfl rf_0_0 dX11_sentence_24 ?_
    refine zj_getI C F 10 rfl zk_1 fl_X11_141 rfl dX11_sentence_27 (fun h7 => ?_)
    refine zj_isub C dX11_sentence_30 ?_
    exact zrt_i C Z (ir_w _) dX11_sentence_31
noncomputable def b_X11_hoursByTape_0 (rec : Int → Int → zMem → Option (Int × zMem)) (v1 : Int) (v2 : Int) (mem : zMem) : Option (Int × zMem) := if v2 ≥ (mem 4 4) then (some (v1, mem)) else (zbind (f_X11_isTapeSoAt v2 mem) fun y3 m4 => if y3 = 0 then (rec v1 (w32 (v2 + 1)) m4) else (pipe (zor v1 (zshl 1 v2)) fun y6 => rec y6 (w32 (v2 + 1)) m4))
noncomputable def f_X11_hoursByTape_0 : Nat → Int → Int → zMem → Option (Int × zMem) := zfuel (fun _ _ _ => none) (b_X11_hoursByTape_0)
set_option maxHeartbeats 4000000 in
theorem L_X11_hoursByTape_0 (l : Launch) {Γ : zG} (F : zFull Γ) {X : zM} {q : Int × zMem} (C : zC X Γ "ShadowHeirs" cX11_hoursByTape 3) (Z : zRt X l Γ 5 1 (some .int) q) : ∀ n : Nat, ∀ (v1 : Int) (v2 : Int) (h_v1 : ir v1) (h_v2 : ir v2) (mem : zMem), zJ X Γ 3 q (f_X11_hoursByTape_0 n v1 v2 mem) 13 [(0, .ref (zad Γ 0)), (1, .int (i32 v1)), (2, .int (i32 v2))] [] mem := by
  intro n
  induction n with
  | zero => intros; exact zj_none
  | succ n ih =>
    intro v1 v2 h_v1 h_v2 mem
    show zJ X Γ 3 q (b_X11_hoursByTape_0 (f_X11_hoursByTape_0 n) v1 v2 mem) _ _ _ _
    unfold b_X11_hoursByTape_0
    refine zj_iload_n (j := 2) (i := 2) C rfl 2 rfl dX11_hoursByTape_13 ?_
    refine zj_aload_n (j := 0) (i := 0) C rfl 0 rfl dX11_hoursByTape_14 ?_
    refine zj_getR C F zk_0 fl_X11_19 rfl rf_0_1 dX11_hoursByTape_15 ?_
    refine zj_getI C F 4 rfl zk_4 fl_X11_286 rfl dX11_hoursByTape_18 (fun h1 => ?_)
    refine zj_icmp_ge C 44 h_v2 h1 dX11_hoursByTape_21 rfl (fun c2 => ?_) (fun c2 => ?_)
    · refine zj_iload_n (j := 1) (i := 1) C rfl 1 rfl dX11_hoursByTape_44 ?_
      exact zrt_i C Z h_v1 dX11_hoursByTape_45
    · refine zj_aload_n (j := 0) (i := 0) C rfl 0 rfl dX11_hoursByTape_24 ?_
      refine zj_iload_n (j := 2) (i := 2) C rfl 2 rfl dX11_hoursByTape_25 ?_
      refine zj_callVi C F Z [.int (i32 v2)] [] cal_X11_isTapeSoAt calv_X11_isTapeSoAt ml_X11_388 zk_0 rfl rfl (by decide) (Nat.le_of_ble_eq_true rfl) rfl dX11_hoursByTape_26 (fun q h => M_X11_isTapeSoAt l Γ F h_v2 mem q h) (fun y3 m4 h_y3 => ?_)
      refine zj_if_eq C 38 h_y3 dX11_hoursByTape_29 rfl (fun c5 => ?_) (fun c5 => ?_)
      · refine zj_iinc C 2 [(2, .int (i32 (w32 (v2 + 1)))), (0, .ref (zad Γ 0)), (1, .int (i32 v1))] rfl dX11_hoursByTape_38 (by decide) rfl ?_
        refine zj_goto (tgt := 13) C dX11_hoursByTape_41 rfl ?_
        exact zj_sub [1, 2, 0] rfl (ih v1 (w32 (v2 + 1)) h_v1 (ir_w _) m4)
      · refine zj_iload_n (j := 1) (i := 1) C rfl 1 rfl dX11_hoursByTape_32 ?_
        refine zj_iconst C 1 dX11_hoursByTape_33 ?_
        refine zj_iload_n (j := 2) (i := 2) C rfl 2 rfl dX11_hoursByTape_34 ?_
        refine zj_ishl C dX11_hoursByTape_35 ?_
        refine zj_ior C dX11_hoursByTape_36 ?_
        refine zj_pipeI (fun y6 e_y6 => ?_)
        have h_y6 := ir_eq e_y6 (ir_toInt _)
        refine zj_istore_n (j := 1) (i := 1) C rfl [(1, .int (i32 y6)), (0, .ref (zad Γ 0)), (2, .int (i32 v2))] dX11_hoursByTape_37 (by decide) rfl ?_
        refine zj_iinc C 2 [(2, .int (i32 (w32 (v2 + 1)))), (1, .int (i32 y6)), (0, .ref (zad Γ 0))] rfl dX11_hoursByTape_38 (by decide) rfl ?_
        refine zj_goto (tgt := 13) C dX11_hoursByTape_41 rfl ?_
        exact zj_sub [2, 1, 0] rfl (ih y6 (w32 (v2 + 1)) h_y6 (ir_w _) m4)
noncomputable def f_X11_hoursByTape  (mem : zMem) : Option (Int × zMem) := zbind (f_X11_isTapeAsTold mem) fun y1 m2 => if y1 = 0 then (some ((-1), m2)) else (f_X11_hoursByTape_0 zN 0 0 m2)
set_option maxHeartbeats 4000000 in
theorem M_X11_hoursByTape (l : Launch) (Γ : zG) (F : zFull Γ)    (mem : zMem) (q : Int × zMem) (h : f_X11_hoursByTape  mem = some q) : zMet l yX11_hoursByTape cX11_hoursByTape 3 (some .int) 5 Γ 1 [.ref (zad Γ 0)] mem q := by
  refine zMet_of (own := "ShadowHeirs") (by decide) rfl (Nat.le_of_ble_eq_true rfl) (fun X C Z => ?_)
  revert h
  show zJ X Γ 3 q (f_X11_hoursByTape  mem) 0 [(0, .ref (zad Γ 0))] [] mem
  unfold f_X11_hoursByTape
  refine zj_aload_n (j := 0) (i := 0) C rfl 0 rfl dX11_hoursByTape_0 ?_
  refine zj_callVi C F Z [] [] cal_X11_isTapeAsTold calv_X11_isTapeAsTold ml_X11_385 zk_0 rfl rfl (by decide) (Nat.le_of_ble_eq_true rfl) rfl dX11_hoursByTape_1 (fun q h => M_X11_isTapeAsTold l Γ F  mem q h) (fun y1 m2 h_y1 => ?_)
  refine zj_if_ne C 9 h_y1 dX11_hoursByTape_4 rfl (fun c3 => ?_) (fun c3 => ?_)
  · refine zj_iconst C (-1) dX11_hoursByTape_7 ?_
    exact zrt_i C Z irc_m1 dX11_hoursByTape_8
  · refine zj_iconst C 0 dX11_hoursByTape_9 ?_
    refine zj_istore_n (j := 1) (i := 1) C rfl [(1, .int (i32 0)), (0, .ref (zad Γ 0))] dX11_hoursByTape_10 (by decide) rfl ?_
    refine zj_iconst C 0 dX11_hoursByTape_11 ?_
    refine zj_istore_n (j := 2) (i := 2) C rfl [(2, .int (i32 0)), (1, .int (i32 0)), (0, .ref (zad Γ 0))] dX11_hoursByTape_12 (by decide) rfl ?_
    exact zj_sub [2, 1, 0] rfl ((L_X11_hoursByTape_0 l F C Z zN) 0 0 irc_0 irc_0 m2)
noncomputable def f_X0_readLine (t0 : Nat) (mem : zMem) : Option (Int × zMem) := zbind (f_X0_actOf (mem 1 8) mem) fun y2 m3 => if (m3 1 6) = 1 then (if y2 = (-1) then (zbind (f_X6_fail 1 m3) fun y7 m8 => if y7 = 0 ∨ y7 = 1 then some (y7, m8) else none) else (zbind (f_X5_personNamed t0 (m3 1 7) m3) fun y10 m11 => if y2 = 0 then (if y10 = (-1) then (zbind (f_X6_fail 3 m11) fun y14 m15 => if y14 = 0 ∨ y14 = 1 then some (y14, m15) else none) else (if (m11 45 4) < 40 then (if ix 46 (m11 45 4) then pipe (zup m11 46 (m11 45 4) y2) fun m20 => if y2 = 0 then (if ix 47 (m20 45 4) then pipe (zup m20 47 (m20 45 4) y10) fun m24 => zbind (f_X0_readSide m24) fun y25 m26 => if y25 = 0 ∨ y25 = 1 then some (y25, m26) else none else none) else (if y2 = 30 then (zbind (f_X0_readHouse t0 m20) fun y28 m29 => if y28 = 0 ∨ y28 = 1 then some (y28, m29) else none) else (if y2 = 40 then (zbind (f_X0_readNumber 47 1 60 m20) fun y31 m32 => if y31 = 0 ∨ y31 = 1 then some (y31, m32) else none) else (zbind (f_X0_readNumber 47 0 7 m20) fun y33 m34 => if y33 = 0 then (some (0, m34)) else (zbind (f_X0_readNumber 48 0 7 m34) fun y36 m37 => if y36 = 0 then (some (0, m37)) else (some (1, m37)))))) else none) else (zbind (f_X6_fail 4 m11) fun y39 m40 => if y39 = 0 ∨ y39 = 1 then some (y39, m40) else none))) else (if (m11 45 4) < 40 then (if ix 46 (m11 45 4) then pipe (zup m11 46 (m11 45 4) y2) fun m45 => if y2 = 0 then (if ix 47 (m45 45 4) then pipe (zup m45 47 (m45 45 4) y10) fun m49 => zbind (f_X0_readSide m49) fun y50 m51 => if y50 = 0 ∨ y50 = 1 then some (y50, m51) else none else none) else (if y2 = 30 then (zbind (f_X0_readHouse t0 m45) fun y53 m54 => if y53 = 0 ∨ y53 = 1 then some (y53, m54) else none) else (if y2 = 40 then (zbind (f_X0_readNumber 47 1 60 m45) fun y56 m57 => if y56 = 0 ∨ y56 = 1 then some (y56, m57) else none) else (zbind (f_X0_readNumber 47 0 7 m45) fun y58 m59 => if y58 = 0 then (some (0, m59)) else (zbind (f_X0_readNumber 48 0 7 m59) fun y61 m62 => if y61 = 0 then (some (0, m62)) else (some (1, m62)))))) else none) else (zbind (f_X6_fail 4 m11) fun y64 m65 => if y64 = 0 ∨ y64 = 1 then some (y64, m65) else none)))) else (zbind (f_X6_fail 1 m3) fun y66 m67 => if y66 = 0 ∨ y66 = 1 then some (y66, m67) else none)
set_option maxHeartbeats 4000000 in
theorem M_X0_readLine (l : Launch) (Γ : zG) (F : zFull Γ)  {t0 : Nat} (h_t0 : zk t0 5) (mem : zMem) (q : Int × zMem) (h : f_X0_readLine t0 mem = some q) : zMet l yX0_readLine cX0_readLine 4 (some .boolean) 5 Γ 1 [.ref (zad Γ 45), .ref (zad Γ t0)] mem q := by
  refine zMet_of (own := "ShadowHeirs$Book") (by decide) rfl (Nat.le_of_ble_eq_true rfl) (fun X C Z => ?_)
  revert h
  show zJ X Γ 4 q (f_X0_readLine t0 mem) 0 [(0, .ref (zad Γ 45)), (1, .ref (zad Γ t0))] [] mem
  unfold f_X0_readLine
  refine zj_aload_n (j := 0) (i := 0) C rfl 0 rfl dX0_readLine_0 ?_
  refine zj_getR C F zk_45 fl_X0_41 rfl rf_45_0 dX0_readLine_1 ?_
  refine zj_getI C F 8 rfl zk_1 fl_X0_65 rfl dX0_readLine_4 (fun h1 => ?_)
  refine zj_callSi C Z [.int (i32 (mem 1 8))] [] cal_X0_actOf sta_X0_actOf ml_X0_68 rfl (by decide) (Nat.le_of_ble_eq_true rfl) rfl dX0_readLine_7 (fun q h => M_X0_actOf l Γ F h1 mem q h) (fun y2 m3 h_y2 => ?_)
  refine zj_istore_n (j := 2) (i := 2) C rfl [(2, .int (i32 y2)), (0, .ref (zad Γ 45)), (1, .ref (zad Γ t0))] dX0_readLine_10 (by decide) rfl ?_
  refine zj_aload_n (j := 0) (i := 0) C rfl 1 rfl dX0_readLine_11 ?_
  refine zj_getR C F zk_45 fl_X0_41 rfl rf_45_0 dX0_readLine_12 ?_
  refine zj_getI C F 6 rfl zk_1 fl_X0_54 rfl dX0_readLine_15 (fun h4 => ?_)
  refine zj_iconst C 1 dX0_readLine_18 ?_
  refine zj_icmp_ne C 27 h4 irc_1 dX0_readLine_19 rfl (fun c5 => ?_) (fun c5 => ?_)
  · refine zj_iload_n (j := 2) (i := 2) C rfl 0 rfl dX0_readLine_22 ?_
    refine zj_iconst C (-1) dX0_readLine_23 ?_
    refine zj_icmp_ne C 36 h_y2 irc_m1 dX0_readLine_24 rfl (fun c6 => ?_) (fun c6 => ?_)
    · refine zj_aload_n (j := 0) (i := 0) C rfl 1 rfl dX0_readLine_27 ?_
      refine zj_getR C F zk_45 fl_X0_41 rfl rf_45_0 dX0_readLine_28 ?_
      refine zj_iconst C 1 dX0_readLine_31 ?_
      refine zj_callVi C F Z [.int (i32 1)] [] cal_X6_fail calv_X6_fail ml_X0_72 zk_1 rfl rfl (by decide) (Nat.le_of_ble_eq_true rfl) rfl dX0_readLine_32 (fun q h => M_X6_fail l Γ F irc_1 m3 q h) (fun y7 m8 h_y7 => ?_)
      exact zrt_zc C Z dX0_readLine_35
    · refine zj_aload_n (j := 1) (i := 1) C rfl 2 rfl dX0_readLine_36 ?_
      refine zj_aload_n (j := 0) (i := 0) C rfl 1 rfl dX0_readLine_37 ?_
      refine zj_getR C F zk_45 fl_X0_41 rfl rf_45_0 dX0_readLine_38 ?_
      refine zj_getL C F 7 rfl zk_1 fl_X0_76 rfl dX0_readLine_41 (fun h9 => ?_)
      refine zj_callVi C F Z [.long (i64 (m3 1 7))] [] cal_X5_personNamed calv_X5_personNamed ml_X0_80 h_t0 rfl rfl (by decide) (Nat.le_of_ble_eq_true rfl) rfl dX0_readLine_44 (fun q h => M_X5_personNamed l Γ F h_t0 h9 m3 q h) (fun y10 m11 h_y10 => ?_)
      refine zj_istore_n (j := 3) (i := 3) C rfl [(3, .int (i32 y10)), (2, .int (i32 y2)), (0, .ref (zad Γ 45)), (1, .ref (zad Γ t0))] dX0_readLine_47 (by decide) rfl ?_
      refine zj_iload_n (j := 2) (i := 2) C rfl 1 rfl dX0_readLine_48 ?_
      refine zj_if_ne C 66 h_y2 dX0_readLine_49 rfl (fun c12 => ?_) (fun c12 => ?_)
      · refine zj_iload_n (j := 3) (i := 3) C rfl 0 rfl dX0_readLine_52 ?_
        refine zj_iconst C (-1) dX0_readLine_53 ?_
        refine zj_icmp_ne C 66 h_y10 irc_m1 dX0_readLine_54 rfl (fun c13 => ?_) (fun c13 => ?_)
        · refine zj_aload_n (j := 0) (i := 0) C rfl 2 rfl dX0_readLine_57 ?_
          refine zj_getR C F zk_45 fl_X0_41 rfl rf_45_0 dX0_readLine_58 ?_
          refine zj_iconst C 3 dX0_readLine_61 ?_
          refine zj_callVi C F Z [.int (i32 3)] [] cal_X6_fail calv_X6_fail ml_X0_72 zk_1 rfl rfl (by decide) (Nat.le_of_ble_eq_true rfl) rfl dX0_readLine_62 (fun q h => M_X6_fail l Γ F irc_3 m11 q h) (fun y14 m15 h_y14 => ?_)
          exact zrt_zc C Z dX0_readLine_65
        · refine zj_aload_n (j := 0) (i := 0) C rfl 2 rfl dX0_readLine_66 ?_
          refine zj_getI C F 4 rfl zk_45 fl_X0_21 rfl dX0_readLine_67 (fun h16 => ?_)
          refine zj_bipush C 40 rfl dX0_readLine_70 ?_
          refine zj_icmp_lt C 84 h16 irc_40 dX0_readLine_72 rfl (fun c17 => ?_) (fun c17 => ?_)
          · refine zj_aload_n (j := 0) (i := 0) C rfl 2 rfl dX0_readLine_84 ?_
            refine zj_getR C F zk_45 fl_X0_11 rfl rf_45_1 dX0_readLine_85 ?_
            refine zj_aload_n (j := 0) (i := 0) C rfl 2 rfl dX0_readLine_88 ?_
            refine zj_getI C F 4 rfl zk_45 fl_X0_21 rfl dX0_readLine_89 (fun h18 => ?_)
            refine zj_iload_n (j := 2) (i := 2) C rfl 1 rfl dX0_readLine_92 ?_
            refine zj_iastore C F zk_46 h18 h_y2 dX0_readLine_93 (fun c19 => ?_)
            refine zj_pipeM (fun m20 e_m20 => ?_)
            refine zj_iload_n (j := 2) (i := 2) C rfl 1 rfl dX0_readLine_94 ?_
            refine zj_split (fun c21 => ?_) (fun c21 => ?_)
            · refine zj_lookup (off := 33) C 128 h_y2 dX0_readLine_95 rfl (by rw [c21]; rfl) rfl ?_
              refine zj_aload_n (j := 0) (i := 0) C rfl 2 rfl dX0_readLine_128 ?_
              refine zj_getR C F zk_45 fl_X0_15 rfl rf_45_2 dX0_readLine_129 ?_
              refine zj_aload_n (j := 0) (i := 0) C rfl 2 rfl dX0_readLine_132 ?_
              refine zj_getI C F 4 rfl zk_45 fl_X0_21 rfl dX0_readLine_133 (fun h22 => ?_)
              refine zj_iload_n (j := 3) (i := 3) C rfl 0 rfl dX0_readLine_136 ?_
              refine zj_iastore C F zk_47 h22 h_y10 dX0_readLine_137 (fun c23 => ?_)
              refine zj_pipeM (fun m24 e_m24 => ?_)
              refine zj_aload_n (j := 0) (i := 0) C rfl 2 rfl dX0_readLine_138 ?_
              refine zj_callVi C F Z [] [] cal_X0_readSide calv_X0_readSide ml_X0_86 zk_45 rfl rfl (by decide) (Nat.le_of_ble_eq_true rfl) rfl dX0_readLine_139 (fun q h => M_X0_readSide l Γ F  m24 q h) (fun y25 m26 h_y25 => ?_)
              exact zrt_zc C Z dX0_readLine_142
            · refine zj_split (fun c27 => ?_) (fun c27 => ?_)
              · refine zj_lookup (off := 48) C 143 h_y2 dX0_readLine_95 rfl (by rw [c27]; rfl) rfl ?_
                refine zj_aload_n (j := 0) (i := 0) C rfl 2 rfl dX0_readLine_143 ?_
                refine zj_aload_n (j := 1) (i := 1) C rfl 3 rfl dX0_readLine_144 ?_
                refine zj_callVi C F Z [.ref (zad Γ t0)] [] cal_X0_readHouse calv_X0_readHouse ml_X0_90 zk_45 rfl rfl (by decide) (Nat.le_of_ble_eq_true rfl) rfl dX0_readLine_145 (fun q h => M_X0_readHouse l Γ F h_t0 m20 q h) (fun y28 m29 h_y28 => ?_)
                exact zrt_zc C Z dX0_readLine_148
              · refine zj_split (fun c30 => ?_) (fun c30 => ?_)
                · refine zj_lookup (off := 54) C 149 h_y2 dX0_readLine_95 rfl (by rw [c30]; rfl) rfl ?_
                  refine zj_aload_n (j := 0) (i := 0) C rfl 2 rfl dX0_readLine_149 ?_
                  refine zj_aload_n (j := 0) (i := 0) C rfl 2 rfl dX0_readLine_150 ?_
                  refine zj_getR C F zk_45 fl_X0_15 rfl rf_45_2 dX0_readLine_151 ?_
                  refine zj_iconst C 1 dX0_readLine_154 ?_
                  refine zj_bipush C 60 rfl dX0_readLine_155 ?_
                  refine zj_callVi C F Z [.ref (zad Γ 47), .int (i32 1), .int (i32 60)] [] cal_X0_readNumber calv_X0_readNumber ml_X0_93 zk_45 rfl rfl (by decide) (Nat.le_of_ble_eq_true rfl) rfl dX0_readLine_157 (fun q h => M_X0_readNumber l Γ F zk_47 irc_1 irc_60 m20 q h) (fun y31 m32 h_y31 => ?_)
                  exact zrt_zc C Z dX0_readLine_160
                · refine zj_lookup (off := 66) C 161 h_y2 dX0_readLine_95 rfl (by show Op.lookupswitch.offset [(0, 33), (30, 48), (40, 54)] 66 _ = _; rw [Op.lookupswitch.offset_cons, if_neg (fun z => c21 z.symm), Op.lookupswitch.offset_cons, if_neg (fun z => c27 z.symm), Op.lookupswitch.offset_cons, if_neg (fun z => c30 z.symm)]; rfl) rfl ?_
                  refine zj_aload_n (j := 0) (i := 0) C rfl 2 rfl dX0_readLine_161 ?_
                  refine zj_aload_n (j := 0) (i := 0) C rfl 2 rfl dX0_readLine_162 ?_
                  refine zj_getR C F zk_45 fl_X0_15 rfl rf_45_2 dX0_readLine_163 ?_
                  refine zj_iconst C 0 dX0_readLine_166 ?_
                  refine zj_bipush C 7 rfl dX0_readLine_167 ?_
                  refine zj_callVi C F Z [.ref (zad Γ 47), .int (i32 0), .int (i32 7)] [] cal_X0_readNumber calv_X0_readNumber ml_X0_93 zk_45 rfl rfl (by decide) (Nat.le_of_ble_eq_true rfl) rfl dX0_readLine_169 (fun q h => M_X0_readNumber l Γ F zk_47 irc_0 irc_7 m20 q h) (fun y33 m34 h_y33 => ?_)
                  refine zj_if_eq C 193 h_y33 dX0_readLine_172 rfl (fun c35 => ?_) (fun c35 => ?_)
                  · refine zj_iconst C 0 dX0_readLine_193 ?_
                    exact zrt_z C Z (Or.inl rfl) dX0_readLine_194
                  · refine zj_aload_n (j := 0) (i := 0) C rfl 2 rfl dX0_readLine_175 ?_
                    refine zj_aload_n (j := 0) (i := 0) C rfl 2 rfl dX0_readLine_176 ?_
                    refine zj_getR C F zk_45 fl_X0_18 rfl rf_45_3 dX0_readLine_177 ?_
                    refine zj_iconst C 0 dX0_readLine_180 ?_
                    refine zj_bipush C 7 rfl dX0_readLine_181 ?_
                    refine zj_callVi C F Z [.ref (zad Γ 48), .int (i32 0), .int (i32 7)] [] cal_X0_readNumber calv_X0_readNumber ml_X0_93 zk_45 rfl rfl (by decide) (Nat.le_of_ble_eq_true rfl) rfl dX0_readLine_183 (fun q h => M_X0_readNumber l Γ F zk_48 irc_0 irc_7 m34 q h) (fun y36 m37 h_y36 => ?_)
                    refine zj_if_eq C 193 h_y36 dX0_readLine_186 rfl (fun c38 => ?_) (fun c38 => ?_)
                    · refine zj_iconst C 0 dX0_readLine_193 ?_
                      exact zrt_z C Z (Or.inl rfl) dX0_readLine_194
                    · refine zj_iconst C 1 dX0_readLine_189 ?_
                      refine zj_goto (tgt := 194) C dX0_readLine_190 rfl ?_
                      exact zrt_z C Z (Or.inr rfl) dX0_readLine_194
          · refine zj_aload_n (j := 0) (i := 0) C rfl 2 rfl dX0_readLine_75 ?_
            refine zj_getR C F zk_45 fl_X0_41 rfl rf_45_0 dX0_readLine_76 ?_
            refine zj_iconst C 4 dX0_readLine_79 ?_
            refine zj_callVi C F Z [.int (i32 4)] [] cal_X6_fail calv_X6_fail ml_X0_72 zk_1 rfl rfl (by decide) (Nat.le_of_ble_eq_true rfl) rfl dX0_readLine_80 (fun q h => M_X6_fail l Γ F irc_4 m11 q h) (fun y39 m40 h_y39 => ?_)
            exact zrt_zc C Z dX0_readLine_83
      · refine zj_aload_n (j := 0) (i := 0) C rfl 2 rfl dX0_readLine_66 ?_
        refine zj_getI C F 4 rfl zk_45 fl_X0_21 rfl dX0_readLine_67 (fun h41 => ?_)
        refine zj_bipush C 40 rfl dX0_readLine_70 ?_
        refine zj_icmp_lt C 84 h41 irc_40 dX0_readLine_72 rfl (fun c42 => ?_) (fun c42 => ?_)
        · refine zj_aload_n (j := 0) (i := 0) C rfl 2 rfl dX0_readLine_84 ?_
          refine zj_getR C F zk_45 fl_X0_11 rfl rf_45_1 dX0_readLine_85 ?_
          refine zj_aload_n (j := 0) (i := 0) C rfl 2 rfl dX0_readLine_88 ?_
          refine zj_getI C F 4 rfl zk_45 fl_X0_21 rfl dX0_readLine_89 (fun h43 => ?_)
          refine zj_iload_n (j := 2) (i := 2) C rfl 1 rfl dX0_readLine_92 ?_
          refine zj_iastore C F zk_46 h43 h_y2 dX0_readLine_93 (fun c44 => ?_)
          refine zj_pipeM (fun m45 e_m45 => ?_)
          refine zj_iload_n (j := 2) (i := 2) C rfl 1 rfl dX0_readLine_94 ?_
          refine zj_split (fun c46 => ?_) (fun c46 => ?_)
          · refine zj_lookup (off := 33) C 128 h_y2 dX0_readLine_95 rfl (by rw [c46]; rfl) rfl ?_
            refine zj_aload_n (j := 0) (i := 0) C rfl 2 rfl dX0_readLine_128 ?_
            refine zj_getR C F zk_45 fl_X0_15 rfl rf_45_2 dX0_readLine_129 ?_
            refine zj_aload_n (j := 0) (i := 0) C rfl 2 rfl dX0_readLine_132 ?_
            refine zj_getI C F 4 rfl zk_45 fl_X0_21 rfl dX0_readLine_133 (fun h47 => ?_)
            refine zj_iload_n (j := 3) (i := 3) C rfl 0 rfl dX0_readLine_136 ?_
            refine zj_iastore C F zk_47 h47 h_y10 dX0_readLine_137 (fun c48 => ?_)
            refine zj_pipeM (fun m49 e_m49 => ?_)
            refine zj_aload_n (j := 0) (i := 0) C rfl 2 rfl dX0_readLine_138 ?_
            refine zj_callVi C F Z [] [] cal_X0_readSide calv_X0_readSide ml_X0_86 zk_45 rfl rfl (by decide) (Nat.le_of_ble_eq_true rfl) rfl dX0_readLine_139 (fun q h => M_X0_readSide l Γ F  m49 q h) (fun y50 m51 h_y50 => ?_)
            exact zrt_zc C Z dX0_readLine_142
          · refine zj_split (fun c52 => ?_) (fun c52 => ?_)
            · refine zj_lookup (off := 48) C 143 h_y2 dX0_readLine_95 rfl (by rw [c52]; rfl) rfl ?_
              refine zj_aload_n (j := 0) (i := 0) C rfl 2 rfl dX0_readLine_143 ?_
              refine zj_aload_n (j := 1) (i := 1) C rfl 3 rfl dX0_readLine_144 ?_
              refine zj_callVi C F Z [.ref (zad Γ t0)] [] cal_X0_readHouse calv_X0_readHouse ml_X0_90 zk_45 rfl rfl (by decide) (Nat.le_of_ble_eq_true rfl) rfl dX0_readLine_145 (fun q h => M_X0_readHouse l Γ F h_t0 m45 q h) (fun y53 m54 h_y53 => ?_)
              exact zrt_zc C Z dX0_readLine_148
            · refine zj_split (fun c55 => ?_) (fun c55 => ?_)
              · refine zj_lookup (off := 54) C 149 h_y2 dX0_readLine_95 rfl (by rw [c55]; rfl) rfl ?_
                refine zj_aload_n (j := 0) (i := 0) C rfl 2 rfl dX0_readLine_149 ?_
                refine zj_aload_n (j := 0) (i := 0) C rfl 2 rfl dX0_readLine_150 ?_
                refine zj_getR C F zk_45 fl_X0_15 rfl rf_45_2 dX0_readLine_151 ?_
                refine zj_iconst C 1 dX0_readLine_154 ?_
                refine zj_bipush C 60 rfl dX0_readLine_155 ?_
                refine zj_callVi C F Z [.ref (zad Γ 47), .int (i32 1), .int (i32 60)] [] cal_X0_readNumber calv_X0_readNumber ml_X0_93 zk_45 rfl rfl (by decide) (Nat.le_of_ble_eq_true rfl) rfl dX0_readLine_157 (fun q h => M_X0_readNumber l Γ F zk_47 irc_1 irc_60 m45 q h) (fun y56 m57 h_y56 => ?_)
                exact zrt_zc C Z dX0_readLine_160
              · refine zj_lookup (off := 66) C 161 h_y2 dX0_readLine_95 rfl (by show Op.lookupswitch.offset [(0, 33), (30, 48), (40, 54)] 66 _ = _; rw [Op.lookupswitch.offset_cons, if_neg (fun z => c46 z.symm), Op.lookupswitch.offset_cons, if_neg (fun z => c52 z.symm), Op.lookupswitch.offset_cons, if_neg (fun z => c55 z.symm)]; rfl) rfl ?_
                refine zj_aload_n (j := 0) (i := 0) C rfl 2 rfl dX0_readLine_161 ?_
                refine zj_aload_n (j := 0) (i := 0) C rfl 2 rfl dX0_readLine_162 ?_
                refine zj_getR C F zk_45 fl_X0_15 rfl rf_45_2 dX0_readLine_163 ?_
                refine zj_iconst C 0 dX0_readLine_166 ?_
                refine zj_bipush C 7 rfl dX0_readLine_167 ?_
                refine zj_callVi C F Z [.ref (zad Γ 47), .int (i32 0), .int (i32 7)] [] cal_X0_readNumber calv_X0_readNumber ml_X0_93 zk_45 rfl rfl (by decide) (Nat.le_of_ble_eq_true rfl) rfl dX0_readLine_169 (fun q h => M_X0_readNumber l Γ F zk_47 irc_0 irc_7 m45 q h) (fun y58 m59 h_y58 => ?_)
                refine zj_if_eq C 193 h_y58 dX0_readLine_172 rfl (fun c60 => ?_) (fun c60 => ?_)
                · refine zj_iconst C 0 dX0_readLine_193 ?_
                  exact zrt_z C Z (Or.inl rfl) dX0_readLine_194
                · refine zj_aload_n (j := 0) (i := 0) C rfl 2 rfl dX0_readLine_175 ?_
                  refine zj_aload_n (j := 0) (i := 0) C rfl 2 rfl dX0_readLine_176 ?_
                  refine zj_getR C F zk_45 fl_X0_18 rfl rf_45_3 dX0_readLine_177 ?_
                  refine zj_iconst C 0 dX0_readLine_180 ?_
                  refine zj_bipush C 7 rfl dX0_readLine_181 ?_
                  refine zj_callVi C F Z [.ref (zad Γ 48), .int (i32 0), .int (i32 7)] [] cal_X0_readNumber calv_X0_readNumber ml_X0_93 zk_45 rfl rfl (by decide) (Nat.le_of_ble_eq_true rfl) rfl dX0_readLine_183 (fun q h => M_X0_readNumber l Γ F zk_48 irc_0 irc_7 m59 q h) (fun y61 m62 h_y61 => ?_)
                  refine zj_if_eq C 193 h_y61 dX0_readLine_186 rfl (fun c63 => ?_) (fun c63 => ?_)
                  · refine zj_iconst C 0 dX0_readLine_193 ?_
                    exact zrt_z C Z (Or.inl rfl) dX0_readLine_194
                  · refine zj_iconst C 1 dX0_readLine_189 ?_
                    refine zj_goto (tgt := 194) C dX0_readLine_190 rfl ?_
                    exact zrt_z C Z (Or.inr rfl) dX0_readLine_194
        · refine zj_aload_n (j := 0) (i := 0) C rfl 2 rfl dX0_readLine_75 ?_
          refine zj_getR C F zk_45 fl_X0_41 rfl rf_45_0 dX0_readLine_76 ?_
          refine zj_iconst C 4 dX0_readLine_79 ?_
          refine zj_callVi C F Z [.int (i32 4)] [] cal_X6_fail calv_X6_fail ml_X0_72 zk_1 rfl rfl (by decide) (Nat.le_of_ble_eq_true rfl) rfl dX0_readLine_80 (fun q h => M_X6_fail l Γ F irc_4 m11 q h) (fun y64 m65 h_y64 => ?_)
          exact zrt_zc C Z dX0_readLine_83
  · refine zj_aload_n (j := 0) (i := 0) C rfl 1 rfl dX0_readLine_27 ?_
    refine zj_getR C F zk_45 fl_X0_41 rfl rf_45_0 dX0_readLine_28 ?_
    refine zj_iconst C 1 dX0_readLine_31 ?_
    refine zj_callVi C F Z [.int (i32 1)] [] cal_X6_fail calv_X6_fail ml_X0_72 zk_1 rfl rfl (by decide) (Nat.le_of_ble_eq_true rfl) rfl dX0_readLine_32 (fun q h => M_X6_fail l Γ F irc_1 m3 q h) (fun y66 m67 h_y66 => ?_)
    exact zrt_zc C Z dX0_readLine_35
noncomputable def f_X0_liveLine (t0 : Nat) (x1 : Int) (x2 : Int) (x3 : Int) (mem : zMem) : Option (Int × zMem) := zbind (f_X0_whyNot t0 x1 x2 x3 mem) fun y1 m2 => if y1 = 0 then (if x1 = 0 then (zbind (f_X3_makeStep t0 x2 x3 m2) fun _ m5 => some (0, m5)) else (if x1 = 10 then (zbind (f_X3_layStone t0 (w32 ((w32 (8 * x3)) + x2)) m2) fun _ m7 => some (0, m7)) else (if x1 = 20 then (zbind (f_X3_tearStone t0 (w32 ((w32 (8 * x3)) + x2)) m2) fun _ m9 => some (0, m9)) else (if x1 = 30 then (zbind (f_X3_buryHouse t0 x2 m2) fun _ m11 => some (0, m11)) else (pipe (zup m2 (sRf t0 1) 5 (w32 ((m2 (sRf t0 1) 5) + x2))) fun m13 => some (0, m13)))))) else (some ((w32 (x1 + y1)), m2))
set_option maxHeartbeats 4000000 in
theorem M_X0_liveLine (l : Launch) (Γ : zG) (F : zFull Γ)  {t0 : Nat} {x1 : Int} {x2 : Int} {x3 : Int} (h_t0 : zk t0 3) (h_x1 : ir x1) (h_x2 : ir x2) (h_x3 : ir x3) (mem : zMem) (q : Int × zMem) (h : f_X0_liveLine t0 x1 x2 x3 mem = some q) : zMet l yX0_liveLine cX0_liveLine 5 (some .int) 5 Γ 1 [.ref (zad Γ t0), .int (i32 x1), .int (i32 x2), .int (i32 x3)] mem q := by
  refine zMet_of (own := "ShadowHeirs$Book") (by decide) rfl (Nat.le_of_ble_eq_true rfl) (fun X C Z => ?_)
  revert h
  show zJ X Γ 5 q (f_X0_liveLine t0 x1 x2 x3 mem) 0 [(0, .ref (zad Γ t0)), (1, .int (i32 x1)), (2, .int (i32 x2)), (3, .int (i32 x3))] [] mem
  unfold f_X0_liveLine
  refine zj_aload_n (j := 0) (i := 0) C rfl 0 rfl dX0_liveLine_0 ?_
  refine zj_iload_n (j := 1) (i := 1) C rfl 1 rfl dX0_liveLine_1 ?_
  refine zj_iload_n (j := 2) (i := 2) C rfl 2 rfl dX0_liveLine_2 ?_
  refine zj_iload_n (j := 3) (i := 3) C rfl 3 rfl dX0_liveLine_3 ?_
  refine zj_callSi C Z [.ref (zad Γ t0), .int (i32 x1), .int (i32 x2), .int (i32 x3)] [] cal_X0_whyNot sta_X0_whyNot ml_X0_129 rfl (by decide) (Nat.le_of_ble_eq_true rfl) rfl dX0_liveLine_4 (fun q h => M_X0_whyNot l Γ F h_t0 h_x1 h_x2 h_x3 mem q h) (fun y1 m2 h_y1 => ?_)
  refine zj_istore C [(4, .int (i32 y1)), (0, .ref (zad Γ t0)), (1, .int (i32 x1)), (2, .int (i32 x2)), (3, .int (i32 x3))] dX0_liveLine_7 (by decide) rfl ?_
  refine zj_iload C 0 rfl dX0_liveLine_9 ?_
  refine zj_if_eq C 19 h_y1 dX0_liveLine_11 rfl (fun c3 => ?_) (fun c3 => ?_)
  · refine zj_iload_n (j := 1) (i := 1) C rfl 2 rfl dX0_liveLine_19 ?_
    refine zj_split (fun c4 => ?_) (fun c4 => ?_)
    · refine zj_lookup (off := 44) C 64 h_x1 dX0_liveLine_20 rfl (by rw [c4]; rfl) rfl ?_
      refine zj_aload_n (j := 0) (i := 0) C rfl 1 rfl dX0_liveLine_64 ?_
      refine zj_iload_n (j := 2) (i := 2) C rfl 3 rfl dX0_liveLine_65 ?_
      refine zj_iload_n (j := 3) (i := 3) C rfl 4 rfl dX0_liveLine_66 ?_
      refine zj_callVv C F Z [.int (i32 x2), .int (i32 x3)] [] cal_X3_makeStep calv_X3_makeStep ml_X0_132 h_t0 rfl rfl (by decide) (Nat.le_of_ble_eq_true rfl) rfl dX0_liveLine_67 (fun q h => M_X3_makeStep l Γ F h_t0 h_x2 h_x3 m2 q h) (fun _ m5 _ => ?_)
      refine zj_goto (tgt := 120) C dX0_liveLine_70 rfl ?_
      refine zj_iconst C 0 dX0_liveLine_120 ?_
      exact zrt_i C Z irc_0 dX0_liveLine_121
    · refine zj_split (fun c6 => ?_) (fun c6 => ?_)
      · refine zj_lookup (off := 53) C 73 h_x1 dX0_liveLine_20 rfl (by rw [c6]; rfl) rfl ?_
        refine zj_aload_n (j := 0) (i := 0) C rfl 1 rfl dX0_liveLine_73 ?_
        refine zj_bipush C 8 rfl dX0_liveLine_74 ?_
        refine zj_iload_n (j := 3) (i := 3) C rfl 4 rfl dX0_liveLine_76 ?_
        refine zj_imul C dX0_liveLine_77 ?_
        refine zj_iload_n (j := 2) (i := 2) C rfl 3 rfl dX0_liveLine_78 ?_
        refine zj_iadd C dX0_liveLine_79 ?_
        refine zj_callVv C F Z [.int (i32 (w32 ((w32 (8 * x3)) + x2)))] [] cal_X3_layStone calv_X3_layStone ml_X0_136 h_t0 rfl rfl (by decide) (Nat.le_of_ble_eq_true rfl) rfl dX0_liveLine_80 (fun q h => M_X3_layStone l Γ F h_t0 (ir_w _) m2 q h) (fun _ m7 _ => ?_)
        refine zj_goto (tgt := 120) C dX0_liveLine_83 rfl ?_
        refine zj_iconst C 0 dX0_liveLine_120 ?_
        exact zrt_i C Z irc_0 dX0_liveLine_121
      · refine zj_split (fun c8 => ?_) (fun c8 => ?_)
        · refine zj_lookup (off := 66) C 86 h_x1 dX0_liveLine_20 rfl (by rw [c8]; rfl) rfl ?_
          refine zj_aload_n (j := 0) (i := 0) C rfl 1 rfl dX0_liveLine_86 ?_
          refine zj_bipush C 8 rfl dX0_liveLine_87 ?_
          refine zj_iload_n (j := 3) (i := 3) C rfl 4 rfl dX0_liveLine_89 ?_
          refine zj_imul C dX0_liveLine_90 ?_
          refine zj_iload_n (j := 2) (i := 2) C rfl 3 rfl dX0_liveLine_91 ?_
          refine zj_iadd C dX0_liveLine_92 ?_
          refine zj_callVv C F Z [.int (i32 (w32 ((w32 (8 * x3)) + x2)))] [] cal_X3_tearStone calv_X3_tearStone ml_X0_139 h_t0 rfl rfl (by decide) (Nat.le_of_ble_eq_true rfl) rfl dX0_liveLine_93 (fun q h => M_X3_tearStone l Γ F h_t0 (ir_w _) m2 q h) (fun _ m9 _ => ?_)
          refine zj_goto (tgt := 120) C dX0_liveLine_96 rfl ?_
          refine zj_iconst C 0 dX0_liveLine_120 ?_
          exact zrt_i C Z irc_0 dX0_liveLine_121
        · refine zj_split (fun c10 => ?_) (fun c10 => ?_)
          · refine zj_lookup (off := 79) C 99 h_x1 dX0_liveLine_20 rfl (by rw [c10]; rfl) rfl ?_
            refine zj_aload_n (j := 0) (i := 0) C rfl 1 rfl dX0_liveLine_99 ?_
            refine zj_iload_n (j := 2) (i := 2) C rfl 3 rfl dX0_liveLine_100 ?_
            refine zj_callVv C F Z [.int (i32 x2)] [] cal_X3_buryHouse calv_X3_buryHouse ml_X0_142 h_t0 rfl rfl (by decide) (Nat.le_of_ble_eq_true rfl) rfl dX0_liveLine_101 (fun q h => M_X3_buryHouse l Γ F h_t0 h_x2 m2 q h) (fun _ m11 _ => ?_)
            refine zj_goto (tgt := 120) C dX0_liveLine_104 rfl ?_
            refine zj_iconst C 0 dX0_liveLine_120 ?_
            exact zrt_i C Z irc_0 dX0_liveLine_121
          · refine zj_lookup (off := 87) C 107 h_x1 dX0_liveLine_20 rfl (by show Op.lookupswitch.offset [(0, 44), (10, 53), (20, 66), (30, 79)] 87 _ = _; rw [Op.lookupswitch.offset_cons, if_neg (fun z => c4 z.symm), Op.lookupswitch.offset_cons, if_neg (fun z => c6 z.symm), Op.lookupswitch.offset_cons, if_neg (fun z => c8 z.symm), Op.lookupswitch.offset_cons, if_neg (fun z => c10 z.symm)]; rfl) rfl ?_
            refine zj_aload_n (j := 0) (i := 0) C rfl 1 rfl dX0_liveLine_107 ?_
            refine zj_getR C F h_t0 fl_X0_114 rfl rfl dX0_liveLine_108 ?_
            refine zj_dup C rfl dX0_liveLine_111 ?_
            refine zj_getI C F 5 rfl (zt_3_1 h_t0) fl_X0_120 rfl dX0_liveLine_112 (fun h12 => ?_)
            refine zj_iload_n (j := 2) (i := 2) C rfl 3 rfl dX0_liveLine_115 ?_
            refine zj_iadd C dX0_liveLine_116 ?_
            refine zj_putI C F 5 rfl (zt_3_1 h_t0) fl_X0_120 rfl fp_7_5 (ir_w _) dX0_liveLine_117 ?_
            refine zj_pipeM (fun m13 e_m13 => ?_)
            refine zj_iconst C 0 dX0_liveLine_120 ?_
            exact zrt_i C Z irc_0 dX0_liveLine_121
  · refine zj_iload_n (j := 1) (i := 1) C rfl 2 rfl dX0_liveLine_14 ?_
    refine zj_iload C 0 rfl dX0_liveLine_15 ?_
    refine zj_iadd C dX0_liveLine_17 ?_
    exact zrt_i C Z (ir_w _) dX0_liveLine_18
noncomputable def b_X1_liveHours_0 (rec : Nat → Nat → Int → Int → Int → zMem → Option (Int × zMem)) (tag : Nat) (r1 : Nat) (v4 : Int) (v5 : Int) (v6 : Int) (mem : zMem) : Option (Int × zMem) := match tag with
  | 0 => if v5 ≥ v4 then (some (v4, mem)) else (rec 1 r1 v4 v5 0 mem)
  | _ => if v6 ≥ (mem (sRf r1 0) 3) then (zbind (f_X1_draw 10 mem) fun y1003 m1004 => if y1003 = 0 then (if (m1004 (sRf r1 0) 2) ≤ 0 then (pipe (zup m1004 (sRf r1 1) 5 (w32 ((m1004 (sRf r1 1) 5) + 1))) fun m1009 => rec 0 r1 v4 (w32 (v5 + 1)) 0 m1009) else (zbind (f_X1_draw (m1004 (sRf r1 0) 2) m1004) fun y1011 m1012 => zbind (f_X3_whyNotBury r1 y1011 m1012) fun y1013 m1014 => if y1013 = 0 then (zbind (f_X3_buryHouse r1 y1011 m1014) fun _ m1016 => pipe (zup m1016 (sRf r1 1) 5 (w32 ((m1016 (sRf r1 1) 5) + 1))) fun m1018 => rec 0 r1 v4 (w32 (v5 + 1)) 0 m1018) else (pipe (zup m1014 (sRf r1 1) 5 (w32 ((m1014 (sRf r1 1) 5) + 1))) fun m1020 => rec 0 r1 v4 (w32 (v5 + 1)) 0 m1020))) else (pipe (zup m1004 (sRf r1 1) 5 (w32 ((m1004 (sRf r1 1) 5) + 1))) fun m1022 => rec 0 r1 v4 (w32 (v5 + 1)) 0 m1022)) else (if v6 ≥ 6 then (zbind (f_X1_draw 10 mem) fun y1024 m1025 => if y1024 = 0 then (if (m1025 (sRf r1 0) 2) ≤ 0 then (pipe (zup m1025 (sRf r1 1) 5 (w32 ((m1025 (sRf r1 1) 5) + 1))) fun m1030 => rec 0 r1 v4 (w32 (v5 + 1)) 0 m1030) else (zbind (f_X1_draw (m1025 (sRf r1 0) 2) m1025) fun y1032 m1033 => zbind (f_X3_whyNotBury r1 y1032 m1033) fun y1034 m1035 => if y1034 = 0 then (zbind (f_X3_buryHouse r1 y1032 m1035) fun _ m1037 => pipe (zup m1037 (sRf r1 1) 5 (w32 ((m1037 (sRf r1 1) 5) + 1))) fun m1039 => rec 0 r1 v4 (w32 (v5 + 1)) 0 m1039) else (pipe (zup m1035 (sRf r1 1) 5 (w32 ((m1035 (sRf r1 1) 5) + 1))) fun m1041 => rec 0 r1 v4 (w32 (v5 + 1)) 0 m1041))) else (pipe (zup m1025 (sRf r1 1) 5 (w32 ((m1025 (sRf r1 1) 5) + 1))) fun m1043 => rec 0 r1 v4 (w32 (v5 + 1)) 0 m1043)) else (zbind (f_X1_livePerson r1 v6 mem) fun _ m1044 => rec 1 r1 v4 v5 (w32 (v6 + 1)) m1044))
noncomputable def f_X1_liveHours_0 : Nat → Nat → Nat → Int → Int → Int → zMem → Option (Int × zMem) := zfuel (fun _ _ _ _ _ _ => none) (b_X1_liveHours_0)
set_option maxHeartbeats 4000000 in
theorem L_X1_liveHours_0 (l : Launch) {Γ : zG} (F : zFull Γ) {X : zM} {q : Int × zMem} (C : zC X Γ "ShadowHeirs$Draws" cX1_liveHours 7) (Z : zRt X l Γ 5 1 (some .int) q) : ∀ n : Nat, (∀ (r1 : Nat) (v4 : Int) (v5 : Int) (v6 : Int) (h_r1 : zk r1 3) (h_v4 : ir v4) (h_v5 : ir v5) (mem : zMem), zJ X Γ 7 q (f_X1_liveHours_0 n 0 r1 v4 v5 v6 mem) 25 [(0, .ref (zad Γ 101)), (1, .ref (zad Γ r1)), (4, .int (i32 v4)), (5, .int (i32 v5))] [] mem) ∧ (∀ (r1 : Nat) (v4 : Int) (v5 : Int) (v6 : Int) (h_r1 : zk r1 3) (h_v4 : ir v4) (h_v5 : ir v5) (h_v6 : ir v6) (mem : zMem), zJ X Γ 7 q (f_X1_liveHours_0 n 1 r1 v4 v5 v6 mem) 35 [(0, .ref (zad Γ 101)), (1, .ref (zad Γ r1)), (4, .int (i32 v4)), (5, .int (i32 v5)), (6, .int (i32 v6))] [] mem) := by
  intro n
  induction n with
  | zero => exact ⟨(by intros; exact zj_none), (by intros; exact zj_none)⟩
  | succ n ih =>
    refine ⟨?_, ?_⟩
    · intro r1 v4 v5 v6 h_r1 h_v4 h_v5 mem
      show zJ X Γ 7 q (b_X1_liveHours_0 (f_X1_liveHours_0 n) 0 r1 v4 v5 v6 mem) _ _ _ _
      unfold b_X1_liveHours_0
      refine zj_iload C 3 rfl dX1_liveHours_25 ?_
      refine zj_iload C 2 rfl dX1_liveHours_27 ?_
      refine zj_icmp_ge C 133 h_v5 h_v4 dX1_liveHours_29 rfl (fun c1 => ?_) (fun c1 => ?_)
      · refine zj_iload C 2 rfl dX1_liveHours_133 ?_
        exact zrt_i C Z h_v4 dX1_liveHours_135
      · refine zj_iconst C 0 dX1_liveHours_32 ?_
        refine zj_istore C [(6, .int (i32 0)), (0, .ref (zad Γ 101)), (1, .ref (zad Γ r1)), (4, .int (i32 v4)), (5, .int (i32 v5))] dX1_liveHours_33 (by decide) rfl ?_
        exact zj_sub [1, 2, 3, 4, 0] rfl (ih.2 r1 v4 v5 0 h_r1 h_v4 h_v5 irc_0 mem)
    · intro r1 v4 v5 v6 h_r1 h_v4 h_v5 h_v6 mem
      show zJ X Γ 7 q (b_X1_liveHours_0 (f_X1_liveHours_0 n) 1 r1 v4 v5 v6 mem) _ _ _ _
      unfold b_X1_liveHours_0
      refine zj_iload C 4 rfl dX1_liveHours_35 ?_
      refine zj_aload_n (j := 1) (i := 1) C rfl 1 rfl dX1_liveHours_37 ?_
      refine zj_getR C F h_r1 fl_X1_33 rfl rfl dX1_liveHours_38 ?_
      refine zj_getI C F 3 rfl (zt_3_0 h_r1) fl_X1_37 rfl dX1_liveHours_41 (fun h1001 => ?_)
      refine zj_icmp_ge C 67 h_v6 h1001 dX1_liveHours_44 rfl (fun c1002 => ?_) (fun c1002 => ?_)
      · refine zj_aload_n (j := 0) (i := 0) C rfl 0 rfl dX1_liveHours_67 ?_
        refine zj_bipush C 10 rfl dX1_liveHours_68 ?_
        refine zj_callVi C F Z [.int (i32 10)] [] cal_X1_draw calv_X1_draw ml_X1_46 zk_101 rfl rfl (by decide) (Nat.le_of_ble_eq_true rfl) rfl dX1_liveHours_70 (fun q h => M_X1_draw l Γ F irc_10 mem q h) (fun y1003 m1004 h_y1003 => ?_)
        refine zj_if_ne C 114 h_y1003 dX1_liveHours_73 rfl (fun c1005 => ?_) (fun c1005 => ?_)
        · refine zj_aload_n (j := 1) (i := 1) C rfl 1 rfl dX1_liveHours_76 ?_
          refine zj_getR C F h_r1 fl_X1_33 rfl rfl dX1_liveHours_77 ?_
          refine zj_getI C F 2 rfl (zt_3_0 h_r1) fl_X1_50 rfl dX1_liveHours_80 (fun h1006 => ?_)
          refine zj_if_le C 114 h1006 dX1_liveHours_83 rfl (fun c1007 => ?_) (fun c1007 => ?_)
          · refine zj_aload_n (j := 1) (i := 1) C rfl 1 rfl dX1_liveHours_114 ?_
            refine zj_getR C F h_r1 fl_X1_16 rfl rfl dX1_liveHours_115 ?_
            refine zj_dup C rfl dX1_liveHours_118 ?_
            refine zj_getI C F 5 rfl (zt_3_1 h_r1) fl_X1_22 rfl dX1_liveHours_119 (fun h1008 => ?_)
            refine zj_iconst C 1 dX1_liveHours_122 ?_
            refine zj_iadd C dX1_liveHours_123 ?_
            refine zj_putI C F 5 rfl (zt_3_1 h_r1) fl_X1_22 rfl fp_7_5 (ir_w _) dX1_liveHours_124 ?_
            refine zj_pipeM (fun m1009 e_m1009 => ?_)
            refine zj_iinc C 3 [(5, .int (i32 (w32 (v5 + 1)))), (0, .ref (zad Γ 101)), (1, .ref (zad Γ r1)), (4, .int (i32 v4)), (6, .int (i32 v6))] rfl dX1_liveHours_127 (by decide) rfl ?_
            refine zj_goto (tgt := 25) C dX1_liveHours_130 rfl ?_
            exact zj_sub [1, 2, 3, 0] rfl (ih.1 r1 v4 (w32 (v5 + 1)) 0 h_r1 h_v4 (ir_w _) m1009)
          · refine zj_aload_n (j := 0) (i := 0) C rfl 0 rfl dX1_liveHours_86 ?_
            refine zj_aload_n (j := 1) (i := 1) C rfl 1 rfl dX1_liveHours_87 ?_
            refine zj_getR C F h_r1 fl_X1_33 rfl rfl dX1_liveHours_88 ?_
            refine zj_getI C F 2 rfl (zt_3_0 h_r1) fl_X1_50 rfl dX1_liveHours_91 (fun h1010 => ?_)
            refine zj_callVi C F Z [.int (i32 (m1004 (sRf r1 0) 2))] [] cal_X1_draw calv_X1_draw ml_X1_46 zk_101 rfl rfl (by decide) (Nat.le_of_ble_eq_true rfl) rfl dX1_liveHours_94 (fun q h => M_X1_draw l Γ F h1010 m1004 q h) (fun y1011 m1012 h_y1011 => ?_)
            refine zj_istore C [(6, .int (i32 y1011)), (0, .ref (zad Γ 101)), (1, .ref (zad Γ r1)), (4, .int (i32 v4)), (5, .int (i32 v5))] dX1_liveHours_97 (by decide) rfl ?_
            refine zj_aload_n (j := 1) (i := 1) C rfl 2 rfl dX1_liveHours_99 ?_
            refine zj_iload C 0 rfl dX1_liveHours_100 ?_
            refine zj_callVi C F Z [.int (i32 y1011)] [] cal_X3_whyNotBury calv_X3_whyNotBury ml_X1_53 h_r1 rfl rfl (by decide) (Nat.le_of_ble_eq_true rfl) rfl dX1_liveHours_102 (fun q h => M_X3_whyNotBury l Γ F h_r1 h_y1011 m1012 q h) (fun y1013 m1014 h_y1013 => ?_)
            refine zj_if_ne C 114 h_y1013 dX1_liveHours_105 rfl (fun c1015 => ?_) (fun c1015 => ?_)
            · refine zj_aload_n (j := 1) (i := 1) C rfl 2 rfl dX1_liveHours_108 ?_
              refine zj_iload C 0 rfl dX1_liveHours_109 ?_
              refine zj_callVv C F Z [.int (i32 y1011)] [] cal_X3_buryHouse calv_X3_buryHouse ml_X1_56 h_r1 rfl rfl (by decide) (Nat.le_of_ble_eq_true rfl) rfl dX1_liveHours_111 (fun q h => M_X3_buryHouse l Γ F h_r1 h_y1011 m1014 q h) (fun _ m1016 _ => ?_)
              refine zj_aload_n (j := 1) (i := 1) C rfl 2 rfl dX1_liveHours_114 ?_
              refine zj_getR C F h_r1 fl_X1_16 rfl rfl dX1_liveHours_115 ?_
              refine zj_dup C rfl dX1_liveHours_118 ?_
              refine zj_getI C F 5 rfl (zt_3_1 h_r1) fl_X1_22 rfl dX1_liveHours_119 (fun h1017 => ?_)
              refine zj_iconst C 1 dX1_liveHours_122 ?_
              refine zj_iadd C dX1_liveHours_123 ?_
              refine zj_putI C F 5 rfl (zt_3_1 h_r1) fl_X1_22 rfl fp_7_5 (ir_w _) dX1_liveHours_124 ?_
              refine zj_pipeM (fun m1018 e_m1018 => ?_)
              refine zj_iinc C 4 [(5, .int (i32 (w32 (v5 + 1)))), (6, .int (i32 y1011)), (0, .ref (zad Γ 101)), (1, .ref (zad Γ r1)), (4, .int (i32 v4))] rfl dX1_liveHours_127 (by decide) rfl ?_
              refine zj_goto (tgt := 25) C dX1_liveHours_130 rfl ?_
              exact zj_sub [2, 3, 4, 0] rfl (ih.1 r1 v4 (w32 (v5 + 1)) 0 h_r1 h_v4 (ir_w _) m1018)
            · refine zj_aload_n (j := 1) (i := 1) C rfl 2 rfl dX1_liveHours_114 ?_
              refine zj_getR C F h_r1 fl_X1_16 rfl rfl dX1_liveHours_115 ?_
              refine zj_dup C rfl dX1_liveHours_118 ?_
              refine zj_getI C F 5 rfl (zt_3_1 h_r1) fl_X1_22 rfl dX1_liveHours_119 (fun h1019 => ?_)
              refine zj_iconst C 1 dX1_liveHours_122 ?_
              refine zj_iadd C dX1_liveHours_123 ?_
              refine zj_putI C F 5 rfl (zt_3_1 h_r1) fl_X1_22 rfl fp_7_5 (ir_w _) dX1_liveHours_124 ?_
              refine zj_pipeM (fun m1020 e_m1020 => ?_)
              refine zj_iinc C 4 [(5, .int (i32 (w32 (v5 + 1)))), (6, .int (i32 y1011)), (0, .ref (zad Γ 101)), (1, .ref (zad Γ r1)), (4, .int (i32 v4))] rfl dX1_liveHours_127 (by decide) rfl ?_
              refine zj_goto (tgt := 25) C dX1_liveHours_130 rfl ?_
              exact zj_sub [2, 3, 4, 0] rfl (ih.1 r1 v4 (w32 (v5 + 1)) 0 h_r1 h_v4 (ir_w _) m1020)
        · refine zj_aload_n (j := 1) (i := 1) C rfl 1 rfl dX1_liveHours_114 ?_
          refine zj_getR C F h_r1 fl_X1_16 rfl rfl dX1_liveHours_115 ?_
          refine zj_dup C rfl dX1_liveHours_118 ?_
          refine zj_getI C F 5 rfl (zt_3_1 h_r1) fl_X1_22 rfl dX1_liveHours_119 (fun h1021 => ?_)
          refine zj_iconst C 1 dX1_liveHours_122 ?_
          refine zj_iadd C dX1_liveHours_123 ?_
          refine zj_putI C F 5 rfl (zt_3_1 h_r1) fl_X1_22 rfl fp_7_5 (ir_w _) dX1_liveHours_124 ?_
          refine zj_pipeM (fun m1022 e_m1022 => ?_)
          refine zj_iinc C 3 [(5, .int (i32 (w32 (v5 + 1)))), (0, .ref (zad Γ 101)), (1, .ref (zad Γ r1)), (4, .int (i32 v4)), (6, .int (i32 v6))] rfl dX1_liveHours_127 (by decide) rfl ?_
          refine zj_goto (tgt := 25) C dX1_liveHours_130 rfl ?_
          exact zj_sub [1, 2, 3, 0] rfl (ih.1 r1 v4 (w32 (v5 + 1)) 0 h_r1 h_v4 (ir_w _) m1022)
      · refine zj_iload C 4 rfl dX1_liveHours_47 ?_
        refine zj_bipush C 6 rfl dX1_liveHours_49 ?_
        refine zj_icmp_ge C 67 h_v6 irc_6 dX1_liveHours_51 rfl (fun c1023 => ?_) (fun c1023 => ?_)
        · refine zj_aload_n (j := 0) (i := 0) C rfl 0 rfl dX1_liveHours_67 ?_
          refine zj_bipush C 10 rfl dX1_liveHours_68 ?_
          refine zj_callVi C F Z [.int (i32 10)] [] cal_X1_draw calv_X1_draw ml_X1_46 zk_101 rfl rfl (by decide) (Nat.le_of_ble_eq_true rfl) rfl dX1_liveHours_70 (fun q h => M_X1_draw l Γ F irc_10 mem q h) (fun y1024 m1025 h_y1024 => ?_)
          refine zj_if_ne C 114 h_y1024 dX1_liveHours_73 rfl (fun c1026 => ?_) (fun c1026 => ?_)
          · refine zj_aload_n (j := 1) (i := 1) C rfl 1 rfl dX1_liveHours_76 ?_
            refine zj_getR C F h_r1 fl_X1_33 rfl rfl dX1_liveHours_77 ?_
            refine zj_getI C F 2 rfl (zt_3_0 h_r1) fl_X1_50 rfl dX1_liveHours_80 (fun h1027 => ?_)
            refine zj_if_le C 114 h1027 dX1_liveHours_83 rfl (fun c1028 => ?_) (fun c1028 => ?_)
            · refine zj_aload_n (j := 1) (i := 1) C rfl 1 rfl dX1_liveHours_114 ?_
              refine zj_getR C F h_r1 fl_X1_16 rfl rfl dX1_liveHours_115 ?_
              refine zj_dup C rfl dX1_liveHours_118 ?_
              refine zj_getI C F 5 rfl (zt_3_1 h_r1) fl_X1_22 rfl dX1_liveHours_119 (fun h1029 => ?_)
              refine zj_iconst C 1 dX1_liveHours_122 ?_
              refine zj_iadd C dX1_liveHours_123 ?_
              refine zj_putI C F 5 rfl (zt_3_1 h_r1) fl_X1_22 rfl fp_7_5 (ir_w _) dX1_liveHours_124 ?_
              refine zj_pipeM (fun m1030 e_m1030 => ?_)
              refine zj_iinc C 3 [(5, .int (i32 (w32 (v5 + 1)))), (0, .ref (zad Γ 101)), (1, .ref (zad Γ r1)), (4, .int (i32 v4)), (6, .int (i32 v6))] rfl dX1_liveHours_127 (by decide) rfl ?_
              refine zj_goto (tgt := 25) C dX1_liveHours_130 rfl ?_
              exact zj_sub [1, 2, 3, 0] rfl (ih.1 r1 v4 (w32 (v5 + 1)) 0 h_r1 h_v4 (ir_w _) m1030)
            · refine zj_aload_n (j := 0) (i := 0) C rfl 0 rfl dX1_liveHours_86 ?_
              refine zj_aload_n (j := 1) (i := 1) C rfl 1 rfl dX1_liveHours_87 ?_
              refine zj_getR C F h_r1 fl_X1_33 rfl rfl dX1_liveHours_88 ?_
              refine zj_getI C F 2 rfl (zt_3_0 h_r1) fl_X1_50 rfl dX1_liveHours_91 (fun h1031 => ?_)
              refine zj_callVi C F Z [.int (i32 (m1025 (sRf r1 0) 2))] [] cal_X1_draw calv_X1_draw ml_X1_46 zk_101 rfl rfl (by decide) (Nat.le_of_ble_eq_true rfl) rfl dX1_liveHours_94 (fun q h => M_X1_draw l Γ F h1031 m1025 q h) (fun y1032 m1033 h_y1032 => ?_)
              refine zj_istore C [(6, .int (i32 y1032)), (0, .ref (zad Γ 101)), (1, .ref (zad Γ r1)), (4, .int (i32 v4)), (5, .int (i32 v5))] dX1_liveHours_97 (by decide) rfl ?_
              refine zj_aload_n (j := 1) (i := 1) C rfl 2 rfl dX1_liveHours_99 ?_
              refine zj_iload C 0 rfl dX1_liveHours_100 ?_
              refine zj_callVi C F Z [.int (i32 y1032)] [] cal_X3_whyNotBury calv_X3_whyNotBury ml_X1_53 h_r1 rfl rfl (by decide) (Nat.le_of_ble_eq_true rfl) rfl dX1_liveHours_102 (fun q h => M_X3_whyNotBury l Γ F h_r1 h_y1032 m1033 q h) (fun y1034 m1035 h_y1034 => ?_)
              refine zj_if_ne C 114 h_y1034 dX1_liveHours_105 rfl (fun c1036 => ?_) (fun c1036 => ?_)
              · refine zj_aload_n (j := 1) (i := 1) C rfl 2 rfl dX1_liveHours_108 ?_
                refine zj_iload C 0 rfl dX1_liveHours_109 ?_
                refine zj_callVv C F Z [.int (i32 y1032)] [] cal_X3_buryHouse calv_X3_buryHouse ml_X1_56 h_r1 rfl rfl (by decide) (Nat.le_of_ble_eq_true rfl) rfl dX1_liveHours_111 (fun q h => M_X3_buryHouse l Γ F h_r1 h_y1032 m1035 q h) (fun _ m1037 _ => ?_)
                refine zj_aload_n (j := 1) (i := 1) C rfl 2 rfl dX1_liveHours_114 ?_
                refine zj_getR C F h_r1 fl_X1_16 rfl rfl dX1_liveHours_115 ?_
                refine zj_dup C rfl dX1_liveHours_118 ?_
                refine zj_getI C F 5 rfl (zt_3_1 h_r1) fl_X1_22 rfl dX1_liveHours_119 (fun h1038 => ?_)
                refine zj_iconst C 1 dX1_liveHours_122 ?_
                refine zj_iadd C dX1_liveHours_123 ?_
                refine zj_putI C F 5 rfl (zt_3_1 h_r1) fl_X1_22 rfl fp_7_5 (ir_w _) dX1_liveHours_124 ?_
                refine zj_pipeM (fun m1039 e_m1039 => ?_)
                refine zj_iinc C 4 [(5, .int (i32 (w32 (v5 + 1)))), (6, .int (i32 y1032)), (0, .ref (zad Γ 101)), (1, .ref (zad Γ r1)), (4, .int (i32 v4))] rfl dX1_liveHours_127 (by decide) rfl ?_
                refine zj_goto (tgt := 25) C dX1_liveHours_130 rfl ?_
                exact zj_sub [2, 3, 4, 0] rfl (ih.1 r1 v4 (w32 (v5 + 1)) 0 h_r1 h_v4 (ir_w _) m1039)
              · refine zj_aload_n (j := 1) (i := 1) C rfl 2 rfl dX1_liveHours_114 ?_
                refine zj_getR C F h_r1 fl_X1_16 rfl rfl dX1_liveHours_115 ?_
                refine zj_dup C rfl dX1_liveHours_118 ?_
                refine zj_getI C F 5 rfl (zt_3_1 h_r1) fl_X1_22 rfl dX1_liveHours_119 (fun h1040 => ?_)
                refine zj_iconst C 1 dX1_liveHours_122 ?_
                refine zj_iadd C dX1_liveHours_123 ?_
                refine zj_putI C F 5 rfl (zt_3_1 h_r1) fl_X1_22 rfl fp_7_5 (ir_w _) dX1_liveHours_124 ?_
                refine zj_pipeM (fun m1041 e_m1041 => ?_)
                refine zj_iinc C 4 [(5, .int (i32 (w32 (v5 + 1)))), (6, .int (i32 y1032)), (0, .ref (zad Γ 101)), (1, .ref (zad Γ r1)), (4, .int (i32 v4))] rfl dX1_liveHours_127 (by decide) rfl ?_
                refine zj_goto (tgt := 25) C dX1_liveHours_130 rfl ?_
                exact zj_sub [2, 3, 4, 0] rfl (ih.1 r1 v4 (w32 (v5 + 1)) 0 h_r1 h_v4 (ir_w _) m1041)
          · refine zj_aload_n (j := 1) (i := 1) C rfl 1 rfl dX1_liveHours_114 ?_
            refine zj_getR C F h_r1 fl_X1_16 rfl rfl dX1_liveHours_115 ?_
            refine zj_dup C rfl dX1_liveHours_118 ?_
            refine zj_getI C F 5 rfl (zt_3_1 h_r1) fl_X1_22 rfl dX1_liveHours_119 (fun h1042 => ?_)
            refine zj_iconst C 1 dX1_liveHours_122 ?_
            refine zj_iadd C dX1_liveHours_123 ?_
            refine zj_putI C F 5 rfl (zt_3_1 h_r1) fl_X1_22 rfl fp_7_5 (ir_w _) dX1_liveHours_124 ?_
            refine zj_pipeM (fun m1043 e_m1043 => ?_)
            refine zj_iinc C 3 [(5, .int (i32 (w32 (v5 + 1)))), (0, .ref (zad Γ 101)), (1, .ref (zad Γ r1)), (4, .int (i32 v4)), (6, .int (i32 v6))] rfl dX1_liveHours_127 (by decide) rfl ?_
            refine zj_goto (tgt := 25) C dX1_liveHours_130 rfl ?_
            exact zj_sub [1, 2, 3, 0] rfl (ih.1 r1 v4 (w32 (v5 + 1)) 0 h_r1 h_v4 (ir_w _) m1043)
        · refine zj_aload_n (j := 0) (i := 0) C rfl 0 rfl dX1_liveHours_54 ?_
          refine zj_aload_n (j := 1) (i := 1) C rfl 1 rfl dX1_liveHours_55 ?_
          refine zj_iload C 4 rfl dX1_liveHours_56 ?_
          refine zj_callVv C F Z [.ref (zad Γ r1), .int (i32 v6)] [] cal_X1_livePerson calv_X1_livePerson ml_X1_42 zk_101 rfl rfl (by decide) (Nat.le_of_ble_eq_true rfl) rfl dX1_liveHours_58 (fun q h => M_X1_livePerson l Γ F h_r1 h_v6 mem q h) (fun _ m1044 _ => ?_)
          refine zj_iinc C 4 [(6, .int (i32 (w32 (v6 + 1)))), (0, .ref (zad Γ 101)), (1, .ref (zad Γ r1)), (4, .int (i32 v4)), (5, .int (i32 v5))] rfl dX1_liveHours_61 (by decide) rfl ?_
          refine zj_goto (tgt := 35) C dX1_liveHours_64 rfl ?_
          exact zj_sub [1, 2, 3, 4, 0] rfl (ih.2 r1 v4 v5 (w32 (v6 + 1)) h_r1 h_v4 h_v5 (ir_w _) m1044)
noncomputable def f_X1_liveHours (t0 : Nat) (x1 : Int) (x2 : Int) (mem : zMem) : Option (Int × zMem) := pipe (zup mem 101 0 x2) fun m1 => pipe (zmin x1 (w32 (400 - (m1 (sRf t0 1) 5)))) fun y3 => f_X1_liveHours_0 zN 0 t0 y3 0 0 m1
set_option maxHeartbeats 4000000 in
theorem M_X1_liveHours (l : Launch) (Γ : zG) (F : zFull Γ)  {t0 : Nat} {x1 : Int} {x2 : Int} (h_t0 : zk t0 3) (h_x1 : ir x1) (h_x2 : ir x2) (mem : zMem) (q : Int × zMem) (h : f_X1_liveHours t0 x1 x2 mem = some q) : zMet l yX1_liveHours cX1_liveHours 7 (some .int) 5 Γ 1 [.ref (zad Γ 101), .ref (zad Γ t0), .int (i32 x1), .int (i32 x2)] mem q := by
  refine zMet_of (own := "ShadowHeirs$Draws") (by decide) rfl (Nat.le_of_ble_eq_true rfl) (fun X C Z => ?_)
  revert h
  show zJ X Γ 7 q (f_X1_liveHours t0 x1 x2 mem) 0 [(0, .ref (zad Γ 101)), (1, .ref (zad Γ t0)), (2, .int (i32 x1)), (3, .int (i32 x2))] [] mem
  unfold f_X1_liveHours
  refine zj_aload_n (j := 0) (i := 0) C rfl 0 rfl dX1_liveHours_0 ?_
  refine zj_iload_n (j := 3) (i := 3) C rfl 3 rfl dX1_liveHours_1 ?_
  refine zj_putI C F 0 rfl zk_101 fl_X1_9 rfl fp_1_0 h_x2 dX1_liveHours_2 ?_
  refine zj_pipeM (fun m1 e_m1 => ?_)
  refine zj_iload_n (j := 2) (i := 2) C rfl 2 rfl dX1_liveHours_5 ?_
  refine zj_sipush C 400 rfl dX1_liveHours_6 ?_
  refine zj_aload_n (j := 1) (i := 1) C rfl 1 rfl dX1_liveHours_9 ?_
  refine zj_getR C F h_t0 fl_X1_16 rfl rfl dX1_liveHours_10 ?_
  refine zj_getI C F 5 rfl (zt_3_1 h_t0) fl_X1_22 rfl dX1_liveHours_13 (fun h2 => ?_)
  refine zj_isub C dX1_liveHours_16 ?_
  refine zj_mmin C Z (by decide) h_x1 (ir_w _) (Nat.le_of_ble_eq_true rfl) mm_l_X1_27 mm_s_min mm_i mm_c_min dX1_liveHours_17 ?_
  refine zj_pipeI (fun y3 e_y3 => ?_)
  have h_y3 := ir_eq e_y3 (ir_min h_x1 (ir_w _))
  refine zj_istore C [(4, .int (i32 y3)), (0, .ref (zad Γ 101)), (1, .ref (zad Γ t0)), (2, .int (i32 x1)), (3, .int (i32 x2))] dX1_liveHours_20 (by decide) rfl ?_
  refine zj_iconst C 0 dX1_liveHours_22 ?_
  refine zj_istore C [(5, .int (i32 0)), (4, .int (i32 y3)), (0, .ref (zad Γ 101)), (1, .ref (zad Γ t0)), (2, .int (i32 x1)), (3, .int (i32 x2))] dX1_liveHours_23 (by decide) rfl ?_
  exact zj_sub [2, 3, 1, 0] rfl ((L_X1_liveHours_0 l F C Z zN).1 t0 y3 0 0 h_t0 h_y3 irc_0 m1)
noncomputable def f_X4_readStones  (mem : zMem) : Option (Int × zMem) := zbind (f_X4_readSpot 0 mem) fun y1 m2 => if y1 = 0 then (some (0, m2)) else (zbind (f_X6_wantNumber 1 9 m2) fun y4 m5 => if y4 = 0 then (some (0, m5)) else (if ix 36 (m5 27 6) then pipe (zup m5 36 (m5 27 6) (w32 (m5 1 7))) fun m10 => some (1, m10) else none))
set_option maxHeartbeats 4000000 in
theorem M_X4_readStones (l : Launch) (Γ : zG) (F : zFull Γ)    (mem : zMem) (q : Int × zMem) (h : f_X4_readStones  mem = some q) : zMet l yX4_readStones cX4_readStones 1 (some .boolean) 5 Γ 1 [.ref (zad Γ 27)] mem q := by
  refine zMet_of (own := "ShadowHeirs$IslandText") (by decide) rfl (Nat.le_of_ble_eq_true rfl) (fun X C Z => ?_)
  revert h
  show zJ X Γ 1 q (f_X4_readStones  mem) 0 [(0, .ref (zad Γ 27))] [] mem
  unfold f_X4_readStones
  refine zj_aload_n (j := 0) (i := 0) C rfl 0 rfl dX4_readStones_0 ?_
  refine zj_iconst C 0 dX4_readStones_1 ?_
  refine zj_callVi C F Z [.int (i32 0)] [] cal_X4_readSpot calv_X4_readSpot ml_X4_112 zk_27 rfl rfl (by decide) (Nat.le_of_ble_eq_true rfl) rfl dX4_readStones_2 (fun q h => M_X4_readSpot l Γ F irc_0 mem q h) (fun y1 m2 h_y1 => ?_)
  refine zj_if_eq C 21 h_y1 dX4_readStones_5 rfl (fun c3 => ?_) (fun c3 => ?_)
  · refine zj_iconst C 0 dX4_readStones_21 ?_
    exact zrt_z C Z (Or.inl rfl) dX4_readStones_22
  · refine zj_aload_n (j := 0) (i := 0) C rfl 0 rfl dX4_readStones_8 ?_
    refine zj_getR C F zk_27 fl_X4_48 rfl rf_27_0 dX4_readStones_9 ?_
    refine zj_iconst C 1 dX4_readStones_12 ?_
    refine zj_bipush C 9 rfl dX4_readStones_13 ?_
    refine zj_callVi C F Z [.int (i32 1), .int (i32 9)] [] cal_X6_wantNumber calv_X6_wantNumber ml_X4_98 zk_1 rfl rfl (by decide) (Nat.le_of_ble_eq_true rfl) rfl dX4_readStones_15 (fun q h => M_X6_wantNumber l Γ F irc_1 irc_9 m2 q h) (fun y4 m5 h_y4 => ?_)
    refine zj_if_ne C 23 h_y4 dX4_readStones_18 rfl (fun c6 => ?_) (fun c6 => ?_)
    · refine zj_iconst C 0 dX4_readStones_21 ?_
      exact zrt_z C Z (Or.inl rfl) dX4_readStones_22
    · refine zj_aload_n (j := 0) (i := 0) C rfl 0 rfl dX4_readStones_23 ?_
      refine zj_getR C F zk_27 fl_X4_21 rfl rf_27_2 dX4_readStones_24 ?_
      refine zj_getR C F zk_35 fl_X4_116 rfl rf_35_0 dX4_readStones_27 ?_
      refine zj_aload_n (j := 0) (i := 0) C rfl 0 rfl dX4_readStones_30 ?_
      refine zj_getI C F 6 rfl zk_27 fl_X4_44 rfl dX4_readStones_31 (fun h7 => ?_)
      refine zj_aload_n (j := 0) (i := 0) C rfl 0 rfl dX4_readStones_34 ?_
      refine zj_getR C F zk_27 fl_X4_48 rfl rf_27_0 dX4_readStones_35 ?_
      refine zj_getL C F 7 rfl zk_1 fl_X4_102 rfl dX4_readStones_38 (fun h8 => ?_)
      refine zj_l2i C h8 dX4_readStones_41 ?_
      refine zj_iastore C F zk_36 h7 (ir_w _) dX4_readStones_42 (fun c9 => ?_)
      refine zj_pipeM (fun m10 e_m10 => ?_)
      refine zj_iconst C 1 dX4_readStones_43 ?_
      exact zrt_z C Z (Or.inr rfl) dX4_readStones_44
noncomputable def f_X4_readHouse  (mem : zMem) : Option (Int × zMem) := pipe (mem 28 2) fun y2 => if y2 < 5 then (zbind (f_X4_readNewName mem) fun y4 m5 => if y4 = 0 then (some (0, m5)) else (if ix 31 y2 then pipe (zup m5 31 y2 (m5 1 7)) fun m9 => zbind (f_X4_readSpot 0 m9) fun y10 m11 => if y10 = 0 then (some (0, m11)) else (zbind (f_X6_wantNumber 1 9 m11) fun y13 m14 => if y13 = 0 then (some (0, m14)) else (if ix 29 y2 then pipe (zup m14 29 y2 (m14 27 6)) fun m18 => if ix 30 y2 then pipe (zup m18 30 y2 (w32 (m18 1 7))) fun m21 => zbind (f_X6_wantNumber 0 99 m21) fun y22 m23 => if y22 = 0 then (some (0, m23)) else (if ix 39 y2 then pipe (zup m23 39 y2 (w32 (m23 1 7))) fun m27 => pipe (zup m27 28 2 (w32 ((m27 28 2) + 1))) fun m29 => some (1, m29) else none) else none else none)) else none)) else (zbind (f_X6_fail 4 mem) fun y30 m31 => if y30 = 0 ∨ y30 = 1 then some (y30, m31) else none)
set_option maxHeartbeats 4000000 in
theorem M_X4_readHouse (l : Launch) (Γ : zG) (F : zFull Γ)    (mem : zMem) (q : Int × zMem) (h : f_X4_readHouse  mem = some q) : zMet l yX4_readHouse cX4_readHouse 2 (some .boolean) 5 Γ 1 [.ref (zad Γ 27)] mem q := by
  refine zMet_of (own := "ShadowHeirs$IslandText") (by decide) rfl (Nat.le_of_ble_eq_true rfl) (fun X C Z => ?_)
  revert h
  show zJ X Γ 2 q (f_X4_readHouse  mem) 0 [(0, .ref (zad Γ 27))] [] mem
  unfold f_X4_readHouse
  refine zj_aload_n (j := 0) (i := 0) C rfl 0 rfl dX4_readHouse_0 ?_
  refine zj_getR C F zk_27 fl_X4_12 rfl rf_27_1 dX4_readHouse_1 ?_
  refine zj_getI C F 2 rfl zk_28 fl_X4_120 rfl dX4_readHouse_4 (fun h1 => ?_)
  refine zj_pipeI (fun y2 e_y2 => ?_)
  have h_y2 := ir_eq e_y2 h1
  refine zj_istore_n (j := 1) (i := 1) C rfl [(1, .int (i32 y2)), (0, .ref (zad Γ 27))] dX4_readHouse_7 (by decide) rfl ?_
  refine zj_iload_n (j := 1) (i := 1) C rfl 0 rfl dX4_readHouse_8 ?_
  refine zj_iconst C 5 dX4_readHouse_9 ?_
  refine zj_icmp_lt C 22 h_y2 irc_5 dX4_readHouse_10 rfl (fun c3 => ?_) (fun c3 => ?_)
  · refine zj_aload_n (j := 0) (i := 0) C rfl 1 rfl dX4_readHouse_22 ?_
    refine zj_callVi C F Z [] [] cal_X4_readNewName calv_X4_readNewName ml_X4_123 zk_27 rfl rfl (by decide) (Nat.le_of_ble_eq_true rfl) rfl dX4_readHouse_23 (fun q h => M_X4_readNewName l Γ F  mem q h) (fun y4 m5 h_y4 => ?_)
    refine zj_if_ne C 31 h_y4 dX4_readHouse_26 rfl (fun c6 => ?_) (fun c6 => ?_)
    · refine zj_iconst C 0 dX4_readHouse_29 ?_
      exact zrt_z C Z (Or.inl rfl) dX4_readHouse_30
    · refine zj_aload_n (j := 0) (i := 0) C rfl 1 rfl dX4_readHouse_31 ?_
      refine zj_getR C F zk_27 fl_X4_12 rfl rf_27_1 dX4_readHouse_32 ?_
      refine zj_getR C F zk_28 fl_X4_126 rfl rf_28_7 dX4_readHouse_35 ?_
      refine zj_iload_n (j := 1) (i := 1) C rfl 0 rfl dX4_readHouse_38 ?_
      refine zj_aload_n (j := 0) (i := 0) C rfl 1 rfl dX4_readHouse_39 ?_
      refine zj_getR C F zk_27 fl_X4_48 rfl rf_27_0 dX4_readHouse_40 ?_
      refine zj_getL C F 7 rfl zk_1 fl_X4_102 rfl dX4_readHouse_43 (fun h7 => ?_)
      refine zj_lastore C F zk_31 h_y2 h7 dX4_readHouse_46 (fun c8 => ?_)
      refine zj_pipeM (fun m9 e_m9 => ?_)
      refine zj_aload_n (j := 0) (i := 0) C rfl 1 rfl dX4_readHouse_47 ?_
      refine zj_iconst C 0 dX4_readHouse_48 ?_
      refine zj_callVi C F Z [.int (i32 0)] [] cal_X4_readSpot calv_X4_readSpot ml_X4_112 zk_27 rfl rfl (by decide) (Nat.le_of_ble_eq_true rfl) rfl dX4_readHouse_49 (fun q h => M_X4_readSpot l Γ F irc_0 m9 q h) (fun y10 m11 h_y10 => ?_)
      refine zj_if_eq C 68 h_y10 dX4_readHouse_52 rfl (fun c12 => ?_) (fun c12 => ?_)
      · refine zj_iconst C 0 dX4_readHouse_68 ?_
        exact zrt_z C Z (Or.inl rfl) dX4_readHouse_69
      · refine zj_aload_n (j := 0) (i := 0) C rfl 1 rfl dX4_readHouse_55 ?_
        refine zj_getR C F zk_27 fl_X4_48 rfl rf_27_0 dX4_readHouse_56 ?_
        refine zj_iconst C 1 dX4_readHouse_59 ?_
        refine zj_bipush C 9 rfl dX4_readHouse_60 ?_
        refine zj_callVi C F Z [.int (i32 1), .int (i32 9)] [] cal_X6_wantNumber calv_X6_wantNumber ml_X4_98 zk_1 rfl rfl (by decide) (Nat.le_of_ble_eq_true rfl) rfl dX4_readHouse_62 (fun q h => M_X6_wantNumber l Γ F irc_1 irc_9 m11 q h) (fun y13 m14 h_y13 => ?_)
        refine zj_if_ne C 70 h_y13 dX4_readHouse_65 rfl (fun c15 => ?_) (fun c15 => ?_)
        · refine zj_iconst C 0 dX4_readHouse_68 ?_
          exact zrt_z C Z (Or.inl rfl) dX4_readHouse_69
        · refine zj_aload_n (j := 0) (i := 0) C rfl 1 rfl dX4_readHouse_70 ?_
          refine zj_getR C F zk_27 fl_X4_12 rfl rf_27_1 dX4_readHouse_71 ?_
          refine zj_getR C F zk_28 fl_X4_130 rfl rf_28_5 dX4_readHouse_74 ?_
          refine zj_iload_n (j := 1) (i := 1) C rfl 0 rfl dX4_readHouse_77 ?_
          refine zj_aload_n (j := 0) (i := 0) C rfl 1 rfl dX4_readHouse_78 ?_
          refine zj_getI C F 6 rfl zk_27 fl_X4_44 rfl dX4_readHouse_79 (fun h16 => ?_)
          refine zj_iastore C F zk_29 h_y2 h16 dX4_readHouse_82 (fun c17 => ?_)
          refine zj_pipeM (fun m18 e_m18 => ?_)
          refine zj_aload_n (j := 0) (i := 0) C rfl 1 rfl dX4_readHouse_83 ?_
          refine zj_getR C F zk_27 fl_X4_12 rfl rf_27_1 dX4_readHouse_84 ?_
          refine zj_getR C F zk_28 fl_X4_133 rfl rf_28_6 dX4_readHouse_87 ?_
          refine zj_iload_n (j := 1) (i := 1) C rfl 0 rfl dX4_readHouse_90 ?_
          refine zj_aload_n (j := 0) (i := 0) C rfl 1 rfl dX4_readHouse_91 ?_
          refine zj_getR C F zk_27 fl_X4_48 rfl rf_27_0 dX4_readHouse_92 ?_
          refine zj_getL C F 7 rfl zk_1 fl_X4_102 rfl dX4_readHouse_95 (fun h19 => ?_)
          refine zj_l2i C h19 dX4_readHouse_98 ?_
          refine zj_iastore C F zk_30 h_y2 (ir_w _) dX4_readHouse_99 (fun c20 => ?_)
          refine zj_pipeM (fun m21 e_m21 => ?_)
          refine zj_aload_n (j := 0) (i := 0) C rfl 1 rfl dX4_readHouse_100 ?_
          refine zj_getR C F zk_27 fl_X4_48 rfl rf_27_0 dX4_readHouse_101 ?_
          refine zj_iconst C 0 dX4_readHouse_104 ?_
          refine zj_bipush C 99 rfl dX4_readHouse_105 ?_
          refine zj_callVi C F Z [.int (i32 0), .int (i32 99)] [] cal_X6_wantNumber calv_X6_wantNumber ml_X4_98 zk_1 rfl rfl (by decide) (Nat.le_of_ble_eq_true rfl) rfl dX4_readHouse_107 (fun q h => M_X6_wantNumber l Γ F irc_0 irc_99 m21 q h) (fun y22 m23 h_y22 => ?_)
          refine zj_if_ne C 115 h_y22 dX4_readHouse_110 rfl (fun c24 => ?_) (fun c24 => ?_)
          · refine zj_iconst C 0 dX4_readHouse_113 ?_
            exact zrt_z C Z (Or.inl rfl) dX4_readHouse_114
          · refine zj_aload_n (j := 0) (i := 0) C rfl 1 rfl dX4_readHouse_115 ?_
            refine zj_getR C F zk_27 fl_X4_21 rfl rf_27_2 dX4_readHouse_116 ?_
            refine zj_getR C F zk_35 fl_X4_136 rfl rf_35_3 dX4_readHouse_119 ?_
            refine zj_iload_n (j := 1) (i := 1) C rfl 0 rfl dX4_readHouse_122 ?_
            refine zj_aload_n (j := 0) (i := 0) C rfl 1 rfl dX4_readHouse_123 ?_
            refine zj_getR C F zk_27 fl_X4_48 rfl rf_27_0 dX4_readHouse_124 ?_
            refine zj_getL C F 7 rfl zk_1 fl_X4_102 rfl dX4_readHouse_127 (fun h25 => ?_)
            refine zj_l2i C h25 dX4_readHouse_130 ?_
            refine zj_iastore C F zk_39 h_y2 (ir_w _) dX4_readHouse_131 (fun c26 => ?_)
            refine zj_pipeM (fun m27 e_m27 => ?_)
            refine zj_aload_n (j := 0) (i := 0) C rfl 1 rfl dX4_readHouse_132 ?_
            refine zj_getR C F zk_27 fl_X4_12 rfl rf_27_1 dX4_readHouse_133 ?_
            refine zj_dup C rfl dX4_readHouse_136 ?_
            refine zj_getI C F 2 rfl zk_28 fl_X4_120 rfl dX4_readHouse_137 (fun h28 => ?_)
            refine zj_iconst C 1 dX4_readHouse_140 ?_
            refine zj_iadd C dX4_readHouse_141 ?_
            refine zj_putI C F 2 rfl zk_28 fl_X4_120 rfl fp_5_2 (ir_w _) dX4_readHouse_142 ?_
            refine zj_pipeM (fun m29 e_m29 => ?_)
            refine zj_iconst C 1 dX4_readHouse_145 ?_
            exact zrt_z C Z (Or.inr rfl) dX4_readHouse_146
  · refine zj_aload_n (j := 0) (i := 0) C rfl 1 rfl dX4_readHouse_13 ?_
    refine zj_getR C F zk_27 fl_X4_48 rfl rf_27_0 dX4_readHouse_14 ?_
    refine zj_iconst C 4 dX4_readHouse_17 ?_
    refine zj_callVi C F Z [.int (i32 4)] [] cal_X6_fail calv_X6_fail ml_X4_94 zk_1 rfl rfl (by decide) (Nat.le_of_ble_eq_true rfl) rfl dX4_readHouse_18 (fun q h => M_X6_fail l Γ F irc_4 mem q h) (fun y30 m31 h_y30 => ?_)
    exact zrt_zc C Z dX4_readHouse_21
noncomputable def f_X4_readPerson  (mem : zMem) : Option (Int × zMem) := pipe (mem 28 3) fun y2 => if y2 < 6 then (zbind (f_X4_readNewName mem) fun y4 m5 => if y4 = 0 then (some (0, m5)) else (if ix 32 y2 then pipe (zup m5 32 y2 (m5 1 7)) fun m9 => zbind (f_X4_readSpot 1 m9) fun y10 m11 => if y10 = 0 then (some (0, m11)) else (if ix 37 y2 then pipe (zup m11 37 y2 (m11 27 6)) fun m15 => pipe (zup m15 28 3 (w32 ((m15 28 3) + 1))) fun m17 => some (1, m17) else none) else none)) else (zbind (f_X6_fail 4 mem) fun y18 m19 => if y18 = 0 ∨ y18 = 1 then some (y18, m19) else none)
set_option maxHeartbeats 4000000 in
theorem M_X4_readPerson (l : Launch) (Γ : zG) (F : zFull Γ)    (mem : zMem) (q : Int × zMem) (h : f_X4_readPerson  mem = some q) : zMet l yX4_readPerson cX4_readPerson 2 (some .boolean) 5 Γ 1 [.ref (zad Γ 27)] mem q := by
  refine zMet_of (own := "ShadowHeirs$IslandText") (by decide) rfl (Nat.le_of_ble_eq_true rfl) (fun X C Z => ?_)
  revert h
  show zJ X Γ 2 q (f_X4_readPerson  mem) 0 [(0, .ref (zad Γ 27))] [] mem
  unfold f_X4_readPerson
  refine zj_aload_n (j := 0) (i := 0) C rfl 0 rfl dX4_readPerson_0 ?_
  refine zj_getR C F zk_27 fl_X4_12 rfl rf_27_1 dX4_readPerson_1 ?_
  refine zj_getI C F 3 rfl zk_28 fl_X4_139 rfl dX4_readPerson_4 (fun h1 => ?_)
  refine zj_pipeI (fun y2 e_y2 => ?_)
  have h_y2 := ir_eq e_y2 h1
  refine zj_istore_n (j := 1) (i := 1) C rfl [(1, .int (i32 y2)), (0, .ref (zad Γ 27))] dX4_readPerson_7 (by decide) rfl ?_
  refine zj_iload_n (j := 1) (i := 1) C rfl 0 rfl dX4_readPerson_8 ?_
  refine zj_bipush C 6 rfl dX4_readPerson_9 ?_
  refine zj_icmp_lt C 23 h_y2 irc_6 dX4_readPerson_11 rfl (fun c3 => ?_) (fun c3 => ?_)
  · refine zj_aload_n (j := 0) (i := 0) C rfl 1 rfl dX4_readPerson_23 ?_
    refine zj_callVi C F Z [] [] cal_X4_readNewName calv_X4_readNewName ml_X4_123 zk_27 rfl rfl (by decide) (Nat.le_of_ble_eq_true rfl) rfl dX4_readPerson_24 (fun q h => M_X4_readNewName l Γ F  mem q h) (fun y4 m5 h_y4 => ?_)
    refine zj_if_ne C 32 h_y4 dX4_readPerson_27 rfl (fun c6 => ?_) (fun c6 => ?_)
    · refine zj_iconst C 0 dX4_readPerson_30 ?_
      exact zrt_z C Z (Or.inl rfl) dX4_readPerson_31
    · refine zj_aload_n (j := 0) (i := 0) C rfl 1 rfl dX4_readPerson_32 ?_
      refine zj_getR C F zk_27 fl_X4_12 rfl rf_27_1 dX4_readPerson_33 ?_
      refine zj_getR C F zk_28 fl_X4_142 rfl rf_28_8 dX4_readPerson_36 ?_
      refine zj_iload_n (j := 1) (i := 1) C rfl 0 rfl dX4_readPerson_39 ?_
      refine zj_aload_n (j := 0) (i := 0) C rfl 1 rfl dX4_readPerson_40 ?_
      refine zj_getR C F zk_27 fl_X4_48 rfl rf_27_0 dX4_readPerson_41 ?_
      refine zj_getL C F 7 rfl zk_1 fl_X4_102 rfl dX4_readPerson_44 (fun h7 => ?_)
      refine zj_lastore C F zk_32 h_y2 h7 dX4_readPerson_47 (fun c8 => ?_)
      refine zj_pipeM (fun m9 e_m9 => ?_)
      refine zj_aload_n (j := 0) (i := 0) C rfl 1 rfl dX4_readPerson_48 ?_
      refine zj_iconst C 1 dX4_readPerson_49 ?_
      refine zj_callVi C F Z [.int (i32 1)] [] cal_X4_readSpot calv_X4_readSpot ml_X4_112 zk_27 rfl rfl (by decide) (Nat.le_of_ble_eq_true rfl) rfl dX4_readPerson_50 (fun q h => M_X4_readSpot l Γ F irc_1 m9 q h) (fun y10 m11 h_y10 => ?_)
      refine zj_if_ne C 58 h_y10 dX4_readPerson_53 rfl (fun c12 => ?_) (fun c12 => ?_)
      · refine zj_iconst C 0 dX4_readPerson_56 ?_
        exact zrt_z C Z (Or.inl rfl) dX4_readPerson_57
      · refine zj_aload_n (j := 0) (i := 0) C rfl 1 rfl dX4_readPerson_58 ?_
        refine zj_getR C F zk_27 fl_X4_21 rfl rf_27_2 dX4_readPerson_59 ?_
        refine zj_getR C F zk_35 fl_X4_145 rfl rf_35_1 dX4_readPerson_62 ?_
        refine zj_iload_n (j := 1) (i := 1) C rfl 0 rfl dX4_readPerson_65 ?_
        refine zj_aload_n (j := 0) (i := 0) C rfl 1 rfl dX4_readPerson_66 ?_
        refine zj_getI C F 6 rfl zk_27 fl_X4_44 rfl dX4_readPerson_67 (fun h13 => ?_)
        refine zj_iastore C F zk_37 h_y2 h13 dX4_readPerson_70 (fun c14 => ?_)
        refine zj_pipeM (fun m15 e_m15 => ?_)
        refine zj_aload_n (j := 0) (i := 0) C rfl 1 rfl dX4_readPerson_71 ?_
        refine zj_getR C F zk_27 fl_X4_12 rfl rf_27_1 dX4_readPerson_72 ?_
        refine zj_dup C rfl dX4_readPerson_75 ?_
        refine zj_getI C F 3 rfl zk_28 fl_X4_139 rfl dX4_readPerson_76 (fun h16 => ?_)
        refine zj_iconst C 1 dX4_readPerson_79 ?_
        refine zj_iadd C dX4_readPerson_80 ?_
        refine zj_putI C F 3 rfl zk_28 fl_X4_139 rfl fp_5_3 (ir_w _) dX4_readPerson_81 ?_
        refine zj_pipeM (fun m17 e_m17 => ?_)
        refine zj_iconst C 1 dX4_readPerson_84 ?_
        exact zrt_z C Z (Or.inr rfl) dX4_readPerson_85
  · refine zj_aload_n (j := 0) (i := 0) C rfl 1 rfl dX4_readPerson_14 ?_
    refine zj_getR C F zk_27 fl_X4_48 rfl rf_27_0 dX4_readPerson_15 ?_
    refine zj_iconst C 4 dX4_readPerson_18 ?_
    refine zj_callVi C F Z [.int (i32 4)] [] cal_X6_fail calv_X6_fail ml_X4_94 zk_1 rfl rfl (by decide) (Nat.le_of_ble_eq_true rfl) rfl dX4_readPerson_19 (fun q h => M_X6_fail l Γ F irc_4 mem q h) (fun y18 m19 h_y18 => ?_)
    exact zrt_zc C Z dX4_readPerson_22
noncomputable def b_X8_personsMeant_0 (rec : Nat → Nat → Nat → Int → Int → Int → zMem → Option (Int × zMem)) (tag : Nat) (r0 : Nat) (r1 : Nat) (v2 : Int) (v3 : Int) (v4 : Int) (mem : zMem) : Option (Int × zMem) := match tag with
  | 0 => if v3 ≥ (mem r0 3) then (if v2 = 1 then (if ix (r0 + 3) 0 then some ((zand (mem (r0 + 3) 0) (w32 ((zshl 1 (mem (sRf r1 0) 3)) - 1))), mem) else none) else (some (0, mem))) else (if v3 ≥ 40 then (if v2 = 1 then (if ix (r0 + 3) 0 then some ((zand (mem (r0 + 3) 0) (w32 ((zshl 1 (mem (sRf r1 0) 3)) - 1))), mem) else none) else (some (0, mem))) else (if ix (r0 + 1) v3 then pipe (mem (r0 + 1) v3) fun y14 => if y14 = 15 then (if v2 < 1 then (if y14 = 14 then (if v2 < 2 then (rec 1 r0 r1 v2 v3 y14 mem) else (if ix (r0 + 3) (w32 ((w32 (v2 + (-1))) - 1)) then if ix (r0 + 3) (w32 (v2 + (-1))) then if ix (r0 + 3) (w32 ((w32 (v2 + (-1))) - 1)) then pipe (zup mem (r0 + 3) (w32 ((w32 (v2 + (-1))) - 1)) (zand (mem (r0 + 3) (w32 ((w32 (v2 + (-1))) - 1))) (mem (r0 + 3) (w32 (v2 + (-1)))))) fun m24 => rec 0 r0 r1 (w32 (v2 + (-1))) (w32 (v3 + 1)) 0 m24 else none else none else none)) else (rec 1 r0 r1 v2 v3 y14 mem)) else (if ix (r0 + 3) (w32 (v2 - 1)) then if ix (r0 + 3) (w32 (v2 - 1)) then pipe (zup mem (r0 + 3) (w32 (v2 - 1)) (zxor (mem (r0 + 3) (w32 (v2 - 1))) (-1))) fun m28 => rec 0 r0 r1 v2 (w32 (v3 + 1)) 0 m28 else none else none)) else (if y14 = 14 then (if v2 < 2 then (rec 1 r0 r1 v2 v3 y14 mem) else (if ix (r0 + 3) (w32 ((w32 (v2 + (-1))) - 1)) then if ix (r0 + 3) (w32 (v2 + (-1))) then if ix (r0 + 3) (w32 ((w32 (v2 + (-1))) - 1)) then pipe (zup mem (r0 + 3) (w32 ((w32 (v2 + (-1))) - 1)) (zand (mem (r0 + 3) (w32 ((w32 (v2 + (-1))) - 1))) (mem (r0 + 3) (w32 (v2 + (-1)))))) fun m36 => rec 0 r0 r1 (w32 (v2 + (-1))) (w32 (v3 + 1)) 0 m36 else none else none else none)) else (rec 1 r0 r1 v2 v3 y14 mem)) else none))
  | _ => if v4 = 13 then (if v2 < 2 then (if v2 ≥ 20 then (rec 0 r0 r1 v2 (w32 (v3 + 1)) 0 mem) else (if ix (r0 + 2) v3 then zbind (f_X8_personsOf r1 v4 (mem (r0 + 2) v3) mem) fun y1006 m1007 => if ix (r0 + 3) v2 then pipe (zup m1007 (r0 + 3) v2 y1006) fun m1009 => rec 0 r0 r1 (w32 (v2 + 1)) (w32 (v3 + 1)) 0 m1009 else none else none)) else (if ix (r0 + 3) (w32 ((w32 (v2 + (-1))) - 1)) then if ix (r0 + 3) (w32 (v2 + (-1))) then if ix (r0 + 3) (w32 ((w32 (v2 + (-1))) - 1)) then pipe (zup mem (r0 + 3) (w32 ((w32 (v2 + (-1))) - 1)) (zor (mem (r0 + 3) (w32 ((w32 (v2 + (-1))) - 1))) (mem (r0 + 3) (w32 (v2 + (-1)))))) fun m1015 => rec 0 r0 r1 (w32 (v2 + (-1))) (w32 (v3 + 1)) 0 m1015 else none else none else none)) else (if v2 ≥ 20 then (rec 0 r0 r1 v2 (w32 (v3 + 1)) 0 mem) else (if ix (r0 + 2) v3 then zbind (f_X8_personsOf r1 v4 (mem (r0 + 2) v3) mem) fun y1019 m1020 => if ix (r0 + 3) v2 then pipe (zup m1020 (r0 + 3) v2 y1019) fun m1022 => rec 0 r0 r1 (w32 (v2 + 1)) (w32 (v3 + 1)) 0 m1022 else none else none))
noncomputable def f_X8_personsMeant_0 : Nat → Nat → Nat → Nat → Int → Int → Int → zMem → Option (Int × zMem) := zfuel (fun _ _ _ _ _ _ _ => none) (b_X8_personsMeant_0)
set_option maxHeartbeats 4000000 in
theorem L_X8_personsMeant_0 (l : Launch) {Γ : zG} (F : zFull Γ) {X : zM} {q : Int × zMem} (C : zC X Γ "ShadowHeirs$Sentence" cX8_personsMeant 5) (Z : zRt X l Γ 6 1 (some .int) q) : ∀ n : Nat, (∀ (r0 : Nat) (r1 : Nat) (v2 : Int) (v3 : Int) (v4 : Int) (h_r0 : zk r0 8) (h_r1 : zk r1 3) (h_v2 : ir v2) (h_v3 : ir v3) (mem : zMem), zJ X Γ 5 q (f_X8_personsMeant_0 n 0 r0 r1 v2 v3 v4 mem) 4 [(0, .ref (zad Γ r0)), (1, .ref (zad Γ r1)), (2, .int (i32 v2)), (3, .int (i32 v3))] [] mem) ∧ (∀ (r0 : Nat) (r1 : Nat) (v2 : Int) (v3 : Int) (v4 : Int) (h_r0 : zk r0 8) (h_r1 : zk r1 3) (h_v2 : ir v2) (h_v3 : ir v3) (h_v4 : ir v4) (mem : zMem), zJ X Γ 5 q (f_X8_personsMeant_0 n 1 r0 r1 v2 v3 v4 mem) 97 [(0, .ref (zad Γ r0)), (1, .ref (zad Γ r1)), (2, .int (i32 v2)), (3, .int (i32 v3)), (4, .int (i32 v4))] [] mem) := by
  intro n
  induction n with
  | zero => exact ⟨(by intros; exact zj_none), (by intros; exact zj_none)⟩
  | succ n ih =>
    refine ⟨?_, ?_⟩
    · intro r0 r1 v2 v3 v4 h_r0 h_r1 h_v2 h_v3 mem
      show zJ X Γ 5 q (b_X8_personsMeant_0 (f_X8_personsMeant_0 n) 0 r0 r1 v2 v3 v4 mem) _ _ _ _
      unfold b_X8_personsMeant_0
      refine zj_iload_n (j := 3) (i := 3) C rfl 3 rfl dX8_personsMeant_4 ?_
      refine zj_aload_n (j := 0) (i := 0) C rfl 0 rfl dX8_personsMeant_5 ?_
      refine zj_getI C F 3 rfl h_r0 fl_X8_21 rfl dX8_personsMeant_6 (fun h1 => ?_)
      refine zj_icmp_ge C 168 h_v3 h1 dX8_personsMeant_9 rfl (fun c2 => ?_) (fun c2 => ?_)
      · refine zj_iload_n (j := 2) (i := 2) C rfl 2 rfl dX8_personsMeant_168 ?_
        refine zj_iconst C 1 dX8_personsMeant_169 ?_
        refine zj_icmp_ne C 194 h_v2 irc_1 dX8_personsMeant_170 rfl (fun c3 => ?_) (fun c3 => ?_)
        · refine zj_aload_n (j := 0) (i := 0) C rfl 0 rfl dX8_personsMeant_173 ?_
          refine zj_getR C F h_r0 fl_X8_18 rfl (rfo_8_2 h_r0) dX8_personsMeant_174 ?_
          refine zj_iconst C 0 dX8_personsMeant_177 ?_
          refine zj_iaload C F (zko_8_2 h_r0) irc_0 dX8_personsMeant_178 (fun c4 h5 => ?_)
          refine zj_iconst C 1 dX8_personsMeant_179 ?_
          refine zj_aload_n (j := 1) (i := 1) C rfl 1 rfl dX8_personsMeant_180 ?_
          refine zj_getR C F h_r1 fl_X8_99 rfl rfl dX8_personsMeant_181 ?_
          refine zj_getI C F 3 rfl (zt_3_0 h_r1) fl_X8_105 rfl dX8_personsMeant_184 (fun h6 => ?_)
          refine zj_ishl C dX8_personsMeant_187 ?_
          refine zj_iconst C 1 dX8_personsMeant_188 ?_
          refine zj_isub C dX8_personsMeant_189 ?_
          refine zj_iand C dX8_personsMeant_190 ?_
          refine zj_goto (tgt := 195) C dX8_personsMeant_191 rfl ?_
          exact zrt_i C Z (ir_toInt _) dX8_personsMeant_195
        · refine zj_iconst C 0 dX8_personsMeant_194 ?_
          exact zrt_i C Z irc_0 dX8_personsMeant_195
      · refine zj_iload_n (j := 3) (i := 3) C rfl 3 rfl dX8_personsMeant_12 ?_
        refine zj_aload_n (j := 0) (i := 0) C rfl 0 rfl dX8_personsMeant_13 ?_
        refine zj_getR C F h_r0 fl_X8_11 rfl (rfo_8_0 h_r0) dX8_personsMeant_14 ?_
        refine zj_alen C F 40 (zko_8_0 h_r0) (Or.inl rfl) (leno_8_0 h_r0) dX8_personsMeant_17 ?_
        refine zj_icmp_ge C 168 h_v3 irc_40 dX8_personsMeant_18 rfl (fun c7 => ?_) (fun c7 => ?_)
        · refine zj_iload_n (j := 2) (i := 2) C rfl 2 rfl dX8_personsMeant_168 ?_
          refine zj_iconst C 1 dX8_personsMeant_169 ?_
          refine zj_icmp_ne C 194 h_v2 irc_1 dX8_personsMeant_170 rfl (fun c8 => ?_) (fun c8 => ?_)
          · refine zj_aload_n (j := 0) (i := 0) C rfl 0 rfl dX8_personsMeant_173 ?_
            refine zj_getR C F h_r0 fl_X8_18 rfl (rfo_8_2 h_r0) dX8_personsMeant_174 ?_
            refine zj_iconst C 0 dX8_personsMeant_177 ?_
            refine zj_iaload C F (zko_8_2 h_r0) irc_0 dX8_personsMeant_178 (fun c9 h10 => ?_)
            refine zj_iconst C 1 dX8_personsMeant_179 ?_
            refine zj_aload_n (j := 1) (i := 1) C rfl 1 rfl dX8_personsMeant_180 ?_
            refine zj_getR C F h_r1 fl_X8_99 rfl rfl dX8_personsMeant_181 ?_
            refine zj_getI C F 3 rfl (zt_3_0 h_r1) fl_X8_105 rfl dX8_personsMeant_184 (fun h11 => ?_)
            refine zj_ishl C dX8_personsMeant_187 ?_
            refine zj_iconst C 1 dX8_personsMeant_188 ?_
            refine zj_isub C dX8_personsMeant_189 ?_
            refine zj_iand C dX8_personsMeant_190 ?_
            refine zj_goto (tgt := 195) C dX8_personsMeant_191 rfl ?_
            exact zrt_i C Z (ir_toInt _) dX8_personsMeant_195
          · refine zj_iconst C 0 dX8_personsMeant_194 ?_
            exact zrt_i C Z irc_0 dX8_personsMeant_195
        · refine zj_aload_n (j := 0) (i := 0) C rfl 0 rfl dX8_personsMeant_21 ?_
          refine zj_getR C F h_r0 fl_X8_11 rfl (rfo_8_0 h_r0) dX8_personsMeant_22 ?_
          refine zj_iload_n (j := 3) (i := 3) C rfl 3 rfl dX8_personsMeant_25 ?_
          refine zj_iaload C F (zko_8_0 h_r0) h_v3 dX8_personsMeant_26 (fun c12 h13 => ?_)
          refine zj_pipeI (fun y14 e_y14 => ?_)
          have h_y14 := ir_eq e_y14 h13
          refine zj_istore C [(4, .int (i32 y14)), (0, .ref (zad Γ r0)), (1, .ref (zad Γ r1)), (2, .int (i32 v2)), (3, .int (i32 v3))] dX8_personsMeant_27 (by decide) rfl ?_
          refine zj_iload C 0 rfl dX8_personsMeant_29 ?_
          refine zj_bipush C 15 rfl dX8_personsMeant_31 ?_
          refine zj_icmp_ne C 62 h_y14 irc_15 dX8_personsMeant_33 rfl (fun c15 => ?_) (fun c15 => ?_)
          · refine zj_iload_n (j := 2) (i := 2) C rfl 3 rfl dX8_personsMeant_36 ?_
            refine zj_iconst C 1 dX8_personsMeant_37 ?_
            refine zj_icmp_lt C 62 h_v2 irc_1 dX8_personsMeant_38 rfl (fun c16 => ?_) (fun c16 => ?_)
            · refine zj_iload C 0 rfl dX8_personsMeant_62 ?_
              refine zj_bipush C 14 rfl dX8_personsMeant_64 ?_
              refine zj_icmp_ne C 97 h_y14 irc_14 dX8_personsMeant_66 rfl (fun c17 => ?_) (fun c17 => ?_)
              · refine zj_iload_n (j := 2) (i := 2) C rfl 3 rfl dX8_personsMeant_69 ?_
                refine zj_iconst C 2 dX8_personsMeant_70 ?_
                refine zj_icmp_lt C 97 h_v2 irc_2 dX8_personsMeant_71 rfl (fun c18 => ?_) (fun c18 => ?_)
                · exact zj_sub [1, 2, 3, 4, 0] rfl (ih.2 r0 r1 v2 v3 y14 h_r0 h_r1 h_v2 h_v3 h_y14 mem)
                · refine zj_iinc C 3 [(2, .int (i32 (w32 (v2 + (-1))))), (4, .int (i32 y14)), (0, .ref (zad Γ r0)), (1, .ref (zad Γ r1)), (3, .int (i32 v3))] rfl dX8_personsMeant_74 (by decide) rfl ?_
                  refine zj_aload_n (j := 0) (i := 0) C rfl 2 rfl dX8_personsMeant_77 ?_
                  refine zj_getR C F h_r0 fl_X8_18 rfl (rfo_8_2 h_r0) dX8_personsMeant_78 ?_
                  refine zj_iload_n (j := 2) (i := 2) C rfl 0 rfl dX8_personsMeant_81 ?_
                  refine zj_iconst C 1 dX8_personsMeant_82 ?_
                  refine zj_isub C dX8_personsMeant_83 ?_
                  refine zj_dup2 C rfl rfl dX8_personsMeant_84 ?_
                  refine zj_iaload C F (zko_8_2 h_r0) (ir_w _) dX8_personsMeant_85 (fun c19 h20 => ?_)
                  refine zj_aload_n (j := 0) (i := 0) C rfl 2 rfl dX8_personsMeant_86 ?_
                  refine zj_getR C F h_r0 fl_X8_18 rfl (rfo_8_2 h_r0) dX8_personsMeant_87 ?_
                  refine zj_iload_n (j := 2) (i := 2) C rfl 0 rfl dX8_personsMeant_90 ?_
                  refine zj_iaload C F (zko_8_2 h_r0) (ir_w _) dX8_personsMeant_91 (fun c21 h22 => ?_)
                  refine zj_iand C dX8_personsMeant_92 ?_
                  refine zj_iastore C F (zko_8_2 h_r0) (ir_w _) (ir_toInt _) dX8_personsMeant_93 (fun c23 => ?_)
                  refine zj_pipeM (fun m24 e_m24 => ?_)
                  refine zj_goto (tgt := 162) C dX8_personsMeant_94 rfl ?_
                  refine zj_iinc C 4 [(3, .int (i32 (w32 (v3 + 1)))), (2, .int (i32 (w32 (v2 + (-1))))), (4, .int (i32 y14)), (0, .ref (zad Γ r0)), (1, .ref (zad Γ r1))] rfl dX8_personsMeant_162 (by decide) rfl ?_
                  refine zj_goto (tgt := 4) C dX8_personsMeant_165 rfl ?_
                  exact zj_sub [3, 4, 1, 0] rfl (ih.1 r0 r1 (w32 (v2 + (-1))) (w32 (v3 + 1)) 0 h_r0 h_r1 (ir_w _) (ir_w _) m24)
              · exact zj_sub [1, 2, 3, 4, 0] rfl (ih.2 r0 r1 v2 v3 y14 h_r0 h_r1 h_v2 h_v3 h_y14 mem)
            · refine zj_aload_n (j := 0) (i := 0) C rfl 1 rfl dX8_personsMeant_41 ?_
              refine zj_getR C F h_r0 fl_X8_18 rfl (rfo_8_2 h_r0) dX8_personsMeant_42 ?_
              refine zj_iload_n (j := 2) (i := 2) C rfl 3 rfl dX8_personsMeant_45 ?_
              refine zj_iconst C 1 dX8_personsMeant_46 ?_
              refine zj_isub C dX8_personsMeant_47 ?_
              refine zj_aload_n (j := 0) (i := 0) C rfl 1 rfl dX8_personsMeant_48 ?_
              refine zj_getR C F h_r0 fl_X8_18 rfl (rfo_8_2 h_r0) dX8_personsMeant_49 ?_
              refine zj_iload_n (j := 2) (i := 2) C rfl 3 rfl dX8_personsMeant_52 ?_
              refine zj_iconst C 1 dX8_personsMeant_53 ?_
              refine zj_isub C dX8_personsMeant_54 ?_
              refine zj_iaload C F (zko_8_2 h_r0) (ir_w _) dX8_personsMeant_55 (fun c25 h26 => ?_)
              refine zj_iconst C (-1) dX8_personsMeant_56 ?_
              refine zj_ixor C dX8_personsMeant_57 ?_
              refine zj_iastore C F (zko_8_2 h_r0) (ir_w _) (ir_toInt _) dX8_personsMeant_58 (fun c27 => ?_)
              refine zj_pipeM (fun m28 e_m28 => ?_)
              refine zj_goto (tgt := 162) C dX8_personsMeant_59 rfl ?_
              refine zj_iinc C 4 [(3, .int (i32 (w32 (v3 + 1)))), (4, .int (i32 y14)), (0, .ref (zad Γ r0)), (1, .ref (zad Γ r1)), (2, .int (i32 v2))] rfl dX8_personsMeant_162 (by decide) rfl ?_
              refine zj_goto (tgt := 4) C dX8_personsMeant_165 rfl ?_
              exact zj_sub [2, 3, 4, 0] rfl (ih.1 r0 r1 v2 (w32 (v3 + 1)) 0 h_r0 h_r1 h_v2 (ir_w _) m28)
          · refine zj_iload C 0 rfl dX8_personsMeant_62 ?_
            refine zj_bipush C 14 rfl dX8_personsMeant_64 ?_
            refine zj_icmp_ne C 97 h_y14 irc_14 dX8_personsMeant_66 rfl (fun c29 => ?_) (fun c29 => ?_)
            · refine zj_iload_n (j := 2) (i := 2) C rfl 3 rfl dX8_personsMeant_69 ?_
              refine zj_iconst C 2 dX8_personsMeant_70 ?_
              refine zj_icmp_lt C 97 h_v2 irc_2 dX8_personsMeant_71 rfl (fun c30 => ?_) (fun c30 => ?_)
              · exact zj_sub [1, 2, 3, 4, 0] rfl (ih.2 r0 r1 v2 v3 y14 h_r0 h_r1 h_v2 h_v3 h_y14 mem)
              · refine zj_iinc C 3 [(2, .int (i32 (w32 (v2 + (-1))))), (4, .int (i32 y14)), (0, .ref (zad Γ r0)), (1, .ref (zad Γ r1)), (3, .int (i32 v3))] rfl dX8_personsMeant_74 (by decide) rfl ?_
                refine zj_aload_n (j := 0) (i := 0) C rfl 2 rfl dX8_personsMeant_77 ?_
                refine zj_getR C F h_r0 fl_X8_18 rfl (rfo_8_2 h_r0) dX8_personsMeant_78 ?_
                refine zj_iload_n (j := 2) (i := 2) C rfl 0 rfl dX8_personsMeant_81 ?_
                refine zj_iconst C 1 dX8_personsMeant_82 ?_
                refine zj_isub C dX8_personsMeant_83 ?_
                refine zj_dup2 C rfl rfl dX8_personsMeant_84 ?_
                refine zj_iaload C F (zko_8_2 h_r0) (ir_w _) dX8_personsMeant_85 (fun c31 h32 => ?_)
                refine zj_aload_n (j := 0) (i := 0) C rfl 2 rfl dX8_personsMeant_86 ?_
                refine zj_getR C F h_r0 fl_X8_18 rfl (rfo_8_2 h_r0) dX8_personsMeant_87 ?_
                refine zj_iload_n (j := 2) (i := 2) C rfl 0 rfl dX8_personsMeant_90 ?_
                refine zj_iaload C F (zko_8_2 h_r0) (ir_w _) dX8_personsMeant_91 (fun c33 h34 => ?_)
                refine zj_iand C dX8_personsMeant_92 ?_
                refine zj_iastore C F (zko_8_2 h_r0) (ir_w _) (ir_toInt _) dX8_personsMeant_93 (fun c35 => ?_)
                refine zj_pipeM (fun m36 e_m36 => ?_)
                refine zj_goto (tgt := 162) C dX8_personsMeant_94 rfl ?_
                refine zj_iinc C 4 [(3, .int (i32 (w32 (v3 + 1)))), (2, .int (i32 (w32 (v2 + (-1))))), (4, .int (i32 y14)), (0, .ref (zad Γ r0)), (1, .ref (zad Γ r1))] rfl dX8_personsMeant_162 (by decide) rfl ?_
                refine zj_goto (tgt := 4) C dX8_personsMeant_165 rfl ?_
                exact zj_sub [3, 4, 1, 0] rfl (ih.1 r0 r1 (w32 (v2 + (-1))) (w32 (v3 + 1)) 0 h_r0 h_r1 (ir_w _) (ir_w _) m36)
            · exact zj_sub [1, 2, 3, 4, 0] rfl (ih.2 r0 r1 v2 v3 y14 h_r0 h_r1 h_v2 h_v3 h_y14 mem)
    · intro r0 r1 v2 v3 v4 h_r0 h_r1 h_v2 h_v3 h_v4 mem
      show zJ X Γ 5 q (b_X8_personsMeant_0 (f_X8_personsMeant_0 n) 1 r0 r1 v2 v3 v4 mem) _ _ _ _
      unfold b_X8_personsMeant_0
      refine zj_iload C 4 rfl dX8_personsMeant_97 ?_
      refine zj_bipush C 13 rfl dX8_personsMeant_99 ?_
      refine zj_icmp_ne C 132 h_v4 irc_13 dX8_personsMeant_101 rfl (fun c1001 => ?_) (fun c1001 => ?_)
      · refine zj_iload_n (j := 2) (i := 2) C rfl 2 rfl dX8_personsMeant_104 ?_
        refine zj_iconst C 2 dX8_personsMeant_105 ?_
        refine zj_icmp_lt C 132 h_v2 irc_2 dX8_personsMeant_106 rfl (fun c1002 => ?_) (fun c1002 => ?_)
        · refine zj_iload_n (j := 2) (i := 2) C rfl 2 rfl dX8_personsMeant_132 ?_
          refine zj_aload_n (j := 0) (i := 0) C rfl 0 rfl dX8_personsMeant_133 ?_
          refine zj_getR C F h_r0 fl_X8_18 rfl (rfo_8_2 h_r0) dX8_personsMeant_134 ?_
          refine zj_alen C F 20 (zko_8_2 h_r0) (Or.inl rfl) (leno_8_2 h_r0) dX8_personsMeant_137 ?_
          refine zj_icmp_ge C 162 h_v2 irc_20 dX8_personsMeant_138 rfl (fun c1003 => ?_) (fun c1003 => ?_)
          · refine zj_iinc C 3 [(3, .int (i32 (w32 (v3 + 1)))), (0, .ref (zad Γ r0)), (1, .ref (zad Γ r1)), (2, .int (i32 v2)), (4, .int (i32 v4))] rfl dX8_personsMeant_162 (by decide) rfl ?_
            refine zj_goto (tgt := 4) C dX8_personsMeant_165 rfl ?_
            exact zj_sub [1, 2, 3, 0] rfl (ih.1 r0 r1 v2 (w32 (v3 + 1)) 0 h_r0 h_r1 h_v2 (ir_w _) mem)
          · refine zj_aload_n (j := 0) (i := 0) C rfl 0 rfl dX8_personsMeant_141 ?_
            refine zj_getR C F h_r0 fl_X8_18 rfl (rfo_8_2 h_r0) dX8_personsMeant_142 ?_
            refine zj_iload_n (j := 2) (i := 2) C rfl 2 rfl dX8_personsMeant_145 ?_
            refine zj_aload_n (j := 1) (i := 1) C rfl 1 rfl dX8_personsMeant_146 ?_
            refine zj_iload C 4 rfl dX8_personsMeant_147 ?_
            refine zj_aload_n (j := 0) (i := 0) C rfl 0 rfl dX8_personsMeant_149 ?_
            refine zj_getR C F h_r0 fl_X8_15 rfl (rfo_8_1 h_r0) dX8_personsMeant_150 ?_
            refine zj_iload_n (j := 3) (i := 3) C rfl 3 rfl dX8_personsMeant_153 ?_
            refine zj_iaload C F (zko_8_1 h_r0) h_v3 dX8_personsMeant_154 (fun c1004 h1005 => ?_)
            refine zj_callSi C Z [.ref (zad Γ r1), .int (i32 v4), .int (i32 (mem (r0 + 2) v3))] [.int (i32 v2), .ref (zad Γ (r0 + 3))] cal_X8_personsOf sta_X8_personsOf ml_X8_95 rfl (by decide) (Nat.le_of_ble_eq_true rfl) rfl dX8_personsMeant_155 (fun q h => M_X8_personsOf l Γ F h_r1 h_v4 h1005 mem q h) (fun y1006 m1007 h_y1006 => ?_)
            refine zj_iastore C F (zko_8_2 h_r0) h_v2 h_y1006 dX8_personsMeant_158 (fun c1008 => ?_)
            refine zj_pipeM (fun m1009 e_m1009 => ?_)
            refine zj_iinc C 2 [(2, .int (i32 (w32 (v2 + 1)))), (0, .ref (zad Γ r0)), (1, .ref (zad Γ r1)), (3, .int (i32 v3)), (4, .int (i32 v4))] rfl dX8_personsMeant_159 (by decide) rfl ?_
            refine zj_iinc C 3 [(3, .int (i32 (w32 (v3 + 1)))), (2, .int (i32 (w32 (v2 + 1)))), (0, .ref (zad Γ r0)), (1, .ref (zad Γ r1)), (4, .int (i32 v4))] rfl dX8_personsMeant_162 (by decide) rfl ?_
            refine zj_goto (tgt := 4) C dX8_personsMeant_165 rfl ?_
            exact zj_sub [2, 3, 1, 0] rfl (ih.1 r0 r1 (w32 (v2 + 1)) (w32 (v3 + 1)) 0 h_r0 h_r1 (ir_w _) (ir_w _) m1009)
        · refine zj_iinc C 2 [(2, .int (i32 (w32 (v2 + (-1))))), (0, .ref (zad Γ r0)), (1, .ref (zad Γ r1)), (3, .int (i32 v3)), (4, .int (i32 v4))] rfl dX8_personsMeant_109 (by decide) rfl ?_
          refine zj_aload_n (j := 0) (i := 0) C rfl 1 rfl dX8_personsMeant_112 ?_
          refine zj_getR C F h_r0 fl_X8_18 rfl (rfo_8_2 h_r0) dX8_personsMeant_113 ?_
          refine zj_iload_n (j := 2) (i := 2) C rfl 0 rfl dX8_personsMeant_116 ?_
          refine zj_iconst C 1 dX8_personsMeant_117 ?_
          refine zj_isub C dX8_personsMeant_118 ?_
          refine zj_dup2 C rfl rfl dX8_personsMeant_119 ?_
          refine zj_iaload C F (zko_8_2 h_r0) (ir_w _) dX8_personsMeant_120 (fun c1010 h1011 => ?_)
          refine zj_aload_n (j := 0) (i := 0) C rfl 1 rfl dX8_personsMeant_121 ?_
          refine zj_getR C F h_r0 fl_X8_18 rfl (rfo_8_2 h_r0) dX8_personsMeant_122 ?_
          refine zj_iload_n (j := 2) (i := 2) C rfl 0 rfl dX8_personsMeant_125 ?_
          refine zj_iaload C F (zko_8_2 h_r0) (ir_w _) dX8_personsMeant_126 (fun c1012 h1013 => ?_)
          refine zj_ior C dX8_personsMeant_127 ?_
          refine zj_iastore C F (zko_8_2 h_r0) (ir_w _) (ir_toInt _) dX8_personsMeant_128 (fun c1014 => ?_)
          refine zj_pipeM (fun m1015 e_m1015 => ?_)
          refine zj_goto (tgt := 162) C dX8_personsMeant_129 rfl ?_
          refine zj_iinc C 3 [(3, .int (i32 (w32 (v3 + 1)))), (2, .int (i32 (w32 (v2 + (-1))))), (0, .ref (zad Γ r0)), (1, .ref (zad Γ r1)), (4, .int (i32 v4))] rfl dX8_personsMeant_162 (by decide) rfl ?_
          refine zj_goto (tgt := 4) C dX8_personsMeant_165 rfl ?_
          exact zj_sub [2, 3, 1, 0] rfl (ih.1 r0 r1 (w32 (v2 + (-1))) (w32 (v3 + 1)) 0 h_r0 h_r1 (ir_w _) (ir_w _) m1015)
      · refine zj_iload_n (j := 2) (i := 2) C rfl 2 rfl dX8_personsMeant_132 ?_
        refine zj_aload_n (j := 0) (i := 0) C rfl 0 rfl dX8_personsMeant_133 ?_
        refine zj_getR C F h_r0 fl_X8_18 rfl (rfo_8_2 h_r0) dX8_personsMeant_134 ?_
        refine zj_alen C F 20 (zko_8_2 h_r0) (Or.inl rfl) (leno_8_2 h_r0) dX8_personsMeant_137 ?_
        refine zj_icmp_ge C 162 h_v2 irc_20 dX8_personsMeant_138 rfl (fun c1016 => ?_) (fun c1016 => ?_)
        · refine zj_iinc C 3 [(3, .int (i32 (w32 (v3 + 1)))), (0, .ref (zad Γ r0)), (1, .ref (zad Γ r1)), (2, .int (i32 v2)), (4, .int (i32 v4))] rfl dX8_personsMeant_162 (by decide) rfl ?_
          refine zj_goto (tgt := 4) C dX8_personsMeant_165 rfl ?_
          exact zj_sub [1, 2, 3, 0] rfl (ih.1 r0 r1 v2 (w32 (v3 + 1)) 0 h_r0 h_r1 h_v2 (ir_w _) mem)
        · refine zj_aload_n (j := 0) (i := 0) C rfl 0 rfl dX8_personsMeant_141 ?_
          refine zj_getR C F h_r0 fl_X8_18 rfl (rfo_8_2 h_r0) dX8_personsMeant_142 ?_
          refine zj_iload_n (j := 2) (i := 2) C rfl 2 rfl dX8_personsMeant_145 ?_
          refine zj_aload_n (j := 1) (i := 1) C rfl 1 rfl dX8_personsMeant_146 ?_
          refine zj_iload C 4 rfl dX8_personsMeant_147 ?_
          refine zj_aload_n (j := 0) (i := 0) C rfl 0 rfl dX8_personsMeant_149 ?_
          refine zj_getR C F h_r0 fl_X8_15 rfl (rfo_8_1 h_r0) dX8_personsMeant_150 ?_
          refine zj_iload_n (j := 3) (i := 3) C rfl 3 rfl dX8_personsMeant_153 ?_
          refine zj_iaload C F (zko_8_1 h_r0) h_v3 dX8_personsMeant_154 (fun c1017 h1018 => ?_)
          refine zj_callSi C Z [.ref (zad Γ r1), .int (i32 v4), .int (i32 (mem (r0 + 2) v3))] [.int (i32 v2), .ref (zad Γ (r0 + 3))] cal_X8_personsOf sta_X8_personsOf ml_X8_95 rfl (by decide) (Nat.le_of_ble_eq_true rfl) rfl dX8_personsMeant_155 (fun q h => M_X8_personsOf l Γ F h_r1 h_v4 h1018 mem q h) (fun y1019 m1020 h_y1019 => ?_)
          refine zj_iastore C F (zko_8_2 h_r0) h_v2 h_y1019 dX8_personsMeant_158 (fun c1021 => ?_)
          refine zj_pipeM (fun m1022 e_m1022 => ?_)
          refine zj_iinc C 2 [(2, .int (i32 (w32 (v2 + 1)))), (0, .ref (zad Γ r0)), (1, .ref (zad Γ r1)), (3, .int (i32 v3)), (4, .int (i32 v4))] rfl dX8_personsMeant_159 (by decide) rfl ?_
          refine zj_iinc C 3 [(3, .int (i32 (w32 (v3 + 1)))), (2, .int (i32 (w32 (v2 + 1)))), (0, .ref (zad Γ r0)), (1, .ref (zad Γ r1)), (4, .int (i32 v4))] rfl dX8_personsMeant_162 (by decide) rfl ?_
          refine zj_goto (tgt := 4) C dX8_personsMeant_165 rfl ?_
          exact zj_sub [2, 3, 1, 0] rfl (ih.1 r0 r1 (w32 (v2 + 1)) (w32 (v3 + 1)) 0 h_r0 h_r1 (ir_w _) (ir_w _) m1022)
noncomputable def f_X8_personsMeant (t0 : Nat) (t1 : Nat) (mem : zMem) : Option (Int × zMem) := f_X8_personsMeant_0 zN 0 t0 t1 0 0 0 mem
set_option maxHeartbeats 4000000 in
theorem M_X8_personsMeant (l : Launch) (Γ : zG) (F : zFull Γ)  {t0 : Nat} {t1 : Nat} (h_t0 : zk t0 8) (h_t1 : zk t1 3) (mem : zMem) (q : Int × zMem) (h : f_X8_personsMeant t0 t1 mem = some q) : zMet l yX8_personsMeant cX8_personsMeant 5 (some .int) 6 Γ 1 [.ref (zad Γ t0), .ref (zad Γ t1)] mem q := by
  refine zMet_of (own := "ShadowHeirs$Sentence") (by decide) rfl (Nat.le_of_ble_eq_true rfl) (fun X C Z => ?_)
  revert h
  show zJ X Γ 5 q (f_X8_personsMeant t0 t1 mem) 0 [(0, .ref (zad Γ t0)), (1, .ref (zad Γ t1))] [] mem
  unfold f_X8_personsMeant
  refine zj_iconst C 0 dX8_personsMeant_0 ?_
  refine zj_istore_n (j := 2) (i := 2) C rfl [(2, .int (i32 0)), (0, .ref (zad Γ t0)), (1, .ref (zad Γ t1))] dX8_personsMeant_1 (by decide) rfl ?_
  refine zj_iconst C 0 dX8_personsMeant_2 ?_
  refine zj_istore_n (j := 3) (i := 3) C rfl [(3, .int (i32 0)), (2, .int (i32 0)), (0, .ref (zad Γ t0)), (1, .ref (zad Γ t1))] dX8_personsMeant_3 (by decide) rfl ?_
  exact zj_sub [2, 3, 1, 0] rfl ((L_X8_personsMeant_0 l F C Z zN).1 t0 t1 0 0 0 h_t0 h_t1 irc_0 irc_0 mem)
noncomputable def f_X11_when  (mem : zMem) : Option (Int × zMem) := zbind (f_X11_hoursByTape mem) fun y1 m2 => if y1 ≤ 0 then (pipe (zup m2 1 2 0) fun m4 => some (y1, m4)) else (zbind (f_X6_byteOn 0 m2) fun y5 m6 => zbind (f_X11_bestToAsk y5 y1 m6) fun y7 m8 => pipe (zup m8 0 17 y7) fun m9 => pipe (zup m9 1 2 0) fun m10 => some (y1, m10))
set_option maxHeartbeats 4000000 in
theorem M_X11_when (l : Launch) (Γ : zG) (F : zFull Γ)    (mem : zMem) (q : Int × zMem) (h : f_X11_when  mem = some q) : zMet l yX11_when cX11_when 2 (some .int) 6 Γ 1 [.ref (zad Γ 0)] mem q := by
  refine zMet_of (own := "ShadowHeirs") (by decide) rfl (Nat.le_of_ble_eq_true rfl) (fun X C Z => ?_)
  revert h
  show zJ X Γ 2 q (f_X11_when  mem) 0 [(0, .ref (zad Γ 0))] [] mem
  unfold f_X11_when
  refine zj_aload_n (j := 0) (i := 0) C rfl 0 rfl dX11_when_0 ?_
  refine zj_callVi C F Z [] [] cal_X11_hoursByTape calv_X11_hoursByTape ml_X11_304 zk_0 rfl rfl (by decide) (Nat.le_of_ble_eq_true rfl) rfl dX11_when_1 (fun q h => M_X11_hoursByTape l Γ F  mem q h) (fun y1 m2 h_y1 => ?_)
  refine zj_istore_n (j := 1) (i := 1) C rfl [(1, .int (i32 y1)), (0, .ref (zad Γ 0))] dX11_when_4 (by decide) rfl ?_
  refine zj_iload_n (j := 1) (i := 1) C rfl 0 rfl dX11_when_5 ?_
  refine zj_if_le C 26 h_y1 dX11_when_6 rfl (fun c3 => ?_) (fun c3 => ?_)
  · refine zj_aload_n (j := 0) (i := 0) C rfl 1 rfl dX11_when_26 ?_
    refine zj_getR C F zk_0 fl_X11_10 rfl rf_0_0 dX11_when_27 ?_
    refine zj_iconst C 0 dX11_when_30 ?_
    refine zj_putI C F 2 rfl zk_1 fl_X11_130 rfl fp_6_2 irc_0 dX11_when_31 ?_
    refine zj_pipeM (fun m4 e_m4 => ?_)
    refine zj_iload_n (j := 1) (i := 1) C rfl 0 rfl dX11_when_34 ?_
    exact zrt_i C Z h_y1 dX11_when_35
  · refine zj_aload_n (j := 0) (i := 0) C rfl 1 rfl dX11_when_9 ?_
    refine zj_aload_n (j := 0) (i := 0) C rfl 1 rfl dX11_when_10 ?_
    refine zj_aload_n (j := 0) (i := 0) C rfl 1 rfl dX11_when_11 ?_
    refine zj_getR C F zk_0 fl_X11_10 rfl rf_0_0 dX11_when_12 ?_
    refine zj_iconst C 0 dX11_when_15 ?_
    refine zj_callVi C F Z [.int (i32 0)] [.ref (zad Γ 0), .ref (zad Γ 0)] cal_X6_byteOn calv_X6_byteOn ml_X11_307 zk_1 rfl rfl (by decide) (Nat.le_of_ble_eq_true rfl) rfl dX11_when_16 (fun q h => M_X6_byteOn l Γ F irc_0 m2 q h) (fun y5 m6 h_y5 => ?_)
    refine zj_iload_n (j := 1) (i := 1) C rfl 0 rfl dX11_when_19 ?_
    refine zj_callVi C F Z [.int (i32 y5), .int (i32 y1)] [.ref (zad Γ 0)] cal_X11_bestToAsk calv_X11_bestToAsk ml_X11_310 zk_0 rfl rfl (by decide) (Nat.le_of_ble_eq_true rfl) rfl dX11_when_20 (fun q h => M_X11_bestToAsk l Γ F h_y5 h_y1 m6 q h) (fun y7 m8 h_y7 => ?_)
    refine zj_putI C F 17 rfl zk_0 fl_X11_113 rfl fp_11_17 h_y7 dX11_when_23 ?_
    refine zj_pipeM (fun m9 e_m9 => ?_)
    refine zj_aload_n (j := 0) (i := 0) C rfl 1 rfl dX11_when_26 ?_
    refine zj_getR C F zk_0 fl_X11_10 rfl rf_0_0 dX11_when_27 ?_
    refine zj_iconst C 0 dX11_when_30 ?_
    refine zj_putI C F 2 rfl zk_1 fl_X11_130 rfl fp_6_2 irc_0 dX11_when_31 ?_
    refine zj_pipeM (fun m10 e_m10 => ?_)
    refine zj_iload_n (j := 1) (i := 1) C rfl 0 rfl dX11_when_34 ?_
    exact zrt_i C Z h_y1 dX11_when_35
noncomputable def f_X11_drawn (x0 : Int) (x1 : Int) (mem : zMem) : Option (Int × zMem) := if x0 < 1 then (some ((-1), mem)) else (if x0 ≤ 60 then (zbind (f_X7_copyFrom 22 11 mem) fun _ m3 => zbind (f_X1_liveHours 21 x0 x1 m3) fun y4 m5 => if y4 ≤ 0 then (some (y4, m5)) else (zbind (f_X2_keep 11 m5) fun _ m7 => zbind (f_X7_copyFrom 11 22 m7) fun _ m8 => some (y4, m8))) else (some ((-1), mem)))
set_option maxHeartbeats 4000000 in
theorem M_X11_drawn (l : Launch) (Γ : zG) (F : zFull Γ)  {x0 : Int} {x1 : Int} (h_x0 : ir x0) (h_x1 : ir x1) (mem : zMem) (q : Int × zMem) (h : f_X11_drawn x0 x1 mem = some q) : zMet l yX11_drawn cX11_drawn 4 (some .int) 6 Γ 1 [.ref (zad Γ 0), .int (i32 x0), .int (i32 x1)] mem q := by
  refine zMet_of (own := "ShadowHeirs") (by decide) rfl (Nat.le_of_ble_eq_true rfl) (fun X C Z => ?_)
  revert h
  show zJ X Γ 4 q (f_X11_drawn x0 x1 mem) 0 [(0, .ref (zad Γ 0)), (1, .int (i32 x0)), (2, .int (i32 x1))] [] mem
  unfold f_X11_drawn
  refine zj_iload_n (j := 1) (i := 1) C rfl 1 rfl dX11_drawn_0 ?_
  refine zj_iconst C 1 dX11_drawn_1 ?_
  refine zj_icmp_lt C 11 h_x0 irc_1 dX11_drawn_2 rfl (fun c1 => ?_) (fun c1 => ?_)
  · refine zj_iconst C (-1) dX11_drawn_11 ?_
    exact zrt_i C Z irc_m1 dX11_drawn_12
  · refine zj_iload_n (j := 1) (i := 1) C rfl 1 rfl dX11_drawn_5 ?_
    refine zj_bipush C 60 rfl dX11_drawn_6 ?_
    refine zj_icmp_le C 13 h_x0 irc_60 dX11_drawn_8 rfl (fun c2 => ?_) (fun c2 => ?_)
    · refine zj_aload_n (j := 0) (i := 0) C rfl 0 rfl dX11_drawn_13 ?_
      refine zj_getR C F zk_0 fl_X11_46 rfl rf_0_5 dX11_drawn_14 ?_
      refine zj_getR C F zk_21 fl_X11_322 rfl rf_21_1 dX11_drawn_17 ?_
      refine zj_aload_n (j := 0) (i := 0) C rfl 0 rfl dX11_drawn_20 ?_
      refine zj_getR C F zk_0 fl_X11_26 rfl rf_0_2 dX11_drawn_21 ?_
      refine zj_callVv C F Z [.ref (zad Γ 11)] [] cal_X7_copyFrom calv_X7_copyFrom ml_X11_323 zk_22 rfl rfl (by decide) (Nat.le_of_ble_eq_true rfl) rfl dX11_drawn_24 (fun q h => M_X7_copyFrom l Γ F zk_22 zk_11 mem q h) (fun _ m3 _ => ?_)
      refine zj_aload_n (j := 0) (i := 0) C rfl 0 rfl dX11_drawn_27 ?_
      refine zj_getR C F zk_0 fl_X11_95 rfl rf_0_13 dX11_drawn_28 ?_
      refine zj_aload_n (j := 0) (i := 0) C rfl 0 rfl dX11_drawn_31 ?_
      refine zj_getR C F zk_0 fl_X11_46 rfl rf_0_5 dX11_drawn_32 ?_
      refine zj_iload_n (j := 1) (i := 1) C rfl 1 rfl dX11_drawn_35 ?_
      refine zj_iload_n (j := 2) (i := 2) C rfl 2 rfl dX11_drawn_36 ?_
      refine zj_callVi C F Z [.ref (zad Γ 21), .int (i32 x0), .int (i32 x1)] [] cal_X1_liveHours calv_X1_liveHours ml_X11_325 zk_101 rfl rfl (by decide) (Nat.le_of_ble_eq_true rfl) rfl dX11_drawn_37 (fun q h => M_X1_liveHours l Γ F zk_21 h_x0 h_x1 m3 q h) (fun y4 m5 h_y4 => ?_)
      refine zj_istore_n (j := 3) (i := 3) C rfl [(3, .int (i32 y4)), (0, .ref (zad Γ 0)), (1, .int (i32 x0)), (2, .int (i32 x1))] dX11_drawn_40 (by decide) rfl ?_
      refine zj_iload_n (j := 3) (i := 3) C rfl 0 rfl dX11_drawn_41 ?_
      refine zj_if_le C 70 h_y4 dX11_drawn_42 rfl (fun c6 => ?_) (fun c6 => ?_)
      · refine zj_iload_n (j := 3) (i := 3) C rfl 0 rfl dX11_drawn_70 ?_
        exact zrt_i C Z h_y4 dX11_drawn_71
      · refine zj_aload_n (j := 0) (i := 0) C rfl 1 rfl dX11_drawn_45 ?_
        refine zj_getR C F zk_0 fl_X11_71 rfl rf_0_9 dX11_drawn_46 ?_
        refine zj_aload_n (j := 0) (i := 0) C rfl 1 rfl dX11_drawn_49 ?_
        refine zj_getR C F zk_0 fl_X11_26 rfl rf_0_2 dX11_drawn_50 ?_
        refine zj_callVv C F Z [.ref (zad Γ 11)] [] cal_X2_keep calv_X2_keep ml_X11_238 zk_53 rfl rfl (by decide) (Nat.le_of_ble_eq_true rfl) rfl dX11_drawn_53 (fun q h => M_X2_keep l Γ F zk_11 m5 q h) (fun _ m7 _ => ?_)
        refine zj_aload_n (j := 0) (i := 0) C rfl 1 rfl dX11_drawn_56 ?_
        refine zj_getR C F zk_0 fl_X11_26 rfl rf_0_2 dX11_drawn_57 ?_
        refine zj_aload_n (j := 0) (i := 0) C rfl 1 rfl dX11_drawn_60 ?_
        refine zj_getR C F zk_0 fl_X11_46 rfl rf_0_5 dX11_drawn_61 ?_
        refine zj_getR C F zk_21 fl_X11_322 rfl rf_21_1 dX11_drawn_64 ?_
        refine zj_callVv C F Z [.ref (zad Γ 22)] [] cal_X7_copyFrom calv_X7_copyFrom ml_X11_323 zk_11 rfl rfl (by decide) (Nat.le_of_ble_eq_true rfl) rfl dX11_drawn_67 (fun q h => M_X7_copyFrom l Γ F zk_11 zk_22 m7 q h) (fun _ m8 _ => ?_)
        refine zj_iload_n (j := 3) (i := 3) C rfl 0 rfl dX11_drawn_70 ?_
        exact zrt_i C Z h_y4 dX11_drawn_71
    · refine zj_iconst C (-1) dX11_drawn_11 ?_
      exact zrt_i C Z irc_m1 dX11_drawn_12
noncomputable def b_X11_odds_0 (rec : Int → Int → Int → Int → Int → zMem → Option (Int × zMem)) (v1 : Int) (v2 : Int) (v3 : Int) (v4 : Int) (v5 : Int) (mem : zMem) : Option (Int × zMem) := if v5 ≥ v2 then (some (v4, mem)) else (zbind (f_X7_copyFrom 22 11 mem) fun _ m2 => zbind (f_X1_liveHours 21 20 (w32 (v3 + v5)) m2) fun y3 m4 => if ix 25 v1 then if ix 14 v1 then if (m4 25 v1) ≤ (m4 14 v1) then (rec v1 v2 v3 v4 (w32 (v5 + 1)) m4) else (rec v1 v2 v3 (w32 (v4 + 1)) (w32 (v5 + 1)) m4) else none else none)
noncomputable def f_X11_odds_0 : Nat → Int → Int → Int → Int → Int → zMem → Option (Int × zMem) := zfuel (fun _ _ _ _ _ _ => none) (b_X11_odds_0)
set_option maxHeartbeats 4000000 in
theorem L_X11_odds_0 (l : Launch) {Γ : zG} (F : zFull Γ) {X : zM} {q : Int × zMem} (C : zC X Γ "ShadowHeirs" cX11_odds 6) (Z : zRt X l Γ 6 1 (some .int) q) : ∀ n : Nat, ∀ (v1 : Int) (v2 : Int) (v3 : Int) (v4 : Int) (v5 : Int) (h_v1 : ir v1) (h_v2 : ir v2) (h_v3 : ir v3) (h_v4 : ir v4) (h_v5 : ir v5) (mem : zMem), zJ X Γ 6 q (f_X11_odds_0 n v1 v2 v3 v4 v5 mem) 30 [(0, .ref (zad Γ 0)), (1, .int (i32 v1)), (2, .int (i32 v2)), (3, .int (i32 v3)), (4, .int (i32 v4)), (5, .int (i32 v5))] [] mem := by
  intro n
  induction n with
  | zero => intros; exact zj_none
  | succ n ih =>
    intro v1 v2 v3 v4 v5 h_v1 h_v2 h_v3 h_v4 h_v5 mem
    show zJ X Γ 6 q (b_X11_odds_0 (f_X11_odds_0 n) v1 v2 v3 v4 v5 mem) _ _ _ _
    unfold b_X11_odds_0
    refine zj_iload C 5 rfl dX11_odds_30 ?_
    refine zj_iload_n (j := 2) (i := 2) C rfl 2 rfl dX11_odds_32 ?_
    refine zj_icmp_ge C 101 h_v5 h_v2 dX11_odds_33 rfl (fun c1 => ?_) (fun c1 => ?_)
    · refine zj_iload C 4 rfl dX11_odds_101 ?_
      exact zrt_i C Z h_v4 dX11_odds_103
    · refine zj_aload_n (j := 0) (i := 0) C rfl 0 rfl dX11_odds_36 ?_
      refine zj_getR C F zk_0 fl_X11_46 rfl rf_0_5 dX11_odds_37 ?_
      refine zj_getR C F zk_21 fl_X11_322 rfl rf_21_1 dX11_odds_40 ?_
      refine zj_aload_n (j := 0) (i := 0) C rfl 0 rfl dX11_odds_43 ?_
      refine zj_getR C F zk_0 fl_X11_26 rfl rf_0_2 dX11_odds_44 ?_
      refine zj_callVv C F Z [.ref (zad Γ 11)] [] cal_X7_copyFrom calv_X7_copyFrom ml_X11_323 zk_22 rfl rfl (by decide) (Nat.le_of_ble_eq_true rfl) rfl dX11_odds_47 (fun q h => M_X7_copyFrom l Γ F zk_22 zk_11 mem q h) (fun _ m2 _ => ?_)
      refine zj_aload_n (j := 0) (i := 0) C rfl 0 rfl dX11_odds_50 ?_
      refine zj_getR C F zk_0 fl_X11_95 rfl rf_0_13 dX11_odds_51 ?_
      refine zj_aload_n (j := 0) (i := 0) C rfl 0 rfl dX11_odds_54 ?_
      refine zj_getR C F zk_0 fl_X11_46 rfl rf_0_5 dX11_odds_55 ?_
      refine zj_bipush C 20 rfl dX11_odds_58 ?_
      refine zj_iload_n (j := 3) (i := 3) C rfl 3 rfl dX11_odds_60 ?_
      refine zj_iload C 5 rfl dX11_odds_61 ?_
      refine zj_iadd C dX11_odds_63 ?_
      refine zj_callVi C F Z [.ref (zad Γ 21), .int (i32 20), .int (i32 (w32 (v3 + v5)))] [] cal_X1_liveHours calv_X1_liveHours ml_X11_325 zk_101 rfl rfl (by decide) (Nat.le_of_ble_eq_true rfl) rfl dX11_odds_64 (fun q h => M_X1_liveHours l Γ F zk_21 irc_20 (ir_w _) m2 q h) (fun y3 m4 h_y3 => ?_)
      refine zj_pop C rfl dX11_odds_67 ?_
      refine zj_aload_n (j := 0) (i := 0) C rfl 0 rfl dX11_odds_68 ?_
      refine zj_getR C F zk_0 fl_X11_46 rfl rf_0_5 dX11_odds_69 ?_
      refine zj_getR C F zk_21 fl_X11_322 rfl rf_21_1 dX11_odds_72 ?_
      refine zj_getR C F zk_22 fl_X11_208 rfl rf_22_2 dX11_odds_75 ?_
      refine zj_iload_n (j := 1) (i := 1) C rfl 1 rfl dX11_odds_78 ?_
      refine zj_iaload C F zk_25 h_v1 dX11_odds_79 (fun c5 h6 => ?_)
      refine zj_aload_n (j := 0) (i := 0) C rfl 0 rfl dX11_odds_80 ?_
      refine zj_getR C F zk_0 fl_X11_26 rfl rf_0_2 dX11_odds_81 ?_
      refine zj_getR C F zk_11 fl_X11_208 rfl rf_11_2 dX11_odds_84 ?_
      refine zj_iload_n (j := 1) (i := 1) C rfl 1 rfl dX11_odds_87 ?_
      refine zj_iaload C F zk_14 h_v1 dX11_odds_88 (fun c7 h8 => ?_)
      refine zj_icmp_le C 95 h6 h8 dX11_odds_89 rfl (fun c9 => ?_) (fun c9 => ?_)
      · refine zj_iinc C 5 [(5, .int (i32 (w32 (v5 + 1)))), (0, .ref (zad Γ 0)), (1, .int (i32 v1)), (2, .int (i32 v2)), (3, .int (i32 v3)), (4, .int (i32 v4))] rfl dX11_odds_95 (by decide) rfl ?_
        refine zj_goto (tgt := 30) C dX11_odds_98 rfl ?_
        exact zj_sub [1, 2, 3, 4, 5, 0] rfl (ih v1 v2 v3 v4 (w32 (v5 + 1)) h_v1 h_v2 h_v3 h_v4 (ir_w _) m4)
      · refine zj_iinc C 4 [(4, .int (i32 (w32 (v4 + 1)))), (0, .ref (zad Γ 0)), (1, .int (i32 v1)), (2, .int (i32 v2)), (3, .int (i32 v3)), (5, .int (i32 v5))] rfl dX11_odds_92 (by decide) rfl ?_
        refine zj_iinc C 5 [(5, .int (i32 (w32 (v5 + 1)))), (4, .int (i32 (w32 (v4 + 1)))), (0, .ref (zad Γ 0)), (1, .int (i32 v1)), (2, .int (i32 v2)), (3, .int (i32 v3))] rfl dX11_odds_95 (by decide) rfl ?_
        refine zj_goto (tgt := 30) C dX11_odds_98 rfl ?_
        exact zj_sub [2, 3, 4, 5, 1, 0] rfl (ih v1 v2 v3 (w32 (v4 + 1)) (w32 (v5 + 1)) h_v1 h_v2 h_v3 (ir_w _) (ir_w _) m4)
noncomputable def f_X11_odds (x0 : Int) (x1 : Int) (x2 : Int) (mem : zMem) : Option (Int × zMem) := zbind (f_X5_hasPerson 4 x0 mem) fun y1 m2 => if y1 = 0 then (some ((-1), m2)) else (if x1 < 1 then (some ((-1), m2)) else (if x1 ≤ 30 then (f_X11_odds_0 zN x0 x1 x2 0 0 m2) else (some ((-1), m2))))
set_option maxHeartbeats 4000000 in
theorem M_X11_odds (l : Launch) (Γ : zG) (F : zFull Γ)  {x0 : Int} {x1 : Int} {x2 : Int} (h_x0 : ir x0) (h_x1 : ir x1) (h_x2 : ir x2) (mem : zMem) (q : Int × zMem) (h : f_X11_odds x0 x1 x2 mem = some q) : zMet l yX11_odds cX11_odds 6 (some .int) 6 Γ 1 [.ref (zad Γ 0), .int (i32 x0), .int (i32 x1), .int (i32 x2)] mem q := by
  refine zMet_of (own := "ShadowHeirs") (by decide) rfl (Nat.le_of_ble_eq_true rfl) (fun X C Z => ?_)
  revert h
  show zJ X Γ 6 q (f_X11_odds x0 x1 x2 mem) 0 [(0, .ref (zad Γ 0)), (1, .int (i32 x0)), (2, .int (i32 x1)), (3, .int (i32 x2))] [] mem
  unfold f_X11_odds
  refine zj_aload_n (j := 0) (i := 0) C rfl 0 rfl dX11_odds_0 ?_
  refine zj_getR C F zk_0 fl_X11_19 rfl rf_0_1 dX11_odds_1 ?_
  refine zj_iload_n (j := 1) (i := 1) C rfl 1 rfl dX11_odds_4 ?_
  refine zj_callVi C F Z [.int (i32 x0)] [] cal_X5_hasPerson calv_X5_hasPerson ml_X11_200 zk_4 rfl rfl (by decide) (Nat.le_of_ble_eq_true rfl) rfl dX11_odds_5 (fun q h => M_X5_hasPerson l Γ F zk_4 h_x0 mem q h) (fun y1 m2 h_y1 => ?_)
  refine zj_if_eq C 22 h_y1 dX11_odds_8 rfl (fun c3 => ?_) (fun c3 => ?_)
  · refine zj_iconst C (-1) dX11_odds_22 ?_
    exact zrt_i C Z irc_m1 dX11_odds_23
  · refine zj_iload_n (j := 2) (i := 2) C rfl 2 rfl dX11_odds_11 ?_
    refine zj_iconst C 1 dX11_odds_12 ?_
    refine zj_icmp_lt C 22 h_x1 irc_1 dX11_odds_13 rfl (fun c4 => ?_) (fun c4 => ?_)
    · refine zj_iconst C (-1) dX11_odds_22 ?_
      exact zrt_i C Z irc_m1 dX11_odds_23
    · refine zj_iload_n (j := 2) (i := 2) C rfl 2 rfl dX11_odds_16 ?_
      refine zj_bipush C 30 rfl dX11_odds_17 ?_
      refine zj_icmp_le C 24 h_x1 irc_30 dX11_odds_19 rfl (fun c5 => ?_) (fun c5 => ?_)
      · refine zj_iconst C 0 dX11_odds_24 ?_
        refine zj_istore C [(4, .int (i32 0)), (0, .ref (zad Γ 0)), (1, .int (i32 x0)), (2, .int (i32 x1)), (3, .int (i32 x2))] dX11_odds_25 (by decide) rfl ?_
        refine zj_iconst C 0 dX11_odds_27 ?_
        refine zj_istore C [(5, .int (i32 0)), (4, .int (i32 0)), (0, .ref (zad Γ 0)), (1, .int (i32 x0)), (2, .int (i32 x1)), (3, .int (i32 x2))] dX11_odds_28 (by decide) rfl ?_
        exact zj_sub [2, 3, 4, 5, 1, 0] rfl ((L_X11_odds_0 l F C Z zN) x0 x1 x2 0 0 h_x0 h_x1 h_x2 irc_0 irc_0 m2)
      · refine zj_iconst C (-1) dX11_odds_22 ?_
        exact zrt_i C Z irc_m1 dX11_odds_23
noncomputable def f_X11_said (x0 : Int) (mem : zMem) : Option (Int × zMem) := if (mem 16 4) = 0 then (some ((-1), mem)) else (zbind (f_X8_personsMeant 16 20 mem) fun y3 m4 => if x0 = (-1) then (zbind (f_J6_bitCount_0f7a4 y3 m4) fun y6 m7 => some (y6, m7)) else (zbind (f_X11_placeOfBit y3 x0 m4) fun y8 m9 => some (y8, m9)))
set_option maxHeartbeats 4000000 in
theorem M_X11_said (l : Launch) (Γ : zG) (F : zFull Γ)  {x0 : Int} (h_x0 : ir x0) (mem : zMem) (q : Int × zMem) (h : f_X11_said x0 mem = some q) : zMet l yX11_said cX11_said 3 (some .int) 7 Γ 1 [.ref (zad Γ 0), .int (i32 x0)] mem q := by
  refine zMet_of (own := "ShadowHeirs") (by decide) rfl (Nat.le_of_ble_eq_true rfl) (fun X C Z => ?_)
  revert h
  show zJ X Γ 3 q (f_X11_said x0 mem) 0 [(0, .ref (zad Γ 0)), (1, .int (i32 x0))] [] mem
  unfold f_X11_said
  refine zj_aload_n (j := 0) (i := 0) C rfl 0 rfl dX11_said_0 ?_
  refine zj_getR C F zk_0 fl_X11_33 rfl rf_0_3 dX11_said_1 ?_
  refine zj_getI C F 4 rfl zk_16 fl_X11_358 rfl dX11_said_4 (fun h1 => ?_)
  refine zj_if_ne C 12 h1 dX11_said_7 rfl (fun c2 => ?_) (fun c2 => ?_)
  · refine zj_iconst C (-1) dX11_said_10 ?_
    exact zrt_i C Z irc_m1 dX11_said_11
  · refine zj_aload_n (j := 0) (i := 0) C rfl 0 rfl dX11_said_12 ?_
    refine zj_getR C F zk_0 fl_X11_33 rfl rf_0_3 dX11_said_13 ?_
    refine zj_aload_n (j := 0) (i := 0) C rfl 0 rfl dX11_said_16 ?_
    refine zj_getR C F zk_0 fl_X11_42 rfl rf_0_4 dX11_said_17 ?_
    refine zj_callVi C F Z [.ref (zad Γ 20)] [] cal_X8_personsMeant calv_X8_personsMeant ml_X11_361 zk_16 rfl rfl (by decide) (Nat.le_of_ble_eq_true rfl) rfl dX11_said_20 (fun q h => M_X8_personsMeant l Γ F zk_16 zk_20 mem q h) (fun y3 m4 h_y3 => ?_)
    refine zj_istore_n (j := 2) (i := 2) C rfl [(2, .int (i32 y3)), (0, .ref (zad Γ 0)), (1, .int (i32 x0))] dX11_said_23 (by decide) rfl ?_
    refine zj_iload_n (j := 1) (i := 1) C rfl 2 rfl dX11_said_24 ?_
    refine zj_iconst C (-1) dX11_said_25 ?_
    refine zj_icmp_ne C 36 h_x0 irc_m1 dX11_said_26 rfl (fun c5 => ?_) (fun c5 => ?_)
    · refine zj_iload_n (j := 2) (i := 2) C rfl 0 rfl dX11_said_29 ?_
      refine zj_callSi C Z [.int (i32 y3)] [] cal_J6_bitCount_0f7a4 sta_J6_bitCount_0f7a4 ml_X11_365 rfl (by decide) (Nat.le_of_ble_eq_true rfl) rfl dX11_said_30 (fun q h => M_J6_bitCount_0f7a4 l Γ F h_y3 m4 q h) (fun y6 m7 h_y6 => ?_)
      refine zj_goto (tgt := 41) C dX11_said_33 rfl ?_
      exact zrt_i C Z h_y6 dX11_said_41
    · refine zj_iload_n (j := 2) (i := 2) C rfl 0 rfl dX11_said_36 ?_
      refine zj_iload_n (j := 1) (i := 1) C rfl 2 rfl dX11_said_37 ?_
      refine zj_callSi C Z [.int (i32 y3), .int (i32 x0)] [] cal_X11_placeOfBit sta_X11_placeOfBit ml_X11_370 rfl (by decide) (Nat.le_of_ble_eq_true rfl) rfl dX11_said_38 (fun q h => M_X11_placeOfBit l Γ F h_y3 h_x0 m4 q h) (fun y8 m9 h_y8 => ?_)
      exact zrt_i C Z h_y8 dX11_said_41
noncomputable def b_X0_readLines_0 (rec : Nat → Int → zMem → Option (Int × zMem)) (r1 : Nat) (v2 : Int) (mem : zMem) : Option (Int × zMem) := if v2 > 40 then (some (0, mem)) else (zbind (f_X6_step mem) fun _ m2 => if (m2 1 6) = 0 then (some (0, m2)) else (zbind (f_X0_readLine r1 m2) fun y5 m6 => if y5 = 0 then (some (0, m6)) else (zbind (f_X6_wantSign 59 m6) fun y8 m9 => if y8 = 0 then (some (0, m9)) else (pipe (zup m9 45 4 (w32 ((m9 45 4) + 1))) fun m12 => rec r1 (w32 (v2 + 1)) m12))))
noncomputable def f_X0_readLines_0 : Nat → Nat → Int → zMem → Option (Int × zMem) := zfuel (fun _ _ _ => none) (b_X0_readLines_0)
set_option maxHeartbeats 4000000 in
theorem L_X0_readLines_0 (l : Launch) {Γ : zG} (F : zFull Γ) {X : zM} {q : Int × zMem} (C : zC X Γ "ShadowHeirs$Book" cX0_readLines 3) (Z : zRt X l Γ 6 0 none q) : ∀ n : Nat, ∀ (r1 : Nat) (v2 : Int) (h_r1 : zk r1 5) (h_v2 : ir v2) (mem : zMem), zJ X Γ 3 q (f_X0_readLines_0 n r1 v2 mem) 17 [(0, .ref (zad Γ 45)), (1, .ref (zad Γ r1)), (2, .int (i32 v2))] [] mem := by
  intro n
  induction n with
  | zero => intros; exact zj_none
  | succ n ih =>
    intro r1 v2 h_r1 h_v2 mem
    show zJ X Γ 3 q (b_X0_readLines_0 (f_X0_readLines_0 n) r1 v2 mem) _ _ _ _
    unfold b_X0_readLines_0
    refine zj_iload_n (j := 2) (i := 2) C rfl 2 rfl dX0_readLines_17 ?_
    refine zj_bipush C 40 rfl dX0_readLines_18 ?_
    refine zj_icmp_gt C 77 h_v2 irc_40 dX0_readLines_20 rfl (fun c1 => ?_) (fun c1 => ?_)
    · exact zrt_v C Z dX0_readLines_77
    · refine zj_aload_n (j := 0) (i := 0) C rfl 0 rfl dX0_readLines_23 ?_
      refine zj_getR C F zk_45 fl_X0_41 rfl rf_45_0 dX0_readLines_24 ?_
      refine zj_callVv C F Z [] [] cal_X6_step calv_X6_step ml_X0_51 zk_1 rfl rfl (by decide) (Nat.le_of_ble_eq_true rfl) rfl dX0_readLines_27 (fun q h => M_X6_step l Γ F  mem q h) (fun _ m2 _ => ?_)
      refine zj_aload_n (j := 0) (i := 0) C rfl 0 rfl dX0_readLines_30 ?_
      refine zj_getR C F zk_45 fl_X0_41 rfl rf_45_0 dX0_readLines_31 ?_
      refine zj_getI C F 6 rfl zk_1 fl_X0_54 rfl dX0_readLines_34 (fun h3 => ?_)
      refine zj_if_eq C 60 h3 dX0_readLines_37 rfl (fun c4 => ?_) (fun c4 => ?_)
      · exact zrt_v C Z dX0_readLines_60
      · refine zj_aload_n (j := 0) (i := 0) C rfl 0 rfl dX0_readLines_40 ?_
        refine zj_aload_n (j := 1) (i := 1) C rfl 1 rfl dX0_readLines_41 ?_
        refine zj_callVi C F Z [.ref (zad Γ r1)] [] cal_X0_readLine calv_X0_readLine ml_X0_57 zk_45 rfl rfl (by decide) (Nat.le_of_ble_eq_true rfl) rfl dX0_readLines_42 (fun q h => M_X0_readLine l Γ F h_r1 m2 q h) (fun y5 m6 h_y5 => ?_)
        refine zj_if_eq C 60 h_y5 dX0_readLines_45 rfl (fun c7 => ?_) (fun c7 => ?_)
        · exact zrt_v C Z dX0_readLines_60
        · refine zj_aload_n (j := 0) (i := 0) C rfl 0 rfl dX0_readLines_48 ?_
          refine zj_getR C F zk_45 fl_X0_41 rfl rf_45_0 dX0_readLines_49 ?_
          refine zj_bipush C 59 rfl dX0_readLines_52 ?_
          refine zj_callVi C F Z [.int (i32 59)] [] cal_X6_wantSign calv_X6_wantSign ml_X0_61 zk_1 rfl rfl (by decide) (Nat.le_of_ble_eq_true rfl) rfl dX0_readLines_54 (fun q h => M_X6_wantSign l Γ F irc_59 m6 q h) (fun y8 m9 h_y8 => ?_)
          refine zj_if_ne C 61 h_y8 dX0_readLines_57 rfl (fun c10 => ?_) (fun c10 => ?_)
          · exact zrt_v C Z dX0_readLines_60
          · refine zj_aload_n (j := 0) (i := 0) C rfl 0 rfl dX0_readLines_61 ?_
            refine zj_dup C rfl dX0_readLines_62 ?_
            refine zj_getI C F 4 rfl zk_45 fl_X0_21 rfl dX0_readLines_63 (fun h11 => ?_)
            refine zj_iconst C 1 dX0_readLines_66 ?_
            refine zj_iadd C dX0_readLines_67 ?_
            refine zj_putI C F 4 rfl zk_45 fl_X0_21 rfl fp_0_4 (ir_w _) dX0_readLines_68 ?_
            refine zj_pipeM (fun m12 e_m12 => ?_)
            refine zj_iinc C 2 [(2, .int (i32 (w32 (v2 + 1)))), (0, .ref (zad Γ 45)), (1, .ref (zad Γ r1))] rfl dX0_readLines_71 (by decide) rfl ?_
            refine zj_goto (tgt := 17) C dX0_readLines_74 rfl ?_
            exact zj_sub [1, 2, 0] rfl (ih r1 (w32 (v2 + 1)) h_r1 (ir_w _) m12)
noncomputable def f_X0_readLines (t0 : Nat) (mem : zMem) : Option (Int × zMem) := zbind (f_X6_beginText 400 mem) fun _ m1 => pipe (zup m1 45 4 0) fun m2 => f_X0_readLines_0 zN t0 0 m2
set_option maxHeartbeats 4000000 in
theorem M_X0_readLines (l : Launch) (Γ : zG) (F : zFull Γ)  {t0 : Nat} (h_t0 : zk t0 5) (mem : zMem) (q : Int × zMem) (h : f_X0_readLines t0 mem = some q) : zMet l yX0_readLines cX0_readLines 3 none 6 Γ 0 [.ref (zad Γ 45), .ref (zad Γ t0)] mem q := by
  refine zMet_of (own := "ShadowHeirs$Book") (by decide) rfl (Nat.le_of_ble_eq_true rfl) (fun X C Z => ?_)
  revert h
  show zJ X Γ 3 q (f_X0_readLines t0 mem) 0 [(0, .ref (zad Γ 45)), (1, .ref (zad Γ t0))] [] mem
  unfold f_X0_readLines
  refine zj_aload_n (j := 0) (i := 0) C rfl 0 rfl dX0_readLines_0 ?_
  refine zj_getR C F zk_45 fl_X0_41 rfl rf_45_0 dX0_readLines_1 ?_
  refine zj_sipush C 400 rfl dX0_readLines_4 ?_
  refine zj_callVv C F Z [.int (i32 400)] [] cal_X6_beginText calv_X6_beginText ml_X0_45 zk_1 rfl rfl (by decide) (Nat.le_of_ble_eq_true rfl) rfl dX0_readLines_7 (fun q h => M_X6_beginText l Γ F irc_400 mem q h) (fun _ m1 _ => ?_)
  refine zj_aload_n (j := 0) (i := 0) C rfl 0 rfl dX0_readLines_10 ?_
  refine zj_iconst C 0 dX0_readLines_11 ?_
  refine zj_putI C F 4 rfl zk_45 fl_X0_21 rfl fp_0_4 irc_0 dX0_readLines_12 ?_
  refine zj_pipeM (fun m2 e_m2 => ?_)
  refine zj_iconst C 0 dX0_readLines_15 ?_
  refine zj_istore_n (j := 2) (i := 2) C rfl [(2, .int (i32 0)), (0, .ref (zad Γ 45)), (1, .ref (zad Γ t0))] dX0_readLines_16 (by decide) rfl ?_
  exact zj_sub [1, 2, 0] rfl ((L_X0_readLines_0 l F C Z zN) t0 0 h_t0 irc_0 m2)
noncomputable def b_X0_liveOn_0 (rec : Nat → Int → zMem → Option (Int × zMem)) (r1 : Nat) (v2 : Int) (mem : zMem) : Option (Int × zMem) := if v2 ≥ (mem 45 4) then (pipe (zup mem 45 8 (mem (sRf r1 1) 5)) fun m4 => zbind (f_X7_allWealth (sRf r1 1) m4) fun y5 m6 => pipe (zup m6 45 9 y5) fun m7 => some (0, m7)) else (if v2 ≥ 40 then (pipe (zup mem 45 8 (mem (sRf r1 1) 5)) fun m10 => zbind (f_X7_allWealth (sRf r1 1) m10) fun y11 m12 => pipe (zup m12 45 9 y11) fun m13 => some (0, m13)) else (if ix 46 v2 then if ix 47 v2 then if ix 48 v2 then zbind (f_X0_liveLine r1 (mem 46 v2) (mem 47 v2) (mem 48 v2) mem) fun y20 m21 => pipe (zup m21 45 6 y20) fun m22 => if (m22 45 6) = 0 then (pipe (zup m22 45 7 (w32 ((m22 45 7) + 1))) fun m26 => rec r1 (w32 (v2 + 1)) m26) else (pipe (zup m22 45 8 (m22 (sRf r1 1) 5)) fun m28 => zbind (f_X7_allWealth (sRf r1 1) m28) fun y29 m30 => pipe (zup m30 45 9 y29) fun m31 => some (0, m31)) else none else none else none))
noncomputable def f_X0_liveOn_0 : Nat → Nat → Int → zMem → Option (Int × zMem) := zfuel (fun _ _ _ => none) (b_X0_liveOn_0)
set_option maxHeartbeats 4000000 in
theorem L_X0_liveOn_0 (l : Launch) {Γ : zG} (F : zFull Γ) {X : zM} {q : Int × zMem} (C : zC X Γ "ShadowHeirs$Book" cX0_liveOn 3) (Z : zRt X l Γ 6 0 none q) : ∀ n : Nat, ∀ (r1 : Nat) (v2 : Int) (h_r1 : zk r1 3) (h_v2 : ir v2) (mem : zMem), zJ X Γ 3 q (f_X0_liveOn_0 n r1 v2 mem) 17 [(0, .ref (zad Γ 45)), (1, .ref (zad Γ r1)), (2, .int (i32 v2))] [] mem := by
  intro n
  induction n with
  | zero => intros; exact zj_none
  | succ n ih =>
    intro r1 v2 h_r1 h_v2 mem
    show zJ X Γ 3 q (b_X0_liveOn_0 (f_X0_liveOn_0 n) r1 v2 mem) _ _ _ _
    unfold b_X0_liveOn_0
    refine zj_iload_n (j := 2) (i := 2) C rfl 2 rfl dX0_liveOn_17 ?_
    refine zj_aload_n (j := 0) (i := 0) C rfl 0 rfl dX0_liveOn_18 ?_
    refine zj_getI C F 4 rfl zk_45 fl_X0_21 rfl dX0_liveOn_19 (fun h1 => ?_)
    refine zj_icmp_ge C 83 h_v2 h1 dX0_liveOn_22 rfl (fun c2 => ?_) (fun c2 => ?_)
    · refine zj_aload_n (j := 0) (i := 0) C rfl 0 rfl dX0_liveOn_83 ?_
      refine zj_aload_n (j := 1) (i := 1) C rfl 1 rfl dX0_liveOn_84 ?_
      refine zj_getR C F h_r1 fl_X0_114 rfl rfl dX0_liveOn_85 ?_
      refine zj_getI C F 5 rfl (zt_3_1 h_r1) fl_X0_120 rfl dX0_liveOn_88 (fun h3 => ?_)
      refine zj_putI C F 8 rfl zk_45 fl_X0_35 rfl fp_0_8 h3 dX0_liveOn_91 ?_
      refine zj_pipeM (fun m4 e_m4 => ?_)
      refine zj_aload_n (j := 0) (i := 0) C rfl 0 rfl dX0_liveOn_94 ?_
      refine zj_aload_n (j := 1) (i := 1) C rfl 1 rfl dX0_liveOn_95 ?_
      refine zj_getR C F h_r1 fl_X0_114 rfl rfl dX0_liveOn_96 ?_
      refine zj_callVi C F Z [] [.ref (zad Γ 45)] cal_X7_allWealth calv_X7_allWealth ml_X0_125 (zt_3_1 h_r1) rfl rfl (by decide) (Nat.le_of_ble_eq_true rfl) rfl dX0_liveOn_99 (fun q h => M_X7_allWealth l Γ F (zt_3_1 h_r1) m4 q h) (fun y5 m6 h_y5 => ?_)
      refine zj_putI C F 9 rfl zk_45 fl_X0_38 rfl fp_0_9 h_y5 dX0_liveOn_102 ?_
      refine zj_pipeM (fun m7 e_m7 => ?_)
      exact zrt_v C Z dX0_liveOn_105
    · refine zj_iload_n (j := 2) (i := 2) C rfl 2 rfl dX0_liveOn_25 ?_
      refine zj_bipush C 40 rfl dX0_liveOn_26 ?_
      refine zj_icmp_ge C 83 h_v2 irc_40 dX0_liveOn_28 rfl (fun c8 => ?_) (fun c8 => ?_)
      · refine zj_aload_n (j := 0) (i := 0) C rfl 0 rfl dX0_liveOn_83 ?_
        refine zj_aload_n (j := 1) (i := 1) C rfl 1 rfl dX0_liveOn_84 ?_
        refine zj_getR C F h_r1 fl_X0_114 rfl rfl dX0_liveOn_85 ?_
        refine zj_getI C F 5 rfl (zt_3_1 h_r1) fl_X0_120 rfl dX0_liveOn_88 (fun h9 => ?_)
        refine zj_putI C F 8 rfl zk_45 fl_X0_35 rfl fp_0_8 h9 dX0_liveOn_91 ?_
        refine zj_pipeM (fun m10 e_m10 => ?_)
        refine zj_aload_n (j := 0) (i := 0) C rfl 0 rfl dX0_liveOn_94 ?_
        refine zj_aload_n (j := 1) (i := 1) C rfl 1 rfl dX0_liveOn_95 ?_
        refine zj_getR C F h_r1 fl_X0_114 rfl rfl dX0_liveOn_96 ?_
        refine zj_callVi C F Z [] [.ref (zad Γ 45)] cal_X7_allWealth calv_X7_allWealth ml_X0_125 (zt_3_1 h_r1) rfl rfl (by decide) (Nat.le_of_ble_eq_true rfl) rfl dX0_liveOn_99 (fun q h => M_X7_allWealth l Γ F (zt_3_1 h_r1) m10 q h) (fun y11 m12 h_y11 => ?_)
        refine zj_putI C F 9 rfl zk_45 fl_X0_38 rfl fp_0_9 h_y11 dX0_liveOn_102 ?_
        refine zj_pipeM (fun m13 e_m13 => ?_)
        exact zrt_v C Z dX0_liveOn_105
      · refine zj_aload_n (j := 0) (i := 0) C rfl 0 rfl dX0_liveOn_31 ?_
        refine zj_aload_n (j := 1) (i := 1) C rfl 1 rfl dX0_liveOn_32 ?_
        refine zj_aload_n (j := 0) (i := 0) C rfl 0 rfl dX0_liveOn_33 ?_
        refine zj_getR C F zk_45 fl_X0_11 rfl rf_45_1 dX0_liveOn_34 ?_
        refine zj_iload_n (j := 2) (i := 2) C rfl 2 rfl dX0_liveOn_37 ?_
        refine zj_iaload C F zk_46 h_v2 dX0_liveOn_38 (fun c14 h15 => ?_)
        refine zj_aload_n (j := 0) (i := 0) C rfl 0 rfl dX0_liveOn_39 ?_
        refine zj_getR C F zk_45 fl_X0_15 rfl rf_45_2 dX0_liveOn_40 ?_
        refine zj_iload_n (j := 2) (i := 2) C rfl 2 rfl dX0_liveOn_43 ?_
        refine zj_iaload C F zk_47 h_v2 dX0_liveOn_44 (fun c16 h17 => ?_)
        refine zj_aload_n (j := 0) (i := 0) C rfl 0 rfl dX0_liveOn_45 ?_
        refine zj_getR C F zk_45 fl_X0_18 rfl rf_45_3 dX0_liveOn_46 ?_
        refine zj_iload_n (j := 2) (i := 2) C rfl 2 rfl dX0_liveOn_49 ?_
        refine zj_iaload C F zk_48 h_v2 dX0_liveOn_50 (fun c18 h19 => ?_)
        refine zj_callSi C Z [.ref (zad Γ r1), .int (i32 (mem 46 v2)), .int (i32 (mem 47 v2)), .int (i32 (mem 48 v2))] [.ref (zad Γ 45)] cal_X0_liveLine sta_X0_liveLine ml_X0_110 rfl (by decide) (Nat.le_of_ble_eq_true rfl) rfl dX0_liveOn_51 (fun q h => M_X0_liveLine l Γ F h_r1 h15 h17 h19 mem q h) (fun y20 m21 h_y20 => ?_)
        refine zj_putI C F 6 rfl zk_45 fl_X0_29 rfl fp_0_6 h_y20 dX0_liveOn_54 ?_
        refine zj_pipeM (fun m22 e_m22 => ?_)
        refine zj_aload_n (j := 0) (i := 0) C rfl 0 rfl dX0_liveOn_57 ?_
        refine zj_getI C F 6 rfl zk_45 fl_X0_29 rfl dX0_liveOn_58 (fun h23 => ?_)
        refine zj_if_eq C 67 h23 dX0_liveOn_61 rfl (fun c24 => ?_) (fun c24 => ?_)
        · refine zj_aload_n (j := 0) (i := 0) C rfl 0 rfl dX0_liveOn_67 ?_
          refine zj_dup C rfl dX0_liveOn_68 ?_
          refine zj_getI C F 7 rfl zk_45 fl_X0_32 rfl dX0_liveOn_69 (fun h25 => ?_)
          refine zj_iconst C 1 dX0_liveOn_72 ?_
          refine zj_iadd C dX0_liveOn_73 ?_
          refine zj_putI C F 7 rfl zk_45 fl_X0_32 rfl fp_0_7 (ir_w _) dX0_liveOn_74 ?_
          refine zj_pipeM (fun m26 e_m26 => ?_)
          refine zj_iinc C 2 [(2, .int (i32 (w32 (v2 + 1)))), (0, .ref (zad Γ 45)), (1, .ref (zad Γ r1))] rfl dX0_liveOn_77 (by decide) rfl ?_
          refine zj_goto (tgt := 17) C dX0_liveOn_80 rfl ?_
          exact zj_sub [1, 2, 0] rfl (ih r1 (w32 (v2 + 1)) h_r1 (ir_w _) m26)
        · refine zj_goto (tgt := 83) C dX0_liveOn_64 rfl ?_
          refine zj_aload_n (j := 0) (i := 0) C rfl 0 rfl dX0_liveOn_83 ?_
          refine zj_aload_n (j := 1) (i := 1) C rfl 1 rfl dX0_liveOn_84 ?_
          refine zj_getR C F h_r1 fl_X0_114 rfl rfl dX0_liveOn_85 ?_
          refine zj_getI C F 5 rfl (zt_3_1 h_r1) fl_X0_120 rfl dX0_liveOn_88 (fun h27 => ?_)
          refine zj_putI C F 8 rfl zk_45 fl_X0_35 rfl fp_0_8 h27 dX0_liveOn_91 ?_
          refine zj_pipeM (fun m28 e_m28 => ?_)
          refine zj_aload_n (j := 0) (i := 0) C rfl 0 rfl dX0_liveOn_94 ?_
          refine zj_aload_n (j := 1) (i := 1) C rfl 1 rfl dX0_liveOn_95 ?_
          refine zj_getR C F h_r1 fl_X0_114 rfl rfl dX0_liveOn_96 ?_
          refine zj_callVi C F Z [] [.ref (zad Γ 45)] cal_X7_allWealth calv_X7_allWealth ml_X0_125 (zt_3_1 h_r1) rfl rfl (by decide) (Nat.le_of_ble_eq_true rfl) rfl dX0_liveOn_99 (fun q h => M_X7_allWealth l Γ F (zt_3_1 h_r1) m28 q h) (fun y29 m30 h_y29 => ?_)
          refine zj_putI C F 9 rfl zk_45 fl_X0_38 rfl fp_0_9 h_y29 dX0_liveOn_102 ?_
          refine zj_pipeM (fun m31 e_m31 => ?_)
          exact zrt_v C Z dX0_liveOn_105
noncomputable def f_X0_liveOn (t0 : Nat) (mem : zMem) : Option (Int × zMem) := pipe (zup mem 45 5 1) fun m1 => pipe (zup m1 45 6 0) fun m2 => pipe (zup m2 45 7 0) fun m3 => f_X0_liveOn_0 zN t0 0 m3
set_option maxHeartbeats 4000000 in
theorem M_X0_liveOn (l : Launch) (Γ : zG) (F : zFull Γ)  {t0 : Nat} (h_t0 : zk t0 3) (mem : zMem) (q : Int × zMem) (h : f_X0_liveOn t0 mem = some q) : zMet l yX0_liveOn cX0_liveOn 3 none 6 Γ 0 [.ref (zad Γ 45), .ref (zad Γ t0)] mem q := by
  refine zMet_of (own := "ShadowHeirs$Book") (by decide) rfl (Nat.le_of_ble_eq_true rfl) (fun X C Z => ?_)
  revert h
  show zJ X Γ 3 q (f_X0_liveOn t0 mem) 0 [(0, .ref (zad Γ 45)), (1, .ref (zad Γ t0))] [] mem
  unfold f_X0_liveOn
  refine zj_aload_n (j := 0) (i := 0) C rfl 0 rfl dX0_liveOn_0 ?_
  refine zj_iconst C 1 dX0_liveOn_1 ?_
  refine zj_putZ C F 5 rfl zk_45 fl_X0_25 rfl fp_0_5 (Or.inr rfl) dX0_liveOn_2 ?_
  refine zj_pipeM (fun m1 e_m1 => ?_)
  refine zj_aload_n (j := 0) (i := 0) C rfl 0 rfl dX0_liveOn_5 ?_
  refine zj_iconst C 0 dX0_liveOn_6 ?_
  refine zj_putI C F 6 rfl zk_45 fl_X0_29 rfl fp_0_6 irc_0 dX0_liveOn_7 ?_
  refine zj_pipeM (fun m2 e_m2 => ?_)
  refine zj_aload_n (j := 0) (i := 0) C rfl 0 rfl dX0_liveOn_10 ?_
  refine zj_iconst C 0 dX0_liveOn_11 ?_
  refine zj_putI C F 7 rfl zk_45 fl_X0_32 rfl fp_0_7 irc_0 dX0_liveOn_12 ?_
  refine zj_pipeM (fun m3 e_m3 => ?_)
  refine zj_iconst C 0 dX0_liveOn_15 ?_
  refine zj_istore_n (j := 2) (i := 2) C rfl [(2, .int (i32 0)), (0, .ref (zad Γ 45)), (1, .ref (zad Γ t0))] dX0_liveOn_16 (by decide) rfl ?_
  exact zj_sub [1, 2, 0] rfl ((L_X0_liveOn_0 l F C Z zN) t0 0 h_t0 irc_0 m3)
noncomputable def f_X4_readLine  (mem : zMem) : Option (Int × zMem) := if (mem 1 8) = 0 then (zbind (f_X4_readGround mem) fun y3 m4 => if y3 = 0 ∨ y3 = 1 then some (y3, m4) else none) else (if (mem 1 8) = 1 then (zbind (f_X4_readStones mem) fun y6 m7 => if y6 = 0 ∨ y6 = 1 then some (y6, m7) else none) else (if (mem 1 8) = 2 then (zbind (f_X4_readHouse mem) fun y9 m10 => if y9 = 0 ∨ y9 = 1 then some (y9, m10) else none) else (if (mem 1 8) = 3 then (zbind (f_X4_readPerson mem) fun y12 m13 => if y12 = 0 ∨ y12 = 1 then some (y12, m13) else none) else (if (mem 1 8) = 4 then (zbind (f_X4_readSun mem) fun y15 m16 => if y15 = 0 ∨ y15 = 1 then some (y15, m16) else none) else (zbind (f_X6_fail 1 mem) fun y17 m18 => if y17 = 0 ∨ y17 = 1 then some (y17, m18) else none)))))
set_option maxHeartbeats 4000000 in
theorem M_X4_readLine (l : Launch) (Γ : zG) (F : zFull Γ)    (mem : zMem) (q : Int × zMem) (h : f_X4_readLine  mem = some q) : zMet l yX4_readLine cX4_readLine 1 (some .boolean) 6 Γ 1 [.ref (zad Γ 27)] mem q := by
  refine zMet_of (own := "ShadowHeirs$IslandText") (by decide) rfl (Nat.le_of_ble_eq_true rfl) (fun X C Z => ?_)
  revert h
  show zJ X Γ 1 q (f_X4_readLine  mem) 0 [(0, .ref (zad Γ 27))] [] mem
  unfold f_X4_readLine
  refine zj_aload_n (j := 0) (i := 0) C rfl 0 rfl dX4_readLine_0 ?_
  refine zj_getR C F zk_27 fl_X4_48 rfl rf_27_0 dX4_readLine_1 ?_
  refine zj_getI C F 8 rfl zk_1 fl_X4_76 rfl dX4_readLine_4 (fun h1 => ?_)
  refine zj_split (fun c2 => ?_) (fun c2 => ?_)
  · refine zj_tableIn (off := 33) C 0 40 h1 c2 dX4_readLine_7 rfl rfl ?_
    refine zj_aload_n (j := 0) (i := 0) C rfl 0 rfl dX4_readLine_40 ?_
    refine zj_callVi C F Z [] [] cal_X4_readGround calv_X4_readGround ml_X4_79 zk_27 rfl rfl (by decide) (Nat.le_of_ble_eq_true rfl) rfl dX4_readLine_41 (fun q h => M_X4_readGround l Γ F  mem q h) (fun y3 m4 h_y3 => ?_)
    exact zrt_zc C Z dX4_readLine_44
  · refine zj_split (fun c5 => ?_) (fun c5 => ?_)
    · refine zj_tableIn (off := 38) C 1 45 h1 c5 dX4_readLine_7 rfl rfl ?_
      refine zj_aload_n (j := 0) (i := 0) C rfl 0 rfl dX4_readLine_45 ?_
      refine zj_callVi C F Z [] [] cal_X4_readStones calv_X4_readStones ml_X4_82 zk_27 rfl rfl (by decide) (Nat.le_of_ble_eq_true rfl) rfl dX4_readLine_46 (fun q h => M_X4_readStones l Γ F  mem q h) (fun y6 m7 h_y6 => ?_)
      exact zrt_zc C Z dX4_readLine_49
    · refine zj_split (fun c8 => ?_) (fun c8 => ?_)
      · refine zj_tableIn (off := 43) C 2 50 h1 c8 dX4_readLine_7 rfl rfl ?_
        refine zj_aload_n (j := 0) (i := 0) C rfl 0 rfl dX4_readLine_50 ?_
        refine zj_callVi C F Z [] [] cal_X4_readHouse calv_X4_readHouse ml_X4_85 zk_27 rfl rfl (by decide) (Nat.le_of_ble_eq_true rfl) rfl dX4_readLine_51 (fun q h => M_X4_readHouse l Γ F  mem q h) (fun y9 m10 h_y9 => ?_)
        exact zrt_zc C Z dX4_readLine_54
      · refine zj_split (fun c11 => ?_) (fun c11 => ?_)
        · refine zj_tableIn (off := 48) C 3 55 h1 c11 dX4_readLine_7 rfl rfl ?_
          refine zj_aload_n (j := 0) (i := 0) C rfl 0 rfl dX4_readLine_55 ?_
          refine zj_callVi C F Z [] [] cal_X4_readPerson calv_X4_readPerson ml_X4_88 zk_27 rfl rfl (by decide) (Nat.le_of_ble_eq_true rfl) rfl dX4_readLine_56 (fun q h => M_X4_readPerson l Γ F  mem q h) (fun y12 m13 h_y12 => ?_)
          exact zrt_zc C Z dX4_readLine_59
        · refine zj_split (fun c14 => ?_) (fun c14 => ?_)
          · refine zj_tableIn (off := 53) C 4 60 h1 c14 dX4_readLine_7 rfl rfl ?_
            refine zj_aload_n (j := 0) (i := 0) C rfl 0 rfl dX4_readLine_60 ?_
            refine zj_callVi C F Z [] [] cal_X4_readSun calv_X4_readSun ml_X4_91 zk_27 rfl rfl (by decide) (Nat.le_of_ble_eq_true rfl) rfl dX4_readLine_61 (fun q h => M_X4_readSun l Γ F  mem q h) (fun y15 m16 h_y15 => ?_)
            exact zrt_zc C Z dX4_readLine_64
          · refine zj_tableOut C 65 h1 dX4_readLine_7 (by omega) rfl ?_
            refine zj_aload_n (j := 0) (i := 0) C rfl 0 rfl dX4_readLine_65 ?_
            refine zj_getR C F zk_27 fl_X4_48 rfl rf_27_0 dX4_readLine_66 ?_
            refine zj_iconst C 1 dX4_readLine_69 ?_
            refine zj_callVi C F Z [.int (i32 1)] [] cal_X6_fail calv_X6_fail ml_X4_94 zk_1 rfl rfl (by decide) (Nat.le_of_ble_eq_true rfl) rfl dX4_readLine_70 (fun q h => M_X6_fail l Γ F irc_1 mem q h) (fun y17 m18 h_y17 => ?_)
            exact zrt_zc C Z dX4_readLine_73
noncomputable def f_X11_book_j13 (v1 : Int) (mem : zMem) : Option (Int × zMem) := zbind (f_X0_readLines 4 mem) fun _ m1 => zbind (f_X11_closeTape m1) fun y2 m3 => if y2 = 0 then (zbind (f_X7_copyFrom 22 11 m3) fun _ m5 => zbind (f_X0_liveOn 21 m5) fun _ m6 => if v1 = 1 then (if (m6 45 7) ≤ 0 then (if (m6 45 6) = 0 then (some ((-1), m6)) else (some ((m6 45 7), m6))) else (zbind (f_X2_keep 11 m6) fun _ m13 => zbind (f_X7_copyFrom 11 22 m13) fun _ m14 => if (m14 45 6) = 0 then (some ((-1), m14)) else (some ((m14 45 7), m14)))) else (if (m6 45 6) = 0 then (some ((-1), m6)) else (some ((m6 45 7), m6)))) else (some ((w32 ((-2) - (m3 1 10))), m3))
set_option maxHeartbeats 4000000 in
theorem J_X11_book_j13 (l : Launch) {Γ : zG} (F : zFull Γ) {X : zM} {q : Int × zMem} (C : zC X Γ "ShadowHeirs" cX11_book 2) (Z : zRt X l Γ 7 1 (some .int) q) {v1 : Int} (h_v1 : ir v1) (mem : zMem) : zJ X Γ 2 q (f_X11_book_j13 v1 mem) 13 [(0, .ref (zad Γ 0)), (1, .int (i32 v1))] [] mem := by
  unfold f_X11_book_j13
  refine zj_aload_n (j := 0) (i := 0) C rfl 0 rfl dX11_book_13 ?_
  refine zj_getR C F zk_0 fl_X11_61 rfl rf_0_7 dX11_book_14 ?_
  refine zj_aload_n (j := 0) (i := 0) C rfl 0 rfl dX11_book_17 ?_
  refine zj_getR C F zk_0 fl_X11_19 rfl rf_0_1 dX11_book_18 ?_
  refine zj_callVv C F Z [.ref (zad Γ 4)] [] cal_X0_readLines calv_X0_readLines ml_X11_329 zk_45 rfl rfl (by decide) (Nat.le_of_ble_eq_true rfl) rfl dX11_book_21 (fun q h => M_X0_readLines l Γ F zk_4 mem q h) (fun _ m1 _ => ?_)
  refine zj_aload_n (j := 0) (i := 0) C rfl 0 rfl dX11_book_24 ?_
  refine zj_callVi C F Z [] [] cal_X11_closeTape calv_X11_closeTape ml_X11_137 zk_0 rfl rfl (by decide) (Nat.le_of_ble_eq_true rfl) rfl dX11_book_25 (fun q h => M_X11_closeTape l Γ F  m1 q h) (fun y2 m3 h_y2 => ?_)
  refine zj_if_eq C 42 h_y2 dX11_book_28 rfl (fun c4 => ?_) (fun c4 => ?_)
  · refine zj_aload_n (j := 0) (i := 0) C rfl 0 rfl dX11_book_42 ?_
    refine zj_getR C F zk_0 fl_X11_46 rfl rf_0_5 dX11_book_43 ?_
    refine zj_getR C F zk_21 fl_X11_322 rfl rf_21_1 dX11_book_46 ?_
    refine zj_aload_n (j := 0) (i := 0) C rfl 0 rfl dX11_book_49 ?_
    refine zj_getR C F zk_0 fl_X11_26 rfl rf_0_2 dX11_book_50 ?_
    refine zj_callVv C F Z [.ref (zad Γ 11)] [] cal_X7_copyFrom calv_X7_copyFrom ml_X11_323 zk_22 rfl rfl (by decide) (Nat.le_of_ble_eq_true rfl) rfl dX11_book_53 (fun q h => M_X7_copyFrom l Γ F zk_22 zk_11 m3 q h) (fun _ m5 _ => ?_)
    refine zj_aload_n (j := 0) (i := 0) C rfl 0 rfl dX11_book_56 ?_
    refine zj_getR C F zk_0 fl_X11_61 rfl rf_0_7 dX11_book_57 ?_
    refine zj_aload_n (j := 0) (i := 0) C rfl 0 rfl dX11_book_60 ?_
    refine zj_getR C F zk_0 fl_X11_46 rfl rf_0_5 dX11_book_61 ?_
    refine zj_callVv C F Z [.ref (zad Γ 21)] [] cal_X0_liveOn calv_X0_liveOn ml_X11_332 zk_45 rfl rfl (by decide) (Nat.le_of_ble_eq_true rfl) rfl dX11_book_64 (fun q h => M_X0_liveOn l Γ F zk_21 m5 q h) (fun _ m6 _ => ?_)
    refine zj_iload_n (j := 1) (i := 1) C rfl 1 rfl dX11_book_67 ?_
    refine zj_iconst C 1 dX11_book_68 ?_
    refine zj_icmp_ne C 107 h_v1 irc_1 dX11_book_69 rfl (fun c7 => ?_) (fun c7 => ?_)
    · refine zj_aload_n (j := 0) (i := 0) C rfl 0 rfl dX11_book_72 ?_
      refine zj_getR C F zk_0 fl_X11_61 rfl rf_0_7 dX11_book_73 ?_
      refine zj_getI C F 7 rfl zk_45 fl_X11_335 rfl dX11_book_76 (fun h8 => ?_)
      refine zj_if_le C 107 h8 dX11_book_79 rfl (fun c9 => ?_) (fun c9 => ?_)
      · refine zj_aload_n (j := 0) (i := 0) C rfl 0 rfl dX11_book_107 ?_
        refine zj_getR C F zk_0 fl_X11_61 rfl rf_0_7 dX11_book_108 ?_
        refine zj_getI C F 6 rfl zk_45 fl_X11_338 rfl dX11_book_111 (fun h10 => ?_)
        refine zj_if_ne C 121 h10 dX11_book_114 rfl (fun c11 => ?_) (fun c11 => ?_)
        · refine zj_iconst C (-1) dX11_book_117 ?_
          refine zj_goto (tgt := 128) C dX11_book_118 rfl ?_
          exact zrt_i C Z irc_m1 dX11_book_128
        · refine zj_aload_n (j := 0) (i := 0) C rfl 0 rfl dX11_book_121 ?_
          refine zj_getR C F zk_0 fl_X11_61 rfl rf_0_7 dX11_book_122 ?_
          refine zj_getI C F 7 rfl zk_45 fl_X11_335 rfl dX11_book_125 (fun h12 => ?_)
          exact zrt_i C Z h12 dX11_book_128
      · refine zj_aload_n (j := 0) (i := 0) C rfl 0 rfl dX11_book_82 ?_
        refine zj_getR C F zk_0 fl_X11_71 rfl rf_0_9 dX11_book_83 ?_
        refine zj_aload_n (j := 0) (i := 0) C rfl 0 rfl dX11_book_86 ?_
        refine zj_getR C F zk_0 fl_X11_26 rfl rf_0_2 dX11_book_87 ?_
        refine zj_callVv C F Z [.ref (zad Γ 11)] [] cal_X2_keep calv_X2_keep ml_X11_238 zk_53 rfl rfl (by decide) (Nat.le_of_ble_eq_true rfl) rfl dX11_book_90 (fun q h => M_X2_keep l Γ F zk_11 m6 q h) (fun _ m13 _ => ?_)
        refine zj_aload_n (j := 0) (i := 0) C rfl 0 rfl dX11_book_93 ?_
        refine zj_getR C F zk_0 fl_X11_26 rfl rf_0_2 dX11_book_94 ?_
        refine zj_aload_n (j := 0) (i := 0) C rfl 0 rfl dX11_book_97 ?_
        refine zj_getR C F zk_0 fl_X11_46 rfl rf_0_5 dX11_book_98 ?_
        refine zj_getR C F zk_21 fl_X11_322 rfl rf_21_1 dX11_book_101 ?_
        refine zj_callVv C F Z [.ref (zad Γ 22)] [] cal_X7_copyFrom calv_X7_copyFrom ml_X11_323 zk_11 rfl rfl (by decide) (Nat.le_of_ble_eq_true rfl) rfl dX11_book_104 (fun q h => M_X7_copyFrom l Γ F zk_11 zk_22 m13 q h) (fun _ m14 _ => ?_)
        refine zj_aload_n (j := 0) (i := 0) C rfl 0 rfl dX11_book_107 ?_
        refine zj_getR C F zk_0 fl_X11_61 rfl rf_0_7 dX11_book_108 ?_
        refine zj_getI C F 6 rfl zk_45 fl_X11_338 rfl dX11_book_111 (fun h15 => ?_)
        refine zj_if_ne C 121 h15 dX11_book_114 rfl (fun c16 => ?_) (fun c16 => ?_)
        · refine zj_iconst C (-1) dX11_book_117 ?_
          refine zj_goto (tgt := 128) C dX11_book_118 rfl ?_
          exact zrt_i C Z irc_m1 dX11_book_128
        · refine zj_aload_n (j := 0) (i := 0) C rfl 0 rfl dX11_book_121 ?_
          refine zj_getR C F zk_0 fl_X11_61 rfl rf_0_7 dX11_book_122 ?_
          refine zj_getI C F 7 rfl zk_45 fl_X11_335 rfl dX11_book_125 (fun h17 => ?_)
          exact zrt_i C Z h17 dX11_book_128
    · refine zj_aload_n (j := 0) (i := 0) C rfl 0 rfl dX11_book_107 ?_
      refine zj_getR C F zk_0 fl_X11_61 rfl rf_0_7 dX11_book_108 ?_
      refine zj_getI C F 6 rfl zk_45 fl_X11_338 rfl dX11_book_111 (fun h18 => ?_)
      refine zj_if_ne C 121 h18 dX11_book_114 rfl (fun c19 => ?_) (fun c19 => ?_)
      · refine zj_iconst C (-1) dX11_book_117 ?_
        refine zj_goto (tgt := 128) C dX11_book_118 rfl ?_
        exact zrt_i C Z irc_m1 dX11_book_128
      · refine zj_aload_n (j := 0) (i := 0) C rfl 0 rfl dX11_book_121 ?_
        refine zj_getR C F zk_0 fl_X11_61 rfl rf_0_7 dX11_book_122 ?_
        refine zj_getI C F 7 rfl zk_45 fl_X11_335 rfl dX11_book_125 (fun h20 => ?_)
        exact zrt_i C Z h20 dX11_book_128
  · refine zj_bipush C (-2) rfl dX11_book_31 ?_
    refine zj_aload_n (j := 0) (i := 0) C rfl 0 rfl dX11_book_33 ?_
    refine zj_getR C F zk_0 fl_X11_10 rfl rf_0_0 dX11_book_34 ?_
    refine zj_getI C F 10 rfl zk_1 fl_X11_141 rfl dX11_book_37 (fun h21 => ?_)
    refine zj_isub C dX11_book_40 ?_
    exact zrt_i C Z (ir_w _) dX11_book_41
noncomputable def f_X11_book (x0 : Int) (mem : zMem) : Option (Int × zMem) := if x0 = 0 then (f_X11_book_j13 x0 mem) else (if x0 = 1 then (f_X11_book_j13 x0 mem) else (some ((-1000), mem)))
set_option maxHeartbeats 4000000 in
theorem M_X11_book (l : Launch) (Γ : zG) (F : zFull Γ)  {x0 : Int} (h_x0 : ir x0) (mem : zMem) (q : Int × zMem) (h : f_X11_book x0 mem = some q) : zMet l yX11_book cX11_book 2 (some .int) 7 Γ 1 [.ref (zad Γ 0), .int (i32 x0)] mem q := by
  refine zMet_of (own := "ShadowHeirs") (by decide) rfl (Nat.le_of_ble_eq_true rfl) (fun X C Z => ?_)
  revert h
  show zJ X Γ 2 q (f_X11_book x0 mem) 0 [(0, .ref (zad Γ 0)), (1, .int (i32 x0))] [] mem
  unfold f_X11_book
  refine zj_iload_n (j := 1) (i := 1) C rfl 1 rfl dX11_book_0 ?_
  refine zj_if_eq C 13 h_x0 dX11_book_1 rfl (fun c1 => ?_) (fun c1 => ?_)
  · exact zj_sub [0, 1] rfl (J_X11_book_j13 l F C Z h_x0 mem)
  · refine zj_iload_n (j := 1) (i := 1) C rfl 1 rfl dX11_book_4 ?_
    refine zj_iconst C 1 dX11_book_5 ?_
    refine zj_icmp_eq C 13 h_x0 irc_1 dX11_book_6 rfl (fun c2 => ?_) (fun c2 => ?_)
    · exact zj_sub [0, 1] rfl (J_X11_book_j13 l F C Z h_x0 mem)
    · refine zj_sipush C (-1000) rfl dX11_book_9 ?_
      exact zrt_i C Z irc_m1000 dX11_book_12
noncomputable def b_X4_readLines_0 (rec : Int → zMem → Option (Int × zMem)) (v1 : Int) (mem : zMem) : Option (Int × zMem) := if v1 ≥ 900 then (some (900, mem)) else (zbind (f_X6_step mem) fun _ m2 => if (m2 1 6) = 0 then (some (v1, m2)) else (zbind (f_X4_readLine m2) fun y5 m6 => if y5 = 0 then (some (v1, m6)) else (zbind (f_X6_wantSign 59 m6) fun y8 m9 => if y8 = 0 then (some (v1, m9)) else (rec (w32 (v1 + 1)) m9))))
noncomputable def f_X4_readLines_0 : Nat → Int → zMem → Option (Int × zMem) := zfuel (fun _ _ => none) (b_X4_readLines_0)
set_option maxHeartbeats 4000000 in
theorem L_X4_readLines_0 (l : Launch) {Γ : zG} (F : zFull Γ) {X : zM} {q : Int × zMem} (C : zC X Γ "ShadowHeirs$IslandText" cX4_readLines 2) (Z : zRt X l Γ 7 1 (some .int) q) : ∀ n : Nat, ∀ (v1 : Int) (h_v1 : ir v1) (mem : zMem), zJ X Γ 2 q (f_X4_readLines_0 n v1 mem) 36 [(0, .ref (zad Γ 27)), (1, .int (i32 v1))] [] mem := by
  intro n
  induction n with
  | zero => intros; exact zj_none
  | succ n ih =>
    intro v1 h_v1 mem
    show zJ X Γ 2 q (b_X4_readLines_0 (f_X4_readLines_0 n) v1 mem) _ _ _ _
    unfold b_X4_readLines_0
    refine zj_iload_n (j := 1) (i := 1) C rfl 1 rfl dX4_readLines_36 ?_
    refine zj_sipush C 900 rfl dX4_readLines_37 ?_
    refine zj_icmp_ge C 87 h_v1 irc_900 dX4_readLines_40 rfl (fun c1 => ?_) (fun c1 => ?_)
    · refine zj_sipush C 900 rfl dX4_readLines_87 ?_
      exact zrt_i C Z irc_900 dX4_readLines_90
    · refine zj_aload_n (j := 0) (i := 0) C rfl 0 rfl dX4_readLines_43 ?_
      refine zj_getR C F zk_27 fl_X4_48 rfl rf_27_0 dX4_readLines_44 ?_
      refine zj_callVv C F Z [] [] cal_X6_step calv_X6_step ml_X4_62 zk_1 rfl rfl (by decide) (Nat.le_of_ble_eq_true rfl) rfl dX4_readLines_47 (fun q h => M_X6_step l Γ F  mem q h) (fun _ m2 _ => ?_)
      refine zj_aload_n (j := 0) (i := 0) C rfl 0 rfl dX4_readLines_50 ?_
      refine zj_getR C F zk_27 fl_X4_48 rfl rf_27_0 dX4_readLines_51 ?_
      refine zj_getI C F 6 rfl zk_1 fl_X4_65 rfl dX4_readLines_54 (fun h3 => ?_)
      refine zj_if_eq C 79 h3 dX4_readLines_57 rfl (fun c4 => ?_) (fun c4 => ?_)
      · refine zj_iload_n (j := 1) (i := 1) C rfl 1 rfl dX4_readLines_79 ?_
        exact zrt_i C Z h_v1 dX4_readLines_80
      · refine zj_aload_n (j := 0) (i := 0) C rfl 0 rfl dX4_readLines_60 ?_
        refine zj_callVi C F Z [] [] cal_X4_readLine calv_X4_readLine ml_X4_68 zk_27 rfl rfl (by decide) (Nat.le_of_ble_eq_true rfl) rfl dX4_readLines_61 (fun q h => M_X4_readLine l Γ F  m2 q h) (fun y5 m6 h_y5 => ?_)
        refine zj_if_eq C 79 h_y5 dX4_readLines_64 rfl (fun c7 => ?_) (fun c7 => ?_)
        · refine zj_iload_n (j := 1) (i := 1) C rfl 1 rfl dX4_readLines_79 ?_
          exact zrt_i C Z h_v1 dX4_readLines_80
        · refine zj_aload_n (j := 0) (i := 0) C rfl 0 rfl dX4_readLines_67 ?_
          refine zj_getR C F zk_27 fl_X4_48 rfl rf_27_0 dX4_readLines_68 ?_
          refine zj_bipush C 59 rfl dX4_readLines_71 ?_
          refine zj_callVi C F Z [.int (i32 59)] [] cal_X6_wantSign calv_X6_wantSign ml_X4_72 zk_1 rfl rfl (by decide) (Nat.le_of_ble_eq_true rfl) rfl dX4_readLines_73 (fun q h => M_X6_wantSign l Γ F irc_59 m6 q h) (fun y8 m9 h_y8 => ?_)
          refine zj_if_ne C 81 h_y8 dX4_readLines_76 rfl (fun c10 => ?_) (fun c10 => ?_)
          · refine zj_iload_n (j := 1) (i := 1) C rfl 1 rfl dX4_readLines_79 ?_
            exact zrt_i C Z h_v1 dX4_readLines_80
          · refine zj_iinc C 1 [(1, .int (i32 (w32 (v1 + 1)))), (0, .ref (zad Γ 27))] rfl dX4_readLines_81 (by decide) rfl ?_
            refine zj_goto (tgt := 36) C dX4_readLines_84 rfl ?_
            exact zj_sub [1, 0] rfl (ih (w32 (v1 + 1)) (ir_w _) m9)
noncomputable def f_X4_readLines  (mem : zMem) : Option (Int × zMem) := zbind (f_X6_beginText 900 mem) fun _ m1 => zbind (f_X5_clear 28 m1) fun _ m2 => zbind (f_X7_clear 35 m2) fun _ m3 => pipe (zup m3 27 4 0) fun m4 => pipe (zup m4 27 5 0) fun m5 => f_X4_readLines_0 zN 0 m5
set_option maxHeartbeats 4000000 in
theorem M_X4_readLines (l : Launch) (Γ : zG) (F : zFull Γ)    (mem : zMem) (q : Int × zMem) (h : f_X4_readLines  mem = some q) : zMet l yX4_readLines cX4_readLines 2 (some .int) 7 Γ 1 [.ref (zad Γ 27)] mem q := by
  refine zMet_of (own := "ShadowHeirs$IslandText") (by decide) rfl (Nat.le_of_ble_eq_true rfl) (fun X C Z => ?_)
  revert h
  show zJ X Γ 2 q (f_X4_readLines  mem) 0 [(0, .ref (zad Γ 27))] [] mem
  unfold f_X4_readLines
  refine zj_aload_n (j := 0) (i := 0) C rfl 0 rfl dX4_readLines_0 ?_
  refine zj_getR C F zk_27 fl_X4_48 rfl rf_27_0 dX4_readLines_1 ?_
  refine zj_sipush C 900 rfl dX4_readLines_4 ?_
  refine zj_callVv C F Z [.int (i32 900)] [] cal_X6_beginText calv_X6_beginText ml_X4_52 zk_1 rfl rfl (by decide) (Nat.le_of_ble_eq_true rfl) rfl dX4_readLines_7 (fun q h => M_X6_beginText l Γ F irc_900 mem q h) (fun _ m1 _ => ?_)
  refine zj_aload_n (j := 0) (i := 0) C rfl 0 rfl dX4_readLines_10 ?_
  refine zj_getR C F zk_27 fl_X4_12 rfl rf_27_1 dX4_readLines_11 ?_
  refine zj_callVv C F Z [] [] cal_X5_clear calv_X5_clear ml_X4_58 zk_28 rfl rfl (by decide) (Nat.le_of_ble_eq_true rfl) rfl dX4_readLines_14 (fun q h => M_X5_clear l Γ F zk_28 m1 q h) (fun _ m2 _ => ?_)
  refine zj_aload_n (j := 0) (i := 0) C rfl 0 rfl dX4_readLines_17 ?_
  refine zj_getR C F zk_27 fl_X4_21 rfl rf_27_2 dX4_readLines_18 ?_
  refine zj_callVv C F Z [] [] cal_X7_clear calv_X7_clear ml_X4_61 zk_35 rfl rfl (by decide) (Nat.le_of_ble_eq_true rfl) rfl dX4_readLines_21 (fun q h => M_X7_clear l Γ F zk_35 m2 q h) (fun _ m3 _ => ?_)
  refine zj_aload_n (j := 0) (i := 0) C rfl 0 rfl dX4_readLines_24 ?_
  refine zj_iconst C 0 dX4_readLines_25 ?_
  refine zj_putZ C F 4 rfl zk_27 fl_X4_37 rfl fp_4_4 (Or.inl rfl) dX4_readLines_26 ?_
  refine zj_pipeM (fun m4 e_m4 => ?_)
  refine zj_aload_n (j := 0) (i := 0) C rfl 0 rfl dX4_readLines_29 ?_
  refine zj_iconst C 0 dX4_readLines_30 ?_
  refine zj_putZ C F 5 rfl zk_27 fl_X4_41 rfl fp_4_5 (Or.inl rfl) dX4_readLines_31 ?_
  refine zj_pipeM (fun m5 e_m5 => ?_)
  refine zj_iconst C 0 dX4_readLines_34 ?_
  refine zj_istore_n (j := 1) (i := 1) C rfl [(1, .int (i32 0)), (0, .ref (zad Γ 27))] dX4_readLines_35 (by decide) rfl ?_
  exact zj_sub [1, 0] rfl ((L_X4_readLines_0 l F C Z zN) 0 irc_0 m5)
noncomputable def f_X11_island  (mem : zMem) : Option (Int × zMem) := zbind (f_X4_readLines mem) fun y1 m2 => zbind (f_X11_closeTape m2) fun y3 m4 => if y3 = 0 then (zbind (f_X3_copyFrom 20 40 m4) fun _ m6 => zbind (f_X2_clear m6) fun _ m7 => some (y1, m7)) else (some ((w32 ((-1) - (m4 1 10))), m4))
set_option maxHeartbeats 4000000 in
theorem M_X11_island (l : Launch) (Γ : zG) (F : zFull Γ)    (mem : zMem) (q : Int × zMem) (h : f_X11_island  mem = some q) : zMet l yX11_island cX11_island 2 (some .int) 8 Γ 1 [.ref (zad Γ 0)] mem q := by
  refine zMet_of (own := "ShadowHeirs") (by decide) rfl (Nat.le_of_ble_eq_true rfl) (fun X C Z => ?_)
  revert h
  show zJ X Γ 2 q (f_X11_island  mem) 0 [(0, .ref (zad Γ 0))] [] mem
  unfold f_X11_island
  refine zj_aload_n (j := 0) (i := 0) C rfl 0 rfl dX11_island_0 ?_
  refine zj_getR C F zk_0 fl_X11_54 rfl rf_0_6 dX11_island_1 ?_
  refine zj_callVi C F Z [] [] cal_X4_readLines calv_X4_readLines ml_X11_133 zk_27 rfl rfl (by decide) (Nat.le_of_ble_eq_true rfl) rfl dX11_island_4 (fun q h => M_X4_readLines l Γ F  mem q h) (fun y1 m2 h_y1 => ?_)
  refine zj_istore_n (j := 1) (i := 1) C rfl [(1, .int (i32 y1)), (0, .ref (zad Γ 0))] dX11_island_7 (by decide) rfl ?_
  refine zj_aload_n (j := 0) (i := 0) C rfl 1 rfl dX11_island_8 ?_
  refine zj_callVi C F Z [] [] cal_X11_closeTape calv_X11_closeTape ml_X11_137 zk_0 rfl rfl (by decide) (Nat.le_of_ble_eq_true rfl) rfl dX11_island_9 (fun q h => M_X11_closeTape l Γ F  m2 q h) (fun y3 m4 h_y3 => ?_)
  refine zj_if_eq C 25 h_y3 dX11_island_12 rfl (fun c5 => ?_) (fun c5 => ?_)
  · refine zj_aload_n (j := 0) (i := 0) C rfl 1 rfl dX11_island_25 ?_
    refine zj_getR C F zk_0 fl_X11_42 rfl rf_0_4 dX11_island_26 ?_
    refine zj_aload_n (j := 0) (i := 0) C rfl 1 rfl dX11_island_29 ?_
    refine zj_getR C F zk_0 fl_X11_54 rfl rf_0_6 dX11_island_30 ?_
    refine zj_getR C F zk_27 fl_X11_144 rfl rf_27_3 dX11_island_33 ?_
    refine zj_callVv C F Z [.ref (zad Γ 40)] [] cal_X3_copyFrom calv_X3_copyFrom ml_X11_147 zk_20 rfl rfl (by decide) (Nat.le_of_ble_eq_true rfl) rfl dX11_island_36 (fun q h => M_X3_copyFrom l Γ F zk_20 zk_40 m4 q h) (fun _ m6 _ => ?_)
    refine zj_aload_n (j := 0) (i := 0) C rfl 1 rfl dX11_island_39 ?_
    refine zj_getR C F zk_0 fl_X11_71 rfl rf_0_9 dX11_island_40 ?_
    refine zj_callVv C F Z [] [] cal_X2_clear calv_X2_clear ml_X11_150 zk_53 rfl rfl (by decide) (Nat.le_of_ble_eq_true rfl) rfl dX11_island_43 (fun q h => M_X2_clear l Γ F  m6 q h) (fun _ m7 _ => ?_)
    refine zj_iload_n (j := 1) (i := 1) C rfl 0 rfl dX11_island_46 ?_
    exact zrt_i C Z h_y1 dX11_island_47
  · refine zj_iconst C (-1) dX11_island_15 ?_
    refine zj_aload_n (j := 0) (i := 0) C rfl 1 rfl dX11_island_16 ?_
    refine zj_getR C F zk_0 fl_X11_10 rfl rf_0_0 dX11_island_17 ?_
    refine zj_getI C F 10 rfl zk_1 fl_X11_141 rfl dX11_island_20 (fun h8 => ?_)
    refine zj_isub C dX11_island_23 ?_
    exact zrt_i C Z (ir_w _) dX11_island_24
