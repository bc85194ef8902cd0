noncomputable def b_X4_readLines_0 (rec : Int → zMem → Option (Int × zMem)) (v1 : Int) (mem : zMem) : Option (Int × zMem) := if v1 ≥ 900 then (some (900, mem)) else (zbind (f_X6_step mem) fun _ m2 => if (m2 1 6) = 0 then (some (v1, m2)) else (zbind (f_X4_readLine m2) fun y5 m6 => if y5 = 0 then (some (v1, m6)) else (zbind (f_X6_wantSign 59 m6) fun y8 m9 => if y8 = 0 then (some (v1, m9)) else (rec (w32 (v1 + 1)) m9))))
noncomputable def f_X4_readLines_0 : Nat → Int → zMem → Option (Int × zMem) := zfuel (fun _ _ => none) (b_X4_readLines_0)
set_option maxHeartbeats 4000000 in
theorem L_X4_readLines_0 (l : Launch) {Γ : zG} (F : zFull Γ) {X : zM} {q : Int × zMem} (C : zC X Γ "ShadowHeirs$IslandText" cX4_readLines 2) (Z : zRt X l Γ 7 1 (some .int) q) : ∀ n : Nat, ∀ (v1 : Int) (h_v1 : ir v1) (mem : zMem), zJ X Γ 2 q (f_X4_readLines_0 n v1 mem) 36 [(0, .ref (zad Γ 27)), (1, .int (i32 v1))] [] mem := by
  intro n
  induction n with
  | zero => intros; exact zj_none
  | succ n ih =>
    intro v1 h_v1 mem
    show zJ X Γ 2 q (b_X4_readLines_0 (f_X4_readLines_0 n) v1 mem) _ _ _ _
    unfold b_X4_readLines_0
    refine zj_iload_n (j := 1) (i := 1) C rfl 1 rfl dX4_readLines_36 ?_
    refine zj_sipush C 900 rfl dX4_readLines_37 ?_
    refine zj_icmp_ge C 87 h_v1 irc_900 dX4_readLines_40 rfl (fun c1 => ?_) (fun c1 => ?_)
    · refine zj_sipush C 900 rfl dX4_readLines_87 ?_
      exact zrt_i C Z irc_900 dX4_readLines_90
    · refine zj_aload_n (j := 0) (i := 0) C rfl 0 rfl dX4_readLines_43 ?_
      refine zj_getR C F zk_27 fl_X4_48 rfl rf_27_0 dX4_readLines_44 ?_
      refine zj_callVv C F Z [] [] cal_X6_step calv_X6_step ml_X4_62 zk_1 rfl rfl (by decide) (Nat.le_of_ble_eq_true rfl) rfl dX4_readLines_47 (fun q h => M_X6_step l Γ F  mem q h) (fun _ m2 _ => ?_)
      refine zj_aload_n (j := 0) (i := 0) C rfl 0 rfl dX4_readLines_50 ?_
      refine zj_getR C F zk_27 fl_X4_48 rfl rf_27_0 dX4_readLines_51 ?_
      refine zj_getI C F 6 rfl zk_1 fl_X4_65 rfl dX4_readLines_54 (fun h3 => ?_)
      refine zj_if_eq C 79 h3 dX4_readLines_57 rfl (fun c4 => ?_) (fun c4 => ?_)
      · refine zj_iload_n (j := 1) (i := 1) C rfl 1 rfl dX4_readLines_79 ?_
        exact zrt_i C Z h_v1 dX4_readLines_80
      · refine zj_aload_n (j := 0) (i := 0) C rfl 0 rfl dX4_readLines_60 ?_
        refine zj_callVi C F Z [] [] cal_X4_readLine calv_X4_readLine ml_X4_68 zk_27 rfl rfl (by decide) (Nat.le_of_ble_eq_true rfl) rfl dX4_readLines_61 (fun q h => M_X4_readLine l Γ F  m2 q h) (fun y5 m6 h_y5 => ?_)
        refine zj_if_eq C 79 h_y5 dX4_readLines_64 rfl (fun c7 => ?_) (fun c7 => ?_)
        · refine zj_iload_n (j := 1) (i := 1) C rfl 1 rfl dX4_readLines_79 ?_
          exact zrt_i C Z h_v1 dX4_readLines_80
        · refine zj_aload_n (j := 0) (i := 0) C rfl 0 rfl dX4_readLines_67 ?_
          refine zj_getR C F zk_27 fl_X4_48 rfl rf_27_0 dX4_readLines_68 ?_
          refine zj_bipush C 59 rfl dX4_readLines_71 ?_
          refine zj_callVi C F Z [.int (i32 59)] [] cal_X6_wantSign calv_X6_wantSign ml_X4_72 zk_1 rfl rfl (by decide) (Nat.le_of_ble_eq_true rfl) rfl dX4_readLines_73 (fun q h => M_X6_wantSign l Γ F irc_59 m6 q h) (fun y8 m9 h_y8 => ?_)
          refine zj_if_ne C 81 h_y8 dX4_readLines_76 rfl (fun c10 => ?_) (fun c10 => ?_)
          · refine zj_iload_n (j := 1) (i := 1) C rfl 1 rfl dX4_readLines_79 ?_
            exact zrt_i C Z h_v1 dX4_readLines_80
          · refine zj_iinc C 1 [(1, .int (i32 (w32 (v1 + 1)))), (0, .ref (zad Γ 27))] rfl dX4_readLines_81 (by decide) rfl ?_
            refine zj_goto (tgt := 36) C dX4_readLines_84 rfl ?_
            exact zj_sub [1, 0] rfl (ih (w32 (v1 + 1)) (ir_w _) m9)
noncomputable def f_X4_readLines  (mem : zMem) : Option (Int × zMem) := zbind (f_X6_beginText 900 mem) fun _ m1 => zbind (f_X5_clear 28 m1) fun _ m2 => zbind (f_X7_clear 35 m2) fun _ m3 => pipe (zup m3 27 4 0) fun m4 => pipe (zup m4 27 5 0) fun m5 => f_X4_readLines_0 zN 0 m5
set_option maxHeartbeats 4000000 in
theorem M_X4_readLines (l : Launch) (Γ : zG) (F : zFull Γ)   (mem : zMem) (q : Int × zMem) (h : f_X4_readLines  mem = some q) : zMet l yX4_readLines cX4_readLines 2 (some .int) 7 Γ 1 [.ref (zad Γ 27)] mem q := by
  refine zMet_of (own := "ShadowHeirs$IslandText") (by decide) rfl (Nat.le_of_ble_eq_true rfl) (fun X C Z => ?_)
  revert h
  show zJ X Γ 2 q (f_X4_readLines  mem) 0 [(0, .ref (zad Γ 27))] [] mem
  unfold f_X4_readLines
  refine zj_aload_n (j := 0) (i := 0) C rfl 0 rfl dX4_readLines_0 ?_
  refine zj_getR C F zk_27 fl_X4_48 rfl rf_27_0 dX4_readLines_1 ?_
  refine zj_sipush C 900 rfl dX4_readLines_4 ?_
  refine zj_callVv C F Z [.int (i32 900)] [] cal_X6_beginText calv_X6_beginText ml_X4_52 zk_1 rfl rfl (by decide) (Nat.le_of_ble_eq_true rfl) rfl dX4_readLines_7 (fun q h => M_X6_beginText l Γ F irc_900 mem q h) (fun _ m1 _ => ?_)
  refine zj_aload_n (j := 0) (i := 0) C rfl 0 rfl dX4_readLines_10 ?_
  refine zj_getR C F zk_27 fl_X4_12 rfl rf_27_1 dX4_readLines_11 ?_
  refine zj_callVv C F Z [] [] cal_X5_clear calv_X5_clear ml_X4_58 zk_28 rfl rfl (by decide) (Nat.le_of_ble_eq_true rfl) rfl dX4_readLines_14 (fun q h => M_X5_clear l Γ F zk_28 m1 q h) (fun _ m2 _ => ?_)
  refine zj_aload_n (j := 0) (i := 0) C rfl 0 rfl dX4_readLines_17 ?_
  refine zj_getR C F zk_27 fl_X4_21 rfl rf_27_2 dX4_readLines_18 ?_
  refine zj_callVv C F Z [] [] cal_X7_clear calv_X7_clear ml_X4_61 zk_35 rfl rfl (by decide) (Nat.le_of_ble_eq_true rfl) rfl dX4_readLines_21 (fun q h => M_X7_clear l Γ F zk_35 m2 q h) (fun _ m3 _ => ?_)
  refine zj_aload_n (j := 0) (i := 0) C rfl 0 rfl dX4_readLines_24 ?_
  refine zj_iconst C 0 dX4_readLines_25 ?_
  refine zj_putZ C F 4 rfl zk_27 fl_X4_37 rfl fp_4_4 (Or.inl rfl) dX4_readLines_26 ?_
  refine zj_pipeM (fun m4 e_m4 => ?_)
  refine zj_aload_n (j := 0) (i := 0) C rfl 0 rfl dX4_readLines_29 ?_
  refine zj_iconst C 0 dX4_readLines_30 ?_
  refine zj_putZ C F 5 rfl zk_27 fl_X4_41 rfl fp_4_5 (Or.inl rfl) dX4_readLines_31 ?_
  refine zj_pipeM (fun m5 e_m5 => ?_)
  refine zj_iconst C 0 dX4_readLines_34 ?_
  refine zj_istore_n (j := 1) (i := 1) C rfl [(1, .int (i32 0)), (0, .ref (zad Γ 27))] dX4_readLines_35 (by decide) rfl ?_
  exact zj_sub [1, 0] rfl ((L_X4_readLines_0 l F C Z zN) 0 irc_0 m5)
noncomputable def f_X11_island  (mem : zMem) : Option (Int × zMem) := zbind (f_X4_readLines mem) fun y1 m2 => zbind (f_X11_closeTape m2) fun y3 m4 => if y3 = 0 then (zbind (f_X3_copyFrom 20 40 m4) fun _ m6 => zbind (f_X2_clear m6) fun _ m7 => some (y1, m7)) else (some ((w32 ((-1) - (m4 1 10))), m4))
set_option maxHeartbeats 4000000 in
theorem M_X11_island (l : Launch) (Γ : zG) (F : zFull Γ)   (mem : zMem) (q : Int × zMem) (h : f_X11_island  mem = some q) : zMet l yX11_island cX11_island 2 (some .int) 8 Γ 1 [.ref (zad Γ 0)] mem q := by
  refine zMet_of (own := "ShadowHeirs") (by decide) rfl (Nat.le_of_ble_eq_true rfl) (fun X C Z => ?_)
  revert h
  show zJ X Γ 2 q (f_X11_island  mem) 0 [(0, .ref (zad Γ 0))] [] mem
  unfold f_X11_island
  refine zj_aload_n (j := 0) (i := 0) C rfl 0 rfl dX11_island_0 ?_
  refine zj_getR C F zk_0 fl_X11_54 rfl rf_0_6 dX11_island_1 ?_
  refine zj_callVi C F Z [] [] cal_X4_readLines calv_X4_readLines ml_X11_133 zk_27 rfl rfl (by decide) (Nat.le_of_ble_eq_true rfl) rfl dX11_island_4 (fun q h => M_X4_readLines l Γ F  mem q h) (fun y1 m2 h_y1 => ?_)
  refine zj_istore_n (j := 1) (i := 1) C rfl [(1, .int (i32 y1)), (0, .ref (zad Γ 0))] dX11_island_7 (by decide) rfl ?_
  refine zj_aload_n (j := 0) (i := 0) C rfl 1 rfl dX11_island_8 ?_
  refine zj_callVi C F Z [] [] cal_X11_closeTape calv_X11_closeTape ml_X11_137 zk_0 rfl rfl (by decide) (Nat.le_of_ble_eq_true rfl) rfl dX11_island_9 (fun q h => M_X11_closeTape l Γ F  m2 q h) (fun y3 m4 h_y3 => ?_)
  refine zj_if_eq C 25 h_y3 dX11_island_12 rfl (fun c5 => ?_) (fun c5 => ?_)
  · refine zj_aload_n (j := 0) (i := 0) C rfl 1 rfl dX11_island_25 ?_
    refine zj_getR C F zk_0 fl_X11_42 rfl rf_0_4 dX11_island_26 ?_
    refine zj_aload_n (j := 0) (i := 0) C rfl 1 rfl dX11_island_29 ?_
    refine zj_getR C F zk_0 fl_X11_54 rfl rf_0_6 dX11_island_30 ?_
    refine zj_getR C F zk_27 fl_X11_144 rfl rf_27_3 dX11_island_33 ?_
    refine zj_callVv C F Z [.ref (zad Γ 40)] [] cal_X3_copyFrom calv_X3_copyFrom ml_X11_147 zk_20 rfl rfl (by decide) (Nat.le_of_ble_eq_true rfl) rfl dX11_island_36 (fun q h => M_X3_copyFrom l Γ F zk_20 zk_40 m4 q h) (fun _ m6 _ => ?_)
    refine zj_aload_n (j := 0) (i := 0) C rfl 1 rfl dX11_island_39 ?_
    refine zj_getR C F zk_0 fl_X11_71 rfl rf_0_9 dX11_island_40 ?_
    refine zj_callVv C F Z [] [] cal_X2_clear calv_X2_clear ml_X11_150 zk_53 rfl rfl (by decide) (Nat.le_of_ble_eq_true rfl) rfl dX11_island_43 (fun q h => M_X2_clear l Γ F  m6 q h) (fun _ m7 _ => ?_)
    refine zj_iload_n (j := 1) (i := 1) C rfl 0 rfl dX11_island_46 ?_
    exact zrt_i C Z h_y1 dX11_island_47
  · refine zj_iconst C (-1) dX11_island_15 ?_
    refine zj_aload_n (j := 0) (i := 0) C rfl 1 rfl dX11_island_16 ?_
    refine zj_getR C F zk_0 fl_X11_10 rfl rf_0_0 dX11_island_17 ?_
    refine zj_getI C F 10 rfl zk_1 fl_X11_141 rfl dX11_island_20 (fun h8 => ?_)
    refine zj_isub C dX11_island_23 ?_
    exact zrt_i C Z (ir_w _) dX11_island_24
