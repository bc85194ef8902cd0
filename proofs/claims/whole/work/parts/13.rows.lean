noncomputable def b_X12_drawHours_0 (rec : Nat → Int → Int → Int → zMem → Option (Int × zMem)) (tag : Nat) (v3 : Int) (v4 : Int) (v5 : Int) (mem : zMem) : Option (Int × zMem) := match tag with
  | 0 => if v4 ≥ v3 then (some (v3, mem)) else (rec 1 v3 v4 0 mem)
  | _ => if ix 140 3 then if v5 ≥ (mem 140 3) then (zbind (f_X12_draw 10 mem) fun y1004 m1005 => if y1004 = 0 then (if ix 140 2 then if (m1005 140 2) ≤ 0 then (if ix 140 106 then if ix 140 106 then pipe (zup m1005 140 106 (w32 ((m1005 140 106) + 1))) fun m1013 => rec 0 v3 (w32 (v4 + 1)) 0 m1013 else none else none) else (if ix 140 2 then zbind (f_X12_draw (m1005 140 2) m1005) fun y1016 m1017 => zbind (f_X12_doIf 3 y1016 0 m1017) fun _ m1018 => if ix 140 106 then if ix 140 106 then pipe (zup m1018 140 106 (w32 ((m1018 140 106) + 1))) fun m1022 => rec 0 v3 (w32 (v4 + 1)) 0 m1022 else none else none else none) else none) else (if ix 140 106 then if ix 140 106 then pipe (zup m1005 140 106 (w32 ((m1005 140 106) + 1))) fun m1026 => rec 0 v3 (w32 (v4 + 1)) 0 m1026 else none else none)) else (zbind (f_X12_drawsFor v5 mem) fun _ m1027 => rec 1 v3 v4 (w32 (v5 + 1)) m1027) else none
noncomputable def f_X12_drawHours_0 : Nat → Nat → Int → Int → Int → zMem → Option (Int × zMem) := zfuel (fun _ _ _ _ _ => none) (b_X12_drawHours_0)
set_option maxHeartbeats 4000000 in
theorem L_X12_drawHours_0 (l : Launch) {Γ : zG} (F : zFull Γ) {X : zM} {q : Int × zMem} (C : zC X Γ "ShadowHeirsModel" cX12_drawHours 6) (Z : zRt X l Γ 10 1 (some .int) q) : ∀ n : Nat, (∀ (v3 : Int) (v4 : Int) (v5 : Int) (h_v3 : ir v3) (h_v4 : ir v4) (mem : zMem), zJ X Γ 6 q (f_X12_drawHours_0 n 0 v3 v4 v5 mem) 24 [(0, .ref (zad Γ 138)), (3, .int (i32 v3)), (4, .int (i32 v4))] [] mem) ∧ (∀ (v3 : Int) (v4 : Int) (v5 : Int) (h_v3 : ir v3) (h_v4 : ir v4) (h_v5 : ir v5) (mem : zMem), zJ X Γ 6 q (f_X12_drawHours_0 n 1 v3 v4 v5 mem) 33 [(0, .ref (zad Γ 138)), (3, .int (i32 v3)), (4, .int (i32 v4)), (5, .int (i32 v5))] [] mem) := by
  intro n
  induction n with
  | zero => exact ⟨(by intros; exact zj_none), (by intros; exact zj_none)⟩
  | succ n ih =>
    refine ⟨?_, ?_⟩
    · intro v3 v4 v5 h_v3 h_v4 mem
      show zJ X Γ 6 q (b_X12_drawHours_0 (f_X12_drawHours_0 n) 0 v3 v4 v5 mem) _ _ _ _
      unfold b_X12_drawHours_0
      refine zj_iload C 2 rfl dX12_drawHours_24 ?_
      refine zj_iload_n (j := 3) (i := 3) C rfl 1 rfl dX12_drawHours_26 ?_
      refine zj_icmp_ge C 107 h_v4 h_v3 dX12_drawHours_27 rfl (fun c1 => ?_) (fun c1 => ?_)
      · refine zj_iload_n (j := 3) (i := 3) C rfl 1 rfl dX12_drawHours_107 ?_
        exact zrt_i C Z h_v3 dX12_drawHours_108
      · refine zj_iconst C 0 dX12_drawHours_30 ?_
        refine zj_istore C [(5, .int (i32 0)), (0, .ref (zad Γ 138)), (3, .int (i32 v3)), (4, .int (i32 v4))] dX12_drawHours_31 (by decide) rfl ?_
        exact zj_sub [1, 2, 3, 0] rfl (ih.2 v3 v4 0 h_v3 h_v4 irc_0 mem)
    · intro v3 v4 v5 h_v3 h_v4 h_v5 mem
      show zJ X Γ 6 q (b_X12_drawHours_0 (f_X12_drawHours_0 n) 1 v3 v4 v5 mem) _ _ _ _
      unfold b_X12_drawHours_0
      refine zj_iload C 3 rfl dX12_drawHours_33 ?_
      refine zj_aload_n (j := 0) (i := 0) C rfl 0 rfl dX12_drawHours_35 ?_
      refine zj_getR C F zk_138 fl_X12_98 rfl rf_138_14 dX12_drawHours_36 ?_
      refine zj_iconst C 3 dX12_drawHours_39 ?_
      refine zj_iaload C F zk_140 irc_3 dX12_drawHours_40 (fun c1001 h1002 => ?_)
      refine zj_icmp_ge C 56 h_v5 h1002 dX12_drawHours_41 rfl (fun c1003 => ?_) (fun c1003 => ?_)
      · refine zj_aload_n (j := 0) (i := 0) C rfl 0 rfl dX12_drawHours_56 ?_
        refine zj_bipush C 10 rfl dX12_drawHours_57 ?_
        refine zj_callVi C F Z [.int (i32 10)] [] cal_X12_draw calv_X12_draw ml_X12_369 zk_138 rfl rfl (by decide) (Nat.le_of_ble_eq_true rfl) rfl dX12_drawHours_59 (fun q h => M_X12_draw l Γ F irc_10 mem q h) (fun y1004 m1005 h_y1004 => ?_)
        refine zj_if_ne C 90 h_y1004 dX12_drawHours_62 rfl (fun c1006 => ?_) (fun c1006 => ?_)
        · refine zj_aload_n (j := 0) (i := 0) C rfl 0 rfl dX12_drawHours_65 ?_
          refine zj_getR C F zk_138 fl_X12_98 rfl rf_138_14 dX12_drawHours_66 ?_
          refine zj_iconst C 2 dX12_drawHours_69 ?_
          refine zj_iaload C F zk_140 irc_2 dX12_drawHours_70 (fun c1007 h1008 => ?_)
          refine zj_if_le C 90 h1008 dX12_drawHours_71 rfl (fun c1009 => ?_) (fun c1009 => ?_)
          · refine zj_aload_n (j := 0) (i := 0) C rfl 0 rfl dX12_drawHours_90 ?_
            refine zj_getR C F zk_138 fl_X12_98 rfl rf_138_14 dX12_drawHours_91 ?_
            refine zj_bipush C 106 rfl dX12_drawHours_94 ?_
            refine zj_dup2 C rfl rfl dX12_drawHours_96 ?_
            refine zj_iaload C F zk_140 irc_106 dX12_drawHours_97 (fun c1010 h1011 => ?_)
            refine zj_iconst C 1 dX12_drawHours_98 ?_
            refine zj_iadd C dX12_drawHours_99 ?_
            refine zj_iastore C F zk_140 irc_106 (ir_w _) dX12_drawHours_100 (fun c1012 => ?_)
            refine zj_pipeM (fun m1013 e_m1013 => ?_)
            refine zj_iinc C 2 [(4, .int (i32 (w32 (v4 + 1)))), (0, .ref (zad Γ 138)), (3, .int (i32 v3)), (5, .int (i32 v5))] rfl dX12_drawHours_101 (by decide) rfl ?_
            refine zj_goto (tgt := 24) C dX12_drawHours_104 rfl ?_
            exact zj_sub [1, 2, 0] rfl (ih.1 v3 (w32 (v4 + 1)) 0 h_v3 (ir_w _) m1013)
          · refine zj_aload_n (j := 0) (i := 0) C rfl 0 rfl dX12_drawHours_74 ?_
            refine zj_iconst C 3 dX12_drawHours_75 ?_
            refine zj_aload_n (j := 0) (i := 0) C rfl 0 rfl dX12_drawHours_76 ?_
            refine zj_aload_n (j := 0) (i := 0) C rfl 0 rfl dX12_drawHours_77 ?_
            refine zj_getR C F zk_138 fl_X12_98 rfl rf_138_14 dX12_drawHours_78 ?_
            refine zj_iconst C 2 dX12_drawHours_81 ?_
            refine zj_iaload C F zk_140 irc_2 dX12_drawHours_82 (fun c1014 h1015 => ?_)
            refine zj_callVi C F Z [.int (i32 (m1005 140 2))] [.int (i32 3), .ref (zad Γ 138)] cal_X12_draw calv_X12_draw ml_X12_369 zk_138 rfl rfl (by decide) (Nat.le_of_ble_eq_true rfl) rfl dX12_drawHours_83 (fun q h => M_X12_draw l Γ F h1015 m1005 q h) (fun y1016 m1017 h_y1016 => ?_)
            refine zj_iconst C 0 dX12_drawHours_86 ?_
            refine zj_callVv C F Z [.int (i32 3), .int (i32 y1016), .int (i32 0)] [] cal_X12_doIf calv_X12_doIf ml_X12_372 zk_138 rfl rfl (by decide) (Nat.le_of_ble_eq_true rfl) rfl dX12_drawHours_87 (fun q h => M_X12_doIf l Γ F irc_3 h_y1016 irc_0 m1017 q h) (fun _ m1018 _ => ?_)
            refine zj_aload_n (j := 0) (i := 0) C rfl 0 rfl dX12_drawHours_90 ?_
            refine zj_getR C F zk_138 fl_X12_98 rfl rf_138_14 dX12_drawHours_91 ?_
            refine zj_bipush C 106 rfl dX12_drawHours_94 ?_
            refine zj_dup2 C rfl rfl dX12_drawHours_96 ?_
            refine zj_iaload C F zk_140 irc_106 dX12_drawHours_97 (fun c1019 h1020 => ?_)
            refine zj_iconst C 1 dX12_drawHours_98 ?_
            refine zj_iadd C dX12_drawHours_99 ?_
            refine zj_iastore C F zk_140 irc_106 (ir_w _) dX12_drawHours_100 (fun c1021 => ?_)
            refine zj_pipeM (fun m1022 e_m1022 => ?_)
            refine zj_iinc C 2 [(4, .int (i32 (w32 (v4 + 1)))), (0, .ref (zad Γ 138)), (3, .int (i32 v3)), (5, .int (i32 v5))] rfl dX12_drawHours_101 (by decide) rfl ?_
            refine zj_goto (tgt := 24) C dX12_drawHours_104 rfl ?_
            exact zj_sub [1, 2, 0] rfl (ih.1 v3 (w32 (v4 + 1)) 0 h_v3 (ir_w _) m1022)
        · refine zj_aload_n (j := 0) (i := 0) C rfl 0 rfl dX12_drawHours_90 ?_
          refine zj_getR C F zk_138 fl_X12_98 rfl rf_138_14 dX12_drawHours_91 ?_
          refine zj_bipush C 106 rfl dX12_drawHours_94 ?_
          refine zj_dup2 C rfl rfl dX12_drawHours_96 ?_
          refine zj_iaload C F zk_140 irc_106 dX12_drawHours_97 (fun c1023 h1024 => ?_)
          refine zj_iconst C 1 dX12_drawHours_98 ?_
          refine zj_iadd C dX12_drawHours_99 ?_
          refine zj_iastore C F zk_140 irc_106 (ir_w _) dX12_drawHours_100 (fun c1025 => ?_)
          refine zj_pipeM (fun m1026 e_m1026 => ?_)
          refine zj_iinc C 2 [(4, .int (i32 (w32 (v4 + 1)))), (0, .ref (zad Γ 138)), (3, .int (i32 v3)), (5, .int (i32 v5))] rfl dX12_drawHours_101 (by decide) rfl ?_
          refine zj_goto (tgt := 24) C dX12_drawHours_104 rfl ?_
          exact zj_sub [1, 2, 0] rfl (ih.1 v3 (w32 (v4 + 1)) 0 h_v3 (ir_w _) m1026)
      · refine zj_aload_n (j := 0) (i := 0) C rfl 0 rfl dX12_drawHours_44 ?_
        refine zj_iload C 3 rfl dX12_drawHours_45 ?_
        refine zj_callVv C F Z [.int (i32 v5)] [] cal_X12_drawsFor calv_X12_drawsFor ml_X12_375 zk_138 rfl rfl (by decide) (Nat.le_of_ble_eq_true rfl) rfl dX12_drawHours_47 (fun q h => M_X12_drawsFor l Γ F h_v5 mem q h) (fun _ m1027 _ => ?_)
        refine zj_iinc C 3 [(5, .int (i32 (w32 (v5 + 1)))), (0, .ref (zad Γ 138)), (3, .int (i32 v3)), (4, .int (i32 v4))] rfl dX12_drawHours_50 (by decide) rfl ?_
        refine zj_goto (tgt := 33) C dX12_drawHours_53 rfl ?_
        exact zj_sub [1, 2, 3, 0] rfl (ih.2 v3 v4 (w32 (v5 + 1)) h_v3 h_v4 (ir_w _) m1027)
noncomputable def f_X12_drawHours (x0 : Int) (x1 : Int) (mem : zMem) : Option (Int × zMem) := pipe (zup mem 138 37 x1) fun m1 => if ix 140 106 then zbind (f_X12_least x0 (w32 (400 - (m1 140 106))) m1) fun y4 m5 => f_X12_drawHours_0 zN 0 y4 0 0 m5 else none
set_option maxHeartbeats 4000000 in
theorem M_X12_drawHours (l : Launch) (Γ : zG) (F : zFull Γ)  {x0 : Int} {x1 : Int} (h_x0 : ir x0) (h_x1 : ir x1) (mem : zMem) (q : Int × zMem) (h : f_X12_drawHours x0 x1 mem = some q) : zMet l yX12_drawHours cX12_drawHours 6 (some .int) 10 Γ 1 [.ref (zad Γ 138), .int (i32 x0), .int (i32 x1)] mem q := by
  refine zMet_of (own := "ShadowHeirsModel") (by decide) rfl (Nat.le_of_ble_eq_true rfl) (fun X C Z => ?_)
  revert h
  show zJ X Γ 6 q (f_X12_drawHours x0 x1 mem) 0 [(0, .ref (zad Γ 138)), (1, .int (i32 x0)), (2, .int (i32 x1))] [] mem
  unfold f_X12_drawHours
  refine zj_aload_n (j := 0) (i := 0) C rfl 0 rfl dX12_drawHours_0 ?_
  refine zj_iload_n (j := 2) (i := 2) C rfl 2 rfl dX12_drawHours_1 ?_
  refine zj_putI C F 37 rfl zk_138 fl_X12_365 rfl fp_12_37 h_x1 dX12_drawHours_2 ?_
  refine zj_pipeM (fun m1 e_m1 => ?_)
  refine zj_iload_n (j := 1) (i := 1) C rfl 1 rfl dX12_drawHours_5 ?_
  refine zj_sipush C 400 rfl dX12_drawHours_6 ?_
  refine zj_aload_n (j := 0) (i := 0) C rfl 0 rfl dX12_drawHours_9 ?_
  refine zj_getR C F zk_138 fl_X12_98 rfl rf_138_14 dX12_drawHours_10 ?_
  refine zj_bipush C 106 rfl dX12_drawHours_13 ?_
  refine zj_iaload C F zk_140 irc_106 dX12_drawHours_15 (fun c2 h3 => ?_)
  refine zj_isub C dX12_drawHours_16 ?_
  refine zj_callSi C Z [.int (i32 x0), .int (i32 (w32 (400 - (m1 140 106))))] [] cal_X12_least sta_X12_least ml_X12_316 rfl (by decide) (Nat.le_of_ble_eq_true rfl) rfl dX12_drawHours_17 (fun q h => M_X12_least l Γ F h_x0 (ir_w _) m1 q h) (fun y4 m5 h_y4 => ?_)
  refine zj_istore_n (j := 3) (i := 3) C rfl [(3, .int (i32 y4)), (0, .ref (zad Γ 138)), (1, .int (i32 x0)), (2, .int (i32 x1))] dX12_drawHours_20 (by decide) rfl ?_
  refine zj_iconst C 0 dX12_drawHours_21 ?_
  refine zj_istore C [(4, .int (i32 0)), (3, .int (i32 y4)), (0, .ref (zad Γ 138)), (1, .int (i32 x0)), (2, .int (i32 x1))] dX12_drawHours_22 (by decide) rfl ?_
  exact zj_sub [2, 1, 0] rfl ((L_X12_drawHours_0 l F C Z zN).1 y4 0 0 h_y4 irc_0 m5)
noncomputable def f_X12_drawn (x0 : Int) (x1 : Int) (mem : zMem) : Option (Int × zMem) := pipe (zup mem 138 0 0) fun m1 => zbind (f_X12_isIn x0 1 60 m1) fun y2 m3 => if y2 = 0 then (some ((-1), m3)) else (if ix 140 106 then if (m3 140 106) = 400 then (some (0, m3)) else (zbind (f_X12_snap m3) fun _ m8 => zbind (f_X12_drawHours x0 x1 m8) fun y9 m10 => some (y9, m10)) else none)
set_option maxHeartbeats 4000000 in
theorem M_X12_drawn (l : Launch) (Γ : zG) (F : zFull Γ)  {x0 : Int} {x1 : Int} (h_x0 : ir x0) (h_x1 : ir x1) (mem : zMem) (q : Int × zMem) (h : f_X12_drawn x0 x1 mem = some q) : zMet l yX12_drawn cX12_drawn 3 (some .int) 11 Γ 1 [.ref (zad Γ 138), .int (i32 x0), .int (i32 x1)] mem q := by
  refine zMet_of (own := "ShadowHeirsModel") (by decide) rfl (Nat.le_of_ble_eq_true rfl) (fun X C Z => ?_)
  revert h
  show zJ X Γ 3 q (f_X12_drawn x0 x1 mem) 0 [(0, .ref (zad Γ 138)), (1, .int (i32 x0)), (2, .int (i32 x1))] [] mem
  unfold f_X12_drawn
  refine zj_aload_n (j := 0) (i := 0) C rfl 0 rfl dX12_drawn_0 ?_
  refine zj_iconst C 0 dX12_drawn_1 ?_
  refine zj_putI C F 0 rfl zk_138 fl_X12_1 rfl fp_12_0 irc_0 dX12_drawn_2 ?_
  refine zj_pipeM (fun m1 e_m1 => ?_)
  refine zj_iload_n (j := 1) (i := 1) C rfl 1 rfl dX12_drawn_5 ?_
  refine zj_iconst C 1 dX12_drawn_6 ?_
  refine zj_bipush C 60 rfl dX12_drawn_7 ?_
  refine zj_callSi C Z [.int (i32 x0), .int (i32 1), .int (i32 60)] [] cal_X12_isIn sta_X12_isIn ml_X12_75 rfl (by decide) (Nat.le_of_ble_eq_true rfl) rfl dX12_drawn_9 (fun q h => M_X12_isIn l Γ F h_x0 irc_1 irc_60 m1 q h) (fun y2 m3 h_y2 => ?_)
  refine zj_if_ne C 17 h_y2 dX12_drawn_12 rfl (fun c4 => ?_) (fun c4 => ?_)
  · refine zj_iconst C (-1) dX12_drawn_15 ?_
    exact zrt_i C Z irc_m1 dX12_drawn_16
  · refine zj_aload_n (j := 0) (i := 0) C rfl 0 rfl dX12_drawn_17 ?_
    refine zj_getR C F zk_138 fl_X12_98 rfl rf_138_14 dX12_drawn_18 ?_
    refine zj_bipush C 106 rfl dX12_drawn_21 ?_
    refine zj_iaload C F zk_140 irc_106 dX12_drawn_23 (fun c5 h6 => ?_)
    refine zj_sipush C 400 rfl dX12_drawn_24 ?_
    refine zj_icmp_ne C 32 h6 irc_400 dX12_drawn_27 rfl (fun c7 => ?_) (fun c7 => ?_)
    · refine zj_iconst C 0 dX12_drawn_30 ?_
      exact zrt_i C Z irc_0 dX12_drawn_31
    · refine zj_aload_n (j := 0) (i := 0) C rfl 0 rfl dX12_drawn_32 ?_
      refine zj_callVv C F Z [] [] cal_X12_snap calv_X12_snap ml_X12_305 zk_138 rfl rfl (by decide) (Nat.le_of_ble_eq_true rfl) rfl dX12_drawn_33 (fun q h => M_X12_snap l Γ F  m3 q h) (fun _ m8 _ => ?_)
      refine zj_aload_n (j := 0) (i := 0) C rfl 0 rfl dX12_drawn_36 ?_
      refine zj_iload_n (j := 1) (i := 1) C rfl 1 rfl dX12_drawn_37 ?_
      refine zj_iload_n (j := 2) (i := 2) C rfl 2 rfl dX12_drawn_38 ?_
      refine zj_callVi C F Z [.int (i32 x0), .int (i32 x1)] [] cal_X12_drawHours calv_X12_drawHours ml_X12_378 zk_138 rfl rfl (by decide) (Nat.le_of_ble_eq_true rfl) rfl dX12_drawn_39 (fun q h => M_X12_drawHours l Γ F h_x0 h_x1 m8 q h) (fun y9 m10 h_y9 => ?_)
      exact zrt_i C Z h_y9 dX12_drawn_42
noncomputable def b_X12_layAside_0 (rec : Int → zMem → Option (Int × zMem)) (v1 : Int) (mem : zMem) : Option (Int × zMem) := if v1 ≥ 86 then (some (0, mem)) else (if ix 140 (w32 (106 + v1)) then if ix 144 v1 then pipe (zup mem 144 v1 (mem 140 (w32 (106 + v1)))) fun m5 => rec (w32 (v1 + 1)) m5 else none else none)
noncomputable def f_X12_layAside_0 : Nat → Int → zMem → Option (Int × zMem) := zfuel (fun _ _ => none) (b_X12_layAside_0)
set_option maxHeartbeats 4000000 in
theorem L_X12_layAside_0 (l : Launch) {Γ : zG} (F : zFull Γ) {X : zM} {q : Int × zMem} (C : zC X Γ "ShadowHeirsModel" cX12_layAside 2) (Z : zRt X l Γ 1 0 none q) : ∀ n : Nat, ∀ (v1 : Int) (h_v1 : ir v1) (mem : zMem), zJ X Γ 2 q (f_X12_layAside_0 n v1 mem) 2 [(0, .ref (zad Γ 138)), (1, .int (i32 v1))] [] mem := by
  intro n
  induction n with
  | zero => intros; exact zj_none
  | succ n ih =>
    intro v1 h_v1 mem
    show zJ X Γ 2 q (b_X12_layAside_0 (f_X12_layAside_0 n) v1 mem) _ _ _ _
    unfold b_X12_layAside_0
    refine zj_iload_n (j := 1) (i := 1) C rfl 1 rfl dX12_layAside_2 ?_
    refine zj_bipush C 86 rfl dX12_layAside_3 ?_
    refine zj_icmp_ge C 29 h_v1 irc_86 dX12_layAside_5 rfl (fun c1 => ?_) (fun c1 => ?_)
    · exact zrt_v C Z dX12_layAside_29
    · refine zj_aload_n (j := 0) (i := 0) C rfl 0 rfl dX12_layAside_8 ?_
      refine zj_getR C F zk_138 fl_X12_110 rfl rf_138_18 dX12_layAside_9 ?_
      refine zj_iload_n (j := 1) (i := 1) C rfl 1 rfl dX12_layAside_12 ?_
      refine zj_aload_n (j := 0) (i := 0) C rfl 0 rfl dX12_layAside_13 ?_
      refine zj_getR C F zk_138 fl_X12_98 rfl rf_138_14 dX12_layAside_14 ?_
      refine zj_bipush C 106 rfl dX12_layAside_17 ?_
      refine zj_iload_n (j := 1) (i := 1) C rfl 1 rfl dX12_layAside_19 ?_
      refine zj_iadd C dX12_layAside_20 ?_
      refine zj_iaload C F zk_140 (ir_w _) dX12_layAside_21 (fun c2 h3 => ?_)
      refine zj_iastore C F zk_144 h_v1 h3 dX12_layAside_22 (fun c4 => ?_)
      refine zj_pipeM (fun m5 e_m5 => ?_)
      refine zj_iinc C 1 [(1, .int (i32 (w32 (v1 + 1)))), (0, .ref (zad Γ 138))] rfl dX12_layAside_23 (by decide) rfl ?_
      refine zj_goto (tgt := 2) C dX12_layAside_26 rfl ?_
      exact zj_sub [1, 0] rfl (ih (w32 (v1 + 1)) (ir_w _) m5)
noncomputable def f_X12_layAside  (mem : zMem) : Option (Int × zMem) := f_X12_layAside_0 zN 0 mem
set_option maxHeartbeats 4000000 in
theorem M_X12_layAside (l : Launch) (Γ : zG) (F : zFull Γ)    (mem : zMem) (q : Int × zMem) (h : f_X12_layAside  mem = some q) : zMet l yX12_layAside cX12_layAside 2 none 1 Γ 0 [.ref (zad Γ 138)] mem q := by
  refine zMet_of (own := "ShadowHeirsModel") (by decide) rfl (Nat.le_of_ble_eq_true rfl) (fun X C Z => ?_)
  revert h
  show zJ X Γ 2 q (f_X12_layAside  mem) 0 [(0, .ref (zad Γ 138))] [] mem
  unfold f_X12_layAside
  refine zj_iconst C 0 dX12_layAside_0 ?_
  refine zj_istore_n (j := 1) (i := 1) C rfl [(1, .int (i32 0)), (0, .ref (zad Γ 138))] dX12_layAside_1 (by decide) rfl ?_
  exact zj_sub [1, 0] rfl ((L_X12_layAside_0 l F C Z zN) 0 irc_0 mem)
noncomputable def b_X12_takeBack_0 (rec : Int → zMem → Option (Int × zMem)) (v1 : Int) (mem : zMem) : Option (Int × zMem) := if v1 ≥ 86 then (some (0, mem)) else (if ix 144 v1 then if ix 140 (w32 (106 + v1)) then pipe (zup mem 140 (w32 (106 + v1)) (mem 144 v1)) fun m5 => rec (w32 (v1 + 1)) m5 else none else none)
noncomputable def f_X12_takeBack_0 : Nat → Int → zMem → Option (Int × zMem) := zfuel (fun _ _ => none) (b_X12_takeBack_0)
set_option maxHeartbeats 4000000 in
theorem L_X12_takeBack_0 (l : Launch) {Γ : zG} (F : zFull Γ) {X : zM} {q : Int × zMem} (C : zC X Γ "ShadowHeirsModel" cX12_takeBack 2) (Z : zRt X l Γ 1 0 none q) : ∀ n : Nat, ∀ (v1 : Int) (h_v1 : ir v1) (mem : zMem), zJ X Γ 2 q (f_X12_takeBack_0 n v1 mem) 2 [(0, .ref (zad Γ 138)), (1, .int (i32 v1))] [] mem := by
  intro n
  induction n with
  | zero => intros; exact zj_none
  | succ n ih =>
    intro v1 h_v1 mem
    show zJ X Γ 2 q (b_X12_takeBack_0 (f_X12_takeBack_0 n) v1 mem) _ _ _ _
    unfold b_X12_takeBack_0
    refine zj_iload_n (j := 1) (i := 1) C rfl 1 rfl dX12_takeBack_2 ?_
    refine zj_bipush C 86 rfl dX12_takeBack_3 ?_
    refine zj_icmp_ge C 29 h_v1 irc_86 dX12_takeBack_5 rfl (fun c1 => ?_) (fun c1 => ?_)
    · exact zrt_v C Z dX12_takeBack_29
    · refine zj_aload_n (j := 0) (i := 0) C rfl 0 rfl dX12_takeBack_8 ?_
      refine zj_getR C F zk_138 fl_X12_98 rfl rf_138_14 dX12_takeBack_9 ?_
      refine zj_bipush C 106 rfl dX12_takeBack_12 ?_
      refine zj_iload_n (j := 1) (i := 1) C rfl 1 rfl dX12_takeBack_14 ?_
      refine zj_iadd C dX12_takeBack_15 ?_
      refine zj_aload_n (j := 0) (i := 0) C rfl 0 rfl dX12_takeBack_16 ?_
      refine zj_getR C F zk_138 fl_X12_110 rfl rf_138_18 dX12_takeBack_17 ?_
      refine zj_iload_n (j := 1) (i := 1) C rfl 1 rfl dX12_takeBack_20 ?_
      refine zj_iaload C F zk_144 h_v1 dX12_takeBack_21 (fun c2 h3 => ?_)
      refine zj_iastore C F zk_140 (ir_w _) h3 dX12_takeBack_22 (fun c4 => ?_)
      refine zj_pipeM (fun m5 e_m5 => ?_)
      refine zj_iinc C 1 [(1, .int (i32 (w32 (v1 + 1)))), (0, .ref (zad Γ 138))] rfl dX12_takeBack_23 (by decide) rfl ?_
      refine zj_goto (tgt := 2) C dX12_takeBack_26 rfl ?_
      exact zj_sub [1, 0] rfl (ih (w32 (v1 + 1)) (ir_w _) m5)
noncomputable def f_X12_takeBack  (mem : zMem) : Option (Int × zMem) := f_X12_takeBack_0 zN 0 mem
set_option maxHeartbeats 4000000 in
theorem M_X12_takeBack (l : Launch) (Γ : zG) (F : zFull Γ)    (mem : zMem) (q : Int × zMem) (h : f_X12_takeBack  mem = some q) : zMet l yX12_takeBack cX12_takeBack 2 none 1 Γ 0 [.ref (zad Γ 138)] mem q := by
  refine zMet_of (own := "ShadowHeirsModel") (by decide) rfl (Nat.le_of_ble_eq_true rfl) (fun X C Z => ?_)
  revert h
  show zJ X Γ 2 q (f_X12_takeBack  mem) 0 [(0, .ref (zad Γ 138))] [] mem
  unfold f_X12_takeBack
  refine zj_iconst C 0 dX12_takeBack_0 ?_
  refine zj_istore_n (j := 1) (i := 1) C rfl [(1, .int (i32 0)), (0, .ref (zad Γ 138))] dX12_takeBack_1 (by decide) rfl ?_
  exact zj_sub [1, 0] rfl ((L_X12_takeBack_0 l F C Z zN) 0 irc_0 mem)
noncomputable def b_X12_odds_0 (rec : Int → Int → Int → Int → Int → zMem → Option (Int × zMem)) (v1 : Int) (v2 : Int) (v3 : Int) (v4 : Int) (v5 : Int) (mem : zMem) : Option (Int × zMem) := if v5 ≥ v2 then (some (v4, mem)) else (zbind (f_X12_drawHours 20 (w32 (v3 + v5)) mem) fun y2 m3 => if ix 140 (w32 (122 + v1)) then if ix 144 (w32 (16 + v1)) then if (m3 140 (w32 (122 + v1))) ≤ (m3 144 (w32 (16 + v1))) then (zbind (f_X12_takeBack m3) fun _ m9 => rec v1 v2 v3 v4 (w32 (v5 + 1)) m9) else (zbind (f_X12_takeBack m3) fun _ m10 => rec v1 v2 v3 (w32 (v4 + 1)) (w32 (v5 + 1)) m10) else none else none)
noncomputable def f_X12_odds_0 : Nat → Int → Int → Int → Int → Int → zMem → Option (Int × zMem) := zfuel (fun _ _ _ _ _ _ => none) (b_X12_odds_0)
set_option maxHeartbeats 4000000 in
theorem L_X12_odds_0 (l : Launch) {Γ : zG} (F : zFull Γ) {X : zM} {q : Int × zMem} (C : zC X Γ "ShadowHeirsModel" cX12_odds 6) (Z : zRt X l Γ 11 1 (some .int) q) : ∀ n : Nat, ∀ (v1 : Int) (v2 : Int) (v3 : Int) (v4 : Int) (v5 : Int) (h_v1 : ir v1) (h_v2 : ir v2) (h_v3 : ir v3) (h_v4 : ir v4) (h_v5 : ir v5) (mem : zMem), zJ X Γ 6 q (f_X12_odds_0 n v1 v2 v3 v4 v5 mem) 35 [(0, .ref (zad Γ 138)), (1, .int (i32 v1)), (2, .int (i32 v2)), (3, .int (i32 v3)), (4, .int (i32 v4)), (5, .int (i32 v5))] [] mem := by
  intro n
  induction n with
  | zero => intros; exact zj_none
  | succ n ih =>
    intro v1 v2 v3 v4 v5 h_v1 h_v2 h_v3 h_v4 h_v5 mem
    show zJ X Γ 6 q (b_X12_odds_0 (f_X12_odds_0 n) v1 v2 v3 v4 v5 mem) _ _ _ _
    unfold b_X12_odds_0
    refine zj_iload C 5 rfl dX12_odds_35 ?_
    refine zj_iload_n (j := 2) (i := 2) C rfl 2 rfl dX12_odds_37 ?_
    refine zj_icmp_ge C 86 h_v5 h_v2 dX12_odds_38 rfl (fun c1 => ?_) (fun c1 => ?_)
    · refine zj_iload C 4 rfl dX12_odds_86 ?_
      exact zrt_i C Z h_v4 dX12_odds_88
    · refine zj_aload_n (j := 0) (i := 0) C rfl 0 rfl dX12_odds_41 ?_
      refine zj_bipush C 20 rfl dX12_odds_42 ?_
      refine zj_iload_n (j := 3) (i := 3) C rfl 3 rfl dX12_odds_44 ?_
      refine zj_iload C 5 rfl dX12_odds_45 ?_
      refine zj_iadd C dX12_odds_47 ?_
      refine zj_callVi C F Z [.int (i32 20), .int (i32 (w32 (v3 + v5)))] [] cal_X12_drawHours calv_X12_drawHours ml_X12_378 zk_138 rfl rfl (by decide) (Nat.le_of_ble_eq_true rfl) rfl dX12_odds_48 (fun q h => M_X12_drawHours l Γ F irc_20 (ir_w _) mem q h) (fun y2 m3 h_y2 => ?_)
      refine zj_pop C rfl dX12_odds_51 ?_
      refine zj_aload_n (j := 0) (i := 0) C rfl 0 rfl dX12_odds_52 ?_
      refine zj_getR C F zk_138 fl_X12_98 rfl rf_138_14 dX12_odds_53 ?_
      refine zj_bipush C 122 rfl dX12_odds_56 ?_
      refine zj_iload_n (j := 1) (i := 1) C rfl 1 rfl dX12_odds_58 ?_
      refine zj_iadd C dX12_odds_59 ?_
      refine zj_iaload C F zk_140 (ir_w _) dX12_odds_60 (fun c4 h5 => ?_)
      refine zj_aload_n (j := 0) (i := 0) C rfl 0 rfl dX12_odds_61 ?_
      refine zj_getR C F zk_138 fl_X12_110 rfl rf_138_18 dX12_odds_62 ?_
      refine zj_bipush C 16 rfl dX12_odds_65 ?_
      refine zj_iload_n (j := 1) (i := 1) C rfl 1 rfl dX12_odds_67 ?_
      refine zj_iadd C dX12_odds_68 ?_
      refine zj_iaload C F zk_144 (ir_w _) dX12_odds_69 (fun c6 h7 => ?_)
      refine zj_icmp_le C 76 h5 h7 dX12_odds_70 rfl (fun c8 => ?_) (fun c8 => ?_)
      · refine zj_aload_n (j := 0) (i := 0) C rfl 0 rfl dX12_odds_76 ?_
        refine zj_callVv C F Z [] [] cal_X12_takeBack calv_X12_takeBack ml_X12_384 zk_138 rfl rfl (by decide) (Nat.le_of_ble_eq_true rfl) rfl dX12_odds_77 (fun q h => M_X12_takeBack l Γ F  m3 q h) (fun _ m9 _ => ?_)
        refine zj_iinc C 5 [(5, .int (i32 (w32 (v5 + 1)))), (0, .ref (zad Γ 138)), (1, .int (i32 v1)), (2, .int (i32 v2)), (3, .int (i32 v3)), (4, .int (i32 v4))] rfl dX12_odds_80 (by decide) rfl ?_
        refine zj_goto (tgt := 35) C dX12_odds_83 rfl ?_
        exact zj_sub [1, 2, 3, 4, 5, 0] rfl (ih v1 v2 v3 v4 (w32 (v5 + 1)) h_v1 h_v2 h_v3 h_v4 (ir_w _) m9)
      · refine zj_iinc C 4 [(4, .int (i32 (w32 (v4 + 1)))), (0, .ref (zad Γ 138)), (1, .int (i32 v1)), (2, .int (i32 v2)), (3, .int (i32 v3)), (5, .int (i32 v5))] rfl dX12_odds_73 (by decide) rfl ?_
        refine zj_aload_n (j := 0) (i := 0) C rfl 1 rfl dX12_odds_76 ?_
        refine zj_callVv C F Z [] [] cal_X12_takeBack calv_X12_takeBack ml_X12_384 zk_138 rfl rfl (by decide) (Nat.le_of_ble_eq_true rfl) rfl dX12_odds_77 (fun q h => M_X12_takeBack l Γ F  m3 q h) (fun _ m10 _ => ?_)
        refine zj_iinc C 5 [(5, .int (i32 (w32 (v5 + 1)))), (4, .int (i32 (w32 (v4 + 1)))), (0, .ref (zad Γ 138)), (1, .int (i32 v1)), (2, .int (i32 v2)), (3, .int (i32 v3))] rfl dX12_odds_80 (by decide) rfl ?_
        refine zj_goto (tgt := 35) C dX12_odds_83 rfl ?_
        exact zj_sub [2, 3, 4, 5, 1, 0] rfl (ih v1 v2 v3 (w32 (v4 + 1)) (w32 (v5 + 1)) h_v1 h_v2 h_v3 (ir_w _) (ir_w _) m10)
noncomputable def f_X12_odds (x0 : Int) (x1 : Int) (x2 : Int) (mem : zMem) : Option (Int × zMem) := pipe (zup mem 138 0 0) fun m1 => zbind (f_X12_isPerson x0 m1) fun y2 m3 => if y2 = 0 then (some ((-1), m3)) else (zbind (f_X12_isIn x1 1 30 m3) fun y5 m6 => if y5 = 0 then (some ((-1), m6)) else (zbind (f_X12_layAside m6) fun _ m8 => f_X12_odds_0 zN x0 x1 x2 0 0 m8))
set_option maxHeartbeats 4000000 in
theorem M_X12_odds (l : Launch) (Γ : zG) (F : zFull Γ)  {x0 : Int} {x1 : Int} {x2 : Int} (h_x0 : ir x0) (h_x1 : ir x1) (h_x2 : ir x2) (mem : zMem) (q : Int × zMem) (h : f_X12_odds x0 x1 x2 mem = some q) : zMet l yX12_odds cX12_odds 6 (some .int) 11 Γ 1 [.ref (zad Γ 138), .int (i32 x0), .int (i32 x1), .int (i32 x2)] mem q := by
  refine zMet_of (own := "ShadowHeirsModel") (by decide) rfl (Nat.le_of_ble_eq_true rfl) (fun X C Z => ?_)
  revert h
  show zJ X Γ 6 q (f_X12_odds x0 x1 x2 mem) 0 [(0, .ref (zad Γ 138)), (1, .int (i32 x0)), (2, .int (i32 x1)), (3, .int (i32 x2))] [] mem
  unfold f_X12_odds
  refine zj_aload_n (j := 0) (i := 0) C rfl 0 rfl dX12_odds_0 ?_
  refine zj_iconst C 0 dX12_odds_1 ?_
  refine zj_putI C F 0 rfl zk_138 fl_X12_1 rfl fp_12_0 irc_0 dX12_odds_2 ?_
  refine zj_pipeM (fun m1 e_m1 => ?_)
  refine zj_aload_n (j := 0) (i := 0) C rfl 0 rfl dX12_odds_5 ?_
  refine zj_iload_n (j := 1) (i := 1) C rfl 1 rfl dX12_odds_6 ?_
  refine zj_callVi C F Z [.int (i32 x0)] [] cal_X12_isPerson calv_X12_isPerson ml_X12_280 zk_138 rfl rfl (by decide) (Nat.le_of_ble_eq_true rfl) rfl dX12_odds_7 (fun q h => M_X12_isPerson l Γ F h_x0 m1 q h) (fun y2 m3 h_y2 => ?_)
  refine zj_if_eq C 23 h_y2 dX12_odds_10 rfl (fun c4 => ?_) (fun c4 => ?_)
  · refine zj_iconst C (-1) dX12_odds_23 ?_
    exact zrt_i C Z irc_m1 dX12_odds_24
  · refine zj_iload_n (j := 2) (i := 2) C rfl 2 rfl dX12_odds_13 ?_
    refine zj_iconst C 1 dX12_odds_14 ?_
    refine zj_bipush C 30 rfl dX12_odds_15 ?_
    refine zj_callSi C Z [.int (i32 x1), .int (i32 1), .int (i32 30)] [] cal_X12_isIn sta_X12_isIn ml_X12_75 rfl (by decide) (Nat.le_of_ble_eq_true rfl) rfl dX12_odds_17 (fun q h => M_X12_isIn l Γ F h_x1 irc_1 irc_30 m3 q h) (fun y5 m6 h_y5 => ?_)
    refine zj_if_ne C 25 h_y5 dX12_odds_20 rfl (fun c7 => ?_) (fun c7 => ?_)
    · refine zj_iconst C (-1) dX12_odds_23 ?_
      exact zrt_i C Z irc_m1 dX12_odds_24
    · refine zj_aload_n (j := 0) (i := 0) C rfl 0 rfl dX12_odds_25 ?_
      refine zj_callVv C F Z [] [] cal_X12_layAside calv_X12_layAside ml_X12_381 zk_138 rfl rfl (by decide) (Nat.le_of_ble_eq_true rfl) rfl dX12_odds_26 (fun q h => M_X12_layAside l Γ F  m6 q h) (fun _ m8 _ => ?_)
      refine zj_iconst C 0 dX12_odds_29 ?_
      refine zj_istore C [(4, .int (i32 0)), (0, .ref (zad Γ 138)), (1, .int (i32 x0)), (2, .int (i32 x1)), (3, .int (i32 x2))] dX12_odds_30 (by decide) rfl ?_
      refine zj_iconst C 0 dX12_odds_32 ?_
      refine zj_istore C [(5, .int (i32 0)), (4, .int (i32 0)), (0, .ref (zad Γ 138)), (1, .int (i32 x0)), (2, .int (i32 x1)), (3, .int (i32 x2))] dX12_odds_33 (by decide) rfl ?_
      exact zj_sub [2, 3, 4, 5, 1, 0] rfl ((L_X12_odds_0 l F C Z zN) x0 x1 x2 0 0 h_x0 h_x1 h_x2 irc_0 irc_0 m8)
noncomputable def f_X12_keep (x0 : Int) (x1 : Int) (mem : zMem) : Option (Int × zMem) := if x1 = 0 then (if x1 = 0 ∨ x1 = 1 then some (x1, mem) else none) else (if ix 154 x0 then pipe (zup mem 154 x0 (mem 138 13)) fun m4 => if x1 = 0 ∨ x1 = 1 then some (x1, m4) else none else none)
set_option maxHeartbeats 4000000 in
theorem M_X12_keep (l : Launch) (Γ : zG) (F : zFull Γ)  {x0 : Int} {x1 : Int} (h_x0 : ir x0) (h_x1 : ir x1) (mem : zMem) (q : Int × zMem) (h : f_X12_keep x0 x1 mem = some q) : zMet l yX12_keep cX12_keep 3 (some .boolean) 1 Γ 1 [.ref (zad Γ 138), .int (i32 x0), .int (i32 x1)] mem q := by
  refine zMet_of (own := "ShadowHeirsModel") (by decide) rfl (Nat.le_of_ble_eq_true rfl) (fun X C Z => ?_)
  revert h
  show zJ X Γ 3 q (f_X12_keep x0 x1 mem) 0 [(0, .ref (zad Γ 138)), (1, .int (i32 x0)), (2, .int (i32 x1))] [] mem
  unfold f_X12_keep
  refine zj_iload_n (j := 2) (i := 2) C rfl 2 rfl dX12_keep_0 ?_
  refine zj_if_eq C 14 h_x1 dX12_keep_1 rfl (fun c1 => ?_) (fun c1 => ?_)
  · refine zj_iload_n (j := 2) (i := 2) C rfl 2 rfl dX12_keep_14 ?_
    exact zrt_zc C Z dX12_keep_15
  · refine zj_aload_n (j := 0) (i := 0) C rfl 0 rfl dX12_keep_4 ?_
    refine zj_getR C F zk_138 fl_X12_154 rfl rf_138_38 dX12_keep_5 ?_
    refine zj_iload_n (j := 1) (i := 1) C rfl 1 rfl dX12_keep_8 ?_
    refine zj_aload_n (j := 0) (i := 0) C rfl 0 rfl dX12_keep_9 ?_
    refine zj_getI C F 13 rfl zk_138 fl_X12_79 rfl dX12_keep_10 (fun h2 => ?_)
    refine zj_iastore C F zk_154 h_x0 h2 dX12_keep_13 (fun c3 => ?_)
    refine zj_pipeM (fun m4 e_m4 => ?_)
    refine zj_iload_n (j := 2) (i := 2) C rfl 2 rfl dX12_keep_14 ?_
    exact zrt_zc C Z dX12_keep_15
noncomputable def f_X12_readNamed (x0 : Int) (x1 : Int) (mem : zMem) : Option (Int × zMem) := zbind (f_X12_isName mem) fun y1 m2 => if y1 = 0 then (zbind (f_X12_bad 1 m2) fun y4 m5 => if y4 = 0 ∨ y4 = 1 then some (y4, m5) else none) else (zbind (f_X12_findIn 145 x0 x1 (m2 138 12) m2) fun y7 m8 => pipe (zup m8 138 13 y7) fun m9 => if (m9 138 13) = (-1) then (zbind (f_X12_bad 3 m9) fun y12 m13 => if y12 = 0 ∨ y12 = 1 then some (y12, m13) else none) else (zbind (f_X12_go m9) fun _ m14 => some (1, m14)))
set_option maxHeartbeats 4000000 in
theorem M_X12_readNamed (l : Launch) (Γ : zG) (F : zFull Γ)  {x0 : Int} {x1 : Int} (h_x0 : ir x0) (h_x1 : ir x1) (mem : zMem) (q : Int × zMem) (h : f_X12_readNamed x0 x1 mem = some q) : zMet l yX12_readNamed cX12_readNamed 3 (some .boolean) 4 Γ 1 [.ref (zad Γ 138), .int (i32 x0), .int (i32 x1)] mem q := by
  refine zMet_of (own := "ShadowHeirsModel") (by decide) rfl (Nat.le_of_ble_eq_true rfl) (fun X C Z => ?_)
  revert h
  show zJ X Γ 3 q (f_X12_readNamed x0 x1 mem) 0 [(0, .ref (zad Γ 138)), (1, .int (i32 x0)), (2, .int (i32 x1))] [] mem
  unfold f_X12_readNamed
  refine zj_aload_n (j := 0) (i := 0) C rfl 0 rfl dX12_readNamed_0 ?_
  refine zj_callVi C F Z [] [] cal_X12_isName calv_X12_isName ml_X12_166 zk_138 rfl rfl (by decide) (Nat.le_of_ble_eq_true rfl) rfl dX12_readNamed_1 (fun q h => M_X12_isName l Γ F  mem q h) (fun y1 m2 h_y1 => ?_)
  refine zj_if_ne C 13 h_y1 dX12_readNamed_4 rfl (fun c3 => ?_) (fun c3 => ?_)
  · refine zj_aload_n (j := 0) (i := 0) C rfl 0 rfl dX12_readNamed_7 ?_
    refine zj_iconst C 1 dX12_readNamed_8 ?_
    refine zj_callVi C F Z [.int (i32 1)] [] cal_X12_bad calv_X12_bad ml_X12_72 zk_138 rfl rfl (by decide) (Nat.le_of_ble_eq_true rfl) rfl dX12_readNamed_9 (fun q h => M_X12_bad l Γ F irc_1 m2 q h) (fun y4 m5 h_y4 => ?_)
    exact zrt_zc C Z dX12_readNamed_12
  · refine zj_aload_n (j := 0) (i := 0) C rfl 0 rfl dX12_readNamed_13 ?_
    refine zj_aload_n (j := 0) (i := 0) C rfl 0 rfl dX12_readNamed_14 ?_
    refine zj_getR C F zk_138 fl_X12_113 rfl rf_138_19 dX12_readNamed_15 ?_
    refine zj_iload_n (j := 1) (i := 1) C rfl 1 rfl dX12_readNamed_18 ?_
    refine zj_iload_n (j := 2) (i := 2) C rfl 2 rfl dX12_readNamed_19 ?_
    refine zj_aload_n (j := 0) (i := 0) C rfl 0 rfl dX12_readNamed_20 ?_
    refine zj_getL C F 12 rfl zk_138 fl_X12_43 rfl dX12_readNamed_21 (fun h6 => ?_)
    refine zj_callSi C Z [.ref (zad Γ 145), .int (i32 x0), .int (i32 x1), .long (i64 (m2 138 12))] [.ref (zad Γ 138)] cal_X12_findIn sta_X12_findIn ml_X12_170 rfl (by decide) (Nat.le_of_ble_eq_true rfl) rfl dX12_readNamed_24 (fun q h => M_X12_findIn l Γ F zk_145 h_x0 h_x1 h6 m2 q h) (fun y7 m8 h_y7 => ?_)
    refine zj_putI C F 13 rfl zk_138 fl_X12_79 rfl fp_12_13 h_y7 dX12_readNamed_27 ?_
    refine zj_pipeM (fun m9 e_m9 => ?_)
    refine zj_aload_n (j := 0) (i := 0) C rfl 0 rfl dX12_readNamed_30 ?_
    refine zj_getI C F 13 rfl zk_138 fl_X12_79 rfl dX12_readNamed_31 (fun h10 => ?_)
    refine zj_iconst C (-1) dX12_readNamed_34 ?_
    refine zj_icmp_ne C 44 h10 irc_m1 dX12_readNamed_35 rfl (fun c11 => ?_) (fun c11 => ?_)
    · refine zj_aload_n (j := 0) (i := 0) C rfl 0 rfl dX12_readNamed_38 ?_
      refine zj_iconst C 3 dX12_readNamed_39 ?_
      refine zj_callVi C F Z [.int (i32 3)] [] cal_X12_bad calv_X12_bad ml_X12_72 zk_138 rfl rfl (by decide) (Nat.le_of_ble_eq_true rfl) rfl dX12_readNamed_40 (fun q h => M_X12_bad l Γ F irc_3 m9 q h) (fun y12 m13 h_y12 => ?_)
      exact zrt_zc C Z dX12_readNamed_43
    · refine zj_aload_n (j := 0) (i := 0) C rfl 0 rfl dX12_readNamed_44 ?_
      refine zj_callVv C F Z [] [] cal_X12_go calv_X12_go ml_X12_82 zk_138 rfl rfl (by decide) (Nat.le_of_ble_eq_true rfl) rfl dX12_readNamed_45 (fun q h => M_X12_go l Γ F  m9 q h) (fun _ m14 _ => ?_)
      refine zj_iconst C 1 dX12_readNamed_48 ?_
      exact zrt_z C Z (Or.inr rfl) dX12_readNamed_49
noncomputable def f_X12_readPlace (x0 : Int) (mem : zMem) : Option (Int × zMem) := zbind (f_X12_readNumber 0 7 mem) fun y1 m2 => zbind (f_X12_keep (w32 (x0 + 1)) y1 m2) fun y3 m4 => if y3 = 0 then (some (0, m4)) else (zbind (f_X12_readNumber 0 7 m4) fun y6 m7 => zbind (f_X12_keep (w32 (x0 + 2)) y6 m7) fun y8 m9 => if y8 = 0 then (some (0, m9)) else (some (1, m9)))
set_option maxHeartbeats 4000000 in
theorem M_X12_readPlace (l : Launch) (Γ : zG) (F : zFull Γ)  {x0 : Int} (h_x0 : ir x0) (mem : zMem) (q : Int × zMem) (h : f_X12_readPlace x0 mem = some q) : zMet l yX12_readPlace cX12_readPlace 2 (some .boolean) 4 Γ 1 [.ref (zad Γ 138), .int (i32 x0)] mem q := by
  refine zMet_of (own := "ShadowHeirsModel") (by decide) rfl (Nat.le_of_ble_eq_true rfl) (fun X C Z => ?_)
  revert h
  show zJ X Γ 2 q (f_X12_readPlace x0 mem) 0 [(0, .ref (zad Γ 138)), (1, .int (i32 x0))] [] mem
  unfold f_X12_readPlace
  refine zj_aload_n (j := 0) (i := 0) C rfl 0 rfl dX12_readPlace_0 ?_
  refine zj_iload_n (j := 1) (i := 1) C rfl 1 rfl dX12_readPlace_1 ?_
  refine zj_iconst C 1 dX12_readPlace_2 ?_
  refine zj_iadd C dX12_readPlace_3 ?_
  refine zj_aload_n (j := 0) (i := 0) C rfl 0 rfl dX12_readPlace_4 ?_
  refine zj_iconst C 0 dX12_readPlace_5 ?_
  refine zj_bipush C 7 rfl dX12_readPlace_6 ?_
  refine zj_callVi C F Z [.int (i32 0), .int (i32 7)] [.int (i32 (w32 (x0 + 1))), .ref (zad Γ 138)] cal_X12_readNumber calv_X12_readNumber ml_X12_184 zk_138 rfl rfl (by decide) (Nat.le_of_ble_eq_true rfl) rfl dX12_readPlace_8 (fun q h => M_X12_readNumber l Γ F irc_0 irc_7 mem q h) (fun y1 m2 h_y1 => ?_)
  refine zj_callVi C F Z [.int (i32 (w32 (x0 + 1))), .int (i32 y1)] [] cal_X12_keep calv_X12_keep ml_X12_387 zk_138 rfl rfl (by decide) (Nat.le_of_ble_eq_true rfl) rfl dX12_readPlace_11 (fun q h => M_X12_keep l Γ F (ir_w _) h_y1 m2 q h) (fun y3 m4 h_y3 => ?_)
  refine zj_if_eq C 38 h_y3 dX12_readPlace_14 rfl (fun c5 => ?_) (fun c5 => ?_)
  · refine zj_iconst C 0 dX12_readPlace_38 ?_
    exact zrt_z C Z (Or.inl rfl) dX12_readPlace_39
  · refine zj_aload_n (j := 0) (i := 0) C rfl 0 rfl dX12_readPlace_17 ?_
    refine zj_iload_n (j := 1) (i := 1) C rfl 1 rfl dX12_readPlace_18 ?_
    refine zj_iconst C 2 dX12_readPlace_19 ?_
    refine zj_iadd C dX12_readPlace_20 ?_
    refine zj_aload_n (j := 0) (i := 0) C rfl 0 rfl dX12_readPlace_21 ?_
    refine zj_iconst C 0 dX12_readPlace_22 ?_
    refine zj_bipush C 7 rfl dX12_readPlace_23 ?_
    refine zj_callVi C F Z [.int (i32 0), .int (i32 7)] [.int (i32 (w32 (x0 + 2))), .ref (zad Γ 138)] cal_X12_readNumber calv_X12_readNumber ml_X12_184 zk_138 rfl rfl (by decide) (Nat.le_of_ble_eq_true rfl) rfl dX12_readPlace_25 (fun q h => M_X12_readNumber l Γ F irc_0 irc_7 m4 q h) (fun y6 m7 h_y6 => ?_)
    refine zj_callVi C F Z [.int (i32 (w32 (x0 + 2))), .int (i32 y6)] [] cal_X12_keep calv_X12_keep ml_X12_387 zk_138 rfl rfl (by decide) (Nat.le_of_ble_eq_true rfl) rfl dX12_readPlace_28 (fun q h => M_X12_keep l Γ F (ir_w _) h_y6 m7 q h) (fun y8 m9 h_y8 => ?_)
    refine zj_if_eq C 38 h_y8 dX12_readPlace_31 rfl (fun c10 => ?_) (fun c10 => ?_)
    · refine zj_iconst C 0 dX12_readPlace_38 ?_
      exact zrt_z C Z (Or.inl rfl) dX12_readPlace_39
    · refine zj_iconst C 1 dX12_readPlace_34 ?_
      refine zj_goto (tgt := 39) C dX12_readPlace_35 rfl ?_
      exact zrt_z C Z (Or.inr rfl) dX12_readPlace_39
noncomputable def f_X12_readBookLine_j88 (v1 : Int) (mem : zMem) : Option (Int × zMem) := if (mem 138 40) = 40 then (zbind (f_X12_bad 4 mem) fun y3 m4 => if y3 = 0 ∨ y3 = 1 then some (y3, m4) else none) else (pipe (w32 (3 * (mem 138 40))) fun y6 => if ix 154 y6 then pipe (zup mem 154 y6 v1) fun m8 => if v1 = 0 then (if ix 140 3 then zbind (f_X12_findIn 145 5 (m8 140 3) (m8 138 12) m8) fun y13 m14 => if ix 154 (w32 (y6 + 1)) then pipe (zup m14 154 (w32 (y6 + 1)) y13) fun m16 => if ix 154 (w32 (y6 + 2)) then pipe (zup m16 154 (w32 (y6 + 2)) 0) fun m18 => zbind (f_X12_go m18) fun _ m19 => if v1 = 0 then (zbind (f_X12_readSide m19) fun y21 m22 => zbind (f_X12_keep (w32 (y6 + 2)) y21 m22) fun y23 m24 => if y23 = 0 then (some (0, m24)) else (zbind (f_X12_readEnd m24) fun y26 m27 => if y26 = 0 then (some (0, m27)) else (some (1, m27)))) else (if v1 = 1 then (zbind (f_X12_readPlace y6 m19) fun y30 m31 => if y30 = 0 then (some (0, m31)) else (zbind (f_X12_readEnd m31) fun y33 m34 => if y33 = 0 then (some (0, m34)) else (some (1, m34)))) else (if v1 = 2 then (zbind (f_X12_readPlace y6 m19) fun y37 m38 => if y37 = 0 then (some (0, m38)) else (zbind (f_X12_readEnd m38) fun y40 m41 => if y40 = 0 then (some (0, m41)) else (some (1, m41)))) else (if v1 = 3 then (if ix 140 2 then zbind (f_X12_readNamed 0 (m19 140 2) m19) fun y46 m47 => zbind (f_X12_keep (w32 (y6 + 1)) y46 m47) fun y48 m49 => if y48 = 0 then (some (0, m49)) else (zbind (f_X12_readEnd m49) fun y51 m52 => if y51 = 0 then (some (0, m52)) else (some (1, m52))) else none) else (zbind (f_X12_readNumber 1 60 m19) fun y54 m55 => zbind (f_X12_keep (w32 (y6 + 1)) y54 m55) fun y56 m57 => if y56 = 0 then (some (0, m57)) else (zbind (f_X12_readEnd m57) fun y59 m60 => if y59 = 0 then (some (0, m60)) else (some (1, m60))))))) else none else none else none) else (if ix 154 (w32 (y6 + 1)) then pipe (zup m8 154 (w32 (y6 + 1)) 0) fun m63 => if ix 154 (w32 (y6 + 2)) then pipe (zup m63 154 (w32 (y6 + 2)) 0) fun m65 => zbind (f_X12_go m65) fun _ m66 => if v1 = 0 then (zbind (f_X12_readSide m66) fun y68 m69 => zbind (f_X12_keep (w32 (y6 + 2)) y68 m69) fun y70 m71 => if y70 = 0 then (some (0, m71)) else (zbind (f_X12_readEnd m71) fun y73 m74 => if y73 = 0 then (some (0, m74)) else (some (1, m74)))) else (if v1 = 1 then (zbind (f_X12_readPlace y6 m66) fun y77 m78 => if y77 = 0 then (some (0, m78)) else (zbind (f_X12_readEnd m78) fun y80 m81 => if y80 = 0 then (some (0, m81)) else (some (1, m81)))) else (if v1 = 2 then (zbind (f_X12_readPlace y6 m66) fun y84 m85 => if y84 = 0 then (some (0, m85)) else (zbind (f_X12_readEnd m85) fun y87 m88 => if y87 = 0 then (some (0, m88)) else (some (1, m88)))) else (if v1 = 3 then (if ix 140 2 then zbind (f_X12_readNamed 0 (m66 140 2) m66) fun y93 m94 => zbind (f_X12_keep (w32 (y6 + 1)) y93 m94) fun y95 m96 => if y95 = 0 then (some (0, m96)) else (zbind (f_X12_readEnd m96) fun y98 m99 => if y98 = 0 then (some (0, m99)) else (some (1, m99))) else none) else (zbind (f_X12_readNumber 1 60 m66) fun y101 m102 => zbind (f_X12_keep (w32 (y6 + 1)) y101 m102) fun y103 m104 => if y103 = 0 then (some (0, m104)) else (zbind (f_X12_readEnd m104) fun y106 m107 => if y106 = 0 then (some (0, m107)) else (some (1, m107))))))) else none else none) else none)
set_option maxHeartbeats 4000000 in
theorem J_X12_readBookLine_j88 (l : Launch) {Γ : zG} (F : zFull Γ) {X : zM} {q : Int × zMem} (C : zC X Γ "ShadowHeirsModel" cX12_readBookLine 3) (Z : zRt X l Γ 5 1 (some .boolean) q) {v1 : Int} (h_v1 : ir v1) (mem : zMem) : zJ X Γ 3 q (f_X12_readBookLine_j88 v1 mem) 88 [(0, .ref (zad Γ 138)), (1, .int (i32 v1))] [] mem := by
  unfold f_X12_readBookLine_j88
  refine zj_aload_n (j := 0) (i := 0) C rfl 0 rfl dX12_readBookLine_88 ?_
  refine zj_getI C F 40 rfl zk_138 fl_X12_390 rfl dX12_readBookLine_89 (fun h1 => ?_)
  refine zj_bipush C 40 rfl dX12_readBookLine_92 ?_
  refine zj_icmp_ne C 103 h1 irc_40 dX12_readBookLine_94 rfl (fun c2 => ?_) (fun c2 => ?_)
  · refine zj_aload_n (j := 0) (i := 0) C rfl 0 rfl dX12_readBookLine_97 ?_
    refine zj_iconst C 4 dX12_readBookLine_98 ?_
    refine zj_callVi C F Z [.int (i32 4)] [] cal_X12_bad calv_X12_bad ml_X12_72 zk_138 rfl rfl (by decide) (Nat.le_of_ble_eq_true rfl) rfl dX12_readBookLine_99 (fun q h => M_X12_bad l Γ F irc_4 mem q h) (fun y3 m4 h_y3 => ?_)
    exact zrt_zc C Z dX12_readBookLine_102
  · refine zj_iconst C 3 dX12_readBookLine_103 ?_
    refine zj_aload_n (j := 0) (i := 0) C rfl 0 rfl dX12_readBookLine_104 ?_
    refine zj_getI C F 40 rfl zk_138 fl_X12_390 rfl dX12_readBookLine_105 (fun h5 => ?_)
    refine zj_imul C dX12_readBookLine_108 ?_
    refine zj_pipeI (fun y6 e_y6 => ?_)
    have h_y6 := ir_eq e_y6 (ir_w _)
    refine zj_istore_n (j := 2) (i := 2) C rfl [(2, .int (i32 y6)), (0, .ref (zad Γ 138)), (1, .int (i32 v1))] dX12_readBookLine_109 (by decide) rfl ?_
    refine zj_aload_n (j := 0) (i := 0) C rfl 1 rfl dX12_readBookLine_110 ?_
    refine zj_getR C F zk_138 fl_X12_154 rfl rf_138_38 dX12_readBookLine_111 ?_
    refine zj_iload_n (j := 2) (i := 2) C rfl 0 rfl dX12_readBookLine_114 ?_
    refine zj_iload_n (j := 1) (i := 1) C rfl 2 rfl dX12_readBookLine_115 ?_
    refine zj_iastore C F zk_154 h_y6 h_v1 dX12_readBookLine_116 (fun c7 => ?_)
    refine zj_pipeM (fun m8 e_m8 => ?_)
    refine zj_aload_n (j := 0) (i := 0) C rfl 1 rfl dX12_readBookLine_117 ?_
    refine zj_getR C F zk_138 fl_X12_154 rfl rf_138_38 dX12_readBookLine_118 ?_
    refine zj_iload_n (j := 2) (i := 2) C rfl 0 rfl dX12_readBookLine_121 ?_
    refine zj_iconst C 1 dX12_readBookLine_122 ?_
    refine zj_iadd C dX12_readBookLine_123 ?_
    refine zj_iload_n (j := 1) (i := 1) C rfl 2 rfl dX12_readBookLine_124 ?_
    refine zj_if_ne C 149 h_v1 dX12_readBookLine_125 rfl (fun c9 => ?_) (fun c9 => ?_)
    · refine zj_aload_n (j := 0) (i := 0) C rfl 1 rfl dX12_readBookLine_128 ?_
      refine zj_getR C F zk_138 fl_X12_113 rfl rf_138_19 dX12_readBookLine_129 ?_
      refine zj_iconst C 5 dX12_readBookLine_132 ?_
      refine zj_aload_n (j := 0) (i := 0) C rfl 1 rfl dX12_readBookLine_133 ?_
      refine zj_getR C F zk_138 fl_X12_98 rfl rf_138_14 dX12_readBookLine_134 ?_
      refine zj_iconst C 3 dX12_readBookLine_137 ?_
      refine zj_iaload C F zk_140 irc_3 dX12_readBookLine_138 (fun c10 h11 => ?_)
      refine zj_aload_n (j := 0) (i := 0) C rfl 1 rfl dX12_readBookLine_139 ?_
      refine zj_getL C F 12 rfl zk_138 fl_X12_43 rfl dX12_readBookLine_140 (fun h12 => ?_)
      refine zj_callSi C Z [.ref (zad Γ 145), .int (i32 5), .int (i32 (m8 140 3)), .long (i64 (m8 138 12))] [.int (i32 (w32 (y6 + 1))), .ref (zad Γ 154)] cal_X12_findIn sta_X12_findIn ml_X12_170 rfl (by decide) (Nat.le_of_ble_eq_true rfl) rfl dX12_readBookLine_143 (fun q h => M_X12_findIn l Γ F zk_145 irc_5 h11 h12 m8 q h) (fun y13 m14 h_y13 => ?_)
      refine zj_goto (tgt := 150) C dX12_readBookLine_146 rfl ?_
      refine zj_iastore C F zk_154 (ir_w _) h_y13 dX12_readBookLine_150 (fun c15 => ?_)
      refine zj_pipeM (fun m16 e_m16 => ?_)
      refine zj_aload_n (j := 0) (i := 0) C rfl 1 rfl dX12_readBookLine_151 ?_
      refine zj_getR C F zk_138 fl_X12_154 rfl rf_138_38 dX12_readBookLine_152 ?_
      refine zj_iload_n (j := 2) (i := 2) C rfl 0 rfl dX12_readBookLine_155 ?_
      refine zj_iconst C 2 dX12_readBookLine_156 ?_
      refine zj_iadd C dX12_readBookLine_157 ?_
      refine zj_iconst C 0 dX12_readBookLine_158 ?_
      refine zj_iastore C F zk_154 (ir_w _) irc_0 dX12_readBookLine_159 (fun c17 => ?_)
      refine zj_pipeM (fun m18 e_m18 => ?_)
      refine zj_aload_n (j := 0) (i := 0) C rfl 1 rfl dX12_readBookLine_160 ?_
      refine zj_callVv C F Z [] [] cal_X12_go calv_X12_go ml_X12_82 zk_138 rfl rfl (by decide) (Nat.le_of_ble_eq_true rfl) rfl dX12_readBookLine_161 (fun q h => M_X12_go l Γ F  m18 q h) (fun _ m19 _ => ?_)
      refine zj_iload_n (j := 1) (i := 1) C rfl 2 rfl dX12_readBookLine_164 ?_
      refine zj_split (fun c20 => ?_) (fun c20 => ?_)
      · refine zj_tableIn (off := 31) C 0 196 h_v1 c20 dX12_readBookLine_165 rfl rfl ?_
        refine zj_aload_n (j := 0) (i := 0) C rfl 1 rfl dX12_readBookLine_196 ?_
        refine zj_iload_n (j := 2) (i := 2) C rfl 0 rfl dX12_readBookLine_197 ?_
        refine zj_iconst C 2 dX12_readBookLine_198 ?_
        refine zj_iadd C dX12_readBookLine_199 ?_
        refine zj_aload_n (j := 0) (i := 0) C rfl 1 rfl dX12_readBookLine_200 ?_
        refine zj_callVi C F Z [] [.int (i32 (w32 (y6 + 2))), .ref (zad Γ 138)] cal_X12_readSide calv_X12_readSide ml_X12_205 zk_138 rfl rfl (by decide) (Nat.le_of_ble_eq_true rfl) rfl dX12_readBookLine_201 (fun q h => M_X12_readSide l Γ F  m19 q h) (fun y21 m22 h_y21 => ?_)
        refine zj_callVi C F Z [.int (i32 (w32 (y6 + 2))), .int (i32 y21)] [] cal_X12_keep calv_X12_keep ml_X12_387 zk_138 rfl rfl (by decide) (Nat.le_of_ble_eq_true rfl) rfl dX12_readBookLine_204 (fun q h => M_X12_keep l Γ F (ir_w _) h_y21 m22 q h) (fun y23 m24 h_y23 => ?_)
        refine zj_if_eq C 221 h_y23 dX12_readBookLine_207 rfl (fun c25 => ?_) (fun c25 => ?_)
        · refine zj_iconst C 0 dX12_readBookLine_221 ?_
          exact zrt_z C Z (Or.inl rfl) dX12_readBookLine_222
        · refine zj_aload_n (j := 0) (i := 0) C rfl 1 rfl dX12_readBookLine_210 ?_
          refine zj_callVi C F Z [] [] cal_X12_readEnd calv_X12_readEnd ml_X12_229 zk_138 rfl rfl (by decide) (Nat.le_of_ble_eq_true rfl) rfl dX12_readBookLine_211 (fun q h => M_X12_readEnd l Γ F  m24 q h) (fun y26 m27 h_y26 => ?_)
          refine zj_if_eq C 221 h_y26 dX12_readBookLine_214 rfl (fun c28 => ?_) (fun c28 => ?_)
          · refine zj_iconst C 0 dX12_readBookLine_221 ?_
            exact zrt_z C Z (Or.inl rfl) dX12_readBookLine_222
          · refine zj_iconst C 1 dX12_readBookLine_217 ?_
            refine zj_goto (tgt := 222) C dX12_readBookLine_218 rfl ?_
            exact zrt_z C Z (Or.inr rfl) dX12_readBookLine_222
      · refine zj_split (fun c29 => ?_) (fun c29 => ?_)
        · refine zj_tableIn (off := 58) C 1 223 h_v1 c29 dX12_readBookLine_165 rfl rfl ?_
          refine zj_aload_n (j := 0) (i := 0) C rfl 1 rfl dX12_readBookLine_223 ?_
          refine zj_iload_n (j := 2) (i := 2) C rfl 0 rfl dX12_readBookLine_224 ?_
          refine zj_callVi C F Z [.int (i32 y6)] [] cal_X12_readPlace calv_X12_readPlace ml_X12_393 zk_138 rfl rfl (by decide) (Nat.le_of_ble_eq_true rfl) rfl dX12_readBookLine_225 (fun q h => M_X12_readPlace l Γ F h_y6 m19 q h) (fun y30 m31 h_y30 => ?_)
          refine zj_if_eq C 242 h_y30 dX12_readBookLine_228 rfl (fun c32 => ?_) (fun c32 => ?_)
          · refine zj_iconst C 0 dX12_readBookLine_242 ?_
            exact zrt_z C Z (Or.inl rfl) dX12_readBookLine_243
          · refine zj_aload_n (j := 0) (i := 0) C rfl 1 rfl dX12_readBookLine_231 ?_
            refine zj_callVi C F Z [] [] cal_X12_readEnd calv_X12_readEnd ml_X12_229 zk_138 rfl rfl (by decide) (Nat.le_of_ble_eq_true rfl) rfl dX12_readBookLine_232 (fun q h => M_X12_readEnd l Γ F  m31 q h) (fun y33 m34 h_y33 => ?_)
            refine zj_if_eq C 242 h_y33 dX12_readBookLine_235 rfl (fun c35 => ?_) (fun c35 => ?_)
            · refine zj_iconst C 0 dX12_readBookLine_242 ?_
              exact zrt_z C Z (Or.inl rfl) dX12_readBookLine_243
            · refine zj_iconst C 1 dX12_readBookLine_238 ?_
              refine zj_goto (tgt := 243) C dX12_readBookLine_239 rfl ?_
              exact zrt_z C Z (Or.inr rfl) dX12_readBookLine_243
        · refine zj_split (fun c36 => ?_) (fun c36 => ?_)
          · refine zj_tableIn (off := 58) C 2 223 h_v1 c36 dX12_readBookLine_165 rfl rfl ?_
            refine zj_aload_n (j := 0) (i := 0) C rfl 1 rfl dX12_readBookLine_223 ?_
            refine zj_iload_n (j := 2) (i := 2) C rfl 0 rfl dX12_readBookLine_224 ?_
            refine zj_callVi C F Z [.int (i32 y6)] [] cal_X12_readPlace calv_X12_readPlace ml_X12_393 zk_138 rfl rfl (by decide) (Nat.le_of_ble_eq_true rfl) rfl dX12_readBookLine_225 (fun q h => M_X12_readPlace l Γ F h_y6 m19 q h) (fun y37 m38 h_y37 => ?_)
            refine zj_if_eq C 242 h_y37 dX12_readBookLine_228 rfl (fun c39 => ?_) (fun c39 => ?_)
            · refine zj_iconst C 0 dX12_readBookLine_242 ?_
              exact zrt_z C Z (Or.inl rfl) dX12_readBookLine_243
            · refine zj_aload_n (j := 0) (i := 0) C rfl 1 rfl dX12_readBookLine_231 ?_
              refine zj_callVi C F Z [] [] cal_X12_readEnd calv_X12_readEnd ml_X12_229 zk_138 rfl rfl (by decide) (Nat.le_of_ble_eq_true rfl) rfl dX12_readBookLine_232 (fun q h => M_X12_readEnd l Γ F  m38 q h) (fun y40 m41 h_y40 => ?_)
              refine zj_if_eq C 242 h_y40 dX12_readBookLine_235 rfl (fun c42 => ?_) (fun c42 => ?_)
              · refine zj_iconst C 0 dX12_readBookLine_242 ?_
                exact zrt_z C Z (Or.inl rfl) dX12_readBookLine_243
              · refine zj_iconst C 1 dX12_readBookLine_238 ?_
                refine zj_goto (tgt := 243) C dX12_readBookLine_239 rfl ?_
                exact zrt_z C Z (Or.inr rfl) dX12_readBookLine_243
          · refine zj_split (fun c43 => ?_) (fun c43 => ?_)
            · refine zj_tableIn (off := 79) C 3 244 h_v1 c43 dX12_readBookLine_165 rfl rfl ?_
              refine zj_aload_n (j := 0) (i := 0) C rfl 1 rfl dX12_readBookLine_244 ?_
              refine zj_iload_n (j := 2) (i := 2) C rfl 0 rfl dX12_readBookLine_245 ?_
              refine zj_iconst C 1 dX12_readBookLine_246 ?_
              refine zj_iadd C dX12_readBookLine_247 ?_
              refine zj_aload_n (j := 0) (i := 0) C rfl 1 rfl dX12_readBookLine_248 ?_
              refine zj_iconst C 0 dX12_readBookLine_249 ?_
              refine zj_aload_n (j := 0) (i := 0) C rfl 1 rfl dX12_readBookLine_250 ?_
              refine zj_getR C F zk_138 fl_X12_98 rfl rf_138_14 dX12_readBookLine_251 ?_
              refine zj_iconst C 2 dX12_readBookLine_254 ?_
              refine zj_iaload C F zk_140 irc_2 dX12_readBookLine_255 (fun c44 h45 => ?_)
              refine zj_callVi C F Z [.int (i32 0), .int (i32 (m19 140 2))] [.int (i32 (w32 (y6 + 1))), .ref (zad Γ 138)] cal_X12_readNamed calv_X12_readNamed ml_X12_396 zk_138 rfl rfl (by decide) (Nat.le_of_ble_eq_true rfl) rfl dX12_readBookLine_256 (fun q h => M_X12_readNamed l Γ F irc_0 h45 m19 q h) (fun y46 m47 h_y46 => ?_)
              refine zj_callVi C F Z [.int (i32 (w32 (y6 + 1))), .int (i32 y46)] [] cal_X12_keep calv_X12_keep ml_X12_387 zk_138 rfl rfl (by decide) (Nat.le_of_ble_eq_true rfl) rfl dX12_readBookLine_259 (fun q h => M_X12_keep l Γ F (ir_w _) h_y46 m47 q h) (fun y48 m49 h_y48 => ?_)
              refine zj_if_eq C 276 h_y48 dX12_readBookLine_262 rfl (fun c50 => ?_) (fun c50 => ?_)
              · refine zj_iconst C 0 dX12_readBookLine_276 ?_
                exact zrt_z C Z (Or.inl rfl) dX12_readBookLine_277
              · refine zj_aload_n (j := 0) (i := 0) C rfl 1 rfl dX12_readBookLine_265 ?_
                refine zj_callVi C F Z [] [] cal_X12_readEnd calv_X12_readEnd ml_X12_229 zk_138 rfl rfl (by decide) (Nat.le_of_ble_eq_true rfl) rfl dX12_readBookLine_266 (fun q h => M_X12_readEnd l Γ F  m49 q h) (fun y51 m52 h_y51 => ?_)
                refine zj_if_eq C 276 h_y51 dX12_readBookLine_269 rfl (fun c53 => ?_) (fun c53 => ?_)
                · refine zj_iconst C 0 dX12_readBookLine_276 ?_
                  exact zrt_z C Z (Or.inl rfl) dX12_readBookLine_277
                · refine zj_iconst C 1 dX12_readBookLine_272 ?_
                  refine zj_goto (tgt := 277) C dX12_readBookLine_273 rfl ?_
                  exact zrt_z C Z (Or.inr rfl) dX12_readBookLine_277
            · refine zj_tableOut C 278 h_v1 dX12_readBookLine_165 (by omega) rfl ?_
              refine zj_aload_n (j := 0) (i := 0) C rfl 1 rfl dX12_readBookLine_278 ?_
              refine zj_iload_n (j := 2) (i := 2) C rfl 0 rfl dX12_readBookLine_279 ?_
              refine zj_iconst C 1 dX12_readBookLine_280 ?_
              refine zj_iadd C dX12_readBookLine_281 ?_
              refine zj_aload_n (j := 0) (i := 0) C rfl 1 rfl dX12_readBookLine_282 ?_
              refine zj_iconst C 1 dX12_readBookLine_283 ?_
              refine zj_bipush C 60 rfl dX12_readBookLine_284 ?_
              refine zj_callVi C F Z [.int (i32 1), .int (i32 60)] [.int (i32 (w32 (y6 + 1))), .ref (zad Γ 138)] cal_X12_readNumber calv_X12_readNumber ml_X12_184 zk_138 rfl rfl (by decide) (Nat.le_of_ble_eq_true rfl) rfl dX12_readBookLine_286 (fun q h => M_X12_readNumber l Γ F irc_1 irc_60 m19 q h) (fun y54 m55 h_y54 => ?_)
              refine zj_callVi C F Z [.int (i32 (w32 (y6 + 1))), .int (i32 y54)] [] cal_X12_keep calv_X12_keep ml_X12_387 zk_138 rfl rfl (by decide) (Nat.le_of_ble_eq_true rfl) rfl dX12_readBookLine_289 (fun q h => M_X12_keep l Γ F (ir_w _) h_y54 m55 q h) (fun y56 m57 h_y56 => ?_)
              refine zj_if_eq C 306 h_y56 dX12_readBookLine_292 rfl (fun c58 => ?_) (fun c58 => ?_)
              · refine zj_iconst C 0 dX12_readBookLine_306 ?_
                exact zrt_z C Z (Or.inl rfl) dX12_readBookLine_307
              · refine zj_aload_n (j := 0) (i := 0) C rfl 1 rfl dX12_readBookLine_295 ?_
                refine zj_callVi C F Z [] [] cal_X12_readEnd calv_X12_readEnd ml_X12_229 zk_138 rfl rfl (by decide) (Nat.le_of_ble_eq_true rfl) rfl dX12_readBookLine_296 (fun q h => M_X12_readEnd l Γ F  m57 q h) (fun y59 m60 h_y59 => ?_)
                refine zj_if_eq C 306 h_y59 dX12_readBookLine_299 rfl (fun c61 => ?_) (fun c61 => ?_)
                · refine zj_iconst C 0 dX12_readBookLine_306 ?_
                  exact zrt_z C Z (Or.inl rfl) dX12_readBookLine_307
                · refine zj_iconst C 1 dX12_readBookLine_302 ?_
                  refine zj_goto (tgt := 307) C dX12_readBookLine_303 rfl ?_
                  exact zrt_z C Z (Or.inr rfl) dX12_readBookLine_307
    · refine zj_iconst C 0 dX12_readBookLine_149 ?_
      refine zj_iastore C F zk_154 (ir_w _) irc_0 dX12_readBookLine_150 (fun c62 => ?_)
      refine zj_pipeM (fun m63 e_m63 => ?_)
      refine zj_aload_n (j := 0) (i := 0) C rfl 1 rfl dX12_readBookLine_151 ?_
      refine zj_getR C F zk_138 fl_X12_154 rfl rf_138_38 dX12_readBookLine_152 ?_
      refine zj_iload_n (j := 2) (i := 2) C rfl 0 rfl dX12_readBookLine_155 ?_
      refine zj_iconst C 2 dX12_readBookLine_156 ?_
      refine zj_iadd C dX12_readBookLine_157 ?_
      refine zj_iconst C 0 dX12_readBookLine_158 ?_
      refine zj_iastore C F zk_154 (ir_w _) irc_0 dX12_readBookLine_159 (fun c64 => ?_)
      refine zj_pipeM (fun m65 e_m65 => ?_)
      refine zj_aload_n (j := 0) (i := 0) C rfl 1 rfl dX12_readBookLine_160 ?_
      refine zj_callVv C F Z [] [] cal_X12_go calv_X12_go ml_X12_82 zk_138 rfl rfl (by decide) (Nat.le_of_ble_eq_true rfl) rfl dX12_readBookLine_161 (fun q h => M_X12_go l Γ F  m65 q h) (fun _ m66 _ => ?_)
      refine zj_iload_n (j := 1) (i := 1) C rfl 2 rfl dX12_readBookLine_164 ?_
      refine zj_split (fun c67 => ?_) (fun c67 => ?_)
      · refine zj_tableIn (off := 31) C 0 196 h_v1 c67 dX12_readBookLine_165 rfl rfl ?_
        refine zj_aload_n (j := 0) (i := 0) C rfl 1 rfl dX12_readBookLine_196 ?_
        refine zj_iload_n (j := 2) (i := 2) C rfl 0 rfl dX12_readBookLine_197 ?_
        refine zj_iconst C 2 dX12_readBookLine_198 ?_
        refine zj_iadd C dX12_readBookLine_199 ?_
        refine zj_aload_n (j := 0) (i := 0) C rfl 1 rfl dX12_readBookLine_200 ?_
        refine zj_callVi C F Z [] [.int (i32 (w32 (y6 + 2))), .ref (zad Γ 138)] cal_X12_readSide calv_X12_readSide ml_X12_205 zk_138 rfl rfl (by decide) (Nat.le_of_ble_eq_true rfl) rfl dX12_readBookLine_201 (fun q h => M_X12_readSide l Γ F  m66 q h) (fun y68 m69 h_y68 => ?_)
        refine zj_callVi C F Z [.int (i32 (w32 (y6 + 2))), .int (i32 y68)] [] cal_X12_keep calv_X12_keep ml_X12_387 zk_138 rfl rfl (by decide) (Nat.le_of_ble_eq_true rfl) rfl dX12_readBookLine_204 (fun q h => M_X12_keep l Γ F (ir_w _) h_y68 m69 q h) (fun y70 m71 h_y70 => ?_)
        refine zj_if_eq C 221 h_y70 dX12_readBookLine_207 rfl (fun c72 => ?_) (fun c72 => ?_)
        · refine zj_iconst C 0 dX12_readBookLine_221 ?_
          exact zrt_z C Z (Or.inl rfl) dX12_readBookLine_222
        · refine zj_aload_n (j := 0) (i := 0) C rfl 1 rfl dX12_readBookLine_210 ?_
          refine zj_callVi C F Z [] [] cal_X12_readEnd calv_X12_readEnd ml_X12_229 zk_138 rfl rfl (by decide) (Nat.le_of_ble_eq_true rfl) rfl dX12_readBookLine_211 (fun q h => M_X12_readEnd l Γ F  m71 q h) (fun y73 m74 h_y73 => ?_)
          refine zj_if_eq C 221 h_y73 dX12_readBookLine_214 rfl (fun c75 => ?_) (fun c75 => ?_)
          · refine zj_iconst C 0 dX12_readBookLine_221 ?_
            exact zrt_z C Z (Or.inl rfl) dX12_readBookLine_222
          · refine zj_iconst C 1 dX12_readBookLine_217 ?_
            refine zj_goto (tgt := 222) C dX12_readBookLine_218 rfl ?_
            exact zrt_z C Z (Or.inr rfl) dX12_readBookLine_222
      · refine zj_split (fun c76 => ?_) (fun c76 => ?_)
        · refine zj_tableIn (off := 58) C 1 223 h_v1 c76 dX12_readBookLine_165 rfl rfl ?_
          refine zj_aload_n (j := 0) (i := 0) C rfl 1 rfl dX12_readBookLine_223 ?_
          refine zj_iload_n (j := 2) (i := 2) C rfl 0 rfl dX12_readBookLine_224 ?_
          refine zj_callVi C F Z [.int (i32 y6)] [] cal_X12_readPlace calv_X12_readPlace ml_X12_393 zk_138 rfl rfl (by decide) (Nat.le_of_ble_eq_true rfl) rfl dX12_readBookLine_225 (fun q h => M_X12_readPlace l Γ F h_y6 m66 q h) (fun y77 m78 h_y77 => ?_)
          refine zj_if_eq C 242 h_y77 dX12_readBookLine_228 rfl (fun c79 => ?_) (fun c79 => ?_)
          · refine zj_iconst C 0 dX12_readBookLine_242 ?_
            exact zrt_z C Z (Or.inl rfl) dX12_readBookLine_243
          · refine zj_aload_n (j := 0) (i := 0) C rfl 1 rfl dX12_readBookLine_231 ?_
            refine zj_callVi C F Z [] [] cal_X12_readEnd calv_X12_readEnd ml_X12_229 zk_138 rfl rfl (by decide) (Nat.le_of_ble_eq_true rfl) rfl dX12_readBookLine_232 (fun q h => M_X12_readEnd l Γ F  m78 q h) (fun y80 m81 h_y80 => ?_)
            refine zj_if_eq C 242 h_y80 dX12_readBookLine_235 rfl (fun c82 => ?_) (fun c82 => ?_)
            · refine zj_iconst C 0 dX12_readBookLine_242 ?_
              exact zrt_z C Z (Or.inl rfl) dX12_readBookLine_243
            · refine zj_iconst C 1 dX12_readBookLine_238 ?_
              refine zj_goto (tgt := 243) C dX12_readBookLine_239 rfl ?_
              exact zrt_z C Z (Or.inr rfl) dX12_readBookLine_243
        · refine zj_split (fun c83 => ?_) (fun c83 => ?_)
          · refine zj_tableIn (off := 58) C 2 223 h_v1 c83 dX12_readBookLine_165 rfl rfl ?_
            refine zj_aload_n (j := 0) (i := 0) C rfl 1 rfl dX12_readBookLine_223 ?_
            refine zj_iload_n (j := 2) (i := 2) C rfl 0 rfl dX12_readBookLine_224 ?_
            refine zj_callVi C F Z [.int (i32 y6)] [] cal_X12_readPlace calv_X12_readPlace ml_X12_393 zk_138 rfl rfl (by decide) (Nat.le_of_ble_eq_true rfl) rfl dX12_readBookLine_225 (fun q h => M_X12_readPlace l Γ F h_y6 m66 q h) (fun y84 m85 h_y84 => ?_)
            refine zj_if_eq C 242 h_y84 dX12_readBookLine_228 rfl (fun c86 => ?_) (fun c86 => ?_)
            · refine zj_iconst C 0 dX12_readBookLine_242 ?_
              exact zrt_z C Z (Or.inl rfl) dX12_readBookLine_243
            · refine zj_aload_n (j := 0) (i := 0) C rfl 1 rfl dX12_readBookLine_231 ?_
              refine zj_callVi C F Z [] [] cal_X12_readEnd calv_X12_readEnd ml_X12_229 zk_138 rfl rfl (by decide) (Nat.le_of_ble_eq_true rfl) rfl dX12_readBookLine_232 (fun q h => M_X12_readEnd l Γ F  m85 q h) (fun y87 m88 h_y87 => ?_)
              refine zj_if_eq C 242 h_y87 dX12_readBookLine_235 rfl (fun c89 => ?_) (fun c89 => ?_)
              · refine zj_iconst C 0 dX12_readBookLine_242 ?_
                exact zrt_z C Z (Or.inl rfl) dX12_readBookLine_243
              · refine zj_iconst C 1 dX12_readBookLine_238 ?_
                refine zj_goto (tgt := 243) C dX12_readBookLine_239 rfl ?_
                exact zrt_z C Z (Or.inr rfl) dX12_readBookLine_243
          · refine zj_split (fun c90 => ?_) (fun c90 => ?_)
            · refine zj_tableIn (off := 79) C 3 244 h_v1 c90 dX12_readBookLine_165 rfl rfl ?_
              refine zj_aload_n (j := 0) (i := 0) C rfl 1 rfl dX12_readBookLine_244 ?_
              refine zj_iload_n (j := 2) (i := 2) C rfl 0 rfl dX12_readBookLine_245 ?_
              refine zj_iconst C 1 dX12_readBookLine_246 ?_
              refine zj_iadd C dX12_readBookLine_247 ?_
              refine zj_aload_n (j := 0) (i := 0) C rfl 1 rfl dX12_readBookLine_248 ?_
              refine zj_iconst C 0 dX12_readBookLine_249 ?_
              refine zj_aload_n (j := 0) (i := 0) C rfl 1 rfl dX12_readBookLine_250 ?_
              refine zj_getR C F zk_138 fl_X12_98 rfl rf_138_14 dX12_readBookLine_251 ?_
              refine zj_iconst C 2 dX12_readBookLine_254 ?_
              refine zj_iaload C F zk_140 irc_2 dX12_readBookLine_255 (fun c91 h92 => ?_)
              refine zj_callVi C F Z [.int (i32 0), .int (i32 (m66 140 2))] [.int (i32 (w32 (y6 + 1))), .ref (zad Γ 138)] cal_X12_readNamed calv_X12_readNamed ml_X12_396 zk_138 rfl rfl (by decide) (Nat.le_of_ble_eq_true rfl) rfl dX12_readBookLine_256 (fun q h => M_X12_readNamed l Γ F irc_0 h92 m66 q h) (fun y93 m94 h_y93 => ?_)
              refine zj_callVi C F Z [.int (i32 (w32 (y6 + 1))), .int (i32 y93)] [] cal_X12_keep calv_X12_keep ml_X12_387 zk_138 rfl rfl (by decide) (Nat.le_of_ble_eq_true rfl) rfl dX12_readBookLine_259 (fun q h => M_X12_keep l Γ F (ir_w _) h_y93 m94 q h) (fun y95 m96 h_y95 => ?_)
              refine zj_if_eq C 276 h_y95 dX12_readBookLine_262 rfl (fun c97 => ?_) (fun c97 => ?_)
              · refine zj_iconst C 0 dX12_readBookLine_276 ?_
                exact zrt_z C Z (Or.inl rfl) dX12_readBookLine_277
              · refine zj_aload_n (j := 0) (i := 0) C rfl 1 rfl dX12_readBookLine_265 ?_
                refine zj_callVi C F Z [] [] cal_X12_readEnd calv_X12_readEnd ml_X12_229 zk_138 rfl rfl (by decide) (Nat.le_of_ble_eq_true rfl) rfl dX12_readBookLine_266 (fun q h => M_X12_readEnd l Γ F  m96 q h) (fun y98 m99 h_y98 => ?_)
                refine zj_if_eq C 276 h_y98 dX12_readBookLine_269 rfl (fun c100 => ?_) (fun c100 => ?_)
                · refine zj_iconst C 0 dX12_readBookLine_276 ?_
                  exact zrt_z C Z (Or.inl rfl) dX12_readBookLine_277
                · refine zj_iconst C 1 dX12_readBookLine_272 ?_
                  refine zj_goto (tgt := 277) C dX12_readBookLine_273 rfl ?_
                  exact zrt_z C Z (Or.inr rfl) dX12_readBookLine_277
            · refine zj_tableOut C 278 h_v1 dX12_readBookLine_165 (by omega) rfl ?_
              refine zj_aload_n (j := 0) (i := 0) C rfl 1 rfl dX12_readBookLine_278 ?_
              refine zj_iload_n (j := 2) (i := 2) C rfl 0 rfl dX12_readBookLine_279 ?_
              refine zj_iconst C 1 dX12_readBookLine_280 ?_
              refine zj_iadd C dX12_readBookLine_281 ?_
              refine zj_aload_n (j := 0) (i := 0) C rfl 1 rfl dX12_readBookLine_282 ?_
              refine zj_iconst C 1 dX12_readBookLine_283 ?_
              refine zj_bipush C 60 rfl dX12_readBookLine_284 ?_
              refine zj_callVi C F Z [.int (i32 1), .int (i32 60)] [.int (i32 (w32 (y6 + 1))), .ref (zad Γ 138)] cal_X12_readNumber calv_X12_readNumber ml_X12_184 zk_138 rfl rfl (by decide) (Nat.le_of_ble_eq_true rfl) rfl dX12_readBookLine_286 (fun q h => M_X12_readNumber l Γ F irc_1 irc_60 m66 q h) (fun y101 m102 h_y101 => ?_)
              refine zj_callVi C F Z [.int (i32 (w32 (y6 + 1))), .int (i32 y101)] [] cal_X12_keep calv_X12_keep ml_X12_387 zk_138 rfl rfl (by decide) (Nat.le_of_ble_eq_true rfl) rfl dX12_readBookLine_289 (fun q h => M_X12_keep l Γ F (ir_w _) h_y101 m102 q h) (fun y103 m104 h_y103 => ?_)
              refine zj_if_eq C 306 h_y103 dX12_readBookLine_292 rfl (fun c105 => ?_) (fun c105 => ?_)
              · refine zj_iconst C 0 dX12_readBookLine_306 ?_
                exact zrt_z C Z (Or.inl rfl) dX12_readBookLine_307
              · refine zj_aload_n (j := 0) (i := 0) C rfl 1 rfl dX12_readBookLine_295 ?_
                refine zj_callVi C F Z [] [] cal_X12_readEnd calv_X12_readEnd ml_X12_229 zk_138 rfl rfl (by decide) (Nat.le_of_ble_eq_true rfl) rfl dX12_readBookLine_296 (fun q h => M_X12_readEnd l Γ F  m104 q h) (fun y106 m107 h_y106 => ?_)
                refine zj_if_eq C 306 h_y106 dX12_readBookLine_299 rfl (fun c108 => ?_) (fun c108 => ?_)
                · refine zj_iconst C 0 dX12_readBookLine_306 ?_
                  exact zrt_z C Z (Or.inl rfl) dX12_readBookLine_307
                · refine zj_iconst C 1 dX12_readBookLine_302 ?_
                  refine zj_goto (tgt := 307) C dX12_readBookLine_303 rfl ?_
                  exact zrt_z C Z (Or.inr rfl) dX12_readBookLine_307
noncomputable def b_X12_readBookLine_1 (rec : Int → Int → zMem → Option (Int × zMem)) (v1 : Int) (v2 : Int) (mem : zMem) : Option (Int × zMem) := if v2 > 3 then (if v1 = 0 then (zbind (f_X12_isName mem) fun y3 m4 => if y3 = 0 then (zbind (f_X12_bad 1 m4) fun y6 m7 => if y6 = 0 ∨ y6 = 1 then some (y6, m7) else none) else (if ix 140 3 then zbind (f_X12_findIn 145 5 (m4 140 3) (m4 138 12) m4) fun y11 m12 => if y11 = (-1) then (zbind (f_X12_bad 3 m12) fun y14 m15 => if y14 = 0 ∨ y14 = 1 then some (y14, m15) else none) else (f_X12_readBookLine_j88 v1 m12) else none)) else (f_X12_readBookLine_j88 v1 mem)) else (zbind (f_X12_isWord (w32 ((w32 (9 + v2)) - 1)) mem) fun y16 m17 => if y16 = 0 then (rec v1 (w32 (v2 + 1)) m17) else (rec v2 (w32 (v2 + 1)) m17))
noncomputable def f_X12_readBookLine_1 : Nat → Int → Int → zMem → Option (Int × zMem) := zfuel (fun _ _ _ => none) (b_X12_readBookLine_1)
set_option maxHeartbeats 4000000 in
theorem L_X12_readBookLine_1 (l : Launch) {Γ : zG} (F : zFull Γ) {X : zM} {q : Int × zMem} (C : zC X Γ "ShadowHeirsModel" cX12_readBookLine 3) (Z : zRt X l Γ 5 1 (some .boolean) q) : ∀ n : Nat, ∀ (v1 : Int) (v2 : Int) (h_v1 : ir v1) (h_v2 : ir v2) (mem : zMem), zJ X Γ 3 q (f_X12_readBookLine_1 n v1 v2 mem) 17 [(0, .ref (zad Γ 138)), (1, .int (i32 v1)), (2, .int (i32 v2))] [] mem := by
  intro n
  induction n with
  | zero => intros; exact zj_none
  | succ n ih =>
    intro v1 v2 h_v1 h_v2 mem
    show zJ X Γ 3 q (b_X12_readBookLine_1 (f_X12_readBookLine_1 n) v1 v2 mem) _ _ _ _
    unfold b_X12_readBookLine_1
    refine zj_iload_n (j := 2) (i := 2) C rfl 2 rfl dX12_readBookLine_17 ?_
    refine zj_iconst C 3 dX12_readBookLine_18 ?_
    refine zj_icmp_gt C 43 h_v2 irc_3 dX12_readBookLine_19 rfl (fun c1 => ?_) (fun c1 => ?_)
    · refine zj_iload_n (j := 1) (i := 1) C rfl 1 rfl dX12_readBookLine_43 ?_
      refine zj_if_ne C 88 h_v1 dX12_readBookLine_44 rfl (fun c2 => ?_) (fun c2 => ?_)
      · refine zj_aload_n (j := 0) (i := 0) C rfl 0 rfl dX12_readBookLine_47 ?_
        refine zj_callVi C F Z [] [] cal_X12_isName calv_X12_isName ml_X12_166 zk_138 rfl rfl (by decide) (Nat.le_of_ble_eq_true rfl) rfl dX12_readBookLine_48 (fun q h => M_X12_isName l Γ F  mem q h) (fun y3 m4 h_y3 => ?_)
        refine zj_if_ne C 60 h_y3 dX12_readBookLine_51 rfl (fun c5 => ?_) (fun c5 => ?_)
        · refine zj_aload_n (j := 0) (i := 0) C rfl 0 rfl dX12_readBookLine_54 ?_
          refine zj_iconst C 1 dX12_readBookLine_55 ?_
          refine zj_callVi C F Z [.int (i32 1)] [] cal_X12_bad calv_X12_bad ml_X12_72 zk_138 rfl rfl (by decide) (Nat.le_of_ble_eq_true rfl) rfl dX12_readBookLine_56 (fun q h => M_X12_bad l Γ F irc_1 m4 q h) (fun y6 m7 h_y6 => ?_)
          exact zrt_zc C Z dX12_readBookLine_59
        · refine zj_aload_n (j := 0) (i := 0) C rfl 0 rfl dX12_readBookLine_60 ?_
          refine zj_getR C F zk_138 fl_X12_113 rfl rf_138_19 dX12_readBookLine_61 ?_
          refine zj_iconst C 5 dX12_readBookLine_64 ?_
          refine zj_aload_n (j := 0) (i := 0) C rfl 0 rfl dX12_readBookLine_65 ?_
          refine zj_getR C F zk_138 fl_X12_98 rfl rf_138_14 dX12_readBookLine_66 ?_
          refine zj_iconst C 3 dX12_readBookLine_69 ?_
          refine zj_iaload C F zk_140 irc_3 dX12_readBookLine_70 (fun c8 h9 => ?_)
          refine zj_aload_n (j := 0) (i := 0) C rfl 0 rfl dX12_readBookLine_71 ?_
          refine zj_getL C F 12 rfl zk_138 fl_X12_43 rfl dX12_readBookLine_72 (fun h10 => ?_)
          refine zj_callSi C Z [.ref (zad Γ 145), .int (i32 5), .int (i32 (m4 140 3)), .long (i64 (m4 138 12))] [] cal_X12_findIn sta_X12_findIn ml_X12_170 rfl (by decide) (Nat.le_of_ble_eq_true rfl) rfl dX12_readBookLine_75 (fun q h => M_X12_findIn l Γ F zk_145 irc_5 h9 h10 m4 q h) (fun y11 m12 h_y11 => ?_)
          refine zj_iconst C (-1) dX12_readBookLine_78 ?_
          refine zj_icmp_ne C 88 h_y11 irc_m1 dX12_readBookLine_79 rfl (fun c13 => ?_) (fun c13 => ?_)
          · refine zj_aload_n (j := 0) (i := 0) C rfl 0 rfl dX12_readBookLine_82 ?_
            refine zj_iconst C 3 dX12_readBookLine_83 ?_
            refine zj_callVi C F Z [.int (i32 3)] [] cal_X12_bad calv_X12_bad ml_X12_72 zk_138 rfl rfl (by decide) (Nat.le_of_ble_eq_true rfl) rfl dX12_readBookLine_84 (fun q h => M_X12_bad l Γ F irc_3 m12 q h) (fun y14 m15 h_y14 => ?_)
            exact zrt_zc C Z dX12_readBookLine_87
          · exact zj_sub [0, 1] rfl (J_X12_readBookLine_j88 l F C Z h_v1 m12)
      · exact zj_sub [0, 1] rfl (J_X12_readBookLine_j88 l F C Z h_v1 mem)
    · refine zj_aload_n (j := 0) (i := 0) C rfl 0 rfl dX12_readBookLine_22 ?_
      refine zj_bipush C 9 rfl dX12_readBookLine_23 ?_
      refine zj_iload_n (j := 2) (i := 2) C rfl 2 rfl dX12_readBookLine_25 ?_
      refine zj_iadd C dX12_readBookLine_26 ?_
      refine zj_iconst C 1 dX12_readBookLine_27 ?_
      refine zj_isub C dX12_readBookLine_28 ?_
      refine zj_callVi C F Z [.int (i32 (w32 ((w32 (9 + v2)) - 1)))] [] cal_X12_isWord calv_X12_isWord ml_X12_174 zk_138 rfl rfl (by decide) (Nat.le_of_ble_eq_true rfl) rfl dX12_readBookLine_29 (fun q h => M_X12_isWord l Γ F (ir_w _) mem q h) (fun y16 m17 h_y16 => ?_)
      refine zj_if_eq C 37 h_y16 dX12_readBookLine_32 rfl (fun c18 => ?_) (fun c18 => ?_)
      · refine zj_iinc C 2 [(2, .int (i32 (w32 (v2 + 1)))), (0, .ref (zad Γ 138)), (1, .int (i32 v1))] rfl dX12_readBookLine_37 (by decide) rfl ?_
        refine zj_goto (tgt := 17) C dX12_readBookLine_40 rfl ?_
        exact zj_sub [1, 2, 0] rfl (ih v1 (w32 (v2 + 1)) h_v1 (ir_w _) m17)
      · refine zj_iload_n (j := 2) (i := 2) C rfl 2 rfl dX12_readBookLine_35 ?_
        refine zj_istore_n (j := 1) (i := 1) C rfl [(1, .int (i32 v2)), (0, .ref (zad Γ 138)), (2, .int (i32 v2))] dX12_readBookLine_36 (by decide) rfl ?_
        refine zj_iinc C 2 [(2, .int (i32 (w32 (v2 + 1)))), (1, .int (i32 v2)), (0, .ref (zad Γ 138))] rfl dX12_readBookLine_37 (by decide) rfl ?_
        refine zj_goto (tgt := 17) C dX12_readBookLine_40 rfl ?_
        exact zj_sub [2, 1, 0] rfl (ih v2 (w32 (v2 + 1)) h_v2 (ir_w _) m17)
noncomputable def f_X12_readBookLine  (mem : zMem) : Option (Int × zMem) := zbind (f_X12_isWord 12 mem) fun y1 m2 => if y1 = 0 then (f_X12_readBookLine_1 zN 0 1 m2) else (f_X12_readBookLine_1 zN 4 1 m2)
set_option maxHeartbeats 4000000 in
theorem M_X12_readBookLine (l : Launch) (Γ : zG) (F : zFull Γ)    (mem : zMem) (q : Int × zMem) (h : f_X12_readBookLine  mem = some q) : zMet l yX12_readBookLine cX12_readBookLine 3 (some .boolean) 5 Γ 1 [.ref (zad Γ 138)] mem q := by
  refine zMet_of (own := "ShadowHeirsModel") (by decide) rfl (Nat.le_of_ble_eq_true rfl) (fun X C Z => ?_)
  revert h
  show zJ X Γ 3 q (f_X12_readBookLine  mem) 0 [(0, .ref (zad Γ 138))] [] mem
  unfold f_X12_readBookLine
  refine zj_aload_n (j := 0) (i := 0) C rfl 0 rfl dX12_readBookLine_0 ?_
  refine zj_bipush C 12 rfl dX12_readBookLine_1 ?_
  refine zj_callVi C F Z [.int (i32 12)] [] cal_X12_isWord calv_X12_isWord ml_X12_174 zk_138 rfl rfl (by decide) (Nat.le_of_ble_eq_true rfl) rfl dX12_readBookLine_3 (fun q h => M_X12_isWord l Γ F irc_12 mem q h) (fun y1 m2 h_y1 => ?_)
  refine zj_if_eq C 13 h_y1 dX12_readBookLine_6 rfl (fun c3 => ?_) (fun c3 => ?_)
  · refine zj_iconst C 0 dX12_readBookLine_13 ?_
    refine zj_istore_n (j := 1) (i := 1) C rfl [(1, .int (i32 0)), (0, .ref (zad Γ 138))] dX12_readBookLine_14 (by decide) rfl ?_
    refine zj_iconst C 1 dX12_readBookLine_15 ?_
    refine zj_istore_n (j := 2) (i := 2) C rfl [(2, .int (i32 1)), (1, .int (i32 0)), (0, .ref (zad Γ 138))] dX12_readBookLine_16 (by decide) rfl ?_
    exact zj_sub [2, 1, 0] rfl ((L_X12_readBookLine_1 l F C Z zN) 0 1 irc_0 irc_1 m2)
  · refine zj_iconst C 4 dX12_readBookLine_9 ?_
    refine zj_goto (tgt := 14) C dX12_readBookLine_10 rfl ?_
    refine zj_istore_n (j := 1) (i := 1) C rfl [(1, .int (i32 4)), (0, .ref (zad Γ 138))] dX12_readBookLine_14 (by decide) rfl ?_
    refine zj_iconst C 1 dX12_readBookLine_15 ?_
    refine zj_istore_n (j := 2) (i := 2) C rfl [(2, .int (i32 1)), (1, .int (i32 4)), (0, .ref (zad Γ 138))] dX12_readBookLine_16 (by decide) rfl ?_
    exact zj_sub [2, 1, 0] rfl ((L_X12_readBookLine_1 l F C Z zN) 4 1 irc_4 irc_1 m2)
noncomputable def f_X12_goBy (x0 : Int) (mem : zMem) : Option (Int × zMem) := if ix 154 x0 then pipe (mem 154 x0) fun y3 => if ix 154 (w32 (x0 + 1)) then pipe (mem 154 (w32 (x0 + 1))) fun y6 => if ix 154 (w32 (x0 + 2)) then pipe (mem 154 (w32 (x0 + 2))) fun y9 => if y3 = 4 then (if ix 140 106 then if (w32 ((mem 140 106) + y6)) ≤ 400 then (zbind (f_X12_passHours y6 mem) fun y14 m15 => some (0, m15)) else (some (41, mem)) else none) else (if y3 = 1 then (zbind (f_X12_isCell y6 y9 mem) fun y17 m18 => if y17 = 0 then (some ((w32 ((w32 (10 * y3)) + 9)), m18)) else (pipe (w32 (y6 + (w32 (8 * y9)))) fun y20 => zbind (f_X12_why y3 y20 y9 m18) fun y21 m22 => if y21 = 0 then (zbind (f_X12_live y3 y20 y9 m22) fun _ m24 => some (0, m24)) else (some ((w32 ((w32 (10 * y3)) + y21)), m22)))) else (if y3 = 2 then (zbind (f_X12_isCell y6 y9 mem) fun y26 m27 => if y26 = 0 then (some ((w32 ((w32 (10 * y3)) + 9)), m27)) else (pipe (w32 (y6 + (w32 (8 * y9)))) fun y29 => zbind (f_X12_why y3 y29 y9 m27) fun y30 m31 => if y30 = 0 then (zbind (f_X12_live y3 y29 y9 m31) fun _ m33 => some (0, m33)) else (some ((w32 ((w32 (10 * y3)) + y30)), m31)))) else (zbind (f_X12_why y3 y6 y9 mem) fun y34 m35 => if y34 = 0 then (zbind (f_X12_live y3 y6 y9 m35) fun _ m37 => some (0, m37)) else (some ((w32 ((w32 (10 * y3)) + y34)), m35))))) else none else none else none
set_option maxHeartbeats 4000000 in
theorem M_X12_goBy (l : Launch) (Γ : zG) (F : zFull Γ)  {x0 : Int} (h_x0 : ir x0) (mem : zMem) (q : Int × zMem) (h : f_X12_goBy x0 mem = some q) : zMet l yX12_goBy cX12_goBy 6 (some .int) 8 Γ 1 [.ref (zad Γ 138), .int (i32 x0)] mem q := by
  refine zMet_of (own := "ShadowHeirsModel") (by decide) rfl (Nat.le_of_ble_eq_true rfl) (fun X C Z => ?_)
  revert h
  show zJ X Γ 6 q (f_X12_goBy x0 mem) 0 [(0, .ref (zad Γ 138)), (1, .int (i32 x0))] [] mem
  unfold f_X12_goBy
  refine zj_aload_n (j := 0) (i := 0) C rfl 0 rfl dX12_goBy_0 ?_
  refine zj_getR C F zk_138 fl_X12_154 rfl rf_138_38 dX12_goBy_1 ?_
  refine zj_iload_n (j := 1) (i := 1) C rfl 1 rfl dX12_goBy_4 ?_
  refine zj_iaload C F zk_154 h_x0 dX12_goBy_5 (fun c1 h2 => ?_)
  refine zj_pipeI (fun y3 e_y3 => ?_)
  have h_y3 := ir_eq e_y3 h2
  refine zj_istore_n (j := 2) (i := 2) C rfl [(2, .int (i32 y3)), (0, .ref (zad Γ 138)), (1, .int (i32 x0))] dX12_goBy_6 (by decide) rfl ?_
  refine zj_aload_n (j := 0) (i := 0) C rfl 1 rfl dX12_goBy_7 ?_
  refine zj_getR C F zk_138 fl_X12_154 rfl rf_138_38 dX12_goBy_8 ?_
  refine zj_iload_n (j := 1) (i := 1) C rfl 2 rfl dX12_goBy_11 ?_
  refine zj_iconst C 1 dX12_goBy_12 ?_
  refine zj_iadd C dX12_goBy_13 ?_
  refine zj_iaload C F zk_154 (ir_w _) dX12_goBy_14 (fun c4 h5 => ?_)
  refine zj_pipeI (fun y6 e_y6 => ?_)
  have h_y6 := ir_eq e_y6 h5
  refine zj_istore_n (j := 3) (i := 3) C rfl [(3, .int (i32 y6)), (2, .int (i32 y3)), (0, .ref (zad Γ 138)), (1, .int (i32 x0))] dX12_goBy_15 (by decide) rfl ?_
  refine zj_aload_n (j := 0) (i := 0) C rfl 2 rfl dX12_goBy_16 ?_
  refine zj_getR C F zk_138 fl_X12_154 rfl rf_138_38 dX12_goBy_17 ?_
  refine zj_iload_n (j := 1) (i := 1) C rfl 3 rfl dX12_goBy_20 ?_
  refine zj_iconst C 2 dX12_goBy_21 ?_
  refine zj_iadd C dX12_goBy_22 ?_
  refine zj_iaload C F zk_154 (ir_w _) dX12_goBy_23 (fun c7 h8 => ?_)
  refine zj_pipeI (fun y9 e_y9 => ?_)
  have h_y9 := ir_eq e_y9 h8
  refine zj_istore C [(4, .int (i32 y9)), (3, .int (i32 y6)), (2, .int (i32 y3)), (0, .ref (zad Γ 138)), (1, .int (i32 x0))] dX12_goBy_24 (by decide) rfl ?_
  refine zj_iload_n (j := 2) (i := 2) C rfl 2 rfl dX12_goBy_26 ?_
  refine zj_iconst C 4 dX12_goBy_27 ?_
  refine zj_icmp_ne C 57 h_y3 irc_4 dX12_goBy_28 rfl (fun c10 => ?_) (fun c10 => ?_)
  · refine zj_aload_n (j := 0) (i := 0) C rfl 3 rfl dX12_goBy_31 ?_
    refine zj_getR C F zk_138 fl_X12_98 rfl rf_138_14 dX12_goBy_32 ?_
    refine zj_bipush C 106 rfl dX12_goBy_35 ?_
    refine zj_iaload C F zk_140 irc_106 dX12_goBy_37 (fun c11 h12 => ?_)
    refine zj_iload_n (j := 3) (i := 3) C rfl 1 rfl dX12_goBy_38 ?_
    refine zj_iadd C dX12_goBy_39 ?_
    refine zj_sipush C 400 rfl dX12_goBy_40 ?_
    refine zj_icmp_le C 49 (ir_w _) irc_400 dX12_goBy_43 rfl (fun c13 => ?_) (fun c13 => ?_)
    · refine zj_aload_n (j := 0) (i := 0) C rfl 3 rfl dX12_goBy_49 ?_
      refine zj_iload_n (j := 3) (i := 3) C rfl 1 rfl dX12_goBy_50 ?_
      refine zj_callVi C F Z [.int (i32 y6)] [] cal_X12_passHours calv_X12_passHours ml_X12_319 zk_138 rfl rfl (by decide) (Nat.le_of_ble_eq_true rfl) rfl dX12_goBy_51 (fun q h => M_X12_passHours l Γ F h_y6 mem q h) (fun y14 m15 h_y14 => ?_)
      refine zj_pop C rfl dX12_goBy_54 ?_
      refine zj_iconst C 0 dX12_goBy_55 ?_
      exact zrt_i C Z irc_0 dX12_goBy_56
    · refine zj_bipush C 41 rfl dX12_goBy_46 ?_
      exact zrt_i C Z irc_41 dX12_goBy_48
  · refine zj_iload_n (j := 2) (i := 2) C rfl 2 rfl dX12_goBy_57 ?_
    refine zj_iconst C 1 dX12_goBy_58 ?_
    refine zj_icmp_eq C 67 h_y3 irc_1 dX12_goBy_59 rfl (fun c16 => ?_) (fun c16 => ?_)
    · refine zj_aload_n (j := 0) (i := 0) C rfl 3 rfl dX12_goBy_67 ?_
      refine zj_iload_n (j := 3) (i := 3) C rfl 1 rfl dX12_goBy_68 ?_
      refine zj_iload C 0 rfl dX12_goBy_69 ?_
      refine zj_callVi C F Z [.int (i32 y6), .int (i32 y9)] [] cal_X12_isCell calv_X12_isCell ml_X12_244 zk_138 rfl rfl (by decide) (Nat.le_of_ble_eq_true rfl) rfl dX12_goBy_71 (fun q h => M_X12_isCell l Γ F h_y6 h_y9 mem q h) (fun y17 m18 h_y17 => ?_)
      refine zj_if_ne C 85 h_y17 dX12_goBy_74 rfl (fun c19 => ?_) (fun c19 => ?_)
      · refine zj_bipush C 10 rfl dX12_goBy_77 ?_
        refine zj_iload_n (j := 2) (i := 2) C rfl 2 rfl dX12_goBy_79 ?_
        refine zj_imul C dX12_goBy_80 ?_
        refine zj_bipush C 9 rfl dX12_goBy_81 ?_
        refine zj_iadd C dX12_goBy_83 ?_
        exact zrt_i C Z (ir_w _) dX12_goBy_84
      · refine zj_iload_n (j := 3) (i := 3) C rfl 1 rfl dX12_goBy_85 ?_
        refine zj_bipush C 8 rfl dX12_goBy_86 ?_
        refine zj_iload C 0 rfl dX12_goBy_88 ?_
        refine zj_imul C dX12_goBy_90 ?_
        refine zj_iadd C dX12_goBy_91 ?_
        refine zj_pipeI (fun y20 e_y20 => ?_)
        have h_y20 := ir_eq e_y20 (ir_w _)
        refine zj_istore_n (j := 3) (i := 3) C rfl [(3, .int (i32 y20)), (4, .int (i32 y9)), (2, .int (i32 y3)), (0, .ref (zad Γ 138)), (1, .int (i32 x0))] dX12_goBy_92 (by decide) rfl ?_
        refine zj_aload_n (j := 0) (i := 0) C rfl 3 rfl dX12_goBy_93 ?_
        refine zj_iload_n (j := 2) (i := 2) C rfl 2 rfl dX12_goBy_94 ?_
        refine zj_iload_n (j := 3) (i := 3) C rfl 0 rfl dX12_goBy_95 ?_
        refine zj_iload C 1 rfl dX12_goBy_96 ?_
        refine zj_callVi C F Z [.int (i32 y3), .int (i32 y20), .int (i32 y9)] [] cal_X12_why calv_X12_why ml_X12_301 zk_138 rfl rfl (by decide) (Nat.le_of_ble_eq_true rfl) rfl dX12_goBy_98 (fun q h => M_X12_why l Γ F h_y3 h_y20 h_y9 m18 q h) (fun y21 m22 h_y21 => ?_)
        refine zj_istore C [(5, .int (i32 y21)), (3, .int (i32 y20)), (4, .int (i32 y9)), (2, .int (i32 y3)), (0, .ref (zad Γ 138)), (1, .int (i32 x0))] dX12_goBy_101 (by decide) rfl ?_
        refine zj_iload C 0 rfl dX12_goBy_103 ?_
        refine zj_if_eq C 116 h_y21 dX12_goBy_105 rfl (fun c23 => ?_) (fun c23 => ?_)
        · refine zj_aload_n (j := 0) (i := 0) C rfl 4 rfl dX12_goBy_116 ?_
          refine zj_iload_n (j := 2) (i := 2) C rfl 3 rfl dX12_goBy_117 ?_
          refine zj_iload_n (j := 3) (i := 3) C rfl 1 rfl dX12_goBy_118 ?_
          refine zj_iload C 2 rfl dX12_goBy_119 ?_
          refine zj_callVv C F Z [.int (i32 y3), .int (i32 y20), .int (i32 y9)] [] cal_X12_live calv_X12_live ml_X12_308 zk_138 rfl rfl (by decide) (Nat.le_of_ble_eq_true rfl) rfl dX12_goBy_121 (fun q h => M_X12_live l Γ F h_y3 h_y20 h_y9 m22 q h) (fun _ m24 _ => ?_)
          refine zj_iconst C 0 dX12_goBy_124 ?_
          exact zrt_i C Z irc_0 dX12_goBy_125
        · refine zj_bipush C 10 rfl dX12_goBy_108 ?_
          refine zj_iload_n (j := 2) (i := 2) C rfl 3 rfl dX12_goBy_110 ?_
          refine zj_imul C dX12_goBy_111 ?_
          refine zj_iload C 0 rfl dX12_goBy_112 ?_
          refine zj_iadd C dX12_goBy_114 ?_
          exact zrt_i C Z (ir_w _) dX12_goBy_115
    · refine zj_iload_n (j := 2) (i := 2) C rfl 2 rfl dX12_goBy_62 ?_
      refine zj_iconst C 2 dX12_goBy_63 ?_
      refine zj_icmp_ne C 93 h_y3 irc_2 dX12_goBy_64 rfl (fun c25 => ?_) (fun c25 => ?_)
      · refine zj_aload_n (j := 0) (i := 0) C rfl 3 rfl dX12_goBy_67 ?_
        refine zj_iload_n (j := 3) (i := 3) C rfl 1 rfl dX12_goBy_68 ?_
        refine zj_iload C 0 rfl dX12_goBy_69 ?_
        refine zj_callVi C F Z [.int (i32 y6), .int (i32 y9)] [] cal_X12_isCell calv_X12_isCell ml_X12_244 zk_138 rfl rfl (by decide) (Nat.le_of_ble_eq_true rfl) rfl dX12_goBy_71 (fun q h => M_X12_isCell l Γ F h_y6 h_y9 mem q h) (fun y26 m27 h_y26 => ?_)
        refine zj_if_ne C 85 h_y26 dX12_goBy_74 rfl (fun c28 => ?_) (fun c28 => ?_)
        · refine zj_bipush C 10 rfl dX12_goBy_77 ?_
          refine zj_iload_n (j := 2) (i := 2) C rfl 2 rfl dX12_goBy_79 ?_
          refine zj_imul C dX12_goBy_80 ?_
          refine zj_bipush C 9 rfl dX12_goBy_81 ?_
          refine zj_iadd C dX12_goBy_83 ?_
          exact zrt_i C Z (ir_w _) dX12_goBy_84
        · refine zj_iload_n (j := 3) (i := 3) C rfl 1 rfl dX12_goBy_85 ?_
          refine zj_bipush C 8 rfl dX12_goBy_86 ?_
          refine zj_iload C 0 rfl dX12_goBy_88 ?_
          refine zj_imul C dX12_goBy_90 ?_
          refine zj_iadd C dX12_goBy_91 ?_
          refine zj_pipeI (fun y29 e_y29 => ?_)
          have h_y29 := ir_eq e_y29 (ir_w _)
          refine zj_istore_n (j := 3) (i := 3) C rfl [(3, .int (i32 y29)), (4, .int (i32 y9)), (2, .int (i32 y3)), (0, .ref (zad Γ 138)), (1, .int (i32 x0))] dX12_goBy_92 (by decide) rfl ?_
          refine zj_aload_n (j := 0) (i := 0) C rfl 3 rfl dX12_goBy_93 ?_
          refine zj_iload_n (j := 2) (i := 2) C rfl 2 rfl dX12_goBy_94 ?_
          refine zj_iload_n (j := 3) (i := 3) C rfl 0 rfl dX12_goBy_95 ?_
          refine zj_iload C 1 rfl dX12_goBy_96 ?_
          refine zj_callVi C F Z [.int (i32 y3), .int (i32 y29), .int (i32 y9)] [] cal_X12_why calv_X12_why ml_X12_301 zk_138 rfl rfl (by decide) (Nat.le_of_ble_eq_true rfl) rfl dX12_goBy_98 (fun q h => M_X12_why l Γ F h_y3 h_y29 h_y9 m27 q h) (fun y30 m31 h_y30 => ?_)
          refine zj_istore C [(5, .int (i32 y30)), (3, .int (i32 y29)), (4, .int (i32 y9)), (2, .int (i32 y3)), (0, .ref (zad Γ 138)), (1, .int (i32 x0))] dX12_goBy_101 (by decide) rfl ?_
          refine zj_iload C 0 rfl dX12_goBy_103 ?_
          refine zj_if_eq C 116 h_y30 dX12_goBy_105 rfl (fun c32 => ?_) (fun c32 => ?_)
          · refine zj_aload_n (j := 0) (i := 0) C rfl 4 rfl dX12_goBy_116 ?_
            refine zj_iload_n (j := 2) (i := 2) C rfl 3 rfl dX12_goBy_117 ?_
            refine zj_iload_n (j := 3) (i := 3) C rfl 1 rfl dX12_goBy_118 ?_
            refine zj_iload C 2 rfl dX12_goBy_119 ?_
            refine zj_callVv C F Z [.int (i32 y3), .int (i32 y29), .int (i32 y9)] [] cal_X12_live calv_X12_live ml_X12_308 zk_138 rfl rfl (by decide) (Nat.le_of_ble_eq_true rfl) rfl dX12_goBy_121 (fun q h => M_X12_live l Γ F h_y3 h_y29 h_y9 m31 q h) (fun _ m33 _ => ?_)
            refine zj_iconst C 0 dX12_goBy_124 ?_
            exact zrt_i C Z irc_0 dX12_goBy_125
          · refine zj_bipush C 10 rfl dX12_goBy_108 ?_
            refine zj_iload_n (j := 2) (i := 2) C rfl 3 rfl dX12_goBy_110 ?_
            refine zj_imul C dX12_goBy_111 ?_
            refine zj_iload C 0 rfl dX12_goBy_112 ?_
            refine zj_iadd C dX12_goBy_114 ?_
            exact zrt_i C Z (ir_w _) dX12_goBy_115
      · refine zj_aload_n (j := 0) (i := 0) C rfl 3 rfl dX12_goBy_93 ?_
        refine zj_iload_n (j := 2) (i := 2) C rfl 2 rfl dX12_goBy_94 ?_
        refine zj_iload_n (j := 3) (i := 3) C rfl 1 rfl dX12_goBy_95 ?_
        refine zj_iload C 0 rfl dX12_goBy_96 ?_
        refine zj_callVi C F Z [.int (i32 y3), .int (i32 y6), .int (i32 y9)] [] cal_X12_why calv_X12_why ml_X12_301 zk_138 rfl rfl (by decide) (Nat.le_of_ble_eq_true rfl) rfl dX12_goBy_98 (fun q h => M_X12_why l Γ F h_y3 h_y6 h_y9 mem q h) (fun y34 m35 h_y34 => ?_)
        refine zj_istore C [(5, .int (i32 y34)), (4, .int (i32 y9)), (3, .int (i32 y6)), (2, .int (i32 y3)), (0, .ref (zad Γ 138)), (1, .int (i32 x0))] dX12_goBy_101 (by decide) rfl ?_
        refine zj_iload C 0 rfl dX12_goBy_103 ?_
        refine zj_if_eq C 116 h_y34 dX12_goBy_105 rfl (fun c36 => ?_) (fun c36 => ?_)
        · refine zj_aload_n (j := 0) (i := 0) C rfl 4 rfl dX12_goBy_116 ?_
          refine zj_iload_n (j := 2) (i := 2) C rfl 3 rfl dX12_goBy_117 ?_
          refine zj_iload_n (j := 3) (i := 3) C rfl 2 rfl dX12_goBy_118 ?_
          refine zj_iload C 1 rfl dX12_goBy_119 ?_
          refine zj_callVv C F Z [.int (i32 y3), .int (i32 y6), .int (i32 y9)] [] cal_X12_live calv_X12_live ml_X12_308 zk_138 rfl rfl (by decide) (Nat.le_of_ble_eq_true rfl) rfl dX12_goBy_121 (fun q h => M_X12_live l Γ F h_y3 h_y6 h_y9 m35 q h) (fun _ m37 _ => ?_)
          refine zj_iconst C 0 dX12_goBy_124 ?_
          exact zrt_i C Z irc_0 dX12_goBy_125
        · refine zj_bipush C 10 rfl dX12_goBy_108 ?_
          refine zj_iload_n (j := 2) (i := 2) C rfl 3 rfl dX12_goBy_110 ?_
          refine zj_imul C dX12_goBy_111 ?_
          refine zj_iload C 0 rfl dX12_goBy_112 ?_
          refine zj_iadd C dX12_goBy_114 ?_
          exact zrt_i C Z (ir_w _) dX12_goBy_115
noncomputable def b_X12_stay_0 (rec : Int → Int → zMem → Option (Int × zMem)) (v1 : Int) (v2 : Int) (mem : zMem) : Option (Int × zMem) := if v2 ≥ 86 then (if v1 = 0 then (some (0, mem)) else (zbind (f_X12_snap mem) fun _ m3 => zbind (f_X12_takeBack m3) fun _ m4 => some (0, m4))) else (if ix 140 (w32 (106 + v2)) then pipe (mem 140 (w32 (106 + v2))) fun y7 => if ix 144 v2 then if ix 140 (w32 (106 + v2)) then pipe (zup mem 140 (w32 (106 + v2)) (mem 144 v2)) fun m11 => if ix 144 v2 then pipe (zup m11 144 v2 y7) fun m13 => rec v1 (w32 (v2 + 1)) m13 else none else none else none else none)
noncomputable def f_X12_stay_0 : Nat → Int → Int → zMem → Option (Int × zMem) := zfuel (fun _ _ _ => none) (b_X12_stay_0)
set_option maxHeartbeats 4000000 in
theorem L_X12_stay_0 (l : Launch) {Γ : zG} (F : zFull Γ) {X : zM} {q : Int × zMem} (C : zC X Γ "ShadowHeirsModel" cX12_stay 4) (Z : zRt X l Γ 2 0 none q) : ∀ n : Nat, ∀ (v1 : Int) (v2 : Int) (h_v1 : ir v1) (h_v2 : ir v2) (mem : zMem), zJ X Γ 4 q (f_X12_stay_0 n v1 v2 mem) 2 [(0, .ref (zad Γ 138)), (1, .int (i32 v1)), (2, .int (i32 v2))] [] mem := by
  intro n
  induction n with
  | zero => intros; exact zj_none
  | succ n ih =>
    intro v1 v2 h_v1 h_v2 mem
    show zJ X Γ 4 q (b_X12_stay_0 (f_X12_stay_0 n) v1 v2 mem) _ _ _ _
    unfold b_X12_stay_0
    refine zj_iload_n (j := 2) (i := 2) C rfl 2 rfl dX12_stay_2 ?_
    refine zj_bipush C 86 rfl dX12_stay_3 ?_
    refine zj_icmp_ge C 46 h_v2 irc_86 dX12_stay_5 rfl (fun c1 => ?_) (fun c1 => ?_)
    · refine zj_iload_n (j := 1) (i := 1) C rfl 1 rfl dX12_stay_46 ?_
      refine zj_if_ne C 51 h_v1 dX12_stay_47 rfl (fun c2 => ?_) (fun c2 => ?_)
      · exact zrt_v C Z dX12_stay_50
      · refine zj_aload_n (j := 0) (i := 0) C rfl 0 rfl dX12_stay_51 ?_
        refine zj_callVv C F Z [] [] cal_X12_snap calv_X12_snap ml_X12_305 zk_138 rfl rfl (by decide) (Nat.le_of_ble_eq_true rfl) rfl dX12_stay_52 (fun q h => M_X12_snap l Γ F  mem q h) (fun _ m3 _ => ?_)
        refine zj_aload_n (j := 0) (i := 0) C rfl 0 rfl dX12_stay_55 ?_
        refine zj_callVv C F Z [] [] cal_X12_takeBack calv_X12_takeBack ml_X12_384 zk_138 rfl rfl (by decide) (Nat.le_of_ble_eq_true rfl) rfl dX12_stay_56 (fun q h => M_X12_takeBack l Γ F  m3 q h) (fun _ m4 _ => ?_)
        exact zrt_v C Z dX12_stay_59
    · refine zj_aload_n (j := 0) (i := 0) C rfl 0 rfl dX12_stay_8 ?_
      refine zj_getR C F zk_138 fl_X12_98 rfl rf_138_14 dX12_stay_9 ?_
      refine zj_bipush C 106 rfl dX12_stay_12 ?_
      refine zj_iload_n (j := 2) (i := 2) C rfl 2 rfl dX12_stay_14 ?_
      refine zj_iadd C dX12_stay_15 ?_
      refine zj_iaload C F zk_140 (ir_w _) dX12_stay_16 (fun c5 h6 => ?_)
      refine zj_pipeI (fun y7 e_y7 => ?_)
      have h_y7 := ir_eq e_y7 h6
      refine zj_istore_n (j := 3) (i := 3) C rfl [(3, .int (i32 y7)), (0, .ref (zad Γ 138)), (1, .int (i32 v1)), (2, .int (i32 v2))] dX12_stay_17 (by decide) rfl ?_
      refine zj_aload_n (j := 0) (i := 0) C rfl 1 rfl dX12_stay_18 ?_
      refine zj_getR C F zk_138 fl_X12_98 rfl rf_138_14 dX12_stay_19 ?_
      refine zj_bipush C 106 rfl dX12_stay_22 ?_
      refine zj_iload_n (j := 2) (i := 2) C rfl 3 rfl dX12_stay_24 ?_
      refine zj_iadd C dX12_stay_25 ?_
      refine zj_aload_n (j := 0) (i := 0) C rfl 1 rfl dX12_stay_26 ?_
      refine zj_getR C F zk_138 fl_X12_110 rfl rf_138_18 dX12_stay_27 ?_
      refine zj_iload_n (j := 2) (i := 2) C rfl 3 rfl dX12_stay_30 ?_
      refine zj_iaload C F zk_144 h_v2 dX12_stay_31 (fun c8 h9 => ?_)
      refine zj_iastore C F zk_140 (ir_w _) h9 dX12_stay_32 (fun c10 => ?_)
      refine zj_pipeM (fun m11 e_m11 => ?_)
      refine zj_aload_n (j := 0) (i := 0) C rfl 1 rfl dX12_stay_33 ?_
      refine zj_getR C F zk_138 fl_X12_110 rfl rf_138_18 dX12_stay_34 ?_
      refine zj_iload_n (j := 2) (i := 2) C rfl 3 rfl dX12_stay_37 ?_
      refine zj_iload_n (j := 3) (i := 3) C rfl 0 rfl dX12_stay_38 ?_
      refine zj_iastore C F zk_144 h_v2 h_y7 dX12_stay_39 (fun c12 => ?_)
      refine zj_pipeM (fun m13 e_m13 => ?_)
      refine zj_iinc C 3 [(2, .int (i32 (w32 (v2 + 1)))), (3, .int (i32 y7)), (0, .ref (zad Γ 138)), (1, .int (i32 v1))] rfl dX12_stay_40 (by decide) rfl ?_
      refine zj_goto (tgt := 2) C dX12_stay_43 rfl ?_
      exact zj_sub [2, 3, 0] rfl (ih v1 (w32 (v2 + 1)) h_v1 (ir_w _) m13)
noncomputable def f_X12_stay (x0 : Int) (mem : zMem) : Option (Int × zMem) := f_X12_stay_0 zN x0 0 mem
set_option maxHeartbeats 4000000 in
theorem M_X12_stay (l : Launch) (Γ : zG) (F : zFull Γ)  {x0 : Int} (h_x0 : ir x0) (mem : zMem) (q : Int × zMem) (h : f_X12_stay x0 mem = some q) : zMet l yX12_stay cX12_stay 4 none 2 Γ 0 [.ref (zad Γ 138), .int (i32 x0)] mem q := by
  refine zMet_of (own := "ShadowHeirsModel") (by decide) rfl (Nat.le_of_ble_eq_true rfl) (fun X C Z => ?_)
  revert h
  show zJ X Γ 4 q (f_X12_stay x0 mem) 0 [(0, .ref (zad Γ 138)), (1, .int (i32 x0))] [] mem
  unfold f_X12_stay
  refine zj_iconst C 0 dX12_stay_0 ?_
  refine zj_istore_n (j := 2) (i := 2) C rfl [(2, .int (i32 0)), (0, .ref (zad Γ 138)), (1, .int (i32 x0))] dX12_stay_1 (by decide) rfl ?_
  exact zj_sub [1, 2, 0] rfl ((L_X12_stay_0 l F C Z zN) x0 0 h_x0 irc_0 mem)
noncomputable def f_X12_told (x0 : Int) (mem : zMem) : Option (Int × zMem) := pipe (zup mem 138 0 0) fun m1 => if (m1 138 41) = 0 then (some ((-1), m1)) else (zbind (f_X12_isIn x0 0 3 m1) fun y4 m5 => if y4 = 0 then (some ((-1), m5)) else (if ix 155 x0 then some ((m5 155 x0), m5) else none))
set_option maxHeartbeats 4000000 in
theorem M_X12_told (l : Launch) (Γ : zG) (F : zFull Γ)  {x0 : Int} (h_x0 : ir x0) (mem : zMem) (q : Int × zMem) (h : f_X12_told x0 mem = some q) : zMet l yX12_told cX12_told 2 (some .int) 2 Γ 1 [.ref (zad Γ 138), .int (i32 x0)] mem q := by
  refine zMet_of (own := "ShadowHeirsModel") (by decide) rfl (Nat.le_of_ble_eq_true rfl) (fun X C Z => ?_)
  revert h
  show zJ X Γ 2 q (f_X12_told x0 mem) 0 [(0, .ref (zad Γ 138)), (1, .int (i32 x0))] [] mem
  unfold f_X12_told
  refine zj_aload_n (j := 0) (i := 0) C rfl 0 rfl dX12_told_0 ?_
  refine zj_iconst C 0 dX12_told_1 ?_
  refine zj_putI C F 0 rfl zk_138 fl_X12_1 rfl fp_12_0 irc_0 dX12_told_2 ?_
  refine zj_pipeM (fun m1 e_m1 => ?_)
  refine zj_aload_n (j := 0) (i := 0) C rfl 0 rfl dX12_told_5 ?_
  refine zj_getI C F 41 rfl zk_138 fl_X12_405 rfl dX12_told_6 (fun h2 => ?_)
  refine zj_if_eq C 30 h2 dX12_told_9 rfl (fun c3 => ?_) (fun c3 => ?_)
  · refine zj_iconst C (-1) dX12_told_30 ?_
    exact zrt_i C Z irc_m1 dX12_told_31
  · refine zj_iload_n (j := 1) (i := 1) C rfl 1 rfl dX12_told_12 ?_
    refine zj_iconst C 0 dX12_told_13 ?_
    refine zj_iconst C 3 dX12_told_14 ?_
    refine zj_callSi C Z [.int (i32 x0), .int (i32 0), .int (i32 3)] [] cal_X12_isIn sta_X12_isIn ml_X12_75 rfl (by decide) (Nat.le_of_ble_eq_true rfl) rfl dX12_told_15 (fun q h => M_X12_isIn l Γ F h_x0 irc_0 irc_3 m1 q h) (fun y4 m5 h_y4 => ?_)
    refine zj_if_eq C 30 h_y4 dX12_told_18 rfl (fun c6 => ?_) (fun c6 => ?_)
    · refine zj_iconst C (-1) dX12_told_30 ?_
      exact zrt_i C Z irc_m1 dX12_told_31
    · refine zj_aload_n (j := 0) (i := 0) C rfl 0 rfl dX12_told_21 ?_
      refine zj_getR C F zk_138 fl_X12_157 rfl rf_138_39 dX12_told_22 ?_
      refine zj_iload_n (j := 1) (i := 1) C rfl 1 rfl dX12_told_25 ?_
      refine zj_iaload C F zk_155 h_x0 dX12_told_26 (fun c7 h8 => ?_)
      refine zj_goto (tgt := 31) C dX12_told_27 rfl ?_
      exact zrt_i C Z h8 dX12_told_31
noncomputable def f_X12_readHouseName  (mem : zMem) : Option (Int × zMem) := if ix 140 2 then zbind (f_X12_readNamed 0 (mem 140 2) mem) fun y3 m4 => if y3 = 0 ∨ y3 = 1 then some (y3, m4) else none else none
set_option maxHeartbeats 4000000 in
theorem M_X12_readHouseName (l : Launch) (Γ : zG) (F : zFull Γ)    (mem : zMem) (q : Int × zMem) (h : f_X12_readHouseName  mem = some q) : zMet l yX12_readHouseName cX12_readHouseName 1 (some .boolean) 5 Γ 1 [.ref (zad Γ 138)] mem q := by
  refine zMet_of (own := "ShadowHeirsModel") (by decide) rfl (Nat.le_of_ble_eq_true rfl) (fun X C Z => ?_)
  revert h
  show zJ X Γ 1 q (f_X12_readHouseName  mem) 0 [(0, .ref (zad Γ 138))] [] mem
  unfold f_X12_readHouseName
  refine zj_aload_n (j := 0) (i := 0) C rfl 0 rfl dX12_readHouseName_0 ?_
  refine zj_iconst C 0 dX12_readHouseName_1 ?_
  refine zj_aload_n (j := 0) (i := 0) C rfl 0 rfl dX12_readHouseName_2 ?_
  refine zj_getR C F zk_138 fl_X12_98 rfl rf_138_14 dX12_readHouseName_3 ?_
  refine zj_iconst C 2 dX12_readHouseName_6 ?_
  refine zj_iaload C F zk_140 irc_2 dX12_readHouseName_7 (fun c1 h2 => ?_)
  refine zj_callVi C F Z [.int (i32 0), .int (i32 (mem 140 2))] [] cal_X12_readNamed calv_X12_readNamed ml_X12_396 zk_138 rfl rfl (by decide) (Nat.le_of_ble_eq_true rfl) rfl dX12_readHouseName_8 (fun q h => M_X12_readNamed l Γ F irc_0 h2 mem q h) (fun y3 m4 h_y3 => ?_)
  exact zrt_zc C Z dX12_readHouseName_11
noncomputable def f_X12_saysOne (x0 : Int) (x1 : Int) (x2 : Int) (x3 : Int) (mem : zMem) : Option (Int × zMem) := pipe (w32 (4 * (mem 138 43))) fun y2 => if ix 156 y2 then pipe (zup mem 156 y2 x0) fun m4 => if ix 156 (w32 (y2 + 1)) then pipe (zup m4 156 (w32 (y2 + 1)) x1) fun m6 => if ix 156 (w32 (y2 + 2)) then pipe (zup m6 156 (w32 (y2 + 2)) x2) fun m8 => if ix 156 (w32 (y2 + 3)) then pipe (zup m8 156 (w32 (y2 + 3)) x3) fun m10 => pipe (zup m10 138 43 (w32 ((m10 138 43) + 1))) fun m12 => some ((w32 ((m12 138 43) - 1)), m12) else none else none else none else none
set_option maxHeartbeats 4000000 in
theorem M_X12_saysOne (l : Launch) (Γ : zG) (F : zFull Γ)  {x0 : Int} {x1 : Int} {x2 : Int} {x3 : Int} (h_x0 : ir x0) (h_x1 : ir x1) (h_x2 : ir x2) (h_x3 : ir x3) (mem : zMem) (q : Int × zMem) (h : f_X12_saysOne x0 x1 x2 x3 mem = some q) : zMet l yX12_saysOne cX12_saysOne 6 (some .int) 1 Γ 1 [.ref (zad Γ 138), .int (i32 x0), .int (i32 x1), .int (i32 x2), .int (i32 x3)] mem q := by
  refine zMet_of (own := "ShadowHeirsModel") (by decide) rfl (Nat.le_of_ble_eq_true rfl) (fun X C Z => ?_)
  revert h
  show zJ X Γ 6 q (f_X12_saysOne x0 x1 x2 x3 mem) 0 [(0, .ref (zad Γ 138)), (1, .int (i32 x0)), (2, .int (i32 x1)), (3, .int (i32 x2)), (4, .int (i32 x3))] [] mem
  unfold f_X12_saysOne
  refine zj_iconst C 4 dX12_saysOne_0 ?_
  refine zj_aload_n (j := 0) (i := 0) C rfl 0 rfl dX12_saysOne_1 ?_
  refine zj_getI C F 43 rfl zk_138 fl_X12_412 rfl dX12_saysOne_2 (fun h1 => ?_)
  refine zj_imul C dX12_saysOne_5 ?_
  refine zj_pipeI (fun y2 e_y2 => ?_)
  have h_y2 := ir_eq e_y2 (ir_w _)
  refine zj_istore C [(5, .int (i32 y2)), (0, .ref (zad Γ 138)), (1, .int (i32 x0)), (2, .int (i32 x1)), (3, .int (i32 x2)), (4, .int (i32 x3))] dX12_saysOne_6 (by decide) rfl ?_
  refine zj_aload_n (j := 0) (i := 0) C rfl 1 rfl dX12_saysOne_8 ?_
  refine zj_getR C F zk_138 fl_X12_160 rfl rf_138_42 dX12_saysOne_9 ?_
  refine zj_iload C 0 rfl dX12_saysOne_12 ?_
  refine zj_iload_n (j := 1) (i := 1) C rfl 2 rfl dX12_saysOne_14 ?_
  refine zj_iastore C F zk_156 h_y2 h_x0 dX12_saysOne_15 (fun c3 => ?_)
  refine zj_pipeM (fun m4 e_m4 => ?_)
  refine zj_aload_n (j := 0) (i := 0) C rfl 1 rfl dX12_saysOne_16 ?_
  refine zj_getR C F zk_138 fl_X12_160 rfl rf_138_42 dX12_saysOne_17 ?_
  refine zj_iload C 0 rfl dX12_saysOne_20 ?_
  refine zj_iconst C 1 dX12_saysOne_22 ?_
  refine zj_iadd C dX12_saysOne_23 ?_
  refine zj_iload_n (j := 2) (i := 2) C rfl 3 rfl dX12_saysOne_24 ?_
  refine zj_iastore C F zk_156 (ir_w _) h_x1 dX12_saysOne_25 (fun c5 => ?_)
  refine zj_pipeM (fun m6 e_m6 => ?_)
  refine zj_aload_n (j := 0) (i := 0) C rfl 1 rfl dX12_saysOne_26 ?_
  refine zj_getR C F zk_138 fl_X12_160 rfl rf_138_42 dX12_saysOne_27 ?_
  refine zj_iload C 0 rfl dX12_saysOne_30 ?_
  refine zj_iconst C 2 dX12_saysOne_32 ?_
  refine zj_iadd C dX12_saysOne_33 ?_
  refine zj_iload_n (j := 3) (i := 3) C rfl 4 rfl dX12_saysOne_34 ?_
  refine zj_iastore C F zk_156 (ir_w _) h_x2 dX12_saysOne_35 (fun c7 => ?_)
  refine zj_pipeM (fun m8 e_m8 => ?_)
  refine zj_aload_n (j := 0) (i := 0) C rfl 1 rfl dX12_saysOne_36 ?_
  refine zj_getR C F zk_138 fl_X12_160 rfl rf_138_42 dX12_saysOne_37 ?_
  refine zj_iload C 0 rfl dX12_saysOne_40 ?_
  refine zj_iconst C 3 dX12_saysOne_42 ?_
  refine zj_iadd C dX12_saysOne_43 ?_
  refine zj_iload C 5 rfl dX12_saysOne_44 ?_
  refine zj_iastore C F zk_156 (ir_w _) h_x3 dX12_saysOne_46 (fun c9 => ?_)
  refine zj_pipeM (fun m10 e_m10 => ?_)
  refine zj_aload_n (j := 0) (i := 0) C rfl 1 rfl dX12_saysOne_47 ?_
  refine zj_dup C rfl dX12_saysOne_48 ?_
  refine zj_getI C F 43 rfl zk_138 fl_X12_412 rfl dX12_saysOne_49 (fun h11 => ?_)
  refine zj_iconst C 1 dX12_saysOne_52 ?_
  refine zj_iadd C dX12_saysOne_53 ?_
  refine zj_putI C F 43 rfl zk_138 fl_X12_412 rfl fp_12_43 (ir_w _) dX12_saysOne_54 ?_
  refine zj_pipeM (fun m12 e_m12 => ?_)
  refine zj_aload_n (j := 0) (i := 0) C rfl 1 rfl dX12_saysOne_57 ?_
  refine zj_getI C F 43 rfl zk_138 fl_X12_412 rfl dX12_saysOne_58 (fun h13 => ?_)
  refine zj_iconst C 1 dX12_saysOne_61 ?_
  refine zj_isub C dX12_saysOne_62 ?_
  exact zrt_i C Z (ir_w _) dX12_saysOne_63
noncomputable def f_X12_readOf (x0 : Int) (mem : zMem) : Option (Int × zMem) := zbind (f_X12_readHouseName mem) fun y1 m2 => if y1 = 0 then (some (0, m2)) else (zbind (f_X12_saysOne (w32 (50 + x0)) (m2 138 13) 0 0 m2) fun y5 m6 => pipe (zup m6 138 46 y5) fun m7 => some (1, m7))
set_option maxHeartbeats 4000000 in
theorem M_X12_readOf (l : Launch) (Γ : zG) (F : zFull Γ)  {x0 : Int} (h_x0 : ir x0) (mem : zMem) (q : Int × zMem) (h : f_X12_readOf x0 mem = some q) : zMet l yX12_readOf cX12_readOf 2 (some .boolean) 6 Γ 1 [.ref (zad Γ 138), .int (i32 x0)] mem q := by
  refine zMet_of (own := "ShadowHeirsModel") (by decide) rfl (Nat.le_of_ble_eq_true rfl) (fun X C Z => ?_)
  revert h
  show zJ X Γ 2 q (f_X12_readOf x0 mem) 0 [(0, .ref (zad Γ 138)), (1, .int (i32 x0))] [] mem
  unfold f_X12_readOf
  refine zj_aload_n (j := 0) (i := 0) C rfl 0 rfl dX12_readOf_0 ?_
  refine zj_callVi C F Z [] [] cal_X12_readHouseName calv_X12_readHouseName ml_X12_449 zk_138 rfl rfl (by decide) (Nat.le_of_ble_eq_true rfl) rfl dX12_readOf_1 (fun q h => M_X12_readHouseName l Γ F  mem q h) (fun y1 m2 h_y1 => ?_)
  refine zj_if_ne C 9 h_y1 dX12_readOf_4 rfl (fun c3 => ?_) (fun c3 => ?_)
  · refine zj_iconst C 0 dX12_readOf_7 ?_
    exact zrt_z C Z (Or.inl rfl) dX12_readOf_8
  · refine zj_aload_n (j := 0) (i := 0) C rfl 0 rfl dX12_readOf_9 ?_
    refine zj_aload_n (j := 0) (i := 0) C rfl 0 rfl dX12_readOf_10 ?_
    refine zj_bipush C 50 rfl dX12_readOf_11 ?_
    refine zj_iload_n (j := 1) (i := 1) C rfl 1 rfl dX12_readOf_13 ?_
    refine zj_iadd C dX12_readOf_14 ?_
    refine zj_aload_n (j := 0) (i := 0) C rfl 0 rfl dX12_readOf_15 ?_
    refine zj_getI C F 13 rfl zk_138 fl_X12_79 rfl dX12_readOf_16 (fun h4 => ?_)
    refine zj_iconst C 0 dX12_readOf_19 ?_
    refine zj_iconst C 0 dX12_readOf_20 ?_
    refine zj_callVi C F Z [.int (i32 (w32 (50 + x0))), .int (i32 (m2 138 13)), .int (i32 0), .int (i32 0)] [.ref (zad Γ 138)] cal_X12_saysOne calv_X12_saysOne ml_X12_421 zk_138 rfl rfl (by decide) (Nat.le_of_ble_eq_true rfl) rfl dX12_readOf_21 (fun q h => M_X12_saysOne l Γ F (ir_w _) h4 irc_0 irc_0 m2 q h) (fun y5 m6 h_y5 => ?_)
    refine zj_putI C F 46 rfl zk_138 fl_X12_418 rfl fp_12_46 h_y5 dX12_readOf_24 ?_
    refine zj_pipeM (fun m7 e_m7 => ?_)
    refine zj_iconst C 1 dX12_readOf_27 ?_
    exact zrt_z C Z (Or.inr rfl) dX12_readOf_28
noncomputable def f_X12_readCompare (x0 : Int) (mem : zMem) : Option (Int × zMem) := zbind (f_X12_isSign 60 mem) fun y1 m2 => if y1 = 0 then (zbind (f_X12_isSign 61 m2) fun y4 m5 => if y4 = 0 then (zbind (f_X12_isSign 62 m5) fun y7 m8 => if y7 = 0 then (zbind (f_X12_bad 1 m8) fun y10 m11 => if y10 = 0 ∨ y10 = 1 then some (y10, m11) else none) else (pipe (m8 138 9) fun y13 => zbind (f_X12_go m8) fun _ m14 => zbind (f_X12_readNumber 0 999 m14) fun y15 m16 => if y15 = 0 then (some (0, m16)) else (zbind (f_X12_saysOne (w32 (50 + x0)) 0 (m16 138 13) y13 m16) fun y19 m20 => pipe (zup m20 138 46 y19) fun m21 => some (1, m21)))) else (pipe (m5 138 9) fun y23 => zbind (f_X12_go m5) fun _ m24 => zbind (f_X12_readNumber 0 999 m24) fun y25 m26 => if y25 = 0 then (some (0, m26)) else (zbind (f_X12_saysOne (w32 (50 + x0)) 0 (m26 138 13) y23 m26) fun y29 m30 => pipe (zup m30 138 46 y29) fun m31 => some (1, m31)))) else (pipe (m2 138 9) fun y33 => zbind (f_X12_go m2) fun _ m34 => zbind (f_X12_readNumber 0 999 m34) fun y35 m36 => if y35 = 0 then (some (0, m36)) else (zbind (f_X12_saysOne (w32 (50 + x0)) 0 (m36 138 13) y33 m36) fun y39 m40 => pipe (zup m40 138 46 y39) fun m41 => some (1, m41)))
set_option maxHeartbeats 4000000 in
theorem M_X12_readCompare (l : Launch) (Γ : zG) (F : zFull Γ)  {x0 : Int} (h_x0 : ir x0) (mem : zMem) (q : Int × zMem) (h : f_X12_readCompare x0 mem = some q) : zMet l yX12_readCompare cX12_readCompare 3 (some .boolean) 4 Γ 1 [.ref (zad Γ 138), .int (i32 x0)] mem q := by
  refine zMet_of (own := "ShadowHeirsModel") (by decide) rfl (Nat.le_of_ble_eq_true rfl) (fun X C Z => ?_)
  revert h
  show zJ X Γ 3 q (f_X12_readCompare x0 mem) 0 [(0, .ref (zad Γ 138)), (1, .int (i32 x0))] [] mem
  unfold f_X12_readCompare
  refine zj_aload_n (j := 0) (i := 0) C rfl 0 rfl dX12_readCompare_0 ?_
  refine zj_bipush C 60 rfl dX12_readCompare_1 ?_
  refine zj_callVi C F Z [.int (i32 60)] [] cal_X12_isSign calv_X12_isSign ml_X12_86 zk_138 rfl rfl (by decide) (Nat.le_of_ble_eq_true rfl) rfl dX12_readCompare_3 (fun q h => M_X12_isSign l Γ F irc_60 mem q h) (fun y1 m2 h_y1 => ?_)
  refine zj_if_ne C 33 h_y1 dX12_readCompare_6 rfl (fun c3 => ?_) (fun c3 => ?_)
  · refine zj_aload_n (j := 0) (i := 0) C rfl 0 rfl dX12_readCompare_9 ?_
    refine zj_bipush C 61 rfl dX12_readCompare_10 ?_
    refine zj_callVi C F Z [.int (i32 61)] [] cal_X12_isSign calv_X12_isSign ml_X12_86 zk_138 rfl rfl (by decide) (Nat.le_of_ble_eq_true rfl) rfl dX12_readCompare_12 (fun q h => M_X12_isSign l Γ F irc_61 m2 q h) (fun y4 m5 h_y4 => ?_)
    refine zj_if_ne C 33 h_y4 dX12_readCompare_15 rfl (fun c6 => ?_) (fun c6 => ?_)
    · refine zj_aload_n (j := 0) (i := 0) C rfl 0 rfl dX12_readCompare_18 ?_
      refine zj_bipush C 62 rfl dX12_readCompare_19 ?_
      refine zj_callVi C F Z [.int (i32 62)] [] cal_X12_isSign calv_X12_isSign ml_X12_86 zk_138 rfl rfl (by decide) (Nat.le_of_ble_eq_true rfl) rfl dX12_readCompare_21 (fun q h => M_X12_isSign l Γ F irc_62 m5 q h) (fun y7 m8 h_y7 => ?_)
      refine zj_if_ne C 33 h_y7 dX12_readCompare_24 rfl (fun c9 => ?_) (fun c9 => ?_)
      · refine zj_aload_n (j := 0) (i := 0) C rfl 0 rfl dX12_readCompare_27 ?_
        refine zj_iconst C 1 dX12_readCompare_28 ?_
        refine zj_callVi C F Z [.int (i32 1)] [] cal_X12_bad calv_X12_bad ml_X12_72 zk_138 rfl rfl (by decide) (Nat.le_of_ble_eq_true rfl) rfl dX12_readCompare_29 (fun q h => M_X12_bad l Γ F irc_1 m8 q h) (fun y10 m11 h_y10 => ?_)
        exact zrt_zc C Z dX12_readCompare_32
      · refine zj_aload_n (j := 0) (i := 0) C rfl 0 rfl dX12_readCompare_33 ?_
        refine zj_getI C F 9 rfl zk_138 fl_X12_40 rfl dX12_readCompare_34 (fun h12 => ?_)
        refine zj_pipeI (fun y13 e_y13 => ?_)
        have h_y13 := ir_eq e_y13 h12
        refine zj_istore_n (j := 2) (i := 2) C rfl [(2, .int (i32 y13)), (0, .ref (zad Γ 138)), (1, .int (i32 x0))] dX12_readCompare_37 (by decide) rfl ?_
        refine zj_aload_n (j := 0) (i := 0) C rfl 1 rfl dX12_readCompare_38 ?_
        refine zj_callVv C F Z [] [] cal_X12_go calv_X12_go ml_X12_82 zk_138 rfl rfl (by decide) (Nat.le_of_ble_eq_true rfl) rfl dX12_readCompare_39 (fun q h => M_X12_go l Γ F  m8 q h) (fun _ m14 _ => ?_)
        refine zj_aload_n (j := 0) (i := 0) C rfl 1 rfl dX12_readCompare_42 ?_
        refine zj_iconst C 0 dX12_readCompare_43 ?_
        refine zj_sipush C 999 rfl dX12_readCompare_44 ?_
        refine zj_callVi C F Z [.int (i32 0), .int (i32 999)] [] cal_X12_readNumber calv_X12_readNumber ml_X12_184 zk_138 rfl rfl (by decide) (Nat.le_of_ble_eq_true rfl) rfl dX12_readCompare_47 (fun q h => M_X12_readNumber l Γ F irc_0 irc_999 m14 q h) (fun y15 m16 h_y15 => ?_)
        refine zj_if_ne C 55 h_y15 dX12_readCompare_50 rfl (fun c17 => ?_) (fun c17 => ?_)
        · refine zj_iconst C 0 dX12_readCompare_53 ?_
          exact zrt_z C Z (Or.inl rfl) dX12_readCompare_54
        · refine zj_aload_n (j := 0) (i := 0) C rfl 1 rfl dX12_readCompare_55 ?_
          refine zj_aload_n (j := 0) (i := 0) C rfl 1 rfl dX12_readCompare_56 ?_
          refine zj_bipush C 50 rfl dX12_readCompare_57 ?_
          refine zj_iload_n (j := 1) (i := 1) C rfl 2 rfl dX12_readCompare_59 ?_
          refine zj_iadd C dX12_readCompare_60 ?_
          refine zj_iconst C 0 dX12_readCompare_61 ?_
          refine zj_aload_n (j := 0) (i := 0) C rfl 1 rfl dX12_readCompare_62 ?_
          refine zj_getI C F 13 rfl zk_138 fl_X12_79 rfl dX12_readCompare_63 (fun h18 => ?_)
          refine zj_iload_n (j := 2) (i := 2) C rfl 0 rfl dX12_readCompare_66 ?_
          refine zj_callVi C F Z [.int (i32 (w32 (50 + x0))), .int (i32 0), .int (i32 (m16 138 13)), .int (i32 y13)] [.ref (zad Γ 138)] cal_X12_saysOne calv_X12_saysOne ml_X12_421 zk_138 rfl rfl (by decide) (Nat.le_of_ble_eq_true rfl) rfl dX12_readCompare_67 (fun q h => M_X12_saysOne l Γ F (ir_w _) irc_0 h18 h_y13 m16 q h) (fun y19 m20 h_y19 => ?_)
          refine zj_putI C F 46 rfl zk_138 fl_X12_418 rfl fp_12_46 h_y19 dX12_readCompare_70 ?_
          refine zj_pipeM (fun m21 e_m21 => ?_)
          refine zj_iconst C 1 dX12_readCompare_73 ?_
          exact zrt_z C Z (Or.inr rfl) dX12_readCompare_74
    · refine zj_aload_n (j := 0) (i := 0) C rfl 0 rfl dX12_readCompare_33 ?_
      refine zj_getI C F 9 rfl zk_138 fl_X12_40 rfl dX12_readCompare_34 (fun h22 => ?_)
      refine zj_pipeI (fun y23 e_y23 => ?_)
      have h_y23 := ir_eq e_y23 h22
      refine zj_istore_n (j := 2) (i := 2) C rfl [(2, .int (i32 y23)), (0, .ref (zad Γ 138)), (1, .int (i32 x0))] dX12_readCompare_37 (by decide) rfl ?_
      refine zj_aload_n (j := 0) (i := 0) C rfl 1 rfl dX12_readCompare_38 ?_
      refine zj_callVv C F Z [] [] cal_X12_go calv_X12_go ml_X12_82 zk_138 rfl rfl (by decide) (Nat.le_of_ble_eq_true rfl) rfl dX12_readCompare_39 (fun q h => M_X12_go l Γ F  m5 q h) (fun _ m24 _ => ?_)
      refine zj_aload_n (j := 0) (i := 0) C rfl 1 rfl dX12_readCompare_42 ?_
      refine zj_iconst C 0 dX12_readCompare_43 ?_
      refine zj_sipush C 999 rfl dX12_readCompare_44 ?_
      refine zj_callVi C F Z [.int (i32 0), .int (i32 999)] [] cal_X12_readNumber calv_X12_readNumber ml_X12_184 zk_138 rfl rfl (by decide) (Nat.le_of_ble_eq_true rfl) rfl dX12_readCompare_47 (fun q h => M_X12_readNumber l Γ F irc_0 irc_999 m24 q h) (fun y25 m26 h_y25 => ?_)
      refine zj_if_ne C 55 h_y25 dX12_readCompare_50 rfl (fun c27 => ?_) (fun c27 => ?_)
      · refine zj_iconst C 0 dX12_readCompare_53 ?_
        exact zrt_z C Z (Or.inl rfl) dX12_readCompare_54
      · refine zj_aload_n (j := 0) (i := 0) C rfl 1 rfl dX12_readCompare_55 ?_
        refine zj_aload_n (j := 0) (i := 0) C rfl 1 rfl dX12_readCompare_56 ?_
        refine zj_bipush C 50 rfl dX12_readCompare_57 ?_
        refine zj_iload_n (j := 1) (i := 1) C rfl 2 rfl dX12_readCompare_59 ?_
        refine zj_iadd C dX12_readCompare_60 ?_
        refine zj_iconst C 0 dX12_readCompare_61 ?_
        refine zj_aload_n (j := 0) (i := 0) C rfl 1 rfl dX12_readCompare_62 ?_
        refine zj_getI C F 13 rfl zk_138 fl_X12_79 rfl dX12_readCompare_63 (fun h28 => ?_)
        refine zj_iload_n (j := 2) (i := 2) C rfl 0 rfl dX12_readCompare_66 ?_
        refine zj_callVi C F Z [.int (i32 (w32 (50 + x0))), .int (i32 0), .int (i32 (m26 138 13)), .int (i32 y23)] [.ref (zad Γ 138)] cal_X12_saysOne calv_X12_saysOne ml_X12_421 zk_138 rfl rfl (by decide) (Nat.le_of_ble_eq_true rfl) rfl dX12_readCompare_67 (fun q h => M_X12_saysOne l Γ F (ir_w _) irc_0 h28 h_y23 m26 q h) (fun y29 m30 h_y29 => ?_)
        refine zj_putI C F 46 rfl zk_138 fl_X12_418 rfl fp_12_46 h_y29 dX12_readCompare_70 ?_
        refine zj_pipeM (fun m31 e_m31 => ?_)
        refine zj_iconst C 1 dX12_readCompare_73 ?_
        exact zrt_z C Z (Or.inr rfl) dX12_readCompare_74
  · refine zj_aload_n (j := 0) (i := 0) C rfl 0 rfl dX12_readCompare_33 ?_
    refine zj_getI C F 9 rfl zk_138 fl_X12_40 rfl dX12_readCompare_34 (fun h32 => ?_)
    refine zj_pipeI (fun y33 e_y33 => ?_)
    have h_y33 := ir_eq e_y33 h32
    refine zj_istore_n (j := 2) (i := 2) C rfl [(2, .int (i32 y33)), (0, .ref (zad Γ 138)), (1, .int (i32 x0))] dX12_readCompare_37 (by decide) rfl ?_
    refine zj_aload_n (j := 0) (i := 0) C rfl 1 rfl dX12_readCompare_38 ?_
    refine zj_callVv C F Z [] [] cal_X12_go calv_X12_go ml_X12_82 zk_138 rfl rfl (by decide) (Nat.le_of_ble_eq_true rfl) rfl dX12_readCompare_39 (fun q h => M_X12_go l Γ F  m2 q h) (fun _ m34 _ => ?_)
    refine zj_aload_n (j := 0) (i := 0) C rfl 1 rfl dX12_readCompare_42 ?_
    refine zj_iconst C 0 dX12_readCompare_43 ?_
    refine zj_sipush C 999 rfl dX12_readCompare_44 ?_
    refine zj_callVi C F Z [.int (i32 0), .int (i32 999)] [] cal_X12_readNumber calv_X12_readNumber ml_X12_184 zk_138 rfl rfl (by decide) (Nat.le_of_ble_eq_true rfl) rfl dX12_readCompare_47 (fun q h => M_X12_readNumber l Γ F irc_0 irc_999 m34 q h) (fun y35 m36 h_y35 => ?_)
    refine zj_if_ne C 55 h_y35 dX12_readCompare_50 rfl (fun c37 => ?_) (fun c37 => ?_)
    · refine zj_iconst C 0 dX12_readCompare_53 ?_
      exact zrt_z C Z (Or.inl rfl) dX12_readCompare_54
    · refine zj_aload_n (j := 0) (i := 0) C rfl 1 rfl dX12_readCompare_55 ?_
      refine zj_aload_n (j := 0) (i := 0) C rfl 1 rfl dX12_readCompare_56 ?_
      refine zj_bipush C 50 rfl dX12_readCompare_57 ?_
      refine zj_iload_n (j := 1) (i := 1) C rfl 2 rfl dX12_readCompare_59 ?_
      refine zj_iadd C dX12_readCompare_60 ?_
      refine zj_iconst C 0 dX12_readCompare_61 ?_
      refine zj_aload_n (j := 0) (i := 0) C rfl 1 rfl dX12_readCompare_62 ?_
      refine zj_getI C F 13 rfl zk_138 fl_X12_79 rfl dX12_readCompare_63 (fun h38 => ?_)
      refine zj_iload_n (j := 2) (i := 2) C rfl 0 rfl dX12_readCompare_66 ?_
      refine zj_callVi C F Z [.int (i32 (w32 (50 + x0))), .int (i32 0), .int (i32 (m36 138 13)), .int (i32 y33)] [.ref (zad Γ 138)] cal_X12_saysOne calv_X12_saysOne ml_X12_421 zk_138 rfl rfl (by decide) (Nat.le_of_ble_eq_true rfl) rfl dX12_readCompare_67 (fun q h => M_X12_saysOne l Γ F (ir_w _) irc_0 h38 h_y33 m36 q h) (fun y39 m40 h_y39 => ?_)
      refine zj_putI C F 46 rfl zk_138 fl_X12_418 rfl fp_12_46 h_y39 dX12_readCompare_70 ?_
      refine zj_pipeM (fun m41 e_m41 => ?_)
      refine zj_iconst C 1 dX12_readCompare_73 ?_
      exact zrt_z C Z (Or.inr rfl) dX12_readCompare_74
noncomputable def b_X12_image_0 (rec : Int → Int → zMem → Option (Int × zMem)) (v1 : Int) (v2 : Int) (mem : zMem) : Option (Int × zMem) := if v2 ≥ 11 then (if ix 148 v1 then pipe (zup mem 148 v1 1) fun m3 => some (1, m3) else none) else (if ix 145 v2 then if ix 147 (w32 ((w32 (11 * v1)) + v2)) then pipe (zup mem 147 (w32 ((w32 (11 * v1)) + v2)) (mem 145 v2)) fun m7 => rec v1 (w32 (v2 + 1)) m7 else none else none)
noncomputable def f_X12_image_0 : Nat → Int → Int → zMem → Option (Int × zMem) := zfuel (fun _ _ _ => none) (b_X12_image_0)
set_option maxHeartbeats 4000000 in
theorem L_X12_image_0 (l : Launch) {Γ : zG} (F : zFull Γ) {X : zM} {q : Int × zMem} (C : zC X Γ "ShadowHeirsModel" cX12_image 3) (Z : zRt X l Γ 2 1 (some .boolean) q) : ∀ n : Nat, ∀ (v1 : Int) (v2 : Int) (h_v1 : ir v1) (h_v2 : ir v2) (mem : zMem), zJ X Γ 3 q (f_X12_image_0 n v1 v2 mem) 51 [(0, .ref (zad Γ 138)), (1, .int (i32 v1)), (2, .int (i32 v2))] [] mem := by
  intro n
  induction n with
  | zero => intros; exact zj_none
  | succ n ih =>
    intro v1 v2 h_v1 h_v2 mem
    show zJ X Γ 3 q (b_X12_image_0 (f_X12_image_0 n) v1 v2 mem) _ _ _ _
    unfold b_X12_image_0
    refine zj_iload_n (j := 2) (i := 2) C rfl 2 rfl dX12_image_51 ?_
    refine zj_bipush C 11 rfl dX12_image_52 ?_
    refine zj_icmp_ge C 80 h_v2 irc_11 dX12_image_54 rfl (fun c1 => ?_) (fun c1 => ?_)
    · refine zj_aload_n (j := 0) (i := 0) C rfl 0 rfl dX12_image_80 ?_
      refine zj_getR C F zk_138 fl_X12_123 rfl rf_138_22 dX12_image_81 ?_
      refine zj_iload_n (j := 1) (i := 1) C rfl 1 rfl dX12_image_84 ?_
      refine zj_iconst C 1 dX12_image_85 ?_
      refine zj_bastore C F zk_148 h_v1 (Or.inr rfl) dX12_image_86 (fun c2 => ?_)
      refine zj_pipeM (fun m3 e_m3 => ?_)
      refine zj_iconst C 1 dX12_image_87 ?_
      exact zrt_z C Z (Or.inr rfl) dX12_image_88
    · refine zj_aload_n (j := 0) (i := 0) C rfl 0 rfl dX12_image_57 ?_
      refine zj_getR C F zk_138 fl_X12_120 rfl rf_138_21 dX12_image_58 ?_
      refine zj_bipush C 11 rfl dX12_image_61 ?_
      refine zj_iload_n (j := 1) (i := 1) C rfl 1 rfl dX12_image_63 ?_
      refine zj_imul C dX12_image_64 ?_
      refine zj_iload_n (j := 2) (i := 2) C rfl 2 rfl dX12_image_65 ?_
      refine zj_iadd C dX12_image_66 ?_
      refine zj_aload_n (j := 0) (i := 0) C rfl 0 rfl dX12_image_67 ?_
      refine zj_getR C F zk_138 fl_X12_113 rfl rf_138_19 dX12_image_68 ?_
      refine zj_iload_n (j := 2) (i := 2) C rfl 2 rfl dX12_image_71 ?_
      refine zj_laload C F zk_145 h_v2 dX12_image_72 (fun c4 h5 => ?_)
      refine zj_lastore C F zk_147 (ir_w _) h5 dX12_image_73 (fun c6 => ?_)
      refine zj_pipeM (fun m7 e_m7 => ?_)
      refine zj_iinc C 2 [(2, .int (i32 (w32 (v2 + 1)))), (0, .ref (zad Γ 138)), (1, .int (i32 v1))] rfl dX12_image_74 (by decide) rfl ?_
      refine zj_goto (tgt := 51) C dX12_image_77 rfl ?_
      exact zj_sub [1, 2, 0] rfl (ih v1 (w32 (v2 + 1)) h_v1 (ir_w _) m7)
noncomputable def b_X12_image_1 (rec : Int → Int → zMem → Option (Int × zMem)) (v1 : Int) (v2 : Int) (mem : zMem) : Option (Int × zMem) := if v2 ≥ 434 then (f_X12_image_0 zN v1 0 mem) else (if ix 140 v2 then if ix 142 (w32 ((w32 (434 * v1)) + v2)) then pipe (zup mem 142 (w32 ((w32 (434 * v1)) + v2)) (mem 140 v2)) fun m5 => rec v1 (w32 (v2 + 1)) m5 else none else none)
noncomputable def f_X12_image_1 : Nat → Int → Int → zMem → Option (Int × zMem) := zfuel (fun _ _ _ => none) (b_X12_image_1)
set_option maxHeartbeats 4000000 in
theorem L_X12_image_1 (l : Launch) {Γ : zG} (F : zFull Γ) {X : zM} {q : Int × zMem} (C : zC X Γ "ShadowHeirsModel" cX12_image 3) (Z : zRt X l Γ 2 1 (some .boolean) q) : ∀ n : Nat, ∀ (v1 : Int) (v2 : Int) (h_v1 : ir v1) (h_v2 : ir v2) (mem : zMem), zJ X Γ 3 q (f_X12_image_1 n v1 v2 mem) 18 [(0, .ref (zad Γ 138)), (1, .int (i32 v1)), (2, .int (i32 v2))] [] mem := by
  intro n
  induction n with
  | zero => intros; exact zj_none
  | succ n ih =>
    intro v1 v2 h_v1 h_v2 mem
    show zJ X Γ 3 q (b_X12_image_1 (f_X12_image_1 n) v1 v2 mem) _ _ _ _
    unfold b_X12_image_1
    refine zj_iload_n (j := 2) (i := 2) C rfl 2 rfl dX12_image_18 ?_
    refine zj_sipush C 434 rfl dX12_image_19 ?_
    refine zj_icmp_ge C 49 h_v2 irc_434 dX12_image_22 rfl (fun c1 => ?_) (fun c1 => ?_)
    · refine zj_iconst C 0 dX12_image_49 ?_
      refine zj_istore_n (j := 2) (i := 2) C rfl [(2, .int (i32 0)), (0, .ref (zad Γ 138)), (1, .int (i32 v1))] dX12_image_50 (by decide) rfl ?_
      exact zj_sub [1, 2, 0] rfl ((L_X12_image_0 l F C Z zN) v1 0 h_v1 irc_0 mem)
    · refine zj_aload_n (j := 0) (i := 0) C rfl 0 rfl dX12_image_25 ?_
      refine zj_getR C F zk_138 fl_X12_104 rfl rf_138_16 dX12_image_26 ?_
      refine zj_sipush C 434 rfl dX12_image_29 ?_
      refine zj_iload_n (j := 1) (i := 1) C rfl 1 rfl dX12_image_32 ?_
      refine zj_imul C dX12_image_33 ?_
      refine zj_iload_n (j := 2) (i := 2) C rfl 2 rfl dX12_image_34 ?_
      refine zj_iadd C dX12_image_35 ?_
      refine zj_aload_n (j := 0) (i := 0) C rfl 0 rfl dX12_image_36 ?_
      refine zj_getR C F zk_138 fl_X12_98 rfl rf_138_14 dX12_image_37 ?_
      refine zj_iload_n (j := 2) (i := 2) C rfl 2 rfl dX12_image_40 ?_
      refine zj_iaload C F zk_140 h_v2 dX12_image_41 (fun c2 h3 => ?_)
      refine zj_iastore C F zk_142 (ir_w _) h3 dX12_image_42 (fun c4 => ?_)
      refine zj_pipeM (fun m5 e_m5 => ?_)
      refine zj_iinc C 2 [(2, .int (i32 (w32 (v2 + 1)))), (0, .ref (zad Γ 138)), (1, .int (i32 v1))] rfl dX12_image_43 (by decide) rfl ?_
      refine zj_goto (tgt := 18) C dX12_image_46 rfl ?_
      exact zj_sub [1, 2, 0] rfl (ih v1 (w32 (v2 + 1)) h_v1 (ir_w _) m5)
noncomputable def f_X12_image (x0 : Int) (mem : zMem) : Option (Int × zMem) := pipe (zup mem 138 0 0) fun m1 => zbind (f_X12_isIn x0 0 1 m1) fun y2 m3 => if y2 = 0 then (some (0, m3)) else (f_X12_image_1 zN x0 0 m3)
set_option maxHeartbeats 4000000 in
theorem M_X12_image (l : Launch) (Γ : zG) (F : zFull Γ)  {x0 : Int} (h_x0 : ir x0) (mem : zMem) (q : Int × zMem) (h : f_X12_image x0 mem = some q) : zMet l yX12_image cX12_image 3 (some .boolean) 2 Γ 1 [.ref (zad Γ 138), .int (i32 x0)] mem q := by
  refine zMet_of (own := "ShadowHeirsModel") (by decide) rfl (Nat.le_of_ble_eq_true rfl) (fun X C Z => ?_)
  revert h
  show zJ X Γ 3 q (f_X12_image x0 mem) 0 [(0, .ref (zad Γ 138)), (1, .int (i32 x0))] [] mem
  unfold f_X12_image
  refine zj_aload_n (j := 0) (i := 0) C rfl 0 rfl dX12_image_0 ?_
  refine zj_iconst C 0 dX12_image_1 ?_
  refine zj_putI C F 0 rfl zk_138 fl_X12_1 rfl fp_12_0 irc_0 dX12_image_2 ?_
  refine zj_pipeM (fun m1 e_m1 => ?_)
  refine zj_iload_n (j := 1) (i := 1) C rfl 1 rfl dX12_image_5 ?_
  refine zj_iconst C 0 dX12_image_6 ?_
  refine zj_iconst C 1 dX12_image_7 ?_
  refine zj_callSi C Z [.int (i32 x0), .int (i32 0), .int (i32 1)] [] cal_X12_isIn sta_X12_isIn ml_X12_75 rfl (by decide) (Nat.le_of_ble_eq_true rfl) rfl dX12_image_8 (fun q h => M_X12_isIn l Γ F h_x0 irc_0 irc_1 m1 q h) (fun y2 m3 h_y2 => ?_)
  refine zj_if_ne C 16 h_y2 dX12_image_11 rfl (fun c4 => ?_) (fun c4 => ?_)
  · refine zj_iconst C 0 dX12_image_14 ?_
    exact zrt_z C Z (Or.inl rfl) dX12_image_15
  · refine zj_iconst C 0 dX12_image_16 ?_
    refine zj_istore_n (j := 2) (i := 2) C rfl [(2, .int (i32 0)), (0, .ref (zad Γ 138)), (1, .int (i32 x0))] dX12_image_17 (by decide) rfl ?_
    exact zj_sub [1, 2, 0] rfl ((L_X12_image_1 l F C Z zN) x0 0 h_x0 irc_0 m3)
noncomputable def b_X12_restore_0 (rec : Int → Int → zMem → Option (Int × zMem)) (v1 : Int) (v2 : Int) (mem : zMem) : Option (Int × zMem) := if v2 ≥ 11 then (pipe (zup mem 138 25 0) fun m2 => some (1, m2)) else (if ix 147 (w32 ((w32 (11 * v1)) + v2)) then if ix 145 v2 then pipe (zup mem 145 v2 (mem 147 (w32 ((w32 (11 * v1)) + v2)))) fun m6 => rec v1 (w32 (v2 + 1)) m6 else none else none)
noncomputable def f_X12_restore_0 : Nat → Int → Int → zMem → Option (Int × zMem) := zfuel (fun _ _ _ => none) (b_X12_restore_0)
set_option maxHeartbeats 4000000 in
theorem L_X12_restore_0 (l : Launch) {Γ : zG} (F : zFull Γ) {X : zM} {q : Int × zMem} (C : zC X Γ "ShadowHeirsModel" cX12_restore 3) (Z : zRt X l Γ 2 1 (some .boolean) q) : ∀ n : Nat, ∀ (v1 : Int) (v2 : Int) (h_v1 : ir v1) (h_v2 : ir v2) (mem : zMem), zJ X Γ 3 q (f_X12_restore_0 n v1 v2 mem) 60 [(0, .ref (zad Γ 138)), (1, .int (i32 v1)), (2, .int (i32 v2))] [] mem := by
  intro n
  induction n with
  | zero => intros; exact zj_none
  | succ n ih =>
    intro v1 v2 h_v1 h_v2 mem
    show zJ X Γ 3 q (b_X12_restore_0 (f_X12_restore_0 n) v1 v2 mem) _ _ _ _
    unfold b_X12_restore_0
    refine zj_iload_n (j := 2) (i := 2) C rfl 2 rfl dX12_restore_60 ?_
    refine zj_bipush C 11 rfl dX12_restore_61 ?_
    refine zj_icmp_ge C 89 h_v2 irc_11 dX12_restore_63 rfl (fun c1 => ?_) (fun c1 => ?_)
    · refine zj_aload_n (j := 0) (i := 0) C rfl 0 rfl dX12_restore_89 ?_
      refine zj_iconst C 0 dX12_restore_90 ?_
      refine zj_putI C F 25 rfl zk_138 fl_X12_232 rfl fp_12_25 irc_0 dX12_restore_91 ?_
      refine zj_pipeM (fun m2 e_m2 => ?_)
      refine zj_iconst C 1 dX12_restore_94 ?_
      exact zrt_z C Z (Or.inr rfl) dX12_restore_95
    · refine zj_aload_n (j := 0) (i := 0) C rfl 0 rfl dX12_restore_66 ?_
      refine zj_getR C F zk_138 fl_X12_113 rfl rf_138_19 dX12_restore_67 ?_
      refine zj_iload_n (j := 2) (i := 2) C rfl 2 rfl dX12_restore_70 ?_
      refine zj_aload_n (j := 0) (i := 0) C rfl 0 rfl dX12_restore_71 ?_
      refine zj_getR C F zk_138 fl_X12_120 rfl rf_138_21 dX12_restore_72 ?_
      refine zj_bipush C 11 rfl dX12_restore_75 ?_
      refine zj_iload_n (j := 1) (i := 1) C rfl 1 rfl dX12_restore_77 ?_
      refine zj_imul C dX12_restore_78 ?_
      refine zj_iload_n (j := 2) (i := 2) C rfl 2 rfl dX12_restore_79 ?_
      refine zj_iadd C dX12_restore_80 ?_
      refine zj_laload C F zk_147 (ir_w _) dX12_restore_81 (fun c3 h4 => ?_)
      refine zj_lastore C F zk_145 h_v2 h4 dX12_restore_82 (fun c5 => ?_)
      refine zj_pipeM (fun m6 e_m6 => ?_)
      refine zj_iinc C 2 [(2, .int (i32 (w32 (v2 + 1)))), (0, .ref (zad Γ 138)), (1, .int (i32 v1))] rfl dX12_restore_83 (by decide) rfl ?_
      refine zj_goto (tgt := 60) C dX12_restore_86 rfl ?_
      exact zj_sub [1, 2, 0] rfl (ih v1 (w32 (v2 + 1)) h_v1 (ir_w _) m6)
noncomputable def b_X12_restore_1 (rec : Int → Int → zMem → Option (Int × zMem)) (v1 : Int) (v2 : Int) (mem : zMem) : Option (Int × zMem) := if v2 ≥ 434 then (f_X12_restore_0 zN v1 0 mem) else (if ix 142 (w32 ((w32 (434 * v1)) + v2)) then if ix 140 v2 then pipe (zup mem 140 v2 (mem 142 (w32 ((w32 (434 * v1)) + v2)))) fun m5 => rec v1 (w32 (v2 + 1)) m5 else none else none)
noncomputable def f_X12_restore_1 : Nat → Int → Int → zMem → Option (Int × zMem) := zfuel (fun _ _ _ => none) (b_X12_restore_1)
set_option maxHeartbeats 4000000 in
theorem L_X12_restore_1 (l : Launch) {Γ : zG} (F : zFull Γ) {X : zM} {q : Int × zMem} (C : zC X Γ "ShadowHeirsModel" cX12_restore 3) (Z : zRt X l Γ 2 1 (some .boolean) q) : ∀ n : Nat, ∀ (v1 : Int) (v2 : Int) (h_v1 : ir v1) (h_v2 : ir v2) (mem : zMem), zJ X Γ 3 q (f_X12_restore_1 n v1 v2 mem) 27 [(0, .ref (zad Γ 138)), (1, .int (i32 v1)), (2, .int (i32 v2))] [] mem := by
  intro n
  induction n with
  | zero => intros; exact zj_none
  | succ n ih =>
    intro v1 v2 h_v1 h_v2 mem
    show zJ X Γ 3 q (b_X12_restore_1 (f_X12_restore_1 n) v1 v2 mem) _ _ _ _
    unfold b_X12_restore_1
    refine zj_iload_n (j := 2) (i := 2) C rfl 2 rfl dX12_restore_27 ?_
    refine zj_sipush C 434 rfl dX12_restore_28 ?_
    refine zj_icmp_ge C 58 h_v2 irc_434 dX12_restore_31 rfl (fun c1 => ?_) (fun c1 => ?_)
    · refine zj_iconst C 0 dX12_restore_58 ?_
      refine zj_istore_n (j := 2) (i := 2) C rfl [(2, .int (i32 0)), (0, .ref (zad Γ 138)), (1, .int (i32 v1))] dX12_restore_59 (by decide) rfl ?_
      exact zj_sub [1, 2, 0] rfl ((L_X12_restore_0 l F C Z zN) v1 0 h_v1 irc_0 mem)
    · refine zj_aload_n (j := 0) (i := 0) C rfl 0 rfl dX12_restore_34 ?_
      refine zj_getR C F zk_138 fl_X12_98 rfl rf_138_14 dX12_restore_35 ?_
      refine zj_iload_n (j := 2) (i := 2) C rfl 2 rfl dX12_restore_38 ?_
      refine zj_aload_n (j := 0) (i := 0) C rfl 0 rfl dX12_restore_39 ?_
      refine zj_getR C F zk_138 fl_X12_104 rfl rf_138_16 dX12_restore_40 ?_
      refine zj_sipush C 434 rfl dX12_restore_43 ?_
      refine zj_iload_n (j := 1) (i := 1) C rfl 1 rfl dX12_restore_46 ?_
      refine zj_imul C dX12_restore_47 ?_
      refine zj_iload_n (j := 2) (i := 2) C rfl 2 rfl dX12_restore_48 ?_
      refine zj_iadd C dX12_restore_49 ?_
      refine zj_iaload C F zk_142 (ir_w _) dX12_restore_50 (fun c2 h3 => ?_)
      refine zj_iastore C F zk_140 h_v2 h3 dX12_restore_51 (fun c4 => ?_)
      refine zj_pipeM (fun m5 e_m5 => ?_)
      refine zj_iinc C 2 [(2, .int (i32 (w32 (v2 + 1)))), (0, .ref (zad Γ 138)), (1, .int (i32 v1))] rfl dX12_restore_52 (by decide) rfl ?_
      refine zj_goto (tgt := 27) C dX12_restore_55 rfl ?_
      exact zj_sub [1, 2, 0] rfl (ih v1 (w32 (v2 + 1)) h_v1 (ir_w _) m5)
noncomputable def f_X12_restore (x0 : Int) (mem : zMem) : Option (Int × zMem) := pipe (zup mem 138 0 0) fun m1 => zbind (f_X12_isIn x0 0 1 m1) fun y2 m3 => if y2 = 0 then (some (0, m3)) else (if ix 148 x0 then if (m3 148 x0) = 0 then (some (0, m3)) else (f_X12_restore_1 zN x0 0 m3) else none)
set_option maxHeartbeats 4000000 in
theorem M_X12_restore (l : Launch) (Γ : zG) (F : zFull Γ)  {x0 : Int} (h_x0 : ir x0) (mem : zMem) (q : Int × zMem) (h : f_X12_restore x0 mem = some q) : zMet l yX12_restore cX12_restore 3 (some .boolean) 2 Γ 1 [.ref (zad Γ 138), .int (i32 x0)] mem q := by
  refine zMet_of (own := "ShadowHeirsModel") (by decide) rfl (Nat.le_of_ble_eq_true rfl) (fun X C Z => ?_)
  revert h
  show zJ X Γ 3 q (f_X12_restore x0 mem) 0 [(0, .ref (zad Γ 138)), (1, .int (i32 x0))] [] mem
  unfold f_X12_restore
  refine zj_aload_n (j := 0) (i := 0) C rfl 0 rfl dX12_restore_0 ?_
  refine zj_iconst C 0 dX12_restore_1 ?_
  refine zj_putI C F 0 rfl zk_138 fl_X12_1 rfl fp_12_0 irc_0 dX12_restore_2 ?_
  refine zj_pipeM (fun m1 e_m1 => ?_)
  refine zj_iload_n (j := 1) (i := 1) C rfl 1 rfl dX12_restore_5 ?_
  refine zj_iconst C 0 dX12_restore_6 ?_
  refine zj_iconst C 1 dX12_restore_7 ?_
  refine zj_callSi C Z [.int (i32 x0), .int (i32 0), .int (i32 1)] [] cal_X12_isIn sta_X12_isIn ml_X12_75 rfl (by decide) (Nat.le_of_ble_eq_true rfl) rfl dX12_restore_8 (fun q h => M_X12_isIn l Γ F h_x0 irc_0 irc_1 m1 q h) (fun y2 m3 h_y2 => ?_)
  refine zj_if_eq C 23 h_y2 dX12_restore_11 rfl (fun c4 => ?_) (fun c4 => ?_)
  · refine zj_iconst C 0 dX12_restore_23 ?_
    exact zrt_z C Z (Or.inl rfl) dX12_restore_24
  · refine zj_aload_n (j := 0) (i := 0) C rfl 0 rfl dX12_restore_14 ?_
    refine zj_getR C F zk_138 fl_X12_123 rfl rf_138_22 dX12_restore_15 ?_
    refine zj_iload_n (j := 1) (i := 1) C rfl 1 rfl dX12_restore_18 ?_
    refine zj_baload C F zk_148 h_x0 dX12_restore_19 (fun c5 h6 => ?_)
    refine zj_if_ne C 25 h6 dX12_restore_20 rfl (fun c7 => ?_) (fun c7 => ?_)
    · refine zj_iconst C 0 dX12_restore_23 ?_
      exact zrt_z C Z (Or.inl rfl) dX12_restore_24
    · refine zj_iconst C 0 dX12_restore_25 ?_
      refine zj_istore_n (j := 2) (i := 2) C rfl [(2, .int (i32 0)), (0, .ref (zad Γ 138)), (1, .int (i32 x0))] dX12_restore_26 (by decide) rfl ?_
      exact zj_sub [1, 2, 0] rfl ((L_X12_restore_1 l F C Z zN) x0 0 h_x0 irc_0 m3)
noncomputable def f_X12_count (x0 : Int) (mem : zMem) : Option (Int × zMem) := pipe (zup mem 138 0 0) fun m1 => if x0 = 0 then (if ix 140 0 then some ((m1 140 0), m1) else none) else (if x0 = 1 then (if ix 140 1 then some ((m1 140 1), m1) else none) else (if x0 = 2 then (if ix 140 2 then some ((m1 140 2), m1) else none) else (if x0 = 3 then (if ix 140 3 then some ((m1 140 3), m1) else none) else (if x0 = 4 then (if ix 140 4 then some ((m1 140 4), m1) else none) else (if x0 = 5 then (some ((m1 138 2), m1)) else (some ((-1), m1)))))))
set_option maxHeartbeats 4000000 in
theorem M_X12_count (l : Launch) (Γ : zG) (F : zFull Γ)  {x0 : Int} (h_x0 : ir x0) (mem : zMem) (q : Int × zMem) (h : f_X12_count x0 mem = some q) : zMet l yX12_count cX12_count 2 (some .int) 1 Γ 1 [.ref (zad Γ 138), .int (i32 x0)] mem q := by
  refine zMet_of (own := "ShadowHeirsModel") (by decide) rfl (Nat.le_of_ble_eq_true rfl) (fun X C Z => ?_)
  revert h
  show zJ X Γ 2 q (f_X12_count x0 mem) 0 [(0, .ref (zad Γ 138)), (1, .int (i32 x0))] [] mem
  unfold f_X12_count
  refine zj_aload_n (j := 0) (i := 0) C rfl 0 rfl dX12_count_0 ?_
  refine zj_iconst C 0 dX12_count_1 ?_
  refine zj_putI C F 0 rfl zk_138 fl_X12_1 rfl fp_12_0 irc_0 dX12_count_2 ?_
  refine zj_pipeM (fun m1 e_m1 => ?_)
  refine zj_iload_n (j := 1) (i := 1) C rfl 1 rfl dX12_count_5 ?_
  refine zj_split (fun c2 => ?_) (fun c2 => ?_)
  · refine zj_tableIn (off := 38) C 0 44 h_x0 c2 dX12_count_6 rfl rfl ?_
    refine zj_aload_n (j := 0) (i := 0) C rfl 0 rfl dX12_count_44 ?_
    refine zj_getR C F zk_138 fl_X12_98 rfl rf_138_14 dX12_count_45 ?_
    refine zj_iconst C 0 dX12_count_48 ?_
    refine zj_iaload C F zk_140 irc_0 dX12_count_49 (fun c3 h4 => ?_)
    exact zrt_i C Z h4 dX12_count_50
  · refine zj_split (fun c5 => ?_) (fun c5 => ?_)
    · refine zj_tableIn (off := 45) C 1 51 h_x0 c5 dX12_count_6 rfl rfl ?_
      refine zj_aload_n (j := 0) (i := 0) C rfl 0 rfl dX12_count_51 ?_
      refine zj_getR C F zk_138 fl_X12_98 rfl rf_138_14 dX12_count_52 ?_
      refine zj_iconst C 1 dX12_count_55 ?_
      refine zj_iaload C F zk_140 irc_1 dX12_count_56 (fun c6 h7 => ?_)
      exact zrt_i C Z h7 dX12_count_57
    · refine zj_split (fun c8 => ?_) (fun c8 => ?_)
      · refine zj_tableIn (off := 52) C 2 58 h_x0 c8 dX12_count_6 rfl rfl ?_
        refine zj_aload_n (j := 0) (i := 0) C rfl 0 rfl dX12_count_58 ?_
        refine zj_getR C F zk_138 fl_X12_98 rfl rf_138_14 dX12_count_59 ?_
        refine zj_iconst C 2 dX12_count_62 ?_
        refine zj_iaload C F zk_140 irc_2 dX12_count_63 (fun c9 h10 => ?_)
        exact zrt_i C Z h10 dX12_count_64
      · refine zj_split (fun c11 => ?_) (fun c11 => ?_)
        · refine zj_tableIn (off := 59) C 3 65 h_x0 c11 dX12_count_6 rfl rfl ?_
          refine zj_aload_n (j := 0) (i := 0) C rfl 0 rfl dX12_count_65 ?_
          refine zj_getR C F zk_138 fl_X12_98 rfl rf_138_14 dX12_count_66 ?_
          refine zj_iconst C 3 dX12_count_69 ?_
          refine zj_iaload C F zk_140 irc_3 dX12_count_70 (fun c12 h13 => ?_)
          exact zrt_i C Z h13 dX12_count_71
        · refine zj_split (fun c14 => ?_) (fun c14 => ?_)
          · refine zj_tableIn (off := 66) C 4 72 h_x0 c14 dX12_count_6 rfl rfl ?_
            refine zj_aload_n (j := 0) (i := 0) C rfl 0 rfl dX12_count_72 ?_
            refine zj_getR C F zk_138 fl_X12_98 rfl rf_138_14 dX12_count_73 ?_
            refine zj_iconst C 4 dX12_count_76 ?_
            refine zj_iaload C F zk_140 irc_4 dX12_count_77 (fun c15 h16 => ?_)
            exact zrt_i C Z h16 dX12_count_78
          · refine zj_split (fun c17 => ?_) (fun c17 => ?_)
            · refine zj_tableIn (off := 73) C 5 79 h_x0 c17 dX12_count_6 rfl rfl ?_
              refine zj_aload_n (j := 0) (i := 0) C rfl 0 rfl dX12_count_79 ?_
              refine zj_getI C F 2 rfl zk_138 fl_X12_11 rfl dX12_count_80 (fun h18 => ?_)
              exact zrt_i C Z h18 dX12_count_83
            · refine zj_tableOut C 84 h_x0 dX12_count_6 (by omega) rfl ?_
              refine zj_iconst C (-1) dX12_count_84 ?_
              exact zrt_i C Z irc_m1 dX12_count_85
noncomputable def f_X0_actOf (x0 : Int) (mem : zMem) : Option (Int × zMem) := if x0 = (-1) then (some (0, mem)) else (if x0 = 0 then (some ((-1), mem)) else (if x0 = 1 then (some ((-1), mem)) else (if x0 = 2 then (some ((-1), mem)) else (if x0 = 3 then (some ((-1), mem)) else (if x0 = 4 then (some ((-1), mem)) else (if x0 = 5 then (some ((-1), mem)) else (if x0 = 6 then (some ((-1), mem)) else (if x0 = 7 then (some ((-1), mem)) else (if x0 = 8 then (some ((-1), mem)) else (if x0 = 9 then (some (10, mem)) else (if x0 = 10 then (some (20, mem)) else (if x0 = 11 then (some (30, mem)) else (if x0 = 12 then (some (40, mem)) else (some ((-1), mem)))))))))))))))
set_option maxHeartbeats 4000000 in
theorem M_X0_actOf (l : Launch) (Γ : zG) (F : zFull Γ)  {x0 : Int} (h_x0 : ir x0) (mem : zMem) (q : Int × zMem) (h : f_X0_actOf x0 mem = some q) : zMet l yX0_actOf cX0_actOf 1 (some .int) 1 Γ 1 [.int (i32 x0)] mem q := by
  refine zMet_of (own := "ShadowHeirs$Book") (by decide) rfl (Nat.le_of_ble_eq_true rfl) (fun X C Z => ?_)
  revert h
  show zJ X Γ 1 q (f_X0_actOf x0 mem) 0 [(0, .int (i32 x0))] [] mem
  unfold f_X0_actOf
  refine zj_iload_n (j := 0) (i := 0) C rfl 0 rfl dX0_actOf_0 ?_
  refine zj_split (fun c1 => ?_) (fun c1 => ?_)
  · refine zj_tableIn (off := 71) C (-1) 72 h_x0 c1 dX0_actOf_1 rfl rfl ?_
    refine zj_iconst C 0 dX0_actOf_72 ?_
    exact zrt_i C Z irc_0 dX0_actOf_73
  · refine zj_split (fun c2 => ?_) (fun c2 => ?_)
    · refine zj_tableIn (off := 85) C 0 86 h_x0 c2 dX0_actOf_1 rfl rfl ?_
      refine zj_iconst C (-1) dX0_actOf_86 ?_
      exact zrt_i C Z irc_m1 dX0_actOf_87
    · refine zj_split (fun c3 => ?_) (fun c3 => ?_)
      · refine zj_tableIn (off := 85) C 1 86 h_x0 c3 dX0_actOf_1 rfl rfl ?_
        refine zj_iconst C (-1) dX0_actOf_86 ?_
        exact zrt_i C Z irc_m1 dX0_actOf_87
      · refine zj_split (fun c4 => ?_) (fun c4 => ?_)
        · refine zj_tableIn (off := 85) C 2 86 h_x0 c4 dX0_actOf_1 rfl rfl ?_
          refine zj_iconst C (-1) dX0_actOf_86 ?_
          exact zrt_i C Z irc_m1 dX0_actOf_87
        · refine zj_split (fun c5 => ?_) (fun c5 => ?_)
          · refine zj_tableIn (off := 85) C 3 86 h_x0 c5 dX0_actOf_1 rfl rfl ?_
            refine zj_iconst C (-1) dX0_actOf_86 ?_
            exact zrt_i C Z irc_m1 dX0_actOf_87
          · refine zj_split (fun c6 => ?_) (fun c6 => ?_)
            · refine zj_tableIn (off := 85) C 4 86 h_x0 c6 dX0_actOf_1 rfl rfl ?_
              refine zj_iconst C (-1) dX0_actOf_86 ?_
              exact zrt_i C Z irc_m1 dX0_actOf_87
            · refine zj_split (fun c7 => ?_) (fun c7 => ?_)
              · refine zj_tableIn (off := 85) C 5 86 h_x0 c7 dX0_actOf_1 rfl rfl ?_
                refine zj_iconst C (-1) dX0_actOf_86 ?_
                exact zrt_i C Z irc_m1 dX0_actOf_87
              · refine zj_split (fun c8 => ?_) (fun c8 => ?_)
                · refine zj_tableIn (off := 85) C 6 86 h_x0 c8 dX0_actOf_1 rfl rfl ?_
                  refine zj_iconst C (-1) dX0_actOf_86 ?_
                  exact zrt_i C Z irc_m1 dX0_actOf_87
                · refine zj_split (fun c9 => ?_) (fun c9 => ?_)
                  · refine zj_tableIn (off := 85) C 7 86 h_x0 c9 dX0_actOf_1 rfl rfl ?_
                    refine zj_iconst C (-1) dX0_actOf_86 ?_
                    exact zrt_i C Z irc_m1 dX0_actOf_87
                  · refine zj_split (fun c10 => ?_) (fun c10 => ?_)
                    · refine zj_tableIn (off := 85) C 8 86 h_x0 c10 dX0_actOf_1 rfl rfl ?_
                      refine zj_iconst C (-1) dX0_actOf_86 ?_
                      exact zrt_i C Z irc_m1 dX0_actOf_87
                    · refine zj_split (fun c11 => ?_) (fun c11 => ?_)
                      · refine zj_tableIn (off := 73) C 9 74 h_x0 c11 dX0_actOf_1 rfl rfl ?_
                        refine zj_bipush C 10 rfl dX0_actOf_74 ?_
                        exact zrt_i C Z irc_10 dX0_actOf_76
                      · refine zj_split (fun c12 => ?_) (fun c12 => ?_)
                        · refine zj_tableIn (off := 76) C 10 77 h_x0 c12 dX0_actOf_1 rfl rfl ?_
                          refine zj_bipush C 20 rfl dX0_actOf_77 ?_
                          exact zrt_i C Z irc_20 dX0_actOf_79
                        · refine zj_split (fun c13 => ?_) (fun c13 => ?_)
                          · refine zj_tableIn (off := 79) C 11 80 h_x0 c13 dX0_actOf_1 rfl rfl ?_
                            refine zj_bipush C 30 rfl dX0_actOf_80 ?_
                            exact zrt_i C Z irc_30 dX0_actOf_82
                          · refine zj_split (fun c14 => ?_) (fun c14 => ?_)
                            · refine zj_tableIn (off := 82) C 12 83 h_x0 c14 dX0_actOf_1 rfl rfl ?_
                              refine zj_bipush C 40 rfl dX0_actOf_83 ?_
                              exact zrt_i C Z irc_40 dX0_actOf_85
                            · refine zj_tableOut C 86 h_x0 dX0_actOf_1 (by omega) rfl ?_
                              refine zj_iconst C (-1) dX0_actOf_86 ?_
                              exact zrt_i C Z irc_m1 dX0_actOf_87
noncomputable def f_X1_draw (x0 : Int) (mem : zMem) : Option (Int × zMem) := pipe (zup mem 101 0 (w32 ((w32 ((mem 101 0) * 1103515245)) + 12345))) fun m2 => if x0 ≤ 0 then (some (0, m2)) else (if x0 = 0 then none else some ((zrem (zush (m2 101 0) 8) x0), m2))
set_option maxHeartbeats 4000000 in
theorem M_X1_draw (l : Launch) (Γ : zG) (F : zFull Γ)  {x0 : Int} (h_x0 : ir x0) (mem : zMem) (q : Int × zMem) (h : f_X1_draw x0 mem = some q) : zMet l yX1_draw cX1_draw 2 (some .int) 1 Γ 1 [.ref (zad Γ 101), .int (i32 x0)] mem q := by
  refine zMet_of (own := "ShadowHeirs$Draws") (by decide) rfl (Nat.le_of_ble_eq_true rfl) (fun X C Z => ?_)
  revert h
  show zJ X Γ 2 q (f_X1_draw x0 mem) 0 [(0, .ref (zad Γ 101)), (1, .int (i32 x0))] [] mem
  unfold f_X1_draw
  refine zj_aload_n (j := 0) (i := 0) C rfl 0 rfl dX1_draw_0 ?_
  refine zj_aload_n (j := 0) (i := 0) C rfl 0 rfl dX1_draw_1 ?_
  refine zj_getI C F 0 rfl zk_101 fl_X1_9 rfl dX1_draw_2 (fun h1 => ?_)
  refine zj_ldc C 1103515245 kc_X1_15 dX1_draw_5 ?_
  refine zj_imul C dX1_draw_7 ?_
  refine zj_sipush C 12345 rfl dX1_draw_8 ?_
  refine zj_iadd C dX1_draw_11 ?_
  refine zj_putI C F 0 rfl zk_101 fl_X1_9 rfl fp_1_0 (ir_w _) dX1_draw_12 ?_
  refine zj_pipeM (fun m2 e_m2 => ?_)
  refine zj_iload_n (j := 1) (i := 1) C rfl 1 rfl dX1_draw_15 ?_
  refine zj_if_le C 31 h_x0 dX1_draw_16 rfl (fun c3 => ?_) (fun c3 => ?_)
  · refine zj_iconst C 0 dX1_draw_31 ?_
    exact zrt_i C Z irc_0 dX1_draw_32
  · refine zj_aload_n (j := 0) (i := 0) C rfl 0 rfl dX1_draw_19 ?_
    refine zj_getI C F 0 rfl zk_101 fl_X1_9 rfl dX1_draw_20 (fun h4 => ?_)
    refine zj_bipush C 8 rfl dX1_draw_23 ?_
    refine zj_iushr C dX1_draw_25 ?_
    refine zj_iload_n (j := 1) (i := 1) C rfl 1 rfl dX1_draw_26 ?_
    refine zj_irem C h_x0 dX1_draw_27 (fun c5 => ?_)
    refine zj_goto (tgt := 32) C dX1_draw_28 rfl ?_
    exact zrt_i C Z (ir_toInt _) dX1_draw_32
noncomputable def f_X2_clear  (mem : zMem) : Option (Int × zMem) := pipe (zup mem 53 2 0) fun m1 => some (0, m1)
set_option maxHeartbeats 4000000 in
theorem M_X2_clear (l : Launch) (Γ : zG) (F : zFull Γ)    (mem : zMem) (q : Int × zMem) (h : f_X2_clear  mem = some q) : zMet l yX2_clear cX2_clear 1 none 1 Γ 0 [.ref (zad Γ 53)] mem q := by
  refine zMet_of (own := "ShadowHeirs$History") (by decide) rfl (Nat.le_of_ble_eq_true rfl) (fun X C Z => ?_)
  revert h
  show zJ X Γ 1 q (f_X2_clear  mem) 0 [(0, .ref (zad Γ 53))] [] mem
  unfold f_X2_clear
  refine zj_aload_n (j := 0) (i := 0) C rfl 0 rfl dX2_clear_0 ?_
  refine zj_iconst C 0 dX2_clear_1 ?_
  refine zj_putI C F 2 rfl zk_53 fl_X2_19 rfl fp_2_2 irc_0 dX2_clear_2 ?_
  refine zj_pipeM (fun m1 e_m1 => ?_)
  exact zrt_v C Z dX2_clear_5
noncomputable def b_X3_heightAt_0 (rec : Nat → Int → Int → zMem → Option (Int × zMem)) (r0 : Nat) (v1 : Int) (v2 : Int) (mem : zMem) : Option (Int × zMem) := if v2 ≥ (mem (sRf r0 0) 2) then (if ix ((sRf r0 1) + 1) v1 then some ((mem ((sRf r0 1) + 1) v1), mem) else none) else (if v2 ≥ 5 then (if ix ((sRf r0 1) + 1) v1 then some ((mem ((sRf r0 1) + 1) v1), mem) else none) else (if ix ((sRf r0 0) + 1) v2 then if (mem ((sRf r0 0) + 1) v2) = v1 then (if ix ((sRf r0 0) + 2) v2 then some ((mem ((sRf r0 0) + 2) v2), mem) else none) else (rec r0 v1 (w32 (v2 + 1)) mem) else none))
noncomputable def f_X3_heightAt_0 : Nat → Nat → Int → Int → zMem → Option (Int × zMem) := zfuel (fun _ _ _ _ => none) (b_X3_heightAt_0)
set_option maxHeartbeats 4000000 in
theorem L_X3_heightAt_0 (l : Launch) {Γ : zG} (F : zFull Γ) {X : zM} {q : Int × zMem} (C : zC X Γ "ShadowHeirs$Island" cX3_heightAt 3) (Z : zRt X l Γ 1 1 (some .int) q) : ∀ n : Nat, ∀ (r0 : Nat) (v1 : Int) (v2 : Int) (h_r0 : zk r0 3) (h_v1 : ir v1) (h_v2 : ir v2) (mem : zMem), zJ X Γ 3 q (f_X3_heightAt_0 n r0 v1 v2 mem) 14 [(0, .ref (zad Γ r0)), (1, .int (i32 v1)), (2, .int (i32 v2))] [] mem := by
  intro n
  induction n with
  | zero => intros; exact zj_none
  | succ n ih =>
    intro r0 v1 v2 h_r0 h_v1 h_v2 mem
    show zJ X Γ 3 q (b_X3_heightAt_0 (f_X3_heightAt_0 n) r0 v1 v2 mem) _ _ _ _
    unfold b_X3_heightAt_0
    refine zj_iload_n (j := 2) (i := 2) C rfl 2 rfl dX3_heightAt_14 ?_
    refine zj_aload_n (j := 0) (i := 0) C rfl 0 rfl dX3_heightAt_15 ?_
    refine zj_getR C F h_r0 fl_X3_9 rfl rfl dX3_heightAt_16 ?_
    refine zj_getI C F 2 rfl (zt_3_0 h_r0) fl_X3_39 rfl dX3_heightAt_19 (fun h1 => ?_)
    refine zj_icmp_ge C 59 h_v2 h1 dX3_heightAt_22 rfl (fun c2 => ?_) (fun c2 => ?_)
    · refine zj_aload_n (j := 0) (i := 0) C rfl 0 rfl dX3_heightAt_59 ?_
      refine zj_getR C F h_r0 fl_X3_15 rfl rfl dX3_heightAt_60 ?_
      refine zj_getR C F (zt_3_1 h_r0) fl_X3_50 rfl (rfo_7_0 (zt_3_1 h_r0)) dX3_heightAt_63 ?_
      refine zj_iload_n (j := 1) (i := 1) C rfl 1 rfl dX3_heightAt_66 ?_
      refine zj_iaload C F (zko_7_0 (zt_3_1 h_r0)) h_v1 dX3_heightAt_67 (fun c3 h4 => ?_)
      exact zrt_i C Z h4 dX3_heightAt_68
    · refine zj_iload_n (j := 2) (i := 2) C rfl 2 rfl dX3_heightAt_25 ?_
      refine zj_iconst C 5 dX3_heightAt_26 ?_
      refine zj_icmp_ge C 59 h_v2 irc_5 dX3_heightAt_27 rfl (fun c5 => ?_) (fun c5 => ?_)
      · refine zj_aload_n (j := 0) (i := 0) C rfl 0 rfl dX3_heightAt_59 ?_
        refine zj_getR C F h_r0 fl_X3_15 rfl rfl dX3_heightAt_60 ?_
        refine zj_getR C F (zt_3_1 h_r0) fl_X3_50 rfl (rfo_7_0 (zt_3_1 h_r0)) dX3_heightAt_63 ?_
        refine zj_iload_n (j := 1) (i := 1) C rfl 1 rfl dX3_heightAt_66 ?_
        refine zj_iaload C F (zko_7_0 (zt_3_1 h_r0)) h_v1 dX3_heightAt_67 (fun c6 h7 => ?_)
        exact zrt_i C Z h7 dX3_heightAt_68
      · refine zj_aload_n (j := 0) (i := 0) C rfl 0 rfl dX3_heightAt_30 ?_
        refine zj_getR C F h_r0 fl_X3_9 rfl rfl dX3_heightAt_31 ?_
        refine zj_getR C F (zt_3_0 h_r0) fl_X3_43 rfl (rfo_5_5 (zt_3_0 h_r0)) dX3_heightAt_34 ?_
        refine zj_iload_n (j := 2) (i := 2) C rfl 2 rfl dX3_heightAt_37 ?_
        refine zj_iaload C F (zko_5_5 (zt_3_0 h_r0)) h_v2 dX3_heightAt_38 (fun c8 h9 => ?_)
        refine zj_iload_n (j := 1) (i := 1) C rfl 1 rfl dX3_heightAt_39 ?_
        refine zj_icmp_ne C 53 h9 h_v1 dX3_heightAt_40 rfl (fun c10 => ?_) (fun c10 => ?_)
        · refine zj_aload_n (j := 0) (i := 0) C rfl 0 rfl dX3_heightAt_43 ?_
          refine zj_getR C F h_r0 fl_X3_9 rfl rfl dX3_heightAt_44 ?_
          refine zj_getR C F (zt_3_0 h_r0) fl_X3_47 rfl (rfo_5_6 (zt_3_0 h_r0)) dX3_heightAt_47 ?_
          refine zj_iload_n (j := 2) (i := 2) C rfl 2 rfl dX3_heightAt_50 ?_
          refine zj_iaload C F (zko_5_6 (zt_3_0 h_r0)) h_v2 dX3_heightAt_51 (fun c11 h12 => ?_)
          exact zrt_i C Z h12 dX3_heightAt_52
        · refine zj_iinc C 2 [(2, .int (i32 (w32 (v2 + 1)))), (0, .ref (zad Γ r0)), (1, .int (i32 v1))] rfl dX3_heightAt_53 (by decide) rfl ?_
          refine zj_goto (tgt := 14) C dX3_heightAt_56 rfl ?_
          exact zj_sub [1, 2, 0] rfl (ih r0 v1 (w32 (v2 + 1)) h_r0 h_v1 (ir_w _) mem)
noncomputable def f_X3_heightAt (t0 : Nat) (x1 : Int) (mem : zMem) : Option (Int × zMem) := if x1 < 0 then (some (0, mem)) else (if x1 < 64 then (f_X3_heightAt_0 zN t0 x1 0 mem) else (some (0, mem)))
set_option maxHeartbeats 4000000 in
theorem M_X3_heightAt (l : Launch) (Γ : zG) (F : zFull Γ)  {t0 : Nat} {x1 : Int} (h_t0 : zk t0 3) (h_x1 : ir x1) (mem : zMem) (q : Int × zMem) (h : f_X3_heightAt t0 x1 mem = some q) : zMet l yX3_heightAt cX3_heightAt 3 (some .int) 1 Γ 1 [.ref (zad Γ t0), .int (i32 x1)] mem q := by
  refine zMet_of (own := "ShadowHeirs$Island") (by decide) rfl (Nat.le_of_ble_eq_true rfl) (fun X C Z => ?_)
  revert h
  show zJ X Γ 3 q (f_X3_heightAt t0 x1 mem) 0 [(0, .ref (zad Γ t0)), (1, .int (i32 x1))] [] mem
  unfold f_X3_heightAt
  refine zj_iload_n (j := 1) (i := 1) C rfl 1 rfl dX3_heightAt_0 ?_
  refine zj_if_lt C 10 h_x1 dX3_heightAt_1 rfl (fun c1 => ?_) (fun c1 => ?_)
  · refine zj_iconst C 0 dX3_heightAt_10 ?_
    exact zrt_i C Z irc_0 dX3_heightAt_11
  · refine zj_iload_n (j := 1) (i := 1) C rfl 1 rfl dX3_heightAt_4 ?_
    refine zj_bipush C 64 rfl dX3_heightAt_5 ?_
    refine zj_icmp_lt C 12 h_x1 irc_64 dX3_heightAt_7 rfl (fun c2 => ?_) (fun c2 => ?_)
    · refine zj_iconst C 0 dX3_heightAt_12 ?_
      refine zj_istore_n (j := 2) (i := 2) C rfl [(2, .int (i32 0)), (0, .ref (zad Γ t0)), (1, .int (i32 x1))] dX3_heightAt_13 (by decide) rfl ?_
      exact zj_sub [1, 2, 0] rfl ((L_X3_heightAt_0 l F C Z zN) t0 x1 0 h_t0 h_x1 irc_0 mem)
    · refine zj_iconst C 0 dX3_heightAt_10 ?_
      exact zrt_i C Z irc_0 dX3_heightAt_11
noncomputable def b_X3_personsOn_0 (rec : Nat → Int → Int → Int → zMem → Option (Int × zMem)) (r0 : Nat) (v1 : Int) (v2 : Int) (v3 : Int) (mem : zMem) : Option (Int × zMem) := if v3 ≥ (mem (sRf r0 0) 3) then (some (v2, mem)) else (if v3 ≥ 6 then (some (v2, mem)) else (if ix ((sRf r0 1) + 2) v3 then if (mem ((sRf r0 1) + 2) v3) = v1 then (pipe (zor v2 (zshl 1 v3)) fun y7 => rec r0 v1 y7 (w32 (v3 + 1)) mem) else (rec r0 v1 v2 (w32 (v3 + 1)) mem) else none))
noncomputable def f_X3_personsOn_0 : Nat → Nat → Int → Int → Int → zMem → Option (Int × zMem) := zfuel (fun _ _ _ _ _ => none) (b_X3_personsOn_0)
set_option maxHeartbeats 4000000 in
theorem L_X3_personsOn_0 (l : Launch) {Γ : zG} (F : zFull Γ) {X : zM} {q : Int × zMem} (C : zC X Γ "ShadowHeirs$Island" cX3_personsOn 4) (Z : zRt X l Γ 1 1 (some .int) q) : ∀ n : Nat, ∀ (r0 : Nat) (v1 : Int) (v2 : Int) (v3 : Int) (h_r0 : zk r0 3) (h_v1 : ir v1) (h_v2 : ir v2) (h_v3 : ir v3) (mem : zMem), zJ X Γ 4 q (f_X3_personsOn_0 n r0 v1 v2 v3 mem) 4 [(0, .ref (zad Γ r0)), (1, .int (i32 v1)), (2, .int (i32 v2)), (3, .int (i32 v3))] [] mem := by
  intro n
  induction n with
  | zero => intros; exact zj_none
  | succ n ih =>
    intro r0 v1 v2 v3 h_r0 h_v1 h_v2 h_v3 mem
    show zJ X Γ 4 q (b_X3_personsOn_0 (f_X3_personsOn_0 n) r0 v1 v2 v3 mem) _ _ _ _
    unfold b_X3_personsOn_0
    refine zj_iload_n (j := 3) (i := 3) C rfl 3 rfl dX3_personsOn_4 ?_
    refine zj_aload_n (j := 0) (i := 0) C rfl 0 rfl dX3_personsOn_5 ?_
    refine zj_getR C F h_r0 fl_X3_9 rfl rfl dX3_personsOn_6 ?_
    refine zj_getI C F 3 rfl (zt_3_0 h_r0) fl_X3_53 rfl dX3_personsOn_9 (fun h1 => ?_)
    refine zj_icmp_ge C 46 h_v3 h1 dX3_personsOn_12 rfl (fun c2 => ?_) (fun c2 => ?_)
    · refine zj_iload_n (j := 2) (i := 2) C rfl 2 rfl dX3_personsOn_46 ?_
      exact zrt_i C Z h_v2 dX3_personsOn_47
    · refine zj_iload_n (j := 3) (i := 3) C rfl 3 rfl dX3_personsOn_15 ?_
      refine zj_bipush C 6 rfl dX3_personsOn_16 ?_
      refine zj_icmp_ge C 46 h_v3 irc_6 dX3_personsOn_18 rfl (fun c3 => ?_) (fun c3 => ?_)
      · refine zj_iload_n (j := 2) (i := 2) C rfl 2 rfl dX3_personsOn_46 ?_
        exact zrt_i C Z h_v2 dX3_personsOn_47
      · refine zj_aload_n (j := 0) (i := 0) C rfl 0 rfl dX3_personsOn_21 ?_
        refine zj_getR C F h_r0 fl_X3_15 rfl rfl dX3_personsOn_22 ?_
        refine zj_getR C F (zt_3_1 h_r0) fl_X3_56 rfl (rfo_7_1 (zt_3_1 h_r0)) dX3_personsOn_25 ?_
        refine zj_iload_n (j := 3) (i := 3) C rfl 3 rfl dX3_personsOn_28 ?_
        refine zj_iaload C F (zko_7_1 (zt_3_1 h_r0)) h_v3 dX3_personsOn_29 (fun c4 h5 => ?_)
        refine zj_iload_n (j := 1) (i := 1) C rfl 1 rfl dX3_personsOn_30 ?_
        refine zj_icmp_ne C 40 h5 h_v1 dX3_personsOn_31 rfl (fun c6 => ?_) (fun c6 => ?_)
        · refine zj_iload_n (j := 2) (i := 2) C rfl 2 rfl dX3_personsOn_34 ?_
          refine zj_iconst C 1 dX3_personsOn_35 ?_
          refine zj_iload_n (j := 3) (i := 3) C rfl 3 rfl dX3_personsOn_36 ?_
          refine zj_ishl C dX3_personsOn_37 ?_
          refine zj_ior C dX3_personsOn_38 ?_
          refine zj_pipeI (fun y7 e_y7 => ?_)
          have h_y7 := ir_eq e_y7 (ir_toInt _)
          refine zj_istore_n (j := 2) (i := 2) C rfl [(2, .int (i32 y7)), (0, .ref (zad Γ r0)), (1, .int (i32 v1)), (3, .int (i32 v3))] dX3_personsOn_39 (by decide) rfl ?_
          refine zj_iinc C 3 [(3, .int (i32 (w32 (v3 + 1)))), (2, .int (i32 y7)), (0, .ref (zad Γ r0)), (1, .int (i32 v1))] rfl dX3_personsOn_40 (by decide) rfl ?_
          refine zj_goto (tgt := 4) C dX3_personsOn_43 rfl ?_
          exact zj_sub [2, 3, 1, 0] rfl (ih r0 v1 y7 (w32 (v3 + 1)) h_r0 h_v1 h_y7 (ir_w _) mem)
        · refine zj_iinc C 3 [(3, .int (i32 (w32 (v3 + 1)))), (0, .ref (zad Γ r0)), (1, .int (i32 v1)), (2, .int (i32 v2))] rfl dX3_personsOn_40 (by decide) rfl ?_
          refine zj_goto (tgt := 4) C dX3_personsOn_43 rfl ?_
          exact zj_sub [1, 2, 3, 0] rfl (ih r0 v1 v2 (w32 (v3 + 1)) h_r0 h_v1 h_v2 (ir_w _) mem)
noncomputable def f_X3_personsOn (t0 : Nat) (x1 : Int) (mem : zMem) : Option (Int × zMem) := f_X3_personsOn_0 zN t0 x1 0 0 mem
set_option maxHeartbeats 4000000 in
theorem M_X3_personsOn (l : Launch) (Γ : zG) (F : zFull Γ)  {t0 : Nat} {x1 : Int} (h_t0 : zk t0 3) (h_x1 : ir x1) (mem : zMem) (q : Int × zMem) (h : f_X3_personsOn t0 x1 mem = some q) : zMet l yX3_personsOn cX3_personsOn 4 (some .int) 1 Γ 1 [.ref (zad Γ t0), .int (i32 x1)] mem q := by
  refine zMet_of (own := "ShadowHeirs$Island") (by decide) rfl (Nat.le_of_ble_eq_true rfl) (fun X C Z => ?_)
  revert h
  show zJ X Γ 4 q (f_X3_personsOn t0 x1 mem) 0 [(0, .ref (zad Γ t0)), (1, .int (i32 x1))] [] mem
  unfold f_X3_personsOn
  refine zj_iconst C 0 dX3_personsOn_0 ?_
  refine zj_istore_n (j := 2) (i := 2) C rfl [(2, .int (i32 0)), (0, .ref (zad Γ t0)), (1, .int (i32 x1))] dX3_personsOn_1 (by decide) rfl ?_
  refine zj_iconst C 0 dX3_personsOn_2 ?_
  refine zj_istore_n (j := 3) (i := 3) C rfl [(3, .int (i32 0)), (2, .int (i32 0)), (0, .ref (zad Γ t0)), (1, .int (i32 x1))] dX3_personsOn_3 (by decide) rfl ?_
  exact zj_sub [2, 3, 1, 0] rfl ((L_X3_personsOn_0 l F C Z zN) t0 x1 0 0 h_t0 h_x1 irc_0 irc_0 mem)
noncomputable def f_X3_tableHour (t0 : Nat) (mem : zMem) : Option (Int × zMem) := if (mem (sRf t0 0) 4) ≤ 0 then (some ((-1), mem)) else (if (mem (sRf t0 0) 4) = 0 then none else some ((zrem (mem (sRf t0 1) 5) (mem (sRf t0 0) 4)), mem))
set_option maxHeartbeats 4000000 in
theorem M_X3_tableHour (l : Launch) (Γ : zG) (F : zFull Γ)  {t0 : Nat} (h_t0 : zk t0 3) (mem : zMem) (q : Int × zMem) (h : f_X3_tableHour t0 mem = some q) : zMet l yX3_tableHour cX3_tableHour 1 (some .int) 1 Γ 1 [.ref (zad Γ t0)] mem q := by
  refine zMet_of (own := "ShadowHeirs$Island") (by decide) rfl (Nat.le_of_ble_eq_true rfl) (fun X C Z => ?_)
  revert h
  show zJ X Γ 1 q (f_X3_tableHour t0 mem) 0 [(0, .ref (zad Γ t0))] [] mem
  unfold f_X3_tableHour
  refine zj_aload_n (j := 0) (i := 0) C rfl 0 rfl dX3_tableHour_0 ?_
  refine zj_getR C F h_t0 fl_X3_9 rfl rfl dX3_tableHour_1 ?_
  refine zj_getI C F 4 rfl (zt_3_0 h_t0) fl_X3_59 rfl dX3_tableHour_4 (fun h1 => ?_)
  refine zj_if_le C 28 h1 dX3_tableHour_7 rfl (fun c2 => ?_) (fun c2 => ?_)
  · refine zj_iconst C (-1) dX3_tableHour_28 ?_
    exact zrt_i C Z irc_m1 dX3_tableHour_29
  · refine zj_aload_n (j := 0) (i := 0) C rfl 0 rfl dX3_tableHour_10 ?_
    refine zj_getR C F h_t0 fl_X3_15 rfl rfl dX3_tableHour_11 ?_
    refine zj_getI C F 5 rfl (zt_3_1 h_t0) fl_X3_62 rfl dX3_tableHour_14 (fun h3 => ?_)
    refine zj_aload_n (j := 0) (i := 0) C rfl 0 rfl dX3_tableHour_17 ?_
    refine zj_getR C F h_t0 fl_X3_9 rfl rfl dX3_tableHour_18 ?_
    refine zj_getI C F 4 rfl (zt_3_0 h_t0) fl_X3_59 rfl dX3_tableHour_21 (fun h4 => ?_)
    refine zj_irem C h4 dX3_tableHour_24 (fun c5 => ?_)
    refine zj_goto (tgt := 29) C dX3_tableHour_25 rfl ?_
    exact zrt_i C Z (ir_toInt _) dX3_tableHour_29
noncomputable def f_X3_layStone (t0 : Nat) (x1 : Int) (mem : zMem) : Option (Int × zMem) := if x1 < 0 then (some (0, mem)) else (if x1 ≥ 64 then (some (0, mem)) else (if ix ((sRf t0 1) + 1) x1 then if ix ((sRf t0 1) + 1) x1 then pipe (zup mem ((sRf t0 1) + 1) x1 (w32 ((mem ((sRf t0 1) + 1) x1) + 1))) fun m6 => pipe (zup m6 (sRf t0 1) 8 (w32 ((m6 (sRf t0 1) 8) + 1))) fun m8 => some (0, m8) else none else none))
set_option maxHeartbeats 4000000 in
theorem M_X3_layStone (l : Launch) (Γ : zG) (F : zFull Γ)  {t0 : Nat} {x1 : Int} (h_t0 : zk t0 3) (h_x1 : ir x1) (mem : zMem) (q : Int × zMem) (h : f_X3_layStone t0 x1 mem = some q) : zMet l yX3_layStone cX3_layStone 2 none 1 Γ 0 [.ref (zad Γ t0), .int (i32 x1)] mem q := by
  refine zMet_of (own := "ShadowHeirs$Island") (by decide) rfl (Nat.le_of_ble_eq_true rfl) (fun X C Z => ?_)
  revert h
  show zJ X Γ 2 q (f_X3_layStone t0 x1 mem) 0 [(0, .ref (zad Γ t0)), (1, .int (i32 x1))] [] mem
  unfold f_X3_layStone
  refine zj_iload_n (j := 1) (i := 1) C rfl 1 rfl dX3_layStone_0 ?_
  refine zj_if_lt C 36 h_x1 dX3_layStone_1 rfl (fun c1 => ?_) (fun c1 => ?_)
  · exact zrt_v C Z dX3_layStone_36
  · refine zj_iload_n (j := 1) (i := 1) C rfl 1 rfl dX3_layStone_4 ?_
    refine zj_bipush C 64 rfl dX3_layStone_5 ?_
    refine zj_icmp_ge C 36 h_x1 irc_64 dX3_layStone_7 rfl (fun c2 => ?_) (fun c2 => ?_)
    · exact zrt_v C Z dX3_layStone_36
    · refine zj_aload_n (j := 0) (i := 0) C rfl 0 rfl dX3_layStone_10 ?_
      refine zj_getR C F h_t0 fl_X3_15 rfl rfl dX3_layStone_11 ?_
      refine zj_getR C F (zt_3_1 h_t0) fl_X3_50 rfl (rfo_7_0 (zt_3_1 h_t0)) dX3_layStone_14 ?_
      refine zj_iload_n (j := 1) (i := 1) C rfl 1 rfl dX3_layStone_17 ?_
      refine zj_dup2 C rfl rfl dX3_layStone_18 ?_
      refine zj_iaload C F (zko_7_0 (zt_3_1 h_t0)) h_x1 dX3_layStone_19 (fun c3 h4 => ?_)
      refine zj_iconst C 1 dX3_layStone_20 ?_
      refine zj_iadd C dX3_layStone_21 ?_
      refine zj_iastore C F (zko_7_0 (zt_3_1 h_t0)) h_x1 (ir_w _) dX3_layStone_22 (fun c5 => ?_)
      refine zj_pipeM (fun m6 e_m6 => ?_)
      refine zj_aload_n (j := 0) (i := 0) C rfl 0 rfl dX3_layStone_23 ?_
      refine zj_getR C F h_t0 fl_X3_15 rfl rfl dX3_layStone_24 ?_
      refine zj_dup C rfl dX3_layStone_27 ?_
      refine zj_getI C F 8 rfl (zt_3_1 h_t0) fl_X3_124 rfl dX3_layStone_28 (fun h7 => ?_)
      refine zj_iconst C 1 dX3_layStone_31 ?_
      refine zj_iadd C dX3_layStone_32 ?_
      refine zj_putI C F 8 rfl (zt_3_1 h_t0) fl_X3_124 rfl fp_7_8 (ir_w _) dX3_layStone_33 ?_
      refine zj_pipeM (fun m8 e_m8 => ?_)
      exact zrt_v C Z dX3_layStone_36
noncomputable def f_X3_whyNotTear (t0 : Nat) (x1 : Int) (mem : zMem) : Option (Int × zMem) := if x1 < 0 then (some (1, mem)) else (if x1 ≥ 64 then (some (1, mem)) else (if ix ((sRf t0 1) + 1) x1 then if (mem ((sRf t0 1) + 1) x1) ≤ 0 then (some (1, mem)) else (some (0, mem)) else none))
set_option maxHeartbeats 4000000 in
theorem M_X3_whyNotTear (l : Launch) (Γ : zG) (F : zFull Γ)  {t0 : Nat} {x1 : Int} (h_t0 : zk t0 3) (h_x1 : ir x1) (mem : zMem) (q : Int × zMem) (h : f_X3_whyNotTear t0 x1 mem = some q) : zMet l yX3_whyNotTear cX3_whyNotTear 2 (some .int) 1 Γ 1 [.ref (zad Γ t0), .int (i32 x1)] mem q := by
  refine zMet_of (own := "ShadowHeirs$Island") (by decide) rfl (Nat.le_of_ble_eq_true rfl) (fun X C Z => ?_)
  revert h
  show zJ X Γ 2 q (f_X3_whyNotTear t0 x1 mem) 0 [(0, .ref (zad Γ t0)), (1, .int (i32 x1))] [] mem
  unfold f_X3_whyNotTear
  refine zj_iload_n (j := 1) (i := 1) C rfl 1 rfl dX3_whyNotTear_0 ?_
  refine zj_if_lt C 26 h_x1 dX3_whyNotTear_1 rfl (fun c1 => ?_) (fun c1 => ?_)
  · refine zj_iconst C 1 dX3_whyNotTear_26 ?_
    exact zrt_i C Z irc_1 dX3_whyNotTear_27
  · refine zj_iload_n (j := 1) (i := 1) C rfl 1 rfl dX3_whyNotTear_4 ?_
    refine zj_bipush C 64 rfl dX3_whyNotTear_5 ?_
    refine zj_icmp_ge C 26 h_x1 irc_64 dX3_whyNotTear_7 rfl (fun c2 => ?_) (fun c2 => ?_)
    · refine zj_iconst C 1 dX3_whyNotTear_26 ?_
      exact zrt_i C Z irc_1 dX3_whyNotTear_27
    · refine zj_aload_n (j := 0) (i := 0) C rfl 0 rfl dX3_whyNotTear_10 ?_
      refine zj_getR C F h_t0 fl_X3_15 rfl rfl dX3_whyNotTear_11 ?_
      refine zj_getR C F (zt_3_1 h_t0) fl_X3_50 rfl (rfo_7_0 (zt_3_1 h_t0)) dX3_whyNotTear_14 ?_
      refine zj_iload_n (j := 1) (i := 1) C rfl 1 rfl dX3_whyNotTear_17 ?_
      refine zj_iaload C F (zko_7_0 (zt_3_1 h_t0)) h_x1 dX3_whyNotTear_18 (fun c3 h4 => ?_)
      refine zj_if_le C 26 h4 dX3_whyNotTear_19 rfl (fun c5 => ?_) (fun c5 => ?_)
      · refine zj_iconst C 1 dX3_whyNotTear_26 ?_
        exact zrt_i C Z irc_1 dX3_whyNotTear_27
      · refine zj_iconst C 0 dX3_whyNotTear_22 ?_
        refine zj_goto (tgt := 27) C dX3_whyNotTear_23 rfl ?_
        exact zrt_i C Z irc_0 dX3_whyNotTear_27
noncomputable def f_X3_tearStone (t0 : Nat) (x1 : Int) (mem : zMem) : Option (Int × zMem) := if x1 < 0 then (some (0, mem)) else (if x1 ≥ 64 then (some (0, mem)) else (if ix ((sRf t0 1) + 1) x1 then if ix ((sRf t0 1) + 1) x1 then pipe (zup mem ((sRf t0 1) + 1) x1 (w32 ((mem ((sRf t0 1) + 1) x1) - 1))) fun m6 => some (0, m6) else none else none))
set_option maxHeartbeats 4000000 in
theorem M_X3_tearStone (l : Launch) (Γ : zG) (F : zFull Γ)  {t0 : Nat} {x1 : Int} (h_t0 : zk t0 3) (h_x1 : ir x1) (mem : zMem) (q : Int × zMem) (h : f_X3_tearStone t0 x1 mem = some q) : zMet l yX3_tearStone cX3_tearStone 2 none 1 Γ 0 [.ref (zad Γ t0), .int (i32 x1)] mem q := by
  refine zMet_of (own := "ShadowHeirs$Island") (by decide) rfl (Nat.le_of_ble_eq_true rfl) (fun X C Z => ?_)
  revert h
  show zJ X Γ 2 q (f_X3_tearStone t0 x1 mem) 0 [(0, .ref (zad Γ t0)), (1, .int (i32 x1))] [] mem
  unfold f_X3_tearStone
  refine zj_iload_n (j := 1) (i := 1) C rfl 1 rfl dX3_tearStone_0 ?_
  refine zj_if_lt C 23 h_x1 dX3_tearStone_1 rfl (fun c1 => ?_) (fun c1 => ?_)
  · exact zrt_v C Z dX3_tearStone_23
  · refine zj_iload_n (j := 1) (i := 1) C rfl 1 rfl dX3_tearStone_4 ?_
    refine zj_bipush C 64 rfl dX3_tearStone_5 ?_
    refine zj_icmp_ge C 23 h_x1 irc_64 dX3_tearStone_7 rfl (fun c2 => ?_) (fun c2 => ?_)
    · exact zrt_v C Z dX3_tearStone_23
    · refine zj_aload_n (j := 0) (i := 0) C rfl 0 rfl dX3_tearStone_10 ?_
      refine zj_getR C F h_t0 fl_X3_15 rfl rfl dX3_tearStone_11 ?_
      refine zj_getR C F (zt_3_1 h_t0) fl_X3_50 rfl (rfo_7_0 (zt_3_1 h_t0)) dX3_tearStone_14 ?_
      refine zj_iload_n (j := 1) (i := 1) C rfl 1 rfl dX3_tearStone_17 ?_
      refine zj_dup2 C rfl rfl dX3_tearStone_18 ?_
      refine zj_iaload C F (zko_7_0 (zt_3_1 h_t0)) h_x1 dX3_tearStone_19 (fun c3 h4 => ?_)
      refine zj_iconst C 1 dX3_tearStone_20 ?_
      refine zj_isub C dX3_tearStone_21 ?_
      refine zj_iastore C F (zko_7_0 (zt_3_1 h_t0)) h_x1 (ir_w _) dX3_tearStone_22 (fun c5 => ?_)
      refine zj_pipeM (fun m6 e_m6 => ?_)
      exact zrt_v C Z dX3_tearStone_23
noncomputable def f_X5_clear (t0 : Nat) (mem : zMem) : Option (Int × zMem) := pipe (zup mem t0 0 5) fun m1 => pipe (zup m1 t0 1 5) fun m2 => pipe (zup m2 t0 2 0) fun m3 => pipe (zup m3 t0 3 0) fun m4 => pipe (zup m4 t0 4 0) fun m5 => some (0, m5)
set_option maxHeartbeats 4000000 in
theorem M_X5_clear (l : Launch) (Γ : zG) (F : zFull Γ)  {t0 : Nat} (h_t0 : zk t0 5) (mem : zMem) (q : Int × zMem) (h : f_X5_clear t0 mem = some q) : zMet l yX5_clear cX5_clear 1 none 1 Γ 0 [.ref (zad Γ t0)] mem q := by
  refine zMet_of (own := "ShadowHeirs$Plan") (by decide) rfl (Nat.le_of_ble_eq_true rfl) (fun X C Z => ?_)
  revert h
  show zJ X Γ 1 q (f_X5_clear t0 mem) 0 [(0, .ref (zad Γ t0))] [] mem
  unfold f_X5_clear
  refine zj_aload_n (j := 0) (i := 0) C rfl 0 rfl dX5_clear_0 ?_
  refine zj_iconst C 5 dX5_clear_1 ?_
  refine zj_putI C F 0 rfl h_t0 fl_X5_11 rfl fp_5_0 irc_5 dX5_clear_2 ?_
  refine zj_pipeM (fun m1 e_m1 => ?_)
  refine zj_aload_n (j := 0) (i := 0) C rfl 0 rfl dX5_clear_5 ?_
  refine zj_iconst C 5 dX5_clear_6 ?_
  refine zj_putI C F 1 rfl h_t0 fl_X5_15 rfl fp_5_1 irc_5 dX5_clear_7 ?_
  refine zj_pipeM (fun m2 e_m2 => ?_)
  refine zj_aload_n (j := 0) (i := 0) C rfl 0 rfl dX5_clear_10 ?_
  refine zj_iconst C 0 dX5_clear_11 ?_
  refine zj_putI C F 2 rfl h_t0 fl_X5_18 rfl fp_5_2 irc_0 dX5_clear_12 ?_
  refine zj_pipeM (fun m3 e_m3 => ?_)
  refine zj_aload_n (j := 0) (i := 0) C rfl 0 rfl dX5_clear_15 ?_
  refine zj_iconst C 0 dX5_clear_16 ?_
  refine zj_putI C F 3 rfl h_t0 fl_X5_21 rfl fp_5_3 irc_0 dX5_clear_17 ?_
  refine zj_pipeM (fun m4 e_m4 => ?_)
  refine zj_aload_n (j := 0) (i := 0) C rfl 0 rfl dX5_clear_20 ?_
  refine zj_iconst C 0 dX5_clear_21 ?_
  refine zj_putI C F 4 rfl h_t0 fl_X5_24 rfl fp_5_4 irc_0 dX5_clear_22 ?_
  refine zj_pipeM (fun m5 e_m5 => ?_)
  exact zrt_v C Z dX5_clear_25
