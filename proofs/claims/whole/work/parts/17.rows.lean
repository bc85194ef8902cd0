noncomputable def f_X11_cell (x0 : Int) (x1 : Int) (x2 : Int) (mem : zMem) : Option (Int × zMem) := zbind (f_X5_hasCell 4 x0 x1 mem) fun y1 m2 => if y1 = 0 then (some ((-1), m2)) else (pipe (w32 ((w32 (8 * x1)) + x0)) fun y4 => if x2 = 0 then (zbind (f_X3_heightAt 20 y4 m2) fun y6 m7 => some (y6, m7)) else (if x2 = 1 then (zbind (f_X5_houseOn 4 y4 m2) fun y9 m10 => some (y9, m10)) else (if x2 = 2 then (zbind (f_X3_personsOn 20 y4 m2) fun y12 m13 => some (y12, m13)) else (if x2 = 3 then (zbind (f_X3_housesTouching 20 y4 m2) fun y15 m16 => some (y15, m16)) else (some ((-1), m2))))))
set_option maxHeartbeats 4000000 in
theorem M_X11_cell (l : Launch) (Γ : zG) (F : zFull Γ)  {x0 : Int} {x1 : Int} {x2 : Int} (h_x0 : ir x0) (h_x1 : ir x1) (h_x2 : ir x2) (mem : zMem) (q : Int × zMem) (h : f_X11_cell x0 x1 x2 mem = some q) : zMet l yX11_cell cX11_cell 5 (some .int) 4 Γ 1 [.ref (zad Γ 0), .int (i32 x0), .int (i32 x1), .int (i32 x2)] mem q := by
  refine zMet_of (own := "ShadowHeirs") (by decide) rfl (Nat.le_of_ble_eq_true rfl) (fun X C Z => ?_)
  revert h
  show zJ X Γ 5 q (f_X11_cell x0 x1 x2 mem) 0 [(0, .ref (zad Γ 0)), (1, .int (i32 x0)), (2, .int (i32 x1)), (3, .int (i32 x2))] [] mem
  unfold f_X11_cell
  refine zj_aload_n (j := 0) (i := 0) C rfl 0 rfl dX11_cell_0 ?_
  refine zj_getR C F zk_0 fl_X11_19 rfl rf_0_1 dX11_cell_1 ?_
  refine zj_iload_n (j := 1) (i := 1) C rfl 1 rfl dX11_cell_4 ?_
  refine zj_iload_n (j := 2) (i := 2) C rfl 2 rfl dX11_cell_5 ?_
  refine zj_callVi C F Z [.int (i32 x0), .int (i32 x1)] [] cal_X5_hasCell calv_X5_hasCell ml_X11_153 zk_4 rfl rfl (by decide) (Nat.le_of_ble_eq_true rfl) rfl dX11_cell_6 (fun q h => M_X5_hasCell l Γ F zk_4 h_x0 h_x1 mem q h) (fun y1 m2 h_y1 => ?_)
  refine zj_if_ne C 14 h_y1 dX11_cell_9 rfl (fun c3 => ?_) (fun c3 => ?_)
  · refine zj_iconst C (-1) dX11_cell_12 ?_
    exact zrt_i C Z irc_m1 dX11_cell_13
  · refine zj_bipush C 8 rfl dX11_cell_14 ?_
    refine zj_iload_n (j := 2) (i := 2) C rfl 2 rfl dX11_cell_16 ?_
    refine zj_imul C dX11_cell_17 ?_
    refine zj_iload_n (j := 1) (i := 1) C rfl 1 rfl dX11_cell_18 ?_
    refine zj_iadd C dX11_cell_19 ?_
    refine zj_pipeI (fun y4 e_y4 => ?_)
    have h_y4 := ir_eq e_y4 (ir_w _)
    refine zj_istore C [(4, .int (i32 y4)), (0, .ref (zad Γ 0)), (1, .int (i32 x0)), (2, .int (i32 x1)), (3, .int (i32 x2))] dX11_cell_20 (by decide) rfl ?_
    refine zj_iload_n (j := 3) (i := 3) C rfl 4 rfl dX11_cell_22 ?_
    refine zj_split (fun c5 => ?_) (fun c5 => ?_)
    · refine zj_tableIn (off := 29) C 0 52 h_x2 c5 dX11_cell_23 rfl rfl ?_
      refine zj_aload_n (j := 0) (i := 0) C rfl 1 rfl dX11_cell_52 ?_
      refine zj_getR C F zk_0 fl_X11_42 rfl rf_0_4 dX11_cell_53 ?_
      refine zj_iload C 0 rfl dX11_cell_56 ?_
      refine zj_callVi C F Z [.int (i32 y4)] [] cal_X3_heightAt calv_X3_heightAt ml_X11_157 zk_20 rfl rfl (by decide) (Nat.le_of_ble_eq_true rfl) rfl dX11_cell_58 (fun q h => M_X3_heightAt l Γ F zk_20 h_y4 m2 q h) (fun y6 m7 h_y6 => ?_)
      exact zrt_i C Z h_y6 dX11_cell_61
    · refine zj_split (fun c8 => ?_) (fun c8 => ?_)
      · refine zj_tableIn (off := 39) C 1 62 h_x2 c8 dX11_cell_23 rfl rfl ?_
        refine zj_aload_n (j := 0) (i := 0) C rfl 1 rfl dX11_cell_62 ?_
        refine zj_getR C F zk_0 fl_X11_19 rfl rf_0_1 dX11_cell_63 ?_
        refine zj_iload C 0 rfl dX11_cell_66 ?_
        refine zj_callVi C F Z [.int (i32 y4)] [] cal_X5_houseOn calv_X5_houseOn ml_X11_161 zk_4 rfl rfl (by decide) (Nat.le_of_ble_eq_true rfl) rfl dX11_cell_68 (fun q h => M_X5_houseOn l Γ F zk_4 h_y4 m2 q h) (fun y9 m10 h_y9 => ?_)
        exact zrt_i C Z h_y9 dX11_cell_71
      · refine zj_split (fun c11 => ?_) (fun c11 => ?_)
        · refine zj_tableIn (off := 49) C 2 72 h_x2 c11 dX11_cell_23 rfl rfl ?_
          refine zj_aload_n (j := 0) (i := 0) C rfl 1 rfl dX11_cell_72 ?_
          refine zj_getR C F zk_0 fl_X11_42 rfl rf_0_4 dX11_cell_73 ?_
          refine zj_iload C 0 rfl dX11_cell_76 ?_
          refine zj_callVi C F Z [.int (i32 y4)] [] cal_X3_personsOn calv_X3_personsOn ml_X11_164 zk_20 rfl rfl (by decide) (Nat.le_of_ble_eq_true rfl) rfl dX11_cell_78 (fun q h => M_X3_personsOn l Γ F zk_20 h_y4 m2 q h) (fun y12 m13 h_y12 => ?_)
          exact zrt_i C Z h_y12 dX11_cell_81
        · refine zj_split (fun c14 => ?_) (fun c14 => ?_)
          · refine zj_tableIn (off := 59) C 3 82 h_x2 c14 dX11_cell_23 rfl rfl ?_
            refine zj_aload_n (j := 0) (i := 0) C rfl 1 rfl dX11_cell_82 ?_
            refine zj_getR C F zk_0 fl_X11_42 rfl rf_0_4 dX11_cell_83 ?_
            refine zj_iload C 0 rfl dX11_cell_86 ?_
            refine zj_callVi C F Z [.int (i32 y4)] [] cal_X3_housesTouching calv_X3_housesTouching ml_X11_167 zk_20 rfl rfl (by decide) (Nat.le_of_ble_eq_true rfl) rfl dX11_cell_88 (fun q h => M_X3_housesTouching l Γ F zk_20 h_y4 m2 q h) (fun y15 m16 h_y15 => ?_)
            exact zrt_i C Z h_y15 dX11_cell_91
          · refine zj_tableOut C 92 h_x2 dX11_cell_23 (by omega) rfl ?_
            refine zj_iconst C (-1) dX11_cell_92 ?_
            exact zrt_i C Z irc_m1 dX11_cell_93
noncomputable def f_X11_house (x0 : Int) (x1 : Int) (mem : zMem) : Option (Int × zMem) := zbind (f_X5_hasHouse 4 x0 mem) fun y1 m2 => if y1 = 0 then (none) else (if x1 < 0 then (none) else (if x1 ≤ 5 then (if x1 = 0 then (if ix 5 x0 then some ((zrem (m2 5 x0) 8), m2) else none) else (if x1 = 1 then (if ix 5 x0 then some ((zdiv (m2 5 x0) 8), m2) else none) else (if x1 = 2 then (if ix 6 x0 then some ((m2 6 x0), m2) else none) else (if x1 = 3 then (if ix 15 x0 then some ((m2 15 x0), m2) else none) else (if x1 = 4 then (zbind (f_X7_isBuried 11 x0 m2) fun y19 m20 => if y19 = 0 then (some (0, m20)) else (some (1, m20))) else (zbind (f_X3_tableHour 20 m2) fun y22 m23 => zbind (f_X3_personsTouched 20 x0 y22 m23) fun y24 m25 => some (y24, m25))))))) else (none)))
set_option maxHeartbeats 4000000 in
theorem M_X11_house (l : Launch) (Γ : zG) (F : zFull Γ)  {x0 : Int} {x1 : Int} (h_x0 : ir x0) (h_x1 : ir x1) (mem : zMem) (q : Int × zMem) (h : f_X11_house x0 x1 mem = some q) : zMet l yX11_house cX11_house 3 (some .int) 4 Γ 1 [.ref (zad Γ 0), .int (i32 x0), .int (i32 x1)] mem q := by
  refine zMet_of (own := "ShadowHeirs") (by decide) rfl (Nat.le_of_ble_eq_true rfl) (fun X C Z => ?_)
  revert h
  show zJ X Γ 3 q (f_X11_house x0 x1 mem) 0 [(0, .ref (zad Γ 0)), (1, .int (i32 x0)), (2, .int (i32 x1))] [] mem
  unfold f_X11_house
  refine zj_aload_n (j := 0) (i := 0) C rfl 0 rfl dX11_house_0 ?_
  refine zj_getR C F zk_0 fl_X11_19 rfl rf_0_1 dX11_house_1 ?_
  refine zj_iload_n (j := 1) (i := 1) C rfl 1 rfl dX11_house_4 ?_
  refine zj_callVi C F Z [.int (i32 x0)] [] cal_X5_hasHouse calv_X5_hasHouse ml_X11_170 zk_4 rfl rfl (by decide) (Nat.le_of_ble_eq_true rfl) rfl dX11_house_5 (fun q h => M_X5_hasHouse l Γ F zk_4 h_x0 mem q h) (fun y1 m2 h_y1 => ?_)
  refine zj_if_eq C 20 h_y1 dX11_house_8 rfl (fun c3 => ?_) (fun c3 => ?_)
  · exact zj_none
  · refine zj_iload_n (j := 2) (i := 2) C rfl 2 rfl dX11_house_11 ?_
    refine zj_if_lt C 20 h_x1 dX11_house_12 rfl (fun c4 => ?_) (fun c4 => ?_)
    · exact zj_none
    · refine zj_iload_n (j := 2) (i := 2) C rfl 2 rfl dX11_house_15 ?_
      refine zj_iconst C 5 dX11_house_16 ?_
      refine zj_icmp_le C 30 h_x1 irc_5 dX11_house_17 rfl (fun c5 => ?_) (fun c5 => ?_)
      · refine zj_iload_n (j := 2) (i := 2) C rfl 2 rfl dX11_house_30 ?_
        refine zj_split (fun c6 => ?_) (fun c6 => ?_)
        · refine zj_tableIn (off := 33) C 0 64 h_x1 c6 dX11_house_31 rfl rfl ?_
          refine zj_aload_n (j := 0) (i := 0) C rfl 0 rfl dX11_house_64 ?_
          refine zj_getR C F zk_0 fl_X11_19 rfl rf_0_1 dX11_house_65 ?_
          refine zj_getR C F zk_4 fl_X11_180 rfl rf_4_5 dX11_house_68 ?_
          refine zj_iload_n (j := 1) (i := 1) C rfl 1 rfl dX11_house_71 ?_
          refine zj_iaload C F zk_5 h_x0 dX11_house_72 (fun c7 h8 => ?_)
          refine zj_bipush C 8 rfl dX11_house_73 ?_
          refine zj_iremc C (by decide) dX11_house_75 ?_
          exact zrt_i C Z (ir_toInt _) dX11_house_76
        · refine zj_split (fun c9 => ?_) (fun c9 => ?_)
          · refine zj_tableIn (off := 46) C 1 77 h_x1 c9 dX11_house_31 rfl rfl ?_
            refine zj_aload_n (j := 0) (i := 0) C rfl 0 rfl dX11_house_77 ?_
            refine zj_getR C F zk_0 fl_X11_19 rfl rf_0_1 dX11_house_78 ?_
            refine zj_getR C F zk_4 fl_X11_180 rfl rf_4_5 dX11_house_81 ?_
            refine zj_iload_n (j := 1) (i := 1) C rfl 1 rfl dX11_house_84 ?_
            refine zj_iaload C F zk_5 h_x0 dX11_house_85 (fun c10 h11 => ?_)
            refine zj_bipush C 8 rfl dX11_house_86 ?_
            refine zj_idivc C (by decide) dX11_house_88 ?_
            exact zrt_i C Z (ir_toInt _) dX11_house_89
          · refine zj_split (fun c12 => ?_) (fun c12 => ?_)
            · refine zj_tableIn (off := 59) C 2 90 h_x1 c12 dX11_house_31 rfl rfl ?_
              refine zj_aload_n (j := 0) (i := 0) C rfl 0 rfl dX11_house_90 ?_
              refine zj_getR C F zk_0 fl_X11_19 rfl rf_0_1 dX11_house_91 ?_
              refine zj_getR C F zk_4 fl_X11_184 rfl rf_4_6 dX11_house_94 ?_
              refine zj_iload_n (j := 1) (i := 1) C rfl 1 rfl dX11_house_97 ?_
              refine zj_iaload C F zk_6 h_x0 dX11_house_98 (fun c13 h14 => ?_)
              exact zrt_i C Z h14 dX11_house_99
            · refine zj_split (fun c15 => ?_) (fun c15 => ?_)
              · refine zj_tableIn (off := 69) C 3 100 h_x1 c15 dX11_house_31 rfl rfl ?_
                refine zj_aload_n (j := 0) (i := 0) C rfl 0 rfl dX11_house_100 ?_
                refine zj_getR C F zk_0 fl_X11_26 rfl rf_0_2 dX11_house_101 ?_
                refine zj_getR C F zk_11 fl_X11_187 rfl rf_11_3 dX11_house_104 ?_
                refine zj_iload_n (j := 1) (i := 1) C rfl 1 rfl dX11_house_107 ?_
                refine zj_iaload C F zk_15 h_x0 dX11_house_108 (fun c16 h17 => ?_)
                exact zrt_i C Z h17 dX11_house_109
              · refine zj_split (fun c18 => ?_) (fun c18 => ?_)
                · refine zj_tableIn (off := 79) C 4 110 h_x1 c18 dX11_house_31 rfl rfl ?_
                  refine zj_aload_n (j := 0) (i := 0) C rfl 0 rfl dX11_house_110 ?_
                  refine zj_getR C F zk_0 fl_X11_26 rfl rf_0_2 dX11_house_111 ?_
                  refine zj_iload_n (j := 1) (i := 1) C rfl 1 rfl dX11_house_114 ?_
                  refine zj_callVi C F Z [.int (i32 x0)] [] cal_X7_isBuried calv_X7_isBuried ml_X11_190 zk_11 rfl rfl (by decide) (Nat.le_of_ble_eq_true rfl) rfl dX11_house_115 (fun q h => M_X7_isBuried l Γ F zk_11 h_x0 m2 q h) (fun y19 m20 h_y19 => ?_)
                  refine zj_if_eq C 125 h_y19 dX11_house_118 rfl (fun c21 => ?_) (fun c21 => ?_)
                  · refine zj_iconst C 0 dX11_house_125 ?_
                    exact zrt_i C Z irc_0 dX11_house_126
                  · refine zj_iconst C 1 dX11_house_121 ?_
                    refine zj_goto (tgt := 126) C dX11_house_122 rfl ?_
                    exact zrt_i C Z irc_1 dX11_house_126
                · refine zj_tableOut C 127 h_x1 dX11_house_31 (by omega) rfl ?_
                  refine zj_aload_n (j := 0) (i := 0) C rfl 0 rfl dX11_house_127 ?_
                  refine zj_getR C F zk_0 fl_X11_42 rfl rf_0_4 dX11_house_128 ?_
                  refine zj_iload_n (j := 1) (i := 1) C rfl 1 rfl dX11_house_131 ?_
                  refine zj_aload_n (j := 0) (i := 0) C rfl 0 rfl dX11_house_132 ?_
                  refine zj_getR C F zk_0 fl_X11_42 rfl rf_0_4 dX11_house_133 ?_
                  refine zj_callVi C F Z [] [.int (i32 x0), .ref (zad Γ 20)] cal_X3_tableHour calv_X3_tableHour ml_X11_193 zk_20 rfl rfl (by decide) (Nat.le_of_ble_eq_true rfl) rfl dX11_house_136 (fun q h => M_X3_tableHour l Γ F zk_20 m2 q h) (fun y22 m23 h_y22 => ?_)
                  refine zj_callVi C F Z [.int (i32 x0), .int (i32 y22)] [] cal_X3_personsTouched calv_X3_personsTouched ml_X11_196 zk_20 rfl rfl (by decide) (Nat.le_of_ble_eq_true rfl) rfl dX11_house_139 (fun q h => M_X3_personsTouched l Γ F zk_20 h_x0 h_y22 m23 q h) (fun y24 m25 h_y24 => ?_)
                  exact zrt_i C Z h_y24 dX11_house_142
      · exact zj_none
noncomputable def f_X11_person (x0 : Int) (x1 : Int) (mem : zMem) : Option (Int × zMem) := zbind (f_X5_hasPerson 4 x0 mem) fun y1 m2 => if y1 = 0 then (none) else (if x1 < 0 then (none) else (if x1 ≤ 4 then (if x1 = 0 then (if ix 13 x0 then some ((zrem (m2 13 x0) 8), m2) else none) else (if x1 = 1 then (if ix 13 x0 then some ((zdiv (m2 13 x0) 8), m2) else none) else (if x1 = 2 then (if ix 14 x0 then some ((m2 14 x0), m2) else none) else (if x1 = 3 then (if ix 13 x0 then zbind (f_X3_housesTouching 20 (m2 13 x0) m2) fun y18 m19 => some (y18, m19) else none) else (zbind (f_X3_sidesOpen 20 x0 m2) fun y20 m21 => some (y20, m21)))))) else (none)))
set_option maxHeartbeats 4000000 in
theorem M_X11_person (l : Launch) (Γ : zG) (F : zFull Γ)  {x0 : Int} {x1 : Int} (h_x0 : ir x0) (h_x1 : ir x1) (mem : zMem) (q : Int × zMem) (h : f_X11_person x0 x1 mem = some q) : zMet l yX11_person cX11_person 3 (some .int) 4 Γ 1 [.ref (zad Γ 0), .int (i32 x0), .int (i32 x1)] mem q := by
  refine zMet_of (own := "ShadowHeirs") (by decide) rfl (Nat.le_of_ble_eq_true rfl) (fun X C Z => ?_)
  revert h
  show zJ X Γ 3 q (f_X11_person x0 x1 mem) 0 [(0, .ref (zad Γ 0)), (1, .int (i32 x0)), (2, .int (i32 x1))] [] mem
  unfold f_X11_person
  refine zj_aload_n (j := 0) (i := 0) C rfl 0 rfl dX11_person_0 ?_
  refine zj_getR C F zk_0 fl_X11_19 rfl rf_0_1 dX11_person_1 ?_
  refine zj_iload_n (j := 1) (i := 1) C rfl 1 rfl dX11_person_4 ?_
  refine zj_callVi C F Z [.int (i32 x0)] [] cal_X5_hasPerson calv_X5_hasPerson ml_X11_200 zk_4 rfl rfl (by decide) (Nat.le_of_ble_eq_true rfl) rfl dX11_person_5 (fun q h => M_X5_hasPerson l Γ F zk_4 h_x0 mem q h) (fun y1 m2 h_y1 => ?_)
  refine zj_if_eq C 20 h_y1 dX11_person_8 rfl (fun c3 => ?_) (fun c3 => ?_)
  · exact zj_none
  · refine zj_iload_n (j := 2) (i := 2) C rfl 2 rfl dX11_person_11 ?_
    refine zj_if_lt C 20 h_x1 dX11_person_12 rfl (fun c4 => ?_) (fun c4 => ?_)
    · exact zj_none
    · refine zj_iload_n (j := 2) (i := 2) C rfl 2 rfl dX11_person_15 ?_
      refine zj_iconst C 4 dX11_person_16 ?_
      refine zj_icmp_le C 30 h_x1 irc_4 dX11_person_17 rfl (fun c5 => ?_) (fun c5 => ?_)
      · refine zj_iload_n (j := 2) (i := 2) C rfl 2 rfl dX11_person_30 ?_
        refine zj_split (fun c6 => ?_) (fun c6 => ?_)
        · refine zj_tableIn (off := 29) C 0 60 h_x1 c6 dX11_person_31 rfl rfl ?_
          refine zj_aload_n (j := 0) (i := 0) C rfl 0 rfl dX11_person_60 ?_
          refine zj_getR C F zk_0 fl_X11_26 rfl rf_0_2 dX11_person_61 ?_
          refine zj_getR C F zk_11 fl_X11_205 rfl rf_11_1 dX11_person_64 ?_
          refine zj_iload_n (j := 1) (i := 1) C rfl 1 rfl dX11_person_67 ?_
          refine zj_iaload C F zk_13 h_x0 dX11_person_68 (fun c7 h8 => ?_)
          refine zj_bipush C 8 rfl dX11_person_69 ?_
          refine zj_iremc C (by decide) dX11_person_71 ?_
          exact zrt_i C Z (ir_toInt _) dX11_person_72
        · refine zj_split (fun c9 => ?_) (fun c9 => ?_)
          · refine zj_tableIn (off := 42) C 1 73 h_x1 c9 dX11_person_31 rfl rfl ?_
            refine zj_aload_n (j := 0) (i := 0) C rfl 0 rfl dX11_person_73 ?_
            refine zj_getR C F zk_0 fl_X11_26 rfl rf_0_2 dX11_person_74 ?_
            refine zj_getR C F zk_11 fl_X11_205 rfl rf_11_1 dX11_person_77 ?_
            refine zj_iload_n (j := 1) (i := 1) C rfl 1 rfl dX11_person_80 ?_
            refine zj_iaload C F zk_13 h_x0 dX11_person_81 (fun c10 h11 => ?_)
            refine zj_bipush C 8 rfl dX11_person_82 ?_
            refine zj_idivc C (by decide) dX11_person_84 ?_
            exact zrt_i C Z (ir_toInt _) dX11_person_85
          · refine zj_split (fun c12 => ?_) (fun c12 => ?_)
            · refine zj_tableIn (off := 55) C 2 86 h_x1 c12 dX11_person_31 rfl rfl ?_
              refine zj_aload_n (j := 0) (i := 0) C rfl 0 rfl dX11_person_86 ?_
              refine zj_getR C F zk_0 fl_X11_26 rfl rf_0_2 dX11_person_87 ?_
              refine zj_getR C F zk_11 fl_X11_208 rfl rf_11_2 dX11_person_90 ?_
              refine zj_iload_n (j := 1) (i := 1) C rfl 1 rfl dX11_person_93 ?_
              refine zj_iaload C F zk_14 h_x0 dX11_person_94 (fun c13 h14 => ?_)
              exact zrt_i C Z h14 dX11_person_95
            · refine zj_split (fun c15 => ?_) (fun c15 => ?_)
              · refine zj_tableIn (off := 65) C 3 96 h_x1 c15 dX11_person_31 rfl rfl ?_
                refine zj_aload_n (j := 0) (i := 0) C rfl 0 rfl dX11_person_96 ?_
                refine zj_getR C F zk_0 fl_X11_42 rfl rf_0_4 dX11_person_97 ?_
                refine zj_aload_n (j := 0) (i := 0) C rfl 0 rfl dX11_person_100 ?_
                refine zj_getR C F zk_0 fl_X11_26 rfl rf_0_2 dX11_person_101 ?_
                refine zj_getR C F zk_11 fl_X11_205 rfl rf_11_1 dX11_person_104 ?_
                refine zj_iload_n (j := 1) (i := 1) C rfl 1 rfl dX11_person_107 ?_
                refine zj_iaload C F zk_13 h_x0 dX11_person_108 (fun c16 h17 => ?_)
                refine zj_callVi C F Z [.int (i32 (m2 13 x0))] [] cal_X3_housesTouching calv_X3_housesTouching ml_X11_167 zk_20 rfl rfl (by decide) (Nat.le_of_ble_eq_true rfl) rfl dX11_person_109 (fun q h => M_X3_housesTouching l Γ F zk_20 h17 m2 q h) (fun y18 m19 h_y18 => ?_)
                exact zrt_i C Z h_y18 dX11_person_112
              · refine zj_tableOut C 113 h_x1 dX11_person_31 (by omega) rfl ?_
                refine zj_aload_n (j := 0) (i := 0) C rfl 0 rfl dX11_person_113 ?_
                refine zj_getR C F zk_0 fl_X11_42 rfl rf_0_4 dX11_person_114 ?_
                refine zj_iload_n (j := 1) (i := 1) C rfl 1 rfl dX11_person_117 ?_
                refine zj_callVi C F Z [.int (i32 x0)] [] cal_X3_sidesOpen calv_X3_sidesOpen ml_X11_211 zk_20 rfl rfl (by decide) (Nat.le_of_ble_eq_true rfl) rfl dX11_person_118 (fun q h => M_X3_sidesOpen l Γ F zk_20 h_x0 m2 q h) (fun y20 m21 h_y20 => ?_)
                exact zrt_i C Z h_y20 dX11_person_121
      · exact zj_none
noncomputable def f_X11_go (x0 : Int) (x1 : Int) (mem : zMem) : Option (Int × zMem) := zbind (f_X5_hasPerson 4 x0 mem) fun y1 m2 => if y1 = 0 then (some ((-1), m2)) else (if x1 < 0 then (some ((-1), m2)) else (if x1 < 4 then (zbind (f_X3_whyNotStep 20 x0 x1 m2) fun y6 m7 => if y6 = 0 then (zbind (f_X2_keep 11 m7) fun _ m9 => zbind (f_X3_makeStep 20 x0 x1 m9) fun _ m10 => some (y6, m10)) else (some (y6, m7))) else (some ((-1), m2))))
set_option maxHeartbeats 4000000 in
theorem M_X11_go (l : Launch) (Γ : zG) (F : zFull Γ)  {x0 : Int} {x1 : Int} (h_x0 : ir x0) (h_x1 : ir x1) (mem : zMem) (q : Int × zMem) (h : f_X11_go x0 x1 mem = some q) : zMet l yX11_go cX11_go 4 (some .int) 5 Γ 1 [.ref (zad Γ 0), .int (i32 x0), .int (i32 x1)] mem q := by
  refine zMet_of (own := "ShadowHeirs") (by decide) rfl (Nat.le_of_ble_eq_true rfl) (fun X C Z => ?_)
  revert h
  show zJ X Γ 4 q (f_X11_go x0 x1 mem) 0 [(0, .ref (zad Γ 0)), (1, .int (i32 x0)), (2, .int (i32 x1))] [] mem
  unfold f_X11_go
  refine zj_aload_n (j := 0) (i := 0) C rfl 0 rfl dX11_go_0 ?_
  refine zj_getR C F zk_0 fl_X11_19 rfl rf_0_1 dX11_go_1 ?_
  refine zj_iload_n (j := 1) (i := 1) C rfl 1 rfl dX11_go_4 ?_
  refine zj_callVi C F Z [.int (i32 x0)] [] cal_X5_hasPerson calv_X5_hasPerson ml_X11_200 zk_4 rfl rfl (by decide) (Nat.le_of_ble_eq_true rfl) rfl dX11_go_5 (fun q h => M_X5_hasPerson l Γ F zk_4 h_x0 mem q h) (fun y1 m2 h_y1 => ?_)
  refine zj_if_eq C 20 h_y1 dX11_go_8 rfl (fun c3 => ?_) (fun c3 => ?_)
  · refine zj_iconst C (-1) dX11_go_20 ?_
    exact zrt_i C Z irc_m1 dX11_go_21
  · refine zj_iload_n (j := 2) (i := 2) C rfl 2 rfl dX11_go_11 ?_
    refine zj_if_lt C 20 h_x1 dX11_go_12 rfl (fun c4 => ?_) (fun c4 => ?_)
    · refine zj_iconst C (-1) dX11_go_20 ?_
      exact zrt_i C Z irc_m1 dX11_go_21
    · refine zj_iload_n (j := 2) (i := 2) C rfl 2 rfl dX11_go_15 ?_
      refine zj_iconst C 4 dX11_go_16 ?_
      refine zj_icmp_lt C 22 h_x1 irc_4 dX11_go_17 rfl (fun c5 => ?_) (fun c5 => ?_)
      · refine zj_aload_n (j := 0) (i := 0) C rfl 0 rfl dX11_go_22 ?_
        refine zj_getR C F zk_0 fl_X11_42 rfl rf_0_4 dX11_go_23 ?_
        refine zj_iload_n (j := 1) (i := 1) C rfl 1 rfl dX11_go_26 ?_
        refine zj_iload_n (j := 2) (i := 2) C rfl 2 rfl dX11_go_27 ?_
        refine zj_callVi C F Z [.int (i32 x0), .int (i32 x1)] [] cal_X3_whyNotStep calv_X3_whyNotStep ml_X11_235 zk_20 rfl rfl (by decide) (Nat.le_of_ble_eq_true rfl) rfl dX11_go_28 (fun q h => M_X3_whyNotStep l Γ F zk_20 h_x0 h_x1 m2 q h) (fun y6 m7 h_y6 => ?_)
        refine zj_istore_n (j := 3) (i := 3) C rfl [(3, .int (i32 y6)), (0, .ref (zad Γ 0)), (1, .int (i32 x0)), (2, .int (i32 x1))] dX11_go_31 (by decide) rfl ?_
        refine zj_iload_n (j := 3) (i := 3) C rfl 0 rfl dX11_go_32 ?_
        refine zj_if_ne C 56 h_y6 dX11_go_33 rfl (fun c8 => ?_) (fun c8 => ?_)
        · refine zj_aload_n (j := 0) (i := 0) C rfl 1 rfl dX11_go_36 ?_
          refine zj_getR C F zk_0 fl_X11_71 rfl rf_0_9 dX11_go_37 ?_
          refine zj_aload_n (j := 0) (i := 0) C rfl 1 rfl dX11_go_40 ?_
          refine zj_getR C F zk_0 fl_X11_26 rfl rf_0_2 dX11_go_41 ?_
          refine zj_callVv C F Z [.ref (zad Γ 11)] [] cal_X2_keep calv_X2_keep ml_X11_238 zk_53 rfl rfl (by decide) (Nat.le_of_ble_eq_true rfl) rfl dX11_go_44 (fun q h => M_X2_keep l Γ F zk_11 m7 q h) (fun _ m9 _ => ?_)
          refine zj_aload_n (j := 0) (i := 0) C rfl 1 rfl dX11_go_47 ?_
          refine zj_getR C F zk_0 fl_X11_42 rfl rf_0_4 dX11_go_48 ?_
          refine zj_iload_n (j := 1) (i := 1) C rfl 2 rfl dX11_go_51 ?_
          refine zj_iload_n (j := 2) (i := 2) C rfl 3 rfl dX11_go_52 ?_
          refine zj_callVv C F Z [.int (i32 x0), .int (i32 x1)] [] cal_X3_makeStep calv_X3_makeStep ml_X11_242 zk_20 rfl rfl (by decide) (Nat.le_of_ble_eq_true rfl) rfl dX11_go_53 (fun q h => M_X3_makeStep l Γ F zk_20 h_x0 h_x1 m9 q h) (fun _ m10 _ => ?_)
          refine zj_iload_n (j := 3) (i := 3) C rfl 0 rfl dX11_go_56 ?_
          exact zrt_i C Z h_y6 dX11_go_57
        · refine zj_iload_n (j := 3) (i := 3) C rfl 0 rfl dX11_go_56 ?_
          exact zrt_i C Z h_y6 dX11_go_57
      · refine zj_iconst C (-1) dX11_go_20 ?_
        exact zrt_i C Z irc_m1 dX11_go_21
noncomputable def f_X11_lay (x0 : Int) (x1 : Int) (mem : zMem) : Option (Int × zMem) := zbind (f_X5_hasCell 4 x0 x1 mem) fun y1 m2 => if y1 = 0 then (some ((-1), m2)) else (pipe (w32 ((w32 (8 * x1)) + x0)) fun y4 => zbind (f_X3_whyNotLay 20 y4 m2) fun y5 m6 => if y5 = 0 then (zbind (f_X2_keep 11 m6) fun _ m8 => zbind (f_X3_layStone 20 y4 m8) fun _ m9 => some (y5, m9)) else (some (y5, m6)))
set_option maxHeartbeats 4000000 in
theorem M_X11_lay (l : Launch) (Γ : zG) (F : zFull Γ)  {x0 : Int} {x1 : Int} (h_x0 : ir x0) (h_x1 : ir x1) (mem : zMem) (q : Int × zMem) (h : f_X11_lay x0 x1 mem = some q) : zMet l yX11_lay cX11_lay 5 (some .int) 5 Γ 1 [.ref (zad Γ 0), .int (i32 x0), .int (i32 x1)] mem q := by
  refine zMet_of (own := "ShadowHeirs") (by decide) rfl (Nat.le_of_ble_eq_true rfl) (fun X C Z => ?_)
  revert h
  show zJ X Γ 5 q (f_X11_lay x0 x1 mem) 0 [(0, .ref (zad Γ 0)), (1, .int (i32 x0)), (2, .int (i32 x1))] [] mem
  unfold f_X11_lay
  refine zj_aload_n (j := 0) (i := 0) C rfl 0 rfl dX11_lay_0 ?_
  refine zj_getR C F zk_0 fl_X11_19 rfl rf_0_1 dX11_lay_1 ?_
  refine zj_iload_n (j := 1) (i := 1) C rfl 1 rfl dX11_lay_4 ?_
  refine zj_iload_n (j := 2) (i := 2) C rfl 2 rfl dX11_lay_5 ?_
  refine zj_callVi C F Z [.int (i32 x0), .int (i32 x1)] [] cal_X5_hasCell calv_X5_hasCell ml_X11_153 zk_4 rfl rfl (by decide) (Nat.le_of_ble_eq_true rfl) rfl dX11_lay_6 (fun q h => M_X5_hasCell l Γ F zk_4 h_x0 h_x1 mem q h) (fun y1 m2 h_y1 => ?_)
  refine zj_if_ne C 14 h_y1 dX11_lay_9 rfl (fun c3 => ?_) (fun c3 => ?_)
  · refine zj_iconst C (-1) dX11_lay_12 ?_
    exact zrt_i C Z irc_m1 dX11_lay_13
  · refine zj_bipush C 8 rfl dX11_lay_14 ?_
    refine zj_iload_n (j := 2) (i := 2) C rfl 2 rfl dX11_lay_16 ?_
    refine zj_imul C dX11_lay_17 ?_
    refine zj_iload_n (j := 1) (i := 1) C rfl 1 rfl dX11_lay_18 ?_
    refine zj_iadd C dX11_lay_19 ?_
    refine zj_pipeI (fun y4 e_y4 => ?_)
    have h_y4 := ir_eq e_y4 (ir_w _)
    refine zj_istore_n (j := 3) (i := 3) C rfl [(3, .int (i32 y4)), (0, .ref (zad Γ 0)), (1, .int (i32 x0)), (2, .int (i32 x1))] dX11_lay_20 (by decide) rfl ?_
    refine zj_aload_n (j := 0) (i := 0) C rfl 1 rfl dX11_lay_21 ?_
    refine zj_getR C F zk_0 fl_X11_42 rfl rf_0_4 dX11_lay_22 ?_
    refine zj_iload_n (j := 3) (i := 3) C rfl 0 rfl dX11_lay_25 ?_
    refine zj_callVi C F Z [.int (i32 y4)] [] cal_X3_whyNotLay calv_X3_whyNotLay ml_X11_246 zk_20 rfl rfl (by decide) (Nat.le_of_ble_eq_true rfl) rfl dX11_lay_26 (fun q h => M_X3_whyNotLay l Γ F zk_20 h_y4 m2 q h) (fun y5 m6 h_y5 => ?_)
    refine zj_istore C [(4, .int (i32 y5)), (3, .int (i32 y4)), (0, .ref (zad Γ 0)), (1, .int (i32 x0)), (2, .int (i32 x1))] dX11_lay_29 (by decide) rfl ?_
    refine zj_iload C 0 rfl dX11_lay_31 ?_
    refine zj_if_ne C 55 h_y5 dX11_lay_33 rfl (fun c7 => ?_) (fun c7 => ?_)
    · refine zj_aload_n (j := 0) (i := 0) C rfl 2 rfl dX11_lay_36 ?_
      refine zj_getR C F zk_0 fl_X11_71 rfl rf_0_9 dX11_lay_37 ?_
      refine zj_aload_n (j := 0) (i := 0) C rfl 2 rfl dX11_lay_40 ?_
      refine zj_getR C F zk_0 fl_X11_26 rfl rf_0_2 dX11_lay_41 ?_
      refine zj_callVv C F Z [.ref (zad Γ 11)] [] cal_X2_keep calv_X2_keep ml_X11_238 zk_53 rfl rfl (by decide) (Nat.le_of_ble_eq_true rfl) rfl dX11_lay_44 (fun q h => M_X2_keep l Γ F zk_11 m6 q h) (fun _ m8 _ => ?_)
      refine zj_aload_n (j := 0) (i := 0) C rfl 2 rfl dX11_lay_47 ?_
      refine zj_getR C F zk_0 fl_X11_42 rfl rf_0_4 dX11_lay_48 ?_
      refine zj_iload_n (j := 3) (i := 3) C rfl 1 rfl dX11_lay_51 ?_
      refine zj_callVv C F Z [.int (i32 y4)] [] cal_X3_layStone calv_X3_layStone ml_X11_249 zk_20 rfl rfl (by decide) (Nat.le_of_ble_eq_true rfl) rfl dX11_lay_52 (fun q h => M_X3_layStone l Γ F zk_20 h_y4 m8 q h) (fun _ m9 _ => ?_)
      refine zj_iload C 0 rfl dX11_lay_55 ?_
      exact zrt_i C Z h_y5 dX11_lay_57
    · refine zj_iload C 0 rfl dX11_lay_55 ?_
      exact zrt_i C Z h_y5 dX11_lay_57
noncomputable def f_X11_tear (x0 : Int) (x1 : Int) (mem : zMem) : Option (Int × zMem) := zbind (f_X5_hasCell 4 x0 x1 mem) fun y1 m2 => if y1 = 0 then (some ((-1), m2)) else (pipe (w32 ((w32 (8 * x1)) + x0)) fun y4 => zbind (f_X3_whyNotTear 20 y4 m2) fun y5 m6 => if y5 = 0 then (zbind (f_X2_keep 11 m6) fun _ m8 => zbind (f_X3_tearStone 20 y4 m8) fun _ m9 => some (y5, m9)) else (some (y5, m6)))
set_option maxHeartbeats 4000000 in
theorem M_X11_tear (l : Launch) (Γ : zG) (F : zFull Γ)  {x0 : Int} {x1 : Int} (h_x0 : ir x0) (h_x1 : ir x1) (mem : zMem) (q : Int × zMem) (h : f_X11_tear x0 x1 mem = some q) : zMet l yX11_tear cX11_tear 5 (some .int) 5 Γ 1 [.ref (zad Γ 0), .int (i32 x0), .int (i32 x1)] mem q := by
  refine zMet_of (own := "ShadowHeirs") (by decide) rfl (Nat.le_of_ble_eq_true rfl) (fun X C Z => ?_)
  revert h
  show zJ X Γ 5 q (f_X11_tear x0 x1 mem) 0 [(0, .ref (zad Γ 0)), (1, .int (i32 x0)), (2, .int (i32 x1))] [] mem
  unfold f_X11_tear
  refine zj_aload_n (j := 0) (i := 0) C rfl 0 rfl dX11_tear_0 ?_
  refine zj_getR C F zk_0 fl_X11_19 rfl rf_0_1 dX11_tear_1 ?_
  refine zj_iload_n (j := 1) (i := 1) C rfl 1 rfl dX11_tear_4 ?_
  refine zj_iload_n (j := 2) (i := 2) C rfl 2 rfl dX11_tear_5 ?_
  refine zj_callVi C F Z [.int (i32 x0), .int (i32 x1)] [] cal_X5_hasCell calv_X5_hasCell ml_X11_153 zk_4 rfl rfl (by decide) (Nat.le_of_ble_eq_true rfl) rfl dX11_tear_6 (fun q h => M_X5_hasCell l Γ F zk_4 h_x0 h_x1 mem q h) (fun y1 m2 h_y1 => ?_)
  refine zj_if_ne C 14 h_y1 dX11_tear_9 rfl (fun c3 => ?_) (fun c3 => ?_)
  · refine zj_iconst C (-1) dX11_tear_12 ?_
    exact zrt_i C Z irc_m1 dX11_tear_13
  · refine zj_bipush C 8 rfl dX11_tear_14 ?_
    refine zj_iload_n (j := 2) (i := 2) C rfl 2 rfl dX11_tear_16 ?_
    refine zj_imul C dX11_tear_17 ?_
    refine zj_iload_n (j := 1) (i := 1) C rfl 1 rfl dX11_tear_18 ?_
    refine zj_iadd C dX11_tear_19 ?_
    refine zj_pipeI (fun y4 e_y4 => ?_)
    have h_y4 := ir_eq e_y4 (ir_w _)
    refine zj_istore_n (j := 3) (i := 3) C rfl [(3, .int (i32 y4)), (0, .ref (zad Γ 0)), (1, .int (i32 x0)), (2, .int (i32 x1))] dX11_tear_20 (by decide) rfl ?_
    refine zj_aload_n (j := 0) (i := 0) C rfl 1 rfl dX11_tear_21 ?_
    refine zj_getR C F zk_0 fl_X11_42 rfl rf_0_4 dX11_tear_22 ?_
    refine zj_iload_n (j := 3) (i := 3) C rfl 0 rfl dX11_tear_25 ?_
    refine zj_callVi C F Z [.int (i32 y4)] [] cal_X3_whyNotTear calv_X3_whyNotTear ml_X11_252 zk_20 rfl rfl (by decide) (Nat.le_of_ble_eq_true rfl) rfl dX11_tear_26 (fun q h => M_X3_whyNotTear l Γ F zk_20 h_y4 m2 q h) (fun y5 m6 h_y5 => ?_)
    refine zj_istore C [(4, .int (i32 y5)), (3, .int (i32 y4)), (0, .ref (zad Γ 0)), (1, .int (i32 x0)), (2, .int (i32 x1))] dX11_tear_29 (by decide) rfl ?_
    refine zj_iload C 0 rfl dX11_tear_31 ?_
    refine zj_if_ne C 55 h_y5 dX11_tear_33 rfl (fun c7 => ?_) (fun c7 => ?_)
    · refine zj_aload_n (j := 0) (i := 0) C rfl 2 rfl dX11_tear_36 ?_
      refine zj_getR C F zk_0 fl_X11_71 rfl rf_0_9 dX11_tear_37 ?_
      refine zj_aload_n (j := 0) (i := 0) C rfl 2 rfl dX11_tear_40 ?_
      refine zj_getR C F zk_0 fl_X11_26 rfl rf_0_2 dX11_tear_41 ?_
      refine zj_callVv C F Z [.ref (zad Γ 11)] [] cal_X2_keep calv_X2_keep ml_X11_238 zk_53 rfl rfl (by decide) (Nat.le_of_ble_eq_true rfl) rfl dX11_tear_44 (fun q h => M_X2_keep l Γ F zk_11 m6 q h) (fun _ m8 _ => ?_)
      refine zj_aload_n (j := 0) (i := 0) C rfl 2 rfl dX11_tear_47 ?_
      refine zj_getR C F zk_0 fl_X11_42 rfl rf_0_4 dX11_tear_48 ?_
      refine zj_iload_n (j := 3) (i := 3) C rfl 1 rfl dX11_tear_51 ?_
      refine zj_callVv C F Z [.int (i32 y4)] [] cal_X3_tearStone calv_X3_tearStone ml_X11_255 zk_20 rfl rfl (by decide) (Nat.le_of_ble_eq_true rfl) rfl dX11_tear_52 (fun q h => M_X3_tearStone l Γ F zk_20 h_y4 m8 q h) (fun _ m9 _ => ?_)
      refine zj_iload C 0 rfl dX11_tear_55 ?_
      exact zrt_i C Z h_y5 dX11_tear_57
    · refine zj_iload C 0 rfl dX11_tear_55 ?_
      exact zrt_i C Z h_y5 dX11_tear_57
noncomputable def f_X11_bury (x0 : Int) (mem : zMem) : Option (Int × zMem) := zbind (f_X5_hasHouse 4 x0 mem) fun y1 m2 => if y1 = 0 then (some ((-1), m2)) else (zbind (f_X3_whyNotBury 20 x0 m2) fun y4 m5 => if y4 = 0 then (zbind (f_X2_keep 11 m5) fun _ m7 => zbind (f_X3_buryHouse 20 x0 m7) fun _ m8 => some (y4, m8)) else (some (y4, m5)))
set_option maxHeartbeats 4000000 in
theorem M_X11_bury (l : Launch) (Γ : zG) (F : zFull Γ)  {x0 : Int} (h_x0 : ir x0) (mem : zMem) (q : Int × zMem) (h : f_X11_bury x0 mem = some q) : zMet l yX11_bury cX11_bury 3 (some .int) 5 Γ 1 [.ref (zad Γ 0), .int (i32 x0)] mem q := by
  refine zMet_of (own := "ShadowHeirs") (by decide) rfl (Nat.le_of_ble_eq_true rfl) (fun X C Z => ?_)
  revert h
  show zJ X Γ 3 q (f_X11_bury x0 mem) 0 [(0, .ref (zad Γ 0)), (1, .int (i32 x0))] [] mem
  unfold f_X11_bury
  refine zj_aload_n (j := 0) (i := 0) C rfl 0 rfl dX11_bury_0 ?_
  refine zj_getR C F zk_0 fl_X11_19 rfl rf_0_1 dX11_bury_1 ?_
  refine zj_iload_n (j := 1) (i := 1) C rfl 1 rfl dX11_bury_4 ?_
  refine zj_callVi C F Z [.int (i32 x0)] [] cal_X5_hasHouse calv_X5_hasHouse ml_X11_170 zk_4 rfl rfl (by decide) (Nat.le_of_ble_eq_true rfl) rfl dX11_bury_5 (fun q h => M_X5_hasHouse l Γ F zk_4 h_x0 mem q h) (fun y1 m2 h_y1 => ?_)
  refine zj_if_ne C 13 h_y1 dX11_bury_8 rfl (fun c3 => ?_) (fun c3 => ?_)
  · refine zj_iconst C (-1) dX11_bury_11 ?_
    exact zrt_i C Z irc_m1 dX11_bury_12
  · refine zj_aload_n (j := 0) (i := 0) C rfl 0 rfl dX11_bury_13 ?_
    refine zj_getR C F zk_0 fl_X11_42 rfl rf_0_4 dX11_bury_14 ?_
    refine zj_iload_n (j := 1) (i := 1) C rfl 1 rfl dX11_bury_17 ?_
    refine zj_callVi C F Z [.int (i32 x0)] [] cal_X3_whyNotBury calv_X3_whyNotBury ml_X11_258 zk_20 rfl rfl (by decide) (Nat.le_of_ble_eq_true rfl) rfl dX11_bury_18 (fun q h => M_X3_whyNotBury l Γ F zk_20 h_x0 m2 q h) (fun y4 m5 h_y4 => ?_)
    refine zj_istore_n (j := 2) (i := 2) C rfl [(2, .int (i32 y4)), (0, .ref (zad Γ 0)), (1, .int (i32 x0))] dX11_bury_21 (by decide) rfl ?_
    refine zj_iload_n (j := 2) (i := 2) C rfl 0 rfl dX11_bury_22 ?_
    refine zj_if_ne C 45 h_y4 dX11_bury_23 rfl (fun c6 => ?_) (fun c6 => ?_)
    · refine zj_aload_n (j := 0) (i := 0) C rfl 1 rfl dX11_bury_26 ?_
      refine zj_getR C F zk_0 fl_X11_71 rfl rf_0_9 dX11_bury_27 ?_
      refine zj_aload_n (j := 0) (i := 0) C rfl 1 rfl dX11_bury_30 ?_
      refine zj_getR C F zk_0 fl_X11_26 rfl rf_0_2 dX11_bury_31 ?_
      refine zj_callVv C F Z [.ref (zad Γ 11)] [] cal_X2_keep calv_X2_keep ml_X11_238 zk_53 rfl rfl (by decide) (Nat.le_of_ble_eq_true rfl) rfl dX11_bury_34 (fun q h => M_X2_keep l Γ F zk_11 m5 q h) (fun _ m7 _ => ?_)
      refine zj_aload_n (j := 0) (i := 0) C rfl 1 rfl dX11_bury_37 ?_
      refine zj_getR C F zk_0 fl_X11_42 rfl rf_0_4 dX11_bury_38 ?_
      refine zj_iload_n (j := 1) (i := 1) C rfl 2 rfl dX11_bury_41 ?_
      refine zj_callVv C F Z [.int (i32 x0)] [] cal_X3_buryHouse calv_X3_buryHouse ml_X11_261 zk_20 rfl rfl (by decide) (Nat.le_of_ble_eq_true rfl) rfl dX11_bury_42 (fun q h => M_X3_buryHouse l Γ F zk_20 h_x0 m7 q h) (fun _ m8 _ => ?_)
      refine zj_iload_n (j := 2) (i := 2) C rfl 0 rfl dX11_bury_45 ?_
      exact zrt_i C Z h_y4 dX11_bury_46
    · refine zj_iload_n (j := 2) (i := 2) C rfl 0 rfl dX11_bury_45 ?_
      exact zrt_i C Z h_y4 dX11_bury_46
noncomputable def f_X11_hours (x0 : Int) (mem : zMem) : Option (Int × zMem) := if x0 < 1 then (some ((-1), mem)) else (if x0 ≤ 60 then (pipe (zmin x0 (w32 (400 - (mem 11 5)))) fun y4 => if y4 ≤ 0 then (some (y4, mem)) else (zbind (f_X2_keep 11 mem) fun _ m6 => pipe (zup m6 11 5 (w32 ((m6 11 5) + y4))) fun m8 => some (y4, m8))) else (some ((-1), mem)))
set_option maxHeartbeats 4000000 in
theorem M_X11_hours (l : Launch) (Γ : zG) (F : zFull Γ)  {x0 : Int} (h_x0 : ir x0) (mem : zMem) (q : Int × zMem) (h : f_X11_hours x0 mem = some q) : zMet l yX11_hours cX11_hours 3 (some .int) 5 Γ 1 [.ref (zad Γ 0), .int (i32 x0)] mem q := by
  refine zMet_of (own := "ShadowHeirs") (by decide) rfl (Nat.le_of_ble_eq_true rfl) (fun X C Z => ?_)
  revert h
  show zJ X Γ 3 q (f_X11_hours x0 mem) 0 [(0, .ref (zad Γ 0)), (1, .int (i32 x0))] [] mem
  unfold f_X11_hours
  refine zj_iload_n (j := 1) (i := 1) C rfl 1 rfl dX11_hours_0 ?_
  refine zj_iconst C 1 dX11_hours_1 ?_
  refine zj_icmp_lt C 11 h_x0 irc_1 dX11_hours_2 rfl (fun c1 => ?_) (fun c1 => ?_)
  · refine zj_iconst C (-1) dX11_hours_11 ?_
    exact zrt_i C Z irc_m1 dX11_hours_12
  · refine zj_iload_n (j := 1) (i := 1) C rfl 1 rfl dX11_hours_5 ?_
    refine zj_bipush C 60 rfl dX11_hours_6 ?_
    refine zj_icmp_le C 13 h_x0 irc_60 dX11_hours_8 rfl (fun c2 => ?_) (fun c2 => ?_)
    · refine zj_iload_n (j := 1) (i := 1) C rfl 1 rfl dX11_hours_13 ?_
      refine zj_sipush C 400 rfl dX11_hours_14 ?_
      refine zj_aload_n (j := 0) (i := 0) C rfl 0 rfl dX11_hours_17 ?_
      refine zj_getR C F zk_0 fl_X11_26 rfl rf_0_2 dX11_hours_18 ?_
      refine zj_getI C F 5 rfl zk_11 fl_X11_214 rfl dX11_hours_21 (fun h3 => ?_)
      refine zj_isub C dX11_hours_24 ?_
      refine zj_mmin C Z (by decide) h_x0 (ir_w _) (Nat.le_of_ble_eq_true rfl) mm_l_X11_264 mm_s_min mm_i mm_c_min dX11_hours_25 ?_
      refine zj_pipeI (fun y4 e_y4 => ?_)
      have h_y4 := ir_eq e_y4 (ir_min h_x0 (ir_w _))
      refine zj_istore_n (j := 2) (i := 2) C rfl [(2, .int (i32 y4)), (0, .ref (zad Γ 0)), (1, .int (i32 x0))] dX11_hours_28 (by decide) rfl ?_
      refine zj_iload_n (j := 2) (i := 2) C rfl 0 rfl dX11_hours_29 ?_
      refine zj_if_le C 57 h_y4 dX11_hours_30 rfl (fun c5 => ?_) (fun c5 => ?_)
      · refine zj_iload_n (j := 2) (i := 2) C rfl 0 rfl dX11_hours_57 ?_
        exact zrt_i C Z h_y4 dX11_hours_58
      · refine zj_aload_n (j := 0) (i := 0) C rfl 1 rfl dX11_hours_33 ?_
        refine zj_getR C F zk_0 fl_X11_71 rfl rf_0_9 dX11_hours_34 ?_
        refine zj_aload_n (j := 0) (i := 0) C rfl 1 rfl dX11_hours_37 ?_
        refine zj_getR C F zk_0 fl_X11_26 rfl rf_0_2 dX11_hours_38 ?_
        refine zj_callVv C F Z [.ref (zad Γ 11)] [] cal_X2_keep calv_X2_keep ml_X11_238 zk_53 rfl rfl (by decide) (Nat.le_of_ble_eq_true rfl) rfl dX11_hours_41 (fun q h => M_X2_keep l Γ F zk_11 mem q h) (fun _ m6 _ => ?_)
        refine zj_aload_n (j := 0) (i := 0) C rfl 1 rfl dX11_hours_44 ?_
        refine zj_getR C F zk_0 fl_X11_26 rfl rf_0_2 dX11_hours_45 ?_
        refine zj_dup C rfl dX11_hours_48 ?_
        refine zj_getI C F 5 rfl zk_11 fl_X11_214 rfl dX11_hours_49 (fun h7 => ?_)
        refine zj_iload_n (j := 2) (i := 2) C rfl 0 rfl dX11_hours_52 ?_
        refine zj_iadd C dX11_hours_53 ?_
        refine zj_putI C F 5 rfl zk_11 fl_X11_214 rfl fp_7_5 (ir_w _) dX11_hours_54 ?_
        refine zj_pipeM (fun m8 e_m8 => ?_)
        refine zj_iload_n (j := 2) (i := 2) C rfl 0 rfl dX11_hours_57 ?_
        exact zrt_i C Z h_y4 dX11_hours_58
    · refine zj_iconst C (-1) dX11_hours_11 ?_
      exact zrt_i C Z irc_m1 dX11_hours_12
noncomputable def f_X11_undo  (mem : zMem) : Option (Int × zMem) := zbind (f_X2_bringBack 11 mem) fun y1 m2 => if y1 = 0 then (some ((-1), m2)) else (some ((m2 53 2), m2))
set_option maxHeartbeats 4000000 in
theorem M_X11_undo (l : Launch) (Γ : zG) (F : zFull Γ)    (mem : zMem) (q : Int × zMem) (h : f_X11_undo  mem = some q) : zMet l yX11_undo cX11_undo 1 (some .int) 5 Γ 1 [.ref (zad Γ 0)] mem q := by
  refine zMet_of (own := "ShadowHeirs") (by decide) rfl (Nat.le_of_ble_eq_true rfl) (fun X C Z => ?_)
  revert h
  show zJ X Γ 1 q (f_X11_undo  mem) 0 [(0, .ref (zad Γ 0))] [] mem
  unfold f_X11_undo
  refine zj_aload_n (j := 0) (i := 0) C rfl 0 rfl dX11_undo_0 ?_
  refine zj_getR C F zk_0 fl_X11_71 rfl rf_0_9 dX11_undo_1 ?_
  refine zj_aload_n (j := 0) (i := 0) C rfl 0 rfl dX11_undo_4 ?_
  refine zj_getR C F zk_0 fl_X11_26 rfl rf_0_2 dX11_undo_5 ?_
  refine zj_callVi C F Z [.ref (zad Γ 11)] [] cal_X2_bringBack calv_X2_bringBack ml_X11_269 zk_53 rfl rfl (by decide) (Nat.le_of_ble_eq_true rfl) rfl dX11_undo_8 (fun q h => M_X2_bringBack l Γ F zk_11 mem q h) (fun y1 m2 h_y1 => ?_)
  refine zj_if_ne C 16 h_y1 dX11_undo_11 rfl (fun c3 => ?_) (fun c3 => ?_)
  · refine zj_iconst C (-1) dX11_undo_14 ?_
    exact zrt_i C Z irc_m1 dX11_undo_15
  · refine zj_aload_n (j := 0) (i := 0) C rfl 0 rfl dX11_undo_16 ?_
    refine zj_getR C F zk_0 fl_X11_71 rfl rf_0_9 dX11_undo_17 ?_
    refine zj_getI C F 2 rfl zk_53 fl_X11_273 rfl dX11_undo_20 (fun h4 => ?_)
    exact zrt_i C Z h4 dX11_undo_23
noncomputable def f_X11_shadow (x0 : Int) (x1 : Int) (mem : zMem) : Option (Int × zMem) := zbind (f_X5_hasShadow 4 x0 x1 mem) fun y1 m2 => if y1 = 0 then (some ((-1), m2)) else (zbind (f_X3_reach 20 x0 x1 m2) fun y4 m5 => some (y4, m5))
set_option maxHeartbeats 4000000 in
theorem M_X11_shadow (l : Launch) (Γ : zG) (F : zFull Γ)  {x0 : Int} {x1 : Int} (h_x0 : ir x0) (h_x1 : ir x1) (mem : zMem) (q : Int × zMem) (h : f_X11_shadow x0 x1 mem = some q) : zMet l yX11_shadow cX11_shadow 3 (some .int) 3 Γ 1 [.ref (zad Γ 0), .int (i32 x0), .int (i32 x1)] mem q := by
  refine zMet_of (own := "ShadowHeirs") (by decide) rfl (Nat.le_of_ble_eq_true rfl) (fun X C Z => ?_)
  revert h
  show zJ X Γ 3 q (f_X11_shadow x0 x1 mem) 0 [(0, .ref (zad Γ 0)), (1, .int (i32 x0)), (2, .int (i32 x1))] [] mem
  unfold f_X11_shadow
  refine zj_aload_n (j := 0) (i := 0) C rfl 0 rfl dX11_shadow_0 ?_
  refine zj_getR C F zk_0 fl_X11_19 rfl rf_0_1 dX11_shadow_1 ?_
  refine zj_iload_n (j := 1) (i := 1) C rfl 1 rfl dX11_shadow_4 ?_
  refine zj_iload_n (j := 2) (i := 2) C rfl 2 rfl dX11_shadow_5 ?_
  refine zj_callVi C F Z [.int (i32 x0), .int (i32 x1)] [] cal_X5_hasShadow calv_X5_hasShadow ml_X11_274 zk_4 rfl rfl (by decide) (Nat.le_of_ble_eq_true rfl) rfl dX11_shadow_6 (fun q h => M_X5_hasShadow l Γ F zk_4 h_x0 h_x1 mem q h) (fun y1 m2 h_y1 => ?_)
  refine zj_if_ne C 14 h_y1 dX11_shadow_9 rfl (fun c3 => ?_) (fun c3 => ?_)
  · refine zj_iconst C (-1) dX11_shadow_12 ?_
    exact zrt_i C Z irc_m1 dX11_shadow_13
  · refine zj_aload_n (j := 0) (i := 0) C rfl 0 rfl dX11_shadow_14 ?_
    refine zj_getR C F zk_0 fl_X11_42 rfl rf_0_4 dX11_shadow_15 ?_
    refine zj_iload_n (j := 1) (i := 1) C rfl 1 rfl dX11_shadow_18 ?_
    refine zj_iload_n (j := 2) (i := 2) C rfl 2 rfl dX11_shadow_19 ?_
    refine zj_callVi C F Z [.int (i32 x0), .int (i32 x1)] [] cal_X3_reach calv_X3_reach ml_X11_277 zk_20 rfl rfl (by decide) (Nat.le_of_ble_eq_true rfl) rfl dX11_shadow_20 (fun q h => M_X3_reach l Γ F zk_20 h_x0 h_x1 m2 q h) (fun y4 m5 h_y4 => ?_)
    exact zrt_i C Z h_y4 dX11_shadow_23
noncomputable def f_X11_heirs (x0 : Int) (x1 : Int) (mem : zMem) : Option (Int × zMem) := zbind (f_X5_hasShadow 4 x0 x1 mem) fun y1 m2 => if y1 = 0 then (some ((-1), m2)) else (zbind (f_X3_personsTouched 20 x0 x1 m2) fun y4 m5 => some (y4, m5))
set_option maxHeartbeats 4000000 in
theorem M_X11_heirs (l : Launch) (Γ : zG) (F : zFull Γ)  {x0 : Int} {x1 : Int} (h_x0 : ir x0) (h_x1 : ir x1) (mem : zMem) (q : Int × zMem) (h : f_X11_heirs x0 x1 mem = some q) : zMet l yX11_heirs cX11_heirs 3 (some .int) 4 Γ 1 [.ref (zad Γ 0), .int (i32 x0), .int (i32 x1)] mem q := by
  refine zMet_of (own := "ShadowHeirs") (by decide) rfl (Nat.le_of_ble_eq_true rfl) (fun X C Z => ?_)
  revert h
  show zJ X Γ 3 q (f_X11_heirs x0 x1 mem) 0 [(0, .ref (zad Γ 0)), (1, .int (i32 x0)), (2, .int (i32 x1))] [] mem
  unfold f_X11_heirs
  refine zj_aload_n (j := 0) (i := 0) C rfl 0 rfl dX11_heirs_0 ?_
  refine zj_getR C F zk_0 fl_X11_19 rfl rf_0_1 dX11_heirs_1 ?_
  refine zj_iload_n (j := 1) (i := 1) C rfl 1 rfl dX11_heirs_4 ?_
  refine zj_iload_n (j := 2) (i := 2) C rfl 2 rfl dX11_heirs_5 ?_
  refine zj_callVi C F Z [.int (i32 x0), .int (i32 x1)] [] cal_X5_hasShadow calv_X5_hasShadow ml_X11_274 zk_4 rfl rfl (by decide) (Nat.le_of_ble_eq_true rfl) rfl dX11_heirs_6 (fun q h => M_X5_hasShadow l Γ F zk_4 h_x0 h_x1 mem q h) (fun y1 m2 h_y1 => ?_)
  refine zj_if_ne C 14 h_y1 dX11_heirs_9 rfl (fun c3 => ?_) (fun c3 => ?_)
  · refine zj_iconst C (-1) dX11_heirs_12 ?_
    exact zrt_i C Z irc_m1 dX11_heirs_13
  · refine zj_aload_n (j := 0) (i := 0) C rfl 0 rfl dX11_heirs_14 ?_
    refine zj_getR C F zk_0 fl_X11_42 rfl rf_0_4 dX11_heirs_15 ?_
    refine zj_iload_n (j := 1) (i := 1) C rfl 1 rfl dX11_heirs_18 ?_
    refine zj_iload_n (j := 2) (i := 2) C rfl 2 rfl dX11_heirs_19 ?_
    refine zj_callVi C F Z [.int (i32 x0), .int (i32 x1)] [] cal_X3_personsTouched calv_X3_personsTouched ml_X11_196 zk_20 rfl rfl (by decide) (Nat.le_of_ble_eq_true rfl) rfl dX11_heirs_20 (fun q h => M_X3_personsTouched l Γ F zk_20 h_x0 h_x1 m2 q h) (fun y4 m5 h_y4 => ?_)
    exact zrt_i C Z h_y4 dX11_heirs_23
noncomputable def f_X11_share (x0 : Int) (x1 : Int) (x2 : Int) (x3 : Int) (mem : zMem) : Option (Int × zMem) := zbind (f_X5_hasPerson 4 x0 mem) fun y1 m2 => if y1 = 0 then (none) else (zbind (f_X5_hasShadow 4 x1 x2 m2) fun y4 m5 => if y4 = 0 then (none) else (if x3 < 0 then (none) else (if x3 ≤ 1 then (zbind (f_X3_partsWith 20 x0 x1 x2 m5) fun y9 m10 => if x3 = 0 then (if y9 = 0 then (some (0, m10)) else (some (1, m10))) else (if y9 = 0 then (some (1, m10)) else (some (y9, m10)))) else (none))))
set_option maxHeartbeats 4000000 in
theorem M_X11_share (l : Launch) (Γ : zG) (F : zFull Γ)  {x0 : Int} {x1 : Int} {x2 : Int} {x3 : Int} (h_x0 : ir x0) (h_x1 : ir x1) (h_x2 : ir x2) (h_x3 : ir x3) (mem : zMem) (q : Int × zMem) (h : f_X11_share x0 x1 x2 x3 mem = some q) : zMet l yX11_share cX11_share 6 (some .int) 5 Γ 1 [.ref (zad Γ 0), .int (i32 x0), .int (i32 x1), .int (i32 x2), .int (i32 x3)] mem q := by
  refine zMet_of (own := "ShadowHeirs") (by decide) rfl (Nat.le_of_ble_eq_true rfl) (fun X C Z => ?_)
  revert h
  show zJ X Γ 6 q (f_X11_share x0 x1 x2 x3 mem) 0 [(0, .ref (zad Γ 0)), (1, .int (i32 x0)), (2, .int (i32 x1)), (3, .int (i32 x2)), (4, .int (i32 x3))] [] mem
  unfold f_X11_share
  refine zj_aload_n (j := 0) (i := 0) C rfl 0 rfl dX11_share_0 ?_
  refine zj_getR C F zk_0 fl_X11_19 rfl rf_0_1 dX11_share_1 ?_
  refine zj_iload_n (j := 1) (i := 1) C rfl 1 rfl dX11_share_4 ?_
  refine zj_callVi C F Z [.int (i32 x0)] [] cal_X5_hasPerson calv_X5_hasPerson ml_X11_200 zk_4 rfl rfl (by decide) (Nat.le_of_ble_eq_true rfl) rfl dX11_share_5 (fun q h => M_X5_hasPerson l Γ F zk_4 h_x0 mem q h) (fun y1 m2 h_y1 => ?_)
  refine zj_if_eq C 34 h_y1 dX11_share_8 rfl (fun c3 => ?_) (fun c3 => ?_)
  · exact zj_none
  · refine zj_aload_n (j := 0) (i := 0) C rfl 0 rfl dX11_share_11 ?_
    refine zj_getR C F zk_0 fl_X11_19 rfl rf_0_1 dX11_share_12 ?_
    refine zj_iload_n (j := 2) (i := 2) C rfl 2 rfl dX11_share_15 ?_
    refine zj_iload_n (j := 3) (i := 3) C rfl 3 rfl dX11_share_16 ?_
    refine zj_callVi C F Z [.int (i32 x1), .int (i32 x2)] [] cal_X5_hasShadow calv_X5_hasShadow ml_X11_274 zk_4 rfl rfl (by decide) (Nat.le_of_ble_eq_true rfl) rfl dX11_share_17 (fun q h => M_X5_hasShadow l Γ F zk_4 h_x1 h_x2 m2 q h) (fun y4 m5 h_y4 => ?_)
    refine zj_if_eq C 34 h_y4 dX11_share_20 rfl (fun c6 => ?_) (fun c6 => ?_)
    · exact zj_none
    · refine zj_iload C 4 rfl dX11_share_23 ?_
      refine zj_if_lt C 34 h_x3 dX11_share_25 rfl (fun c7 => ?_) (fun c7 => ?_)
      · exact zj_none
      · refine zj_iload C 4 rfl dX11_share_28 ?_
        refine zj_iconst C 1 dX11_share_30 ?_
        refine zj_icmp_le C 45 h_x3 irc_1 dX11_share_31 rfl (fun c8 => ?_) (fun c8 => ?_)
        · refine zj_aload_n (j := 0) (i := 0) C rfl 0 rfl dX11_share_45 ?_
          refine zj_getR C F zk_0 fl_X11_42 rfl rf_0_4 dX11_share_46 ?_
          refine zj_iload_n (j := 1) (i := 1) C rfl 1 rfl dX11_share_49 ?_
          refine zj_iload_n (j := 2) (i := 2) C rfl 2 rfl dX11_share_50 ?_
          refine zj_iload_n (j := 3) (i := 3) C rfl 3 rfl dX11_share_51 ?_
          refine zj_callVi C F Z [.int (i32 x0), .int (i32 x1), .int (i32 x2)] [] cal_X3_partsWith calv_X3_partsWith ml_X11_282 zk_20 rfl rfl (by decide) (Nat.le_of_ble_eq_true rfl) rfl dX11_share_52 (fun q h => M_X3_partsWith l Γ F zk_20 h_x0 h_x1 h_x2 m5 q h) (fun y9 m10 h_y9 => ?_)
          refine zj_istore C [(5, .int (i32 y9)), (0, .ref (zad Γ 0)), (1, .int (i32 x0)), (2, .int (i32 x1)), (3, .int (i32 x2)), (4, .int (i32 x3))] dX11_share_55 (by decide) rfl ?_
          refine zj_iload C 5 rfl dX11_share_57 ?_
          refine zj_if_ne C 73 h_x3 dX11_share_59 rfl (fun c11 => ?_) (fun c11 => ?_)
          · refine zj_iload C 0 rfl dX11_share_62 ?_
            refine zj_if_ne C 71 h_y9 dX11_share_64 rfl (fun c12 => ?_) (fun c12 => ?_)
            · refine zj_iconst C 0 dX11_share_67 ?_
              refine zj_goto (tgt := 72) C dX11_share_68 rfl ?_
              exact zrt_i C Z irc_0 dX11_share_72
            · refine zj_iconst C 1 dX11_share_71 ?_
              exact zrt_i C Z irc_1 dX11_share_72
          · refine zj_iload C 0 rfl dX11_share_73 ?_
            refine zj_if_ne C 82 h_y9 dX11_share_75 rfl (fun c13 => ?_) (fun c13 => ?_)
            · refine zj_iconst C 1 dX11_share_78 ?_
              refine zj_goto (tgt := 84) C dX11_share_79 rfl ?_
              exact zrt_i C Z irc_1 dX11_share_84
            · refine zj_iload C 0 rfl dX11_share_82 ?_
              exact zrt_i C Z h_y9 dX11_share_84
        · exact zj_none
noncomputable def b_X11_best_0 (rec : Int → Int → Int → Int → Int → zMem → Option (Int × zMem)) (v1 : Int) (v2 : Int) (v3 : Int) (v4 : Int) (v5 : Int) (mem : zMem) : Option (Int × zMem) := if v5 ≥ (mem 4 4) then (some (v3, mem)) else (zbind (f_X3_partsWith 20 v1 v2 v5 mem) fun y3 m4 => if y3 ≤ 0 then (rec v1 v2 v3 v4 (w32 (v5 + 1)) m4) else (if y3 ≥ v4 then (rec v1 v2 v3 v4 (w32 (v5 + 1)) m4) else (rec v1 v2 v5 y3 (w32 (v5 + 1)) m4)))
noncomputable def f_X11_best_0 : Nat → Int → Int → Int → Int → Int → zMem → Option (Int × zMem) := zfuel (fun _ _ _ _ _ _ => none) (b_X11_best_0)
set_option maxHeartbeats 4000000 in
theorem L_X11_best_0 (l : Launch) {Γ : zG} (F : zFull Γ) {X : zM} {q : Int × zMem} (C : zC X Γ "ShadowHeirs" cX11_best 7) (Z : zRt X l Γ 5 1 (some .int) q) : ∀ n : Nat, ∀ (v1 : Int) (v2 : Int) (v3 : Int) (v4 : Int) (v5 : Int) (h_v1 : ir v1) (h_v2 : ir v2) (h_v3 : ir v3) (h_v4 : ir v4) (h_v5 : ir v5) (mem : zMem), zJ X Γ 7 q (f_X11_best_0 n v1 v2 v3 v4 v5 mem) 33 [(0, .ref (zad Γ 0)), (1, .int (i32 v1)), (2, .int (i32 v2)), (3, .int (i32 v3)), (4, .int (i32 v4)), (5, .int (i32 v5))] [] mem := by
  intro n
  induction n with
  | zero => intros; exact zj_none
  | succ n ih =>
    intro v1 v2 v3 v4 v5 h_v1 h_v2 h_v3 h_v4 h_v5 mem
    show zJ X Γ 7 q (b_X11_best_0 (f_X11_best_0 n) v1 v2 v3 v4 v5 mem) _ _ _ _
    unfold b_X11_best_0
    refine zj_iload C 5 rfl dX11_best_33 ?_
    refine zj_aload_n (j := 0) (i := 0) C rfl 0 rfl dX11_best_35 ?_
    refine zj_getR C F zk_0 fl_X11_19 rfl rf_0_1 dX11_best_36 ?_
    refine zj_getI C F 4 rfl zk_4 fl_X11_286 rfl dX11_best_39 (fun h1 => ?_)
    refine zj_icmp_ge C 83 h_v5 h1 dX11_best_42 rfl (fun c2 => ?_) (fun c2 => ?_)
    · refine zj_iload_n (j := 3) (i := 3) C rfl 3 rfl dX11_best_83 ?_
      exact zrt_i C Z h_v3 dX11_best_84
    · refine zj_aload_n (j := 0) (i := 0) C rfl 0 rfl dX11_best_45 ?_
      refine zj_getR C F zk_0 fl_X11_42 rfl rf_0_4 dX11_best_46 ?_
      refine zj_iload_n (j := 1) (i := 1) C rfl 1 rfl dX11_best_49 ?_
      refine zj_iload_n (j := 2) (i := 2) C rfl 2 rfl dX11_best_50 ?_
      refine zj_iload C 5 rfl dX11_best_51 ?_
      refine zj_callVi C F Z [.int (i32 v1), .int (i32 v2), .int (i32 v5)] [] cal_X3_partsWith calv_X3_partsWith ml_X11_282 zk_20 rfl rfl (by decide) (Nat.le_of_ble_eq_true rfl) rfl dX11_best_53 (fun q h => M_X3_partsWith l Γ F zk_20 h_v1 h_v2 h_v5 mem q h) (fun y3 m4 h_y3 => ?_)
      refine zj_istore C [(6, .int (i32 y3)), (0, .ref (zad Γ 0)), (1, .int (i32 v1)), (2, .int (i32 v2)), (3, .int (i32 v3)), (4, .int (i32 v4)), (5, .int (i32 v5))] dX11_best_56 (by decide) rfl ?_
      refine zj_iload C 0 rfl dX11_best_58 ?_
      refine zj_if_le C 77 h_y3 dX11_best_60 rfl (fun c5 => ?_) (fun c5 => ?_)
      · refine zj_iinc C 6 [(5, .int (i32 (w32 (v5 + 1)))), (6, .int (i32 y3)), (0, .ref (zad Γ 0)), (1, .int (i32 v1)), (2, .int (i32 v2)), (3, .int (i32 v3)), (4, .int (i32 v4))] rfl dX11_best_77 (by decide) rfl ?_
        refine zj_goto (tgt := 33) C dX11_best_80 rfl ?_
        exact zj_sub [2, 3, 4, 5, 6, 0] rfl (ih v1 v2 v3 v4 (w32 (v5 + 1)) h_v1 h_v2 h_v3 h_v4 (ir_w _) m4)
      · refine zj_iload C 0 rfl dX11_best_63 ?_
        refine zj_iload C 5 rfl dX11_best_65 ?_
        refine zj_icmp_ge C 77 h_y3 h_v4 dX11_best_67 rfl (fun c6 => ?_) (fun c6 => ?_)
        · refine zj_iinc C 6 [(5, .int (i32 (w32 (v5 + 1)))), (6, .int (i32 y3)), (0, .ref (zad Γ 0)), (1, .int (i32 v1)), (2, .int (i32 v2)), (3, .int (i32 v3)), (4, .int (i32 v4))] rfl dX11_best_77 (by decide) rfl ?_
          refine zj_goto (tgt := 33) C dX11_best_80 rfl ?_
          exact zj_sub [2, 3, 4, 5, 6, 0] rfl (ih v1 v2 v3 v4 (w32 (v5 + 1)) h_v1 h_v2 h_v3 h_v4 (ir_w _) m4)
        · refine zj_iload C 0 rfl dX11_best_70 ?_
          refine zj_istore C [(4, .int (i32 y3)), (6, .int (i32 y3)), (0, .ref (zad Γ 0)), (1, .int (i32 v1)), (2, .int (i32 v2)), (3, .int (i32 v3)), (5, .int (i32 v5))] dX11_best_72 (by decide) rfl ?_
          refine zj_iload C 6 rfl dX11_best_74 ?_
          refine zj_istore_n (j := 3) (i := 3) C rfl [(3, .int (i32 v5)), (4, .int (i32 y3)), (6, .int (i32 y3)), (0, .ref (zad Γ 0)), (1, .int (i32 v1)), (2, .int (i32 v2)), (5, .int (i32 v5))] dX11_best_76 (by decide) rfl ?_
          refine zj_iinc C 6 [(5, .int (i32 (w32 (v5 + 1)))), (3, .int (i32 v5)), (4, .int (i32 y3)), (6, .int (i32 y3)), (0, .ref (zad Γ 0)), (1, .int (i32 v1)), (2, .int (i32 v2))] rfl dX11_best_77 (by decide) rfl ?_
          refine zj_goto (tgt := 33) C dX11_best_80 rfl ?_
          exact zj_sub [4, 5, 6, 1, 2, 0] rfl (ih v1 v2 v5 y3 (w32 (v5 + 1)) h_v1 h_v2 h_v5 h_y3 (ir_w _) m4)
noncomputable def f_X11_best (x0 : Int) (x1 : Int) (mem : zMem) : Option (Int × zMem) := zbind (f_X5_hasPerson 4 x0 mem) fun y1 m2 => if y1 = 0 then (some ((-1), m2)) else (zbind (f_X5_hasHouse 4 x1 m2) fun y4 m5 => if y4 = 0 then (some ((-1), m5)) else (f_X11_best_0 zN x0 x1 (-1) 7 0 m5))
set_option maxHeartbeats 4000000 in
theorem M_X11_best (l : Launch) (Γ : zG) (F : zFull Γ)  {x0 : Int} {x1 : Int} (h_x0 : ir x0) (h_x1 : ir x1) (mem : zMem) (q : Int × zMem) (h : f_X11_best x0 x1 mem = some q) : zMet l yX11_best cX11_best 7 (some .int) 5 Γ 1 [.ref (zad Γ 0), .int (i32 x0), .int (i32 x1)] mem q := by
  refine zMet_of (own := "ShadowHeirs") (by decide) rfl (Nat.le_of_ble_eq_true rfl) (fun X C Z => ?_)
  revert h
  show zJ X Γ 7 q (f_X11_best x0 x1 mem) 0 [(0, .ref (zad Γ 0)), (1, .int (i32 x0)), (2, .int (i32 x1))] [] mem
  unfold f_X11_best
  refine zj_aload_n (j := 0) (i := 0) C rfl 0 rfl dX11_best_0 ?_
  refine zj_getR C F zk_0 fl_X11_19 rfl rf_0_1 dX11_best_1 ?_
  refine zj_iload_n (j := 1) (i := 1) C rfl 1 rfl dX11_best_4 ?_
  refine zj_callVi C F Z [.int (i32 x0)] [] cal_X5_hasPerson calv_X5_hasPerson ml_X11_200 zk_4 rfl rfl (by decide) (Nat.le_of_ble_eq_true rfl) rfl dX11_best_5 (fun q h => M_X5_hasPerson l Γ F zk_4 h_x0 mem q h) (fun y1 m2 h_y1 => ?_)
  refine zj_if_eq C 22 h_y1 dX11_best_8 rfl (fun c3 => ?_) (fun c3 => ?_)
  · refine zj_iconst C (-1) dX11_best_22 ?_
    exact zrt_i C Z irc_m1 dX11_best_23
  · refine zj_aload_n (j := 0) (i := 0) C rfl 0 rfl dX11_best_11 ?_
    refine zj_getR C F zk_0 fl_X11_19 rfl rf_0_1 dX11_best_12 ?_
    refine zj_iload_n (j := 2) (i := 2) C rfl 2 rfl dX11_best_15 ?_
    refine zj_callVi C F Z [.int (i32 x1)] [] cal_X5_hasHouse calv_X5_hasHouse ml_X11_170 zk_4 rfl rfl (by decide) (Nat.le_of_ble_eq_true rfl) rfl dX11_best_16 (fun q h => M_X5_hasHouse l Γ F zk_4 h_x1 m2 q h) (fun y4 m5 h_y4 => ?_)
    refine zj_if_ne C 24 h_y4 dX11_best_19 rfl (fun c6 => ?_) (fun c6 => ?_)
    · refine zj_iconst C (-1) dX11_best_22 ?_
      exact zrt_i C Z irc_m1 dX11_best_23
    · refine zj_iconst C (-1) dX11_best_24 ?_
      refine zj_istore_n (j := 3) (i := 3) C rfl [(3, .int (i32 (-1))), (0, .ref (zad Γ 0)), (1, .int (i32 x0)), (2, .int (i32 x1))] dX11_best_25 (by decide) rfl ?_
      refine zj_bipush C 7 rfl dX11_best_26 ?_
      refine zj_istore C [(4, .int (i32 7)), (3, .int (i32 (-1))), (0, .ref (zad Γ 0)), (1, .int (i32 x0)), (2, .int (i32 x1))] dX11_best_28 (by decide) rfl ?_
      refine zj_iconst C 0 dX11_best_30 ?_
      refine zj_istore C [(5, .int (i32 0)), (4, .int (i32 7)), (3, .int (i32 (-1))), (0, .ref (zad Γ 0)), (1, .int (i32 x0)), (2, .int (i32 x1))] dX11_best_31 (by decide) rfl ?_
      exact zj_sub [3, 4, 5, 2, 1, 0] rfl ((L_X11_best_0 l F C Z zN) x0 x1 (-1) 7 0 h_x0 h_x1 irc_m1 irc_7 irc_0 m5)
noncomputable def f_X11_near (x0 : Int) (x1 : Int) (x2 : Int) (mem : zMem) : Option (Int × zMem) := zbind (f_X5_hasPerson 4 x0 mem) fun y1 m2 => if y1 = 0 then (some ((-1), m2)) else (zbind (f_X5_hasShadow 4 x1 x2 m2) fun y4 m5 => if y4 = 0 then (some ((-1), m5)) else (zbind (f_X10_stepsIntoShadow x0 x1 x2 m5) fun y7 m8 => some (y7, m8)))
set_option maxHeartbeats 4000000 in
theorem M_X11_near (l : Launch) (Γ : zG) (F : zFull Γ)  {x0 : Int} {x1 : Int} {x2 : Int} (h_x0 : ir x0) (h_x1 : ir x1) (h_x2 : ir x2) (mem : zMem) (q : Int × zMem) (h : f_X11_near x0 x1 x2 mem = some q) : zMet l yX11_near cX11_near 4 (some .int) 4 Γ 1 [.ref (zad Γ 0), .int (i32 x0), .int (i32 x1), .int (i32 x2)] mem q := by
  refine zMet_of (own := "ShadowHeirs") (by decide) rfl (Nat.le_of_ble_eq_true rfl) (fun X C Z => ?_)
  revert h
  show zJ X Γ 4 q (f_X11_near x0 x1 x2 mem) 0 [(0, .ref (zad Γ 0)), (1, .int (i32 x0)), (2, .int (i32 x1)), (3, .int (i32 x2))] [] mem
  unfold f_X11_near
  refine zj_aload_n (j := 0) (i := 0) C rfl 0 rfl dX11_near_0 ?_
  refine zj_getR C F zk_0 fl_X11_19 rfl rf_0_1 dX11_near_1 ?_
  refine zj_iload_n (j := 1) (i := 1) C rfl 1 rfl dX11_near_4 ?_
  refine zj_callVi C F Z [.int (i32 x0)] [] cal_X5_hasPerson calv_X5_hasPerson ml_X11_200 zk_4 rfl rfl (by decide) (Nat.le_of_ble_eq_true rfl) rfl dX11_near_5 (fun q h => M_X5_hasPerson l Γ F zk_4 h_x0 mem q h) (fun y1 m2 h_y1 => ?_)
  refine zj_if_eq C 23 h_y1 dX11_near_8 rfl (fun c3 => ?_) (fun c3 => ?_)
  · refine zj_iconst C (-1) dX11_near_23 ?_
    exact zrt_i C Z irc_m1 dX11_near_24
  · refine zj_aload_n (j := 0) (i := 0) C rfl 0 rfl dX11_near_11 ?_
    refine zj_getR C F zk_0 fl_X11_19 rfl rf_0_1 dX11_near_12 ?_
    refine zj_iload_n (j := 2) (i := 2) C rfl 2 rfl dX11_near_15 ?_
    refine zj_iload_n (j := 3) (i := 3) C rfl 3 rfl dX11_near_16 ?_
    refine zj_callVi C F Z [.int (i32 x1), .int (i32 x2)] [] cal_X5_hasShadow calv_X5_hasShadow ml_X11_274 zk_4 rfl rfl (by decide) (Nat.le_of_ble_eq_true rfl) rfl dX11_near_17 (fun q h => M_X5_hasShadow l Γ F zk_4 h_x1 h_x2 m2 q h) (fun y4 m5 h_y4 => ?_)
    refine zj_if_ne C 25 h_y4 dX11_near_20 rfl (fun c6 => ?_) (fun c6 => ?_)
    · refine zj_iconst C (-1) dX11_near_23 ?_
      exact zrt_i C Z irc_m1 dX11_near_24
    · refine zj_aload_n (j := 0) (i := 0) C rfl 0 rfl dX11_near_25 ?_
      refine zj_getR C F zk_0 fl_X11_88 rfl rf_0_12 dX11_near_26 ?_
      refine zj_iload_n (j := 1) (i := 1) C rfl 1 rfl dX11_near_29 ?_
      refine zj_iload_n (j := 2) (i := 2) C rfl 2 rfl dX11_near_30 ?_
      refine zj_iload_n (j := 3) (i := 3) C rfl 3 rfl dX11_near_31 ?_
      refine zj_callVi C F Z [.int (i32 x0), .int (i32 x1), .int (i32 x2)] [] cal_X10_stepsIntoShadow calv_X10_stepsIntoShadow ml_X11_301 zk_97 rfl rfl (by decide) (Nat.le_of_ble_eq_true rfl) rfl dX11_near_32 (fun q h => M_X10_stepsIntoShadow l Γ F h_x0 h_x1 h_x2 m5 q h) (fun y7 m8 h_y7 => ?_)
      exact zrt_i C Z h_y7 dX11_near_35
noncomputable def b_X11_longest_0 (rec : Nat → Int → Int → Int → zMem → Option (Int × zMem)) (tag : Nat) (v1 : Int) (v2 : Int) (v3 : Int) (mem : zMem) : Option (Int × zMem) := match tag with
  | 0 => if v2 ≥ (mem 4 2) then (some (v1, mem)) else (rec 1 v1 v2 0 mem)
  | _ => if v3 ≥ (mem 4 4) then (rec 0 v1 (w32 (v2 + 1)) 0 mem) else (zbind (f_X3_reach 20 v2 v3 mem) fun y1003 m1004 => if y1003 ≤ v1 then (rec 1 v1 v2 (w32 (v3 + 1)) m1004) else (pipe (zup m1004 0 18 v2) fun m1006 => pipe (zup m1006 0 19 v3) fun m1007 => rec 1 y1003 v2 (w32 (v3 + 1)) m1007))
noncomputable def f_X11_longest_0 : Nat → Nat → Int → Int → Int → zMem → Option (Int × zMem) := zfuel (fun _ _ _ _ _ => none) (b_X11_longest_0)
set_option maxHeartbeats 4000000 in
theorem L_X11_longest_0 (l : Launch) {Γ : zG} (F : zFull Γ) {X : zM} {q : Int × zMem} (C : zC X Γ "ShadowHeirs" cX11_longest 5) (Z : zRt X l Γ 3 1 (some .int) q) : ∀ n : Nat, (∀ (v1 : Int) (v2 : Int) (v3 : Int) (h_v1 : ir v1) (h_v2 : ir v2) (mem : zMem), zJ X Γ 5 q (f_X11_longest_0 n 0 v1 v2 v3 mem) 4 [(0, .ref (zad Γ 0)), (1, .int (i32 v1)), (2, .int (i32 v2))] [] mem) ∧ (∀ (v1 : Int) (v2 : Int) (v3 : Int) (h_v1 : ir v1) (h_v2 : ir v2) (h_v3 : ir v3) (mem : zMem), zJ X Γ 5 q (f_X11_longest_0 n 1 v1 v2 v3 mem) 17 [(0, .ref (zad Γ 0)), (1, .int (i32 v1)), (2, .int (i32 v2)), (3, .int (i32 v3))] [] mem) := by
  intro n
  induction n with
  | zero => exact ⟨(by intros; exact zj_none), (by intros; exact zj_none)⟩
  | succ n ih =>
    refine ⟨?_, ?_⟩
    · intro v1 v2 v3 h_v1 h_v2 mem
      show zJ X Γ 5 q (b_X11_longest_0 (f_X11_longest_0 n) 0 v1 v2 v3 mem) _ _ _ _
      unfold b_X11_longest_0
      refine zj_iload_n (j := 2) (i := 2) C rfl 2 rfl dX11_longest_4 ?_
      refine zj_aload_n (j := 0) (i := 0) C rfl 0 rfl dX11_longest_5 ?_
      refine zj_getR C F zk_0 fl_X11_19 rfl rf_0_1 dX11_longest_6 ?_
      refine zj_getI C F 2 rfl zk_4 fl_X11_313 rfl dX11_longest_9 (fun h1 => ?_)
      refine zj_icmp_ge C 70 h_v2 h1 dX11_longest_12 rfl (fun c2 => ?_) (fun c2 => ?_)
      · refine zj_iload_n (j := 1) (i := 1) C rfl 1 rfl dX11_longest_70 ?_
        exact zrt_i C Z h_v1 dX11_longest_71
      · refine zj_iconst C 0 dX11_longest_15 ?_
        refine zj_istore_n (j := 3) (i := 3) C rfl [(3, .int (i32 0)), (0, .ref (zad Γ 0)), (1, .int (i32 v1)), (2, .int (i32 v2))] dX11_longest_16 (by decide) rfl ?_
        exact zj_sub [1, 2, 3, 0] rfl (ih.2 v1 v2 0 h_v1 h_v2 irc_0 mem)
    · intro v1 v2 v3 h_v1 h_v2 h_v3 mem
      show zJ X Γ 5 q (b_X11_longest_0 (f_X11_longest_0 n) 1 v1 v2 v3 mem) _ _ _ _
      unfold b_X11_longest_0
      refine zj_iload_n (j := 3) (i := 3) C rfl 3 rfl dX11_longest_17 ?_
      refine zj_aload_n (j := 0) (i := 0) C rfl 0 rfl dX11_longest_18 ?_
      refine zj_getR C F zk_0 fl_X11_19 rfl rf_0_1 dX11_longest_19 ?_
      refine zj_getI C F 4 rfl zk_4 fl_X11_286 rfl dX11_longest_22 (fun h1001 => ?_)
      refine zj_icmp_ge C 64 h_v3 h1001 dX11_longest_25 rfl (fun c1002 => ?_) (fun c1002 => ?_)
      · refine zj_iinc C 2 [(2, .int (i32 (w32 (v2 + 1)))), (0, .ref (zad Γ 0)), (1, .int (i32 v1)), (3, .int (i32 v3))] rfl dX11_longest_64 (by decide) rfl ?_
        refine zj_goto (tgt := 4) C dX11_longest_67 rfl ?_
        exact zj_sub [1, 2, 0] rfl (ih.1 v1 (w32 (v2 + 1)) 0 h_v1 (ir_w _) mem)
      · refine zj_aload_n (j := 0) (i := 0) C rfl 0 rfl dX11_longest_28 ?_
        refine zj_getR C F zk_0 fl_X11_42 rfl rf_0_4 dX11_longest_29 ?_
        refine zj_iload_n (j := 2) (i := 2) C rfl 2 rfl dX11_longest_32 ?_
        refine zj_iload_n (j := 3) (i := 3) C rfl 3 rfl dX11_longest_33 ?_
        refine zj_callVi C F Z [.int (i32 v2), .int (i32 v3)] [] cal_X3_reach calv_X3_reach ml_X11_277 zk_20 rfl rfl (by decide) (Nat.le_of_ble_eq_true rfl) rfl dX11_longest_34 (fun q h => M_X3_reach l Γ F zk_20 h_v2 h_v3 mem q h) (fun y1003 m1004 h_y1003 => ?_)
        refine zj_istore C [(4, .int (i32 y1003)), (0, .ref (zad Γ 0)), (1, .int (i32 v1)), (2, .int (i32 v2)), (3, .int (i32 v3))] dX11_longest_37 (by decide) rfl ?_
        refine zj_iload C 0 rfl dX11_longest_39 ?_
        refine zj_iload_n (j := 1) (i := 1) C rfl 2 rfl dX11_longest_41 ?_
        refine zj_icmp_le C 58 h_y1003 h_v1 dX11_longest_42 rfl (fun c1005 => ?_) (fun c1005 => ?_)
        · refine zj_iinc C 4 [(3, .int (i32 (w32 (v3 + 1)))), (4, .int (i32 y1003)), (0, .ref (zad Γ 0)), (1, .int (i32 v1)), (2, .int (i32 v2))] rfl dX11_longest_58 (by decide) rfl ?_
          refine zj_goto (tgt := 17) C dX11_longest_61 rfl ?_
          exact zj_sub [2, 3, 4, 0] rfl (ih.2 v1 v2 (w32 (v3 + 1)) h_v1 h_v2 (ir_w _) m1004)
        · refine zj_iload C 0 rfl dX11_longest_45 ?_
          refine zj_istore_n (j := 1) (i := 1) C rfl [(1, .int (i32 y1003)), (4, .int (i32 y1003)), (0, .ref (zad Γ 0)), (2, .int (i32 v2)), (3, .int (i32 v3))] dX11_longest_47 (by decide) rfl ?_
          refine zj_aload_n (j := 0) (i := 0) C rfl 2 rfl dX11_longest_48 ?_
          refine zj_iload_n (j := 2) (i := 2) C rfl 3 rfl dX11_longest_49 ?_
          refine zj_putI C F 18 rfl zk_0 fl_X11_116 rfl fp_11_18 h_v2 dX11_longest_50 ?_
          refine zj_pipeM (fun m1006 e_m1006 => ?_)
          refine zj_aload_n (j := 0) (i := 0) C rfl 2 rfl dX11_longest_53 ?_
          refine zj_iload_n (j := 3) (i := 3) C rfl 4 rfl dX11_longest_54 ?_
          refine zj_putI C F 19 rfl zk_0 fl_X11_119 rfl fp_11_19 h_v3 dX11_longest_55 ?_
          refine zj_pipeM (fun m1007 e_m1007 => ?_)
          refine zj_iinc C 4 [(3, .int (i32 (w32 (v3 + 1)))), (1, .int (i32 y1003)), (4, .int (i32 y1003)), (0, .ref (zad Γ 0)), (2, .int (i32 v2))] rfl dX11_longest_58 (by decide) rfl ?_
          refine zj_goto (tgt := 17) C dX11_longest_61 rfl ?_
          exact zj_sub [3, 1, 4, 0] rfl (ih.2 y1003 v2 (w32 (v3 + 1)) h_y1003 h_v2 (ir_w _) m1007)
noncomputable def f_X11_longest  (mem : zMem) : Option (Int × zMem) := f_X11_longest_0 zN 0 0 0 0 mem
set_option maxHeartbeats 4000000 in
theorem M_X11_longest (l : Launch) (Γ : zG) (F : zFull Γ)    (mem : zMem) (q : Int × zMem) (h : f_X11_longest  mem = some q) : zMet l yX11_longest cX11_longest 5 (some .int) 3 Γ 1 [.ref (zad Γ 0)] mem q := by
  refine zMet_of (own := "ShadowHeirs") (by decide) rfl (Nat.le_of_ble_eq_true rfl) (fun X C Z => ?_)
  revert h
  show zJ X Γ 5 q (f_X11_longest  mem) 0 [(0, .ref (zad Γ 0))] [] mem
  unfold f_X11_longest
  refine zj_iconst C 0 dX11_longest_0 ?_
  refine zj_istore_n (j := 1) (i := 1) C rfl [(1, .int (i32 0)), (0, .ref (zad Γ 0))] dX11_longest_1 (by decide) rfl ?_
  refine zj_iconst C 0 dX11_longest_2 ?_
  refine zj_istore_n (j := 2) (i := 2) C rfl [(2, .int (i32 0)), (1, .int (i32 0)), (0, .ref (zad Γ 0))] dX11_longest_3 (by decide) rfl ?_
  exact zj_sub [2, 1, 0] rfl ((L_X11_longest_0 l F C Z zN).1 0 0 0 irc_0 irc_0 mem)
noncomputable def f_X11_image (x0 : Int) (mem : zMem) : Option (Int × zMem) := if x0 < 0 then (some (0, mem)) else (if x0 < 2 then (if ix 95 x0 then zbind (f_X3_copyFrom (sRf 95 (Int.toNat x0)) 20 mem) fun _ m5 => if ix 96 x0 then pipe (zup m5 96 x0 1) fun m7 => some (1, m7) else none else none) else (some (0, mem)))
set_option maxHeartbeats 4000000 in
theorem M_X11_image (l : Launch) (Γ : zG) (F : zFull Γ)  {x0 : Int} (h_x0 : ir x0) (mem : zMem) (q : Int × zMem) (h : f_X11_image x0 mem = some q) : zMet l yX11_image cX11_image 2 (some .boolean) 5 Γ 1 [.ref (zad Γ 0), .int (i32 x0)] mem q := by
  refine zMet_of (own := "ShadowHeirs") (by decide) rfl (Nat.le_of_ble_eq_true rfl) (fun X C Z => ?_)
  revert h
  show zJ X Γ 2 q (f_X11_image x0 mem) 0 [(0, .ref (zad Γ 0)), (1, .int (i32 x0))] [] mem
  unfold f_X11_image
  refine zj_iload_n (j := 1) (i := 1) C rfl 1 rfl dX11_image_0 ?_
  refine zj_if_lt C 13 h_x0 dX11_image_1 rfl (fun c1 => ?_) (fun c1 => ?_)
  · refine zj_iconst C 0 dX11_image_13 ?_
    exact zrt_z C Z (Or.inl rfl) dX11_image_14
  · refine zj_iload_n (j := 1) (i := 1) C rfl 1 rfl dX11_image_4 ?_
    refine zj_aload_n (j := 0) (i := 0) C rfl 0 rfl dX11_image_5 ?_
    refine zj_getR C F zk_0 fl_X11_75 rfl rf_0_10 dX11_image_6 ?_
    refine zj_alen C F 2 zk_95 (Or.inr (Or.inr (Or.inr (Or.inl rfl)))) len_95 dX11_image_9 ?_
    refine zj_icmp_lt C 15 h_x0 irc_2 dX11_image_10 rfl (fun c2 => ?_) (fun c2 => ?_)
    · refine zj_aload_n (j := 0) (i := 0) C rfl 0 rfl dX11_image_15 ?_
      refine zj_getR C F zk_0 fl_X11_75 rfl rf_0_10 dX11_image_16 ?_
      refine zj_iload_n (j := 1) (i := 1) C rfl 1 rfl dX11_image_19 ?_
      refine zj_aaload16 C F zk_95 h_x0 dX11_image_20 (fun c3 h4 => ?_)
      refine zj_aload_n (j := 0) (i := 0) C rfl 0 rfl dX11_image_21 ?_
      refine zj_getR C F zk_0 fl_X11_42 rfl rf_0_4 dX11_image_22 ?_
      refine zj_callVv C F Z [.ref (zad Γ 20)] [] cal_X3_copyFrom calv_X3_copyFrom ml_X11_147 h4 rfl rfl (by decide) (Nat.le_of_ble_eq_true rfl) rfl dX11_image_25 (fun q h => M_X3_copyFrom l Γ F h4 zk_20 mem q h) (fun _ m5 _ => ?_)
      refine zj_aload_n (j := 0) (i := 0) C rfl 0 rfl dX11_image_28 ?_
      refine zj_getR C F zk_0 fl_X11_79 rfl rf_0_11 dX11_image_29 ?_
      refine zj_iload_n (j := 1) (i := 1) C rfl 1 rfl dX11_image_32 ?_
      refine zj_iconst C 1 dX11_image_33 ?_
      refine zj_bastore C F zk_96 h_x0 (Or.inr rfl) dX11_image_34 (fun c6 => ?_)
      refine zj_pipeM (fun m7 e_m7 => ?_)
      refine zj_iconst C 1 dX11_image_35 ?_
      exact zrt_z C Z (Or.inr rfl) dX11_image_36
    · refine zj_iconst C 0 dX11_image_13 ?_
      exact zrt_z C Z (Or.inl rfl) dX11_image_14
noncomputable def f_X11_restore (x0 : Int) (mem : zMem) : Option (Int × zMem) := if x0 < 0 then (some (0, mem)) else (if x0 ≥ 2 then (some (0, mem)) else (if ix 96 x0 then if (mem 96 x0) = 0 then (some (0, mem)) else (if ix 95 x0 then zbind (f_X3_copyFrom 20 (sRf 95 (Int.toNat x0)) mem) fun _ m8 => zbind (f_X2_clear m8) fun _ m9 => some (1, m9) else none) else none))
set_option maxHeartbeats 4000000 in
theorem M_X11_restore (l : Launch) (Γ : zG) (F : zFull Γ)  {x0 : Int} (h_x0 : ir x0) (mem : zMem) (q : Int × zMem) (h : f_X11_restore x0 mem = some q) : zMet l yX11_restore cX11_restore 2 (some .boolean) 5 Γ 1 [.ref (zad Γ 0), .int (i32 x0)] mem q := by
  refine zMet_of (own := "ShadowHeirs") (by decide) rfl (Nat.le_of_ble_eq_true rfl) (fun X C Z => ?_)
  revert h
  show zJ X Γ 2 q (f_X11_restore x0 mem) 0 [(0, .ref (zad Γ 0)), (1, .int (i32 x0))] [] mem
  unfold f_X11_restore
  refine zj_iload_n (j := 1) (i := 1) C rfl 1 rfl dX11_restore_0 ?_
  refine zj_if_lt C 22 h_x0 dX11_restore_1 rfl (fun c1 => ?_) (fun c1 => ?_)
  · refine zj_iconst C 0 dX11_restore_22 ?_
    exact zrt_z C Z (Or.inl rfl) dX11_restore_23
  · refine zj_iload_n (j := 1) (i := 1) C rfl 1 rfl dX11_restore_4 ?_
    refine zj_aload_n (j := 0) (i := 0) C rfl 0 rfl dX11_restore_5 ?_
    refine zj_getR C F zk_0 fl_X11_75 rfl rf_0_10 dX11_restore_6 ?_
    refine zj_alen C F 2 zk_95 (Or.inr (Or.inr (Or.inr (Or.inl rfl)))) len_95 dX11_restore_9 ?_
    refine zj_icmp_ge C 22 h_x0 irc_2 dX11_restore_10 rfl (fun c2 => ?_) (fun c2 => ?_)
    · refine zj_iconst C 0 dX11_restore_22 ?_
      exact zrt_z C Z (Or.inl rfl) dX11_restore_23
    · refine zj_aload_n (j := 0) (i := 0) C rfl 0 rfl dX11_restore_13 ?_
      refine zj_getR C F zk_0 fl_X11_79 rfl rf_0_11 dX11_restore_14 ?_
      refine zj_iload_n (j := 1) (i := 1) C rfl 1 rfl dX11_restore_17 ?_
      refine zj_baload C F zk_96 h_x0 dX11_restore_18 (fun c3 h4 => ?_)
      refine zj_if_ne C 24 h4 dX11_restore_19 rfl (fun c5 => ?_) (fun c5 => ?_)
      · refine zj_iconst C 0 dX11_restore_22 ?_
        exact zrt_z C Z (Or.inl rfl) dX11_restore_23
      · refine zj_aload_n (j := 0) (i := 0) C rfl 0 rfl dX11_restore_24 ?_
        refine zj_getR C F zk_0 fl_X11_42 rfl rf_0_4 dX11_restore_25 ?_
        refine zj_aload_n (j := 0) (i := 0) C rfl 0 rfl dX11_restore_28 ?_
        refine zj_getR C F zk_0 fl_X11_75 rfl rf_0_10 dX11_restore_29 ?_
        refine zj_iload_n (j := 1) (i := 1) C rfl 1 rfl dX11_restore_32 ?_
        refine zj_aaload16 C F zk_95 h_x0 dX11_restore_33 (fun c6 h7 => ?_)
        refine zj_callVv C F Z [.ref (zad Γ (sRf 95 (Int.toNat x0)))] [] cal_X3_copyFrom calv_X3_copyFrom ml_X11_147 zk_20 rfl rfl (by decide) (Nat.le_of_ble_eq_true rfl) rfl dX11_restore_34 (fun q h => M_X3_copyFrom l Γ F zk_20 h7 mem q h) (fun _ m8 _ => ?_)
        refine zj_aload_n (j := 0) (i := 0) C rfl 0 rfl dX11_restore_37 ?_
        refine zj_getR C F zk_0 fl_X11_71 rfl rf_0_9 dX11_restore_38 ?_
        refine zj_callVv C F Z [] [] cal_X2_clear calv_X2_clear ml_X11_150 zk_53 rfl rfl (by decide) (Nat.le_of_ble_eq_true rfl) rfl dX11_restore_41 (fun q h => M_X2_clear l Γ F  m8 q h) (fun _ m9 _ => ?_)
        refine zj_iconst C 1 dX11_restore_44 ?_
        exact zrt_z C Z (Or.inr rfl) dX11_restore_45
noncomputable def b_X11_isTapeSoAt_0 (rec : Int → Int → zMem → Option (Int × zMem)) (v2 : Int) (v3 : Int) (mem : zMem) : Option (Int × zMem) := if (w32 (v3 + 1)) ≥ (mem 1 2) then (some (1, mem)) else (zbind (f_X6_byteOn v3 mem) fun y3 m4 => zbind (f_X6_byteOn (w32 (v3 + 1)) m4) fun y5 m6 => if (zand (zshr v2 y3) 1) = y5 then (rec v2 (w32 (v3 + 2)) m6) else (some (0, m6)))
noncomputable def f_X11_isTapeSoAt_0 : Nat → Int → Int → zMem → Option (Int × zMem) := zfuel (fun _ _ _ => none) (b_X11_isTapeSoAt_0)
set_option maxHeartbeats 4000000 in
theorem L_X11_isTapeSoAt_0 (l : Launch) {Γ : zG} (F : zFull Γ) {X : zM} {q : Int × zMem} (C : zC X Γ "ShadowHeirs" cX11_isTapeSoAt 4) (Z : zRt X l Γ 4 1 (some .boolean) q) : ∀ n : Nat, ∀ (v2 : Int) (v3 : Int) (h_v2 : ir v2) (h_v3 : ir v3) (mem : zMem), zJ X Γ 4 q (f_X11_isTapeSoAt_0 n v2 v3 mem) 19 [(0, .ref (zad Γ 0)), (2, .int (i32 v2)), (3, .int (i32 v3))] [] mem := by
  intro n
  induction n with
  | zero => intros; exact zj_none
  | succ n ih =>
    intro v2 v3 h_v2 h_v3 mem
    show zJ X Γ 4 q (b_X11_isTapeSoAt_0 (f_X11_isTapeSoAt_0 n) v2 v3 mem) _ _ _ _
    unfold b_X11_isTapeSoAt_0
    refine zj_iload_n (j := 3) (i := 3) C rfl 2 rfl dX11_isTapeSoAt_19 ?_
    refine zj_iconst C 1 dX11_isTapeSoAt_20 ?_
    refine zj_iadd C dX11_isTapeSoAt_21 ?_
    refine zj_aload_n (j := 0) (i := 0) C rfl 0 rfl dX11_isTapeSoAt_22 ?_
    refine zj_getR C F zk_0 fl_X11_10 rfl rf_0_0 dX11_isTapeSoAt_23 ?_
    refine zj_getI C F 2 rfl zk_1 fl_X11_130 rfl dX11_isTapeSoAt_26 (fun h1 => ?_)
    refine zj_icmp_ge C 65 (ir_w _) h1 dX11_isTapeSoAt_29 rfl (fun c2 => ?_) (fun c2 => ?_)
    · refine zj_iconst C 1 dX11_isTapeSoAt_65 ?_
      exact zrt_z C Z (Or.inr rfl) dX11_isTapeSoAt_66
    · refine zj_iload_n (j := 2) (i := 2) C rfl 1 rfl dX11_isTapeSoAt_32 ?_
      refine zj_aload_n (j := 0) (i := 0) C rfl 0 rfl dX11_isTapeSoAt_33 ?_
      refine zj_getR C F zk_0 fl_X11_10 rfl rf_0_0 dX11_isTapeSoAt_34 ?_
      refine zj_iload_n (j := 3) (i := 3) C rfl 2 rfl dX11_isTapeSoAt_37 ?_
      refine zj_callVi C F Z [.int (i32 v3)] [.int (i32 v2)] cal_X6_byteOn calv_X6_byteOn ml_X11_307 zk_1 rfl rfl (by decide) (Nat.le_of_ble_eq_true rfl) rfl dX11_isTapeSoAt_38 (fun q h => M_X6_byteOn l Γ F h_v3 mem q h) (fun y3 m4 h_y3 => ?_)
      refine zj_ishr C dX11_isTapeSoAt_41 ?_
      refine zj_iconst C 1 dX11_isTapeSoAt_42 ?_
      refine zj_iand C dX11_isTapeSoAt_43 ?_
      refine zj_aload_n (j := 0) (i := 0) C rfl 0 rfl dX11_isTapeSoAt_44 ?_
      refine zj_getR C F zk_0 fl_X11_10 rfl rf_0_0 dX11_isTapeSoAt_45 ?_
      refine zj_iload_n (j := 3) (i := 3) C rfl 2 rfl dX11_isTapeSoAt_48 ?_
      refine zj_iconst C 1 dX11_isTapeSoAt_49 ?_
      refine zj_iadd C dX11_isTapeSoAt_50 ?_
      refine zj_callVi C F Z [.int (i32 (w32 (v3 + 1)))] [.int (i32 (zand (zshr v2 y3) 1))] cal_X6_byteOn calv_X6_byteOn ml_X11_307 zk_1 rfl rfl (by decide) (Nat.le_of_ble_eq_true rfl) rfl dX11_isTapeSoAt_51 (fun q h => M_X6_byteOn l Γ F (ir_w _) m4 q h) (fun y5 m6 h_y5 => ?_)
      refine zj_icmp_eq C 59 (ir_toInt _) h_y5 dX11_isTapeSoAt_54 rfl (fun c7 => ?_) (fun c7 => ?_)
      · refine zj_iinc C 2 [(3, .int (i32 (w32 (v3 + 2)))), (0, .ref (zad Γ 0)), (2, .int (i32 v2))] rfl dX11_isTapeSoAt_59 (by decide) rfl ?_
        refine zj_goto (tgt := 19) C dX11_isTapeSoAt_62 rfl ?_
        exact zj_sub [1, 2, 0] rfl (ih v2 (w32 (v3 + 2)) h_v2 (ir_w _) m6)
      · refine zj_iconst C 0 dX11_isTapeSoAt_57 ?_
        exact zrt_z C Z (Or.inl rfl) dX11_isTapeSoAt_58
noncomputable def f_X11_isTapeSoAt (x0 : Int) (mem : zMem) : Option (Int × zMem) := zbind (f_X6_byteOn 0 mem) fun y1 m2 => zbind (f_X3_personsTouched 20 y1 x0 m2) fun y3 m4 => f_X11_isTapeSoAt_0 zN y3 1 m4
set_option maxHeartbeats 4000000 in
theorem M_X11_isTapeSoAt (l : Launch) (Γ : zG) (F : zFull Γ)  {x0 : Int} (h_x0 : ir x0) (mem : zMem) (q : Int × zMem) (h : f_X11_isTapeSoAt x0 mem = some q) : zMet l yX11_isTapeSoAt cX11_isTapeSoAt 4 (some .boolean) 4 Γ 1 [.ref (zad Γ 0), .int (i32 x0)] mem q := by
  refine zMet_of (own := "ShadowHeirs") (by decide) rfl (Nat.le_of_ble_eq_true rfl) (fun X C Z => ?_)
  revert h
  show zJ X Γ 4 q (f_X11_isTapeSoAt x0 mem) 0 [(0, .ref (zad Γ 0)), (1, .int (i32 x0))] [] mem
  unfold f_X11_isTapeSoAt
  refine zj_aload_n (j := 0) (i := 0) C rfl 0 rfl dX11_isTapeSoAt_0 ?_
  refine zj_getR C F zk_0 fl_X11_42 rfl rf_0_4 dX11_isTapeSoAt_1 ?_
  refine zj_aload_n (j := 0) (i := 0) C rfl 0 rfl dX11_isTapeSoAt_4 ?_
  refine zj_getR C F zk_0 fl_X11_10 rfl rf_0_0 dX11_isTapeSoAt_5 ?_
  refine zj_iconst C 0 dX11_isTapeSoAt_8 ?_
  refine zj_callVi C F Z [.int (i32 0)] [.ref (zad Γ 20)] cal_X6_byteOn calv_X6_byteOn ml_X11_307 zk_1 rfl rfl (by decide) (Nat.le_of_ble_eq_true rfl) rfl dX11_isTapeSoAt_9 (fun q h => M_X6_byteOn l Γ F irc_0 mem q h) (fun y1 m2 h_y1 => ?_)
  refine zj_iload_n (j := 1) (i := 1) C rfl 1 rfl dX11_isTapeSoAt_12 ?_
  refine zj_callVi C F Z [.int (i32 y1), .int (i32 x0)] [] cal_X3_personsTouched calv_X3_personsTouched ml_X11_196 zk_20 rfl rfl (by decide) (Nat.le_of_ble_eq_true rfl) rfl dX11_isTapeSoAt_13 (fun q h => M_X3_personsTouched l Γ F zk_20 h_y1 h_x0 m2 q h) (fun y3 m4 h_y3 => ?_)
  refine zj_istore_n (j := 2) (i := 2) C rfl [(2, .int (i32 y3)), (0, .ref (zad Γ 0)), (1, .int (i32 x0))] dX11_isTapeSoAt_16 (by decide) rfl ?_
  refine zj_iconst C 1 dX11_isTapeSoAt_17 ?_
  refine zj_istore_n (j := 3) (i := 3) C rfl [(3, .int (i32 1)), (2, .int (i32 y3)), (0, .ref (zad Γ 0)), (1, .int (i32 x0))] dX11_isTapeSoAt_18 (by decide) rfl ?_
  exact zj_sub [2, 1, 0] rfl ((L_X11_isTapeSoAt_0 l F C Z zN) y3 1 h_y3 irc_1 m4)
noncomputable def b_X11_bestToAsk_0 (rec : Nat → Int → Int → Int → Int → Int → Int → Int → zMem → Option (Int × zMem)) (tag : Nat) (v1 : Int) (v2 : Int) (v3 : Int) (v4 : Int) (v5 : Int) (v6 : Int) (v7 : Int) (mem : zMem) : Option (Int × zMem) := match tag with
  | 0 => if v5 ≥ (mem 4 3) then (some (v3, mem)) else (rec 1 v1 v2 v3 v4 v5 0 0 mem)
  | _ => if v7 ≥ (mem 4 4) then (zbind (f_J6_bitCount_0f7a4 v2 mem) fun y1003 m1004 => pipe (zmax v6 (w32 (y1003 - v6))) fun y1005 => if y1005 ≥ v4 then (rec 0 v1 v2 v3 v4 (w32 (v5 + 1)) 0 0 m1004) else (rec 0 v1 v2 v5 y1005 (w32 (v5 + 1)) 0 0 m1004)) else (if (zand (zshr v2 v7) 1) = 1 then (zbind (f_X3_personsTouched 20 v1 v7 mem) fun y1008 m1009 => pipe (w32 (v6 + (zand (zshr y1008 v5) 1))) fun y1010 => rec 1 v1 v2 v3 v4 v5 y1010 (w32 (v7 + 1)) m1009) else (rec 1 v1 v2 v3 v4 v5 v6 (w32 (v7 + 1)) mem))
noncomputable def f_X11_bestToAsk_0 : Nat → Nat → Int → Int → Int → Int → Int → Int → Int → zMem → Option (Int × zMem) := zfuel (fun _ _ _ _ _ _ _ _ _ => none) (b_X11_bestToAsk_0)
set_option maxHeartbeats 4000000 in
theorem L_X11_bestToAsk_0 (l : Launch) {Γ : zG} (F : zFull Γ) {X : zM} {q : Int × zMem} (C : zC X Γ "ShadowHeirs" cX11_bestToAsk 8) (Z : zRt X l Γ 4 1 (some .int) q) : ∀ n : Nat, (∀ (v1 : Int) (v2 : Int) (v3 : Int) (v4 : Int) (v5 : Int) (v6 : Int) (v7 : Int) (h_v1 : ir v1) (h_v2 : ir v2) (h_v3 : ir v3) (h_v4 : ir v4) (h_v5 : ir v5) (mem : zMem), zJ X Γ 8 q (f_X11_bestToAsk_0 n 0 v1 v2 v3 v4 v5 v6 v7 mem) 9 [(0, .ref (zad Γ 0)), (1, .int (i32 v1)), (2, .int (i32 v2)), (3, .int (i32 v3)), (4, .int (i32 v4)), (5, .int (i32 v5))] [] mem) ∧ (∀ (v1 : Int) (v2 : Int) (v3 : Int) (v4 : Int) (v5 : Int) (v6 : Int) (v7 : Int) (h_v1 : ir v1) (h_v2 : ir v2) (h_v3 : ir v3) (h_v4 : ir v4) (h_v5 : ir v5) (h_v6 : ir v6) (h_v7 : ir v7) (mem : zMem), zJ X Γ 8 q (f_X11_bestToAsk_0 n 1 v1 v2 v3 v4 v5 v6 v7 mem) 27 [(0, .ref (zad Γ 0)), (1, .int (i32 v1)), (2, .int (i32 v2)), (3, .int (i32 v3)), (4, .int (i32 v4)), (5, .int (i32 v5)), (6, .int (i32 v6)), (7, .int (i32 v7))] [] mem) := by
  intro n
  induction n with
  | zero => exact ⟨(by intros; exact zj_none), (by intros; exact zj_none)⟩
  | succ n ih =>
    refine ⟨?_, ?_⟩
    · intro v1 v2 v3 v4 v5 v6 v7 h_v1 h_v2 h_v3 h_v4 h_v5 mem
      show zJ X Γ 8 q (b_X11_bestToAsk_0 (f_X11_bestToAsk_0 n) 0 v1 v2 v3 v4 v5 v6 v7 mem) _ _ _ _
      unfold b_X11_bestToAsk_0
      refine zj_iload C 5 rfl dX11_bestToAsk_9 ?_
      refine zj_aload_n (j := 0) (i := 0) C rfl 0 rfl dX11_bestToAsk_11 ?_
      refine zj_getR C F zk_0 fl_X11_19 rfl rf_0_1 dX11_bestToAsk_12 ?_
      refine zj_getI C F 3 rfl zk_4 fl_X11_379 rfl dX11_bestToAsk_15 (fun h1 => ?_)
      refine zj_icmp_ge C 109 h_v5 h1 dX11_bestToAsk_18 rfl (fun c2 => ?_) (fun c2 => ?_)
      · refine zj_iload_n (j := 3) (i := 3) C rfl 3 rfl dX11_bestToAsk_109 ?_
        exact zrt_i C Z h_v3 dX11_bestToAsk_110
      · refine zj_iconst C 0 dX11_bestToAsk_21 ?_
        refine zj_istore C [(6, .int (i32 0)), (0, .ref (zad Γ 0)), (1, .int (i32 v1)), (2, .int (i32 v2)), (3, .int (i32 v3)), (4, .int (i32 v4)), (5, .int (i32 v5))] dX11_bestToAsk_22 (by decide) rfl ?_
        refine zj_iconst C 0 dX11_bestToAsk_24 ?_
        refine zj_istore C [(7, .int (i32 0)), (6, .int (i32 0)), (0, .ref (zad Γ 0)), (1, .int (i32 v1)), (2, .int (i32 v2)), (3, .int (i32 v3)), (4, .int (i32 v4)), (5, .int (i32 v5))] dX11_bestToAsk_25 (by decide) rfl ?_
        exact zj_sub [2, 3, 4, 5, 6, 7, 1, 0] rfl (ih.2 v1 v2 v3 v4 v5 0 0 h_v1 h_v2 h_v3 h_v4 h_v5 irc_0 irc_0 mem)
    · intro v1 v2 v3 v4 v5 v6 v7 h_v1 h_v2 h_v3 h_v4 h_v5 h_v6 h_v7 mem
      show zJ X Γ 8 q (b_X11_bestToAsk_0 (f_X11_bestToAsk_0 n) 1 v1 v2 v3 v4 v5 v6 v7 mem) _ _ _ _
      unfold b_X11_bestToAsk_0
      refine zj_iload C 7 rfl dX11_bestToAsk_27 ?_
      refine zj_aload_n (j := 0) (i := 0) C rfl 0 rfl dX11_bestToAsk_29 ?_
      refine zj_getR C F zk_0 fl_X11_19 rfl rf_0_1 dX11_bestToAsk_30 ?_
      refine zj_getI C F 4 rfl zk_4 fl_X11_286 rfl dX11_bestToAsk_33 (fun h1001 => ?_)
      refine zj_icmp_ge C 75 h_v7 h1001 dX11_bestToAsk_36 rfl (fun c1002 => ?_) (fun c1002 => ?_)
      · refine zj_iload C 6 rfl dX11_bestToAsk_75 ?_
        refine zj_iload_n (j := 2) (i := 2) C rfl 2 rfl dX11_bestToAsk_77 ?_
        refine zj_callSi C Z [.int (i32 v2)] [.int (i32 v6)] cal_J6_bitCount_0f7a4 sta_J6_bitCount_0f7a4 ml_X11_365 rfl (by decide) (Nat.le_of_ble_eq_true rfl) rfl dX11_bestToAsk_78 (fun q h => M_J6_bitCount_0f7a4 l Γ F h_v2 mem q h) (fun y1003 m1004 h_y1003 => ?_)
        refine zj_iload C 6 rfl dX11_bestToAsk_81 ?_
        refine zj_isub C dX11_bestToAsk_83 ?_
        refine zj_mmax C Z (by decide) h_v6 (ir_w _) (Nat.le_of_ble_eq_true rfl) mm_l_X11_391 mm_s_max mm_i mm_c_max dX11_bestToAsk_84 ?_
        refine zj_pipeI (fun y1005 e_y1005 => ?_)
        have h_y1005 := ir_eq e_y1005 (ir_max h_v6 (ir_w _))
        refine zj_istore C [(7, .int (i32 y1005)), (0, .ref (zad Γ 0)), (1, .int (i32 v1)), (2, .int (i32 v2)), (3, .int (i32 v3)), (4, .int (i32 v4)), (5, .int (i32 v5)), (6, .int (i32 v6))] dX11_bestToAsk_87 (by decide) rfl ?_
        refine zj_iload C 0 rfl dX11_bestToAsk_89 ?_
        refine zj_iload C 5 rfl dX11_bestToAsk_91 ?_
        refine zj_icmp_ge C 103 h_y1005 h_v4 dX11_bestToAsk_93 rfl (fun c1006 => ?_) (fun c1006 => ?_)
        · refine zj_iinc C 6 [(5, .int (i32 (w32 (v5 + 1)))), (7, .int (i32 y1005)), (0, .ref (zad Γ 0)), (1, .int (i32 v1)), (2, .int (i32 v2)), (3, .int (i32 v3)), (4, .int (i32 v4)), (6, .int (i32 v6))] rfl dX11_bestToAsk_103 (by decide) rfl ?_
          refine zj_goto (tgt := 9) C dX11_bestToAsk_106 rfl ?_
          exact zj_sub [2, 3, 4, 5, 6, 0] rfl (ih.1 v1 v2 v3 v4 (w32 (v5 + 1)) 0 0 h_v1 h_v2 h_v3 h_v4 (ir_w _) m1004)
        · refine zj_iload C 0 rfl dX11_bestToAsk_96 ?_
          refine zj_istore C [(4, .int (i32 y1005)), (7, .int (i32 y1005)), (0, .ref (zad Γ 0)), (1, .int (i32 v1)), (2, .int (i32 v2)), (3, .int (i32 v3)), (5, .int (i32 v5)), (6, .int (i32 v6))] dX11_bestToAsk_98 (by decide) rfl ?_
          refine zj_iload C 6 rfl dX11_bestToAsk_100 ?_
          refine zj_istore_n (j := 3) (i := 3) C rfl [(3, .int (i32 v5)), (4, .int (i32 y1005)), (7, .int (i32 y1005)), (0, .ref (zad Γ 0)), (1, .int (i32 v1)), (2, .int (i32 v2)), (5, .int (i32 v5)), (6, .int (i32 v6))] dX11_bestToAsk_102 (by decide) rfl ?_
          refine zj_iinc C 6 [(5, .int (i32 (w32 (v5 + 1)))), (3, .int (i32 v5)), (4, .int (i32 y1005)), (7, .int (i32 y1005)), (0, .ref (zad Γ 0)), (1, .int (i32 v1)), (2, .int (i32 v2)), (6, .int (i32 v6))] rfl dX11_bestToAsk_103 (by decide) rfl ?_
          refine zj_goto (tgt := 9) C dX11_bestToAsk_106 rfl ?_
          exact zj_sub [4, 5, 6, 1, 2, 0] rfl (ih.1 v1 v2 v5 y1005 (w32 (v5 + 1)) 0 0 h_v1 h_v2 h_v5 h_y1005 (ir_w _) m1004)
      · refine zj_iload_n (j := 2) (i := 2) C rfl 2 rfl dX11_bestToAsk_39 ?_
        refine zj_iload C 7 rfl dX11_bestToAsk_40 ?_
        refine zj_ishr C dX11_bestToAsk_42 ?_
        refine zj_iconst C 1 dX11_bestToAsk_43 ?_
        refine zj_iand C dX11_bestToAsk_44 ?_
        refine zj_iconst C 1 dX11_bestToAsk_45 ?_
        refine zj_icmp_ne C 69 (ir_toInt _) irc_1 dX11_bestToAsk_46 rfl (fun c1007 => ?_) (fun c1007 => ?_)
        · refine zj_iload C 6 rfl dX11_bestToAsk_49 ?_
          refine zj_aload_n (j := 0) (i := 0) C rfl 0 rfl dX11_bestToAsk_51 ?_
          refine zj_getR C F zk_0 fl_X11_42 rfl rf_0_4 dX11_bestToAsk_52 ?_
          refine zj_iload_n (j := 1) (i := 1) C rfl 1 rfl dX11_bestToAsk_55 ?_
          refine zj_iload C 7 rfl dX11_bestToAsk_56 ?_
          refine zj_callVi C F Z [.int (i32 v1), .int (i32 v7)] [.int (i32 v6)] cal_X3_personsTouched calv_X3_personsTouched ml_X11_196 zk_20 rfl rfl (by decide) (Nat.le_of_ble_eq_true rfl) rfl dX11_bestToAsk_58 (fun q h => M_X3_personsTouched l Γ F zk_20 h_v1 h_v7 mem q h) (fun y1008 m1009 h_y1008 => ?_)
          refine zj_iload C 5 rfl dX11_bestToAsk_61 ?_
          refine zj_ishr C dX11_bestToAsk_63 ?_
          refine zj_iconst C 1 dX11_bestToAsk_64 ?_
          refine zj_iand C dX11_bestToAsk_65 ?_
          refine zj_iadd C dX11_bestToAsk_66 ?_
          refine zj_pipeI (fun y1010 e_y1010 => ?_)
          have h_y1010 := ir_eq e_y1010 (ir_w _)
          refine zj_istore C [(6, .int (i32 y1010)), (0, .ref (zad Γ 0)), (1, .int (i32 v1)), (2, .int (i32 v2)), (3, .int (i32 v3)), (4, .int (i32 v4)), (5, .int (i32 v5)), (7, .int (i32 v7))] dX11_bestToAsk_67 (by decide) rfl ?_
          refine zj_iinc C 7 [(7, .int (i32 (w32 (v7 + 1)))), (6, .int (i32 y1010)), (0, .ref (zad Γ 0)), (1, .int (i32 v1)), (2, .int (i32 v2)), (3, .int (i32 v3)), (4, .int (i32 v4)), (5, .int (i32 v5))] rfl dX11_bestToAsk_69 (by decide) rfl ?_
          refine zj_goto (tgt := 27) C dX11_bestToAsk_72 rfl ?_
          exact zj_sub [2, 3, 4, 5, 6, 7, 1, 0] rfl (ih.2 v1 v2 v3 v4 v5 y1010 (w32 (v7 + 1)) h_v1 h_v2 h_v3 h_v4 h_v5 h_y1010 (ir_w _) m1009)
        · refine zj_iinc C 7 [(7, .int (i32 (w32 (v7 + 1)))), (0, .ref (zad Γ 0)), (1, .int (i32 v1)), (2, .int (i32 v2)), (3, .int (i32 v3)), (4, .int (i32 v4)), (5, .int (i32 v5)), (6, .int (i32 v6))] rfl dX11_bestToAsk_69 (by decide) rfl ?_
          refine zj_goto (tgt := 27) C dX11_bestToAsk_72 rfl ?_
          exact zj_sub [1, 2, 3, 4, 5, 6, 7, 0] rfl (ih.2 v1 v2 v3 v4 v5 v6 (w32 (v7 + 1)) h_v1 h_v2 h_v3 h_v4 h_v5 h_v6 (ir_w _) mem)
noncomputable def f_X11_bestToAsk (x0 : Int) (x1 : Int) (mem : zMem) : Option (Int × zMem) := f_X11_bestToAsk_0 zN 0 x0 x1 (-1) 9 0 0 0 mem
set_option maxHeartbeats 4000000 in
theorem M_X11_bestToAsk (l : Launch) (Γ : zG) (F : zFull Γ)  {x0 : Int} {x1 : Int} (h_x0 : ir x0) (h_x1 : ir x1) (mem : zMem) (q : Int × zMem) (h : f_X11_bestToAsk x0 x1 mem = some q) : zMet l yX11_bestToAsk cX11_bestToAsk 8 (some .int) 4 Γ 1 [.ref (zad Γ 0), .int (i32 x0), .int (i32 x1)] mem q := by
  refine zMet_of (own := "ShadowHeirs") (by decide) rfl (Nat.le_of_ble_eq_true rfl) (fun X C Z => ?_)
  revert h
  show zJ X Γ 8 q (f_X11_bestToAsk x0 x1 mem) 0 [(0, .ref (zad Γ 0)), (1, .int (i32 x0)), (2, .int (i32 x1))] [] mem
  unfold f_X11_bestToAsk
  refine zj_iconst C (-1) dX11_bestToAsk_0 ?_
  refine zj_istore_n (j := 3) (i := 3) C rfl [(3, .int (i32 (-1))), (0, .ref (zad Γ 0)), (1, .int (i32 x0)), (2, .int (i32 x1))] dX11_bestToAsk_1 (by decide) rfl ?_
  refine zj_bipush C 9 rfl dX11_bestToAsk_2 ?_
  refine zj_istore C [(4, .int (i32 9)), (3, .int (i32 (-1))), (0, .ref (zad Γ 0)), (1, .int (i32 x0)), (2, .int (i32 x1))] dX11_bestToAsk_4 (by decide) rfl ?_
  refine zj_iconst C 0 dX11_bestToAsk_6 ?_
  refine zj_istore C [(5, .int (i32 0)), (4, .int (i32 9)), (3, .int (i32 (-1))), (0, .ref (zad Γ 0)), (1, .int (i32 x0)), (2, .int (i32 x1))] dX11_bestToAsk_7 (by decide) rfl ?_
  exact zj_sub [3, 4, 5, 2, 1, 0] rfl ((L_X11_bestToAsk_0 l F C Z zN).1 x0 x1 (-1) 9 0 0 0 h_x0 h_x1 irc_m1 irc_9 irc_0 mem)
noncomputable def f_X0_readSide  (mem : zMem) : Option (Int × zMem) := zbind (f_X6_wantSide mem) fun y1 m2 => if y1 = 0 then (some (0, m2)) else (if ix 48 (m2 45 4) then pipe (zup m2 48 (m2 45 4) (w32 ((m2 1 8) - 5))) fun m7 => some (1, m7) else none)
set_option maxHeartbeats 4000000 in
theorem M_X0_readSide (l : Launch) (Γ : zG) (F : zFull Γ)    (mem : zMem) (q : Int × zMem) (h : f_X0_readSide  mem = some q) : zMet l yX0_readSide cX0_readSide 1 (some .boolean) 4 Γ 1 [.ref (zad Γ 45)] mem q := by
  refine zMet_of (own := "ShadowHeirs$Book") (by decide) rfl (Nat.le_of_ble_eq_true rfl) (fun X C Z => ?_)
  revert h
  show zJ X Γ 1 q (f_X0_readSide  mem) 0 [(0, .ref (zad Γ 45))] [] mem
  unfold f_X0_readSide
  refine zj_aload_n (j := 0) (i := 0) C rfl 0 rfl dX0_readSide_0 ?_
  refine zj_getR C F zk_45 fl_X0_41 rfl rf_45_0 dX0_readSide_1 ?_
  refine zj_callVi C F Z [] [] cal_X6_wantSide calv_X6_wantSide ml_X0_97 zk_1 rfl rfl (by decide) (Nat.le_of_ble_eq_true rfl) rfl dX0_readSide_4 (fun q h => M_X6_wantSide l Γ F  mem q h) (fun y1 m2 h_y1 => ?_)
  refine zj_if_ne C 12 h_y1 dX0_readSide_7 rfl (fun c3 => ?_) (fun c3 => ?_)
  · refine zj_iconst C 0 dX0_readSide_10 ?_
    exact zrt_z C Z (Or.inl rfl) dX0_readSide_11
  · refine zj_aload_n (j := 0) (i := 0) C rfl 0 rfl dX0_readSide_12 ?_
    refine zj_getR C F zk_45 fl_X0_18 rfl rf_45_3 dX0_readSide_13 ?_
    refine zj_aload_n (j := 0) (i := 0) C rfl 0 rfl dX0_readSide_16 ?_
    refine zj_getI C F 4 rfl zk_45 fl_X0_21 rfl dX0_readSide_17 (fun h4 => ?_)
    refine zj_aload_n (j := 0) (i := 0) C rfl 0 rfl dX0_readSide_20 ?_
    refine zj_getR C F zk_45 fl_X0_41 rfl rf_45_0 dX0_readSide_21 ?_
    refine zj_getI C F 8 rfl zk_1 fl_X0_65 rfl dX0_readSide_24 (fun h5 => ?_)
    refine zj_iconst C 5 dX0_readSide_27 ?_
    refine zj_isub C dX0_readSide_28 ?_
    refine zj_iastore C F zk_48 h4 (ir_w _) dX0_readSide_29 (fun c6 => ?_)
    refine zj_pipeM (fun m7 e_m7 => ?_)
    refine zj_iconst C 1 dX0_readSide_30 ?_
    exact zrt_z C Z (Or.inr rfl) dX0_readSide_31
noncomputable def f_X0_readHouse (t0 : Nat) (mem : zMem) : Option (Int × zMem) := zbind (f_X6_wantName mem) fun y1 m2 => if y1 = 0 then (some (0, m2)) else (zbind (f_X5_houseNamed t0 (m2 1 7) m2) fun y6 m7 => if ix 47 (m2 45 4) then pipe (zup m7 47 (m2 45 4) y6) fun m9 => if ix 47 (m9 45 4) then if (m9 47 (m9 45 4)) = (-1) then (zbind (f_X6_fail 3 m9) fun y14 m15 => if y14 = 0 then (some (0, m15)) else (some (1, m15))) else (some (1, m9)) else none else none)
set_option maxHeartbeats 4000000 in
theorem M_X0_readHouse (l : Launch) (Γ : zG) (F : zFull Γ)  {t0 : Nat} (h_t0 : zk t0 5) (mem : zMem) (q : Int × zMem) (h : f_X0_readHouse t0 mem = some q) : zMet l yX0_readHouse cX0_readHouse 2 (some .boolean) 4 Γ 1 [.ref (zad Γ 45), .ref (zad Γ t0)] mem q := by
  refine zMet_of (own := "ShadowHeirs$Book") (by decide) rfl (Nat.le_of_ble_eq_true rfl) (fun X C Z => ?_)
  revert h
  show zJ X Γ 2 q (f_X0_readHouse t0 mem) 0 [(0, .ref (zad Γ 45)), (1, .ref (zad Γ t0))] [] mem
  unfold f_X0_readHouse
  refine zj_aload_n (j := 0) (i := 0) C rfl 0 rfl dX0_readHouse_0 ?_
  refine zj_getR C F zk_45 fl_X0_41 rfl rf_45_0 dX0_readHouse_1 ?_
  refine zj_callVi C F Z [] [] cal_X6_wantName calv_X6_wantName ml_X0_100 zk_1 rfl rfl (by decide) (Nat.le_of_ble_eq_true rfl) rfl dX0_readHouse_4 (fun q h => M_X6_wantName l Γ F  mem q h) (fun y1 m2 h_y1 => ?_)
  refine zj_if_ne C 12 h_y1 dX0_readHouse_7 rfl (fun c3 => ?_) (fun c3 => ?_)
  · refine zj_iconst C 0 dX0_readHouse_10 ?_
    exact zrt_z C Z (Or.inl rfl) dX0_readHouse_11
  · refine zj_aload_n (j := 0) (i := 0) C rfl 0 rfl dX0_readHouse_12 ?_
    refine zj_getR C F zk_45 fl_X0_15 rfl rf_45_2 dX0_readHouse_13 ?_
    refine zj_aload_n (j := 0) (i := 0) C rfl 0 rfl dX0_readHouse_16 ?_
    refine zj_getI C F 4 rfl zk_45 fl_X0_21 rfl dX0_readHouse_17 (fun h4 => ?_)
    refine zj_aload_n (j := 1) (i := 1) C rfl 1 rfl dX0_readHouse_20 ?_
    refine zj_aload_n (j := 0) (i := 0) C rfl 0 rfl dX0_readHouse_21 ?_
    refine zj_getR C F zk_45 fl_X0_41 rfl rf_45_0 dX0_readHouse_22 ?_
    refine zj_getL C F 7 rfl zk_1 fl_X0_76 rfl dX0_readHouse_25 (fun h5 => ?_)
    refine zj_callVi C F Z [.long (i64 (m2 1 7))] [.int (i32 (m2 45 4)), .ref (zad Γ 47)] cal_X5_houseNamed calv_X5_houseNamed ml_X0_103 h_t0 rfl rfl (by decide) (Nat.le_of_ble_eq_true rfl) rfl dX0_readHouse_28 (fun q h => M_X5_houseNamed l Γ F h_t0 h5 m2 q h) (fun y6 m7 h_y6 => ?_)
    refine zj_iastore C F zk_47 h4 h_y6 dX0_readHouse_31 (fun c8 => ?_)
    refine zj_pipeM (fun m9 e_m9 => ?_)
    refine zj_aload_n (j := 0) (i := 0) C rfl 0 rfl dX0_readHouse_32 ?_
    refine zj_getR C F zk_45 fl_X0_15 rfl rf_45_2 dX0_readHouse_33 ?_
    refine zj_aload_n (j := 0) (i := 0) C rfl 0 rfl dX0_readHouse_36 ?_
    refine zj_getI C F 4 rfl zk_45 fl_X0_21 rfl dX0_readHouse_37 (fun h10 => ?_)
    refine zj_iaload C F zk_47 h10 dX0_readHouse_40 (fun c11 h12 => ?_)
    refine zj_iconst C (-1) dX0_readHouse_41 ?_
    refine zj_icmp_ne C 56 h12 irc_m1 dX0_readHouse_42 rfl (fun c13 => ?_) (fun c13 => ?_)
    · refine zj_aload_n (j := 0) (i := 0) C rfl 0 rfl dX0_readHouse_45 ?_
      refine zj_getR C F zk_45 fl_X0_41 rfl rf_45_0 dX0_readHouse_46 ?_
      refine zj_iconst C 3 dX0_readHouse_49 ?_
      refine zj_callVi C F Z [.int (i32 3)] [] cal_X6_fail calv_X6_fail ml_X0_72 zk_1 rfl rfl (by decide) (Nat.le_of_ble_eq_true rfl) rfl dX0_readHouse_50 (fun q h => M_X6_fail l Γ F irc_3 m9 q h) (fun y14 m15 h_y14 => ?_)
      refine zj_if_eq C 60 h_y14 dX0_readHouse_53 rfl (fun c16 => ?_) (fun c16 => ?_)
      · refine zj_iconst C 0 dX0_readHouse_60 ?_
        exact zrt_z C Z (Or.inl rfl) dX0_readHouse_61
      · refine zj_iconst C 1 dX0_readHouse_56 ?_
        refine zj_goto (tgt := 61) C dX0_readHouse_57 rfl ?_
        exact zrt_z C Z (Or.inr rfl) dX0_readHouse_61
    · refine zj_iconst C 1 dX0_readHouse_56 ?_
      refine zj_goto (tgt := 61) C dX0_readHouse_57 rfl ?_
      exact zrt_z C Z (Or.inr rfl) dX0_readHouse_61
noncomputable def f_X0_readNumber (t0 : Nat) (x1 : Int) (x2 : Int) (mem : zMem) : Option (Int × zMem) := zbind (f_X6_wantNumber x1 x2 mem) fun y1 m2 => if y1 = 0 then (some (0, m2)) else (if ix t0 (m2 45 4) then pipe (zup m2 t0 (m2 45 4) (w32 (m2 1 7))) fun m7 => some (1, m7) else none)
set_option maxHeartbeats 4000000 in
theorem M_X0_readNumber (l : Launch) (Γ : zG) (F : zFull Γ)  {t0 : Nat} {x1 : Int} {x2 : Int} (h_t0 : zk t0 13) (h_x1 : ir x1) (h_x2 : ir x2) (mem : zMem) (q : Int × zMem) (h : f_X0_readNumber t0 x1 x2 mem = some q) : zMet l yX0_readNumber cX0_readNumber 4 (some .boolean) 4 Γ 1 [.ref (zad Γ 45), .ref (zad Γ t0), .int (i32 x1), .int (i32 x2)] mem q := by
  refine zMet_of (own := "ShadowHeirs$Book") (by decide) rfl (Nat.le_of_ble_eq_true rfl) (fun X C Z => ?_)
  revert h
  show zJ X Γ 4 q (f_X0_readNumber t0 x1 x2 mem) 0 [(0, .ref (zad Γ 45)), (1, .ref (zad Γ t0)), (2, .int (i32 x1)), (3, .int (i32 x2))] [] mem
  unfold f_X0_readNumber
  refine zj_aload_n (j := 0) (i := 0) C rfl 0 rfl dX0_readNumber_0 ?_
  refine zj_getR C F zk_45 fl_X0_41 rfl rf_45_0 dX0_readNumber_1 ?_
  refine zj_iload_n (j := 2) (i := 2) C rfl 2 rfl dX0_readNumber_4 ?_
  refine zj_iload_n (j := 3) (i := 3) C rfl 3 rfl dX0_readNumber_5 ?_
  refine zj_callVi C F Z [.int (i32 x1), .int (i32 x2)] [] cal_X6_wantNumber calv_X6_wantNumber ml_X0_106 zk_1 rfl rfl (by decide) (Nat.le_of_ble_eq_true rfl) rfl dX0_readNumber_6 (fun q h => M_X6_wantNumber l Γ F h_x1 h_x2 mem q h) (fun y1 m2 h_y1 => ?_)
  refine zj_if_ne C 14 h_y1 dX0_readNumber_9 rfl (fun c3 => ?_) (fun c3 => ?_)
  · refine zj_iconst C 0 dX0_readNumber_12 ?_
    exact zrt_z C Z (Or.inl rfl) dX0_readNumber_13
  · refine zj_aload_n (j := 1) (i := 1) C rfl 1 rfl dX0_readNumber_14 ?_
    refine zj_aload_n (j := 0) (i := 0) C rfl 0 rfl dX0_readNumber_15 ?_
    refine zj_getI C F 4 rfl zk_45 fl_X0_21 rfl dX0_readNumber_16 (fun h4 => ?_)
    refine zj_aload_n (j := 0) (i := 0) C rfl 0 rfl dX0_readNumber_19 ?_
    refine zj_getR C F zk_45 fl_X0_41 rfl rf_45_0 dX0_readNumber_20 ?_
    refine zj_getL C F 7 rfl zk_1 fl_X0_76 rfl dX0_readNumber_23 (fun h5 => ?_)
    refine zj_l2i C h5 dX0_readNumber_26 ?_
    refine zj_iastore C F h_t0 h4 (ir_w _) dX0_readNumber_27 (fun c6 => ?_)
    refine zj_pipeM (fun m7 e_m7 => ?_)
    refine zj_iconst C 1 dX0_readNumber_28 ?_
    exact zrt_z C Z (Or.inr rfl) dX0_readNumber_29
noncomputable def f_X0_whyNot (t0 : Nat) (x1 : Int) (x2 : Int) (x3 : Int) (mem : zMem) : Option (Int × zMem) := if x1 = 0 then (zbind (f_X3_whyNotStep t0 x2 x3 mem) fun y2 m3 => some (y2, m3)) else (if x1 = 10 then (zbind (f_X5_hasCell (sRf t0 0) x2 x3 mem) fun y5 m6 => if y5 = 0 then (some (9, m6)) else (zbind (f_X3_whyNotLay t0 (w32 ((w32 (8 * x3)) + x2)) m6) fun y8 m9 => some (y8, m9))) else (if x1 = 20 then (zbind (f_X5_hasCell (sRf t0 0) x2 x3 mem) fun y11 m12 => if y11 = 0 then (some (9, m12)) else (zbind (f_X3_whyNotTear t0 (w32 ((w32 (8 * x3)) + x2)) m12) fun y14 m15 => some (y14, m15))) else (if x1 = 30 then (zbind (f_X3_whyNotBury t0 x2 mem) fun y17 m18 => some (y17, m18)) else (if (w32 ((mem (sRf t0 1) 5) + x2)) ≤ 400 then (some (0, mem)) else (some (1, mem))))))
set_option maxHeartbeats 4000000 in
theorem M_X0_whyNot (l : Launch) (Γ : zG) (F : zFull Γ)  {t0 : Nat} {x1 : Int} {x2 : Int} {x3 : Int} (h_t0 : zk t0 3) (h_x1 : ir x1) (h_x2 : ir x2) (h_x3 : ir x3) (mem : zMem) (q : Int × zMem) (h : f_X0_whyNot t0 x1 x2 x3 mem = some q) : zMet l yX0_whyNot cX0_whyNot 4 (some .int) 3 Γ 1 [.ref (zad Γ t0), .int (i32 x1), .int (i32 x2), .int (i32 x3)] mem q := by
  refine zMet_of (own := "ShadowHeirs$Book") (by decide) rfl (Nat.le_of_ble_eq_true rfl) (fun X C Z => ?_)
  revert h
  show zJ X Γ 4 q (f_X0_whyNot t0 x1 x2 x3 mem) 0 [(0, .ref (zad Γ t0)), (1, .int (i32 x1)), (2, .int (i32 x2)), (3, .int (i32 x3))] [] mem
  unfold f_X0_whyNot
  refine zj_iload_n (j := 1) (i := 1) C rfl 1 rfl dX0_whyNot_0 ?_
  refine zj_split (fun c1 => ?_) (fun c1 => ?_)
  · refine zj_lookup (off := 43) C 44 h_x1 dX0_whyNot_1 rfl (by rw [c1]; rfl) rfl ?_
    refine zj_aload_n (j := 0) (i := 0) C rfl 0 rfl dX0_whyNot_44 ?_
    refine zj_iload_n (j := 2) (i := 2) C rfl 2 rfl dX0_whyNot_45 ?_
    refine zj_iload_n (j := 3) (i := 3) C rfl 3 rfl dX0_whyNot_46 ?_
    refine zj_callVi C F Z [.int (i32 x2), .int (i32 x3)] [] cal_X3_whyNotStep calv_X3_whyNotStep ml_X0_145 h_t0 rfl rfl (by decide) (Nat.le_of_ble_eq_true rfl) rfl dX0_whyNot_47 (fun q h => M_X3_whyNotStep l Γ F h_t0 h_x2 h_x3 mem q h) (fun y2 m3 h_y2 => ?_)
    exact zrt_i C Z h_y2 dX0_whyNot_50
  · refine zj_split (fun c4 => ?_) (fun c4 => ?_)
    · refine zj_lookup (off := 50) C 51 h_x1 dX0_whyNot_1 rfl (by rw [c4]; rfl) rfl ?_
      refine zj_aload_n (j := 0) (i := 0) C rfl 0 rfl dX0_whyNot_51 ?_
      refine zj_getR C F h_t0 fl_X0_149 rfl rfl dX0_whyNot_52 ?_
      refine zj_iload_n (j := 2) (i := 2) C rfl 2 rfl dX0_whyNot_55 ?_
      refine zj_iload_n (j := 3) (i := 3) C rfl 3 rfl dX0_whyNot_56 ?_
      refine zj_callVi C F Z [.int (i32 x2), .int (i32 x3)] [] cal_X5_hasCell calv_X5_hasCell ml_X0_153 (zt_3_0 h_t0) rfl rfl (by decide) (Nat.le_of_ble_eq_true rfl) rfl dX0_whyNot_57 (fun q h => M_X5_hasCell l Γ F (zt_3_0 h_t0) h_x2 h_x3 mem q h) (fun y5 m6 h_y5 => ?_)
      refine zj_if_eq C 76 h_y5 dX0_whyNot_60 rfl (fun c7 => ?_) (fun c7 => ?_)
      · refine zj_bipush C 9 rfl dX0_whyNot_76 ?_
        exact zrt_i C Z irc_9 dX0_whyNot_78
      · refine zj_aload_n (j := 0) (i := 0) C rfl 0 rfl dX0_whyNot_63 ?_
        refine zj_bipush C 8 rfl dX0_whyNot_64 ?_
        refine zj_iload_n (j := 3) (i := 3) C rfl 3 rfl dX0_whyNot_66 ?_
        refine zj_imul C dX0_whyNot_67 ?_
        refine zj_iload_n (j := 2) (i := 2) C rfl 2 rfl dX0_whyNot_68 ?_
        refine zj_iadd C dX0_whyNot_69 ?_
        refine zj_callVi C F Z [.int (i32 (w32 ((w32 (8 * x3)) + x2)))] [] cal_X3_whyNotLay calv_X3_whyNotLay ml_X0_156 h_t0 rfl rfl (by decide) (Nat.le_of_ble_eq_true rfl) rfl dX0_whyNot_70 (fun q h => M_X3_whyNotLay l Γ F h_t0 (ir_w _) m6 q h) (fun y8 m9 h_y8 => ?_)
        refine zj_goto (tgt := 78) C dX0_whyNot_73 rfl ?_
        exact zrt_i C Z h_y8 dX0_whyNot_78
    · refine zj_split (fun c10 => ?_) (fun c10 => ?_)
      · refine zj_lookup (off := 78) C 79 h_x1 dX0_whyNot_1 rfl (by rw [c10]; rfl) rfl ?_
        refine zj_aload_n (j := 0) (i := 0) C rfl 0 rfl dX0_whyNot_79 ?_
        refine zj_getR C F h_t0 fl_X0_149 rfl rfl dX0_whyNot_80 ?_
        refine zj_iload_n (j := 2) (i := 2) C rfl 2 rfl dX0_whyNot_83 ?_
        refine zj_iload_n (j := 3) (i := 3) C rfl 3 rfl dX0_whyNot_84 ?_
        refine zj_callVi C F Z [.int (i32 x2), .int (i32 x3)] [] cal_X5_hasCell calv_X5_hasCell ml_X0_153 (zt_3_0 h_t0) rfl rfl (by decide) (Nat.le_of_ble_eq_true rfl) rfl dX0_whyNot_85 (fun q h => M_X5_hasCell l Γ F (zt_3_0 h_t0) h_x2 h_x3 mem q h) (fun y11 m12 h_y11 => ?_)
        refine zj_if_eq C 104 h_y11 dX0_whyNot_88 rfl (fun c13 => ?_) (fun c13 => ?_)
        · refine zj_bipush C 9 rfl dX0_whyNot_104 ?_
          exact zrt_i C Z irc_9 dX0_whyNot_106
        · refine zj_aload_n (j := 0) (i := 0) C rfl 0 rfl dX0_whyNot_91 ?_
          refine zj_bipush C 8 rfl dX0_whyNot_92 ?_
          refine zj_iload_n (j := 3) (i := 3) C rfl 3 rfl dX0_whyNot_94 ?_
          refine zj_imul C dX0_whyNot_95 ?_
          refine zj_iload_n (j := 2) (i := 2) C rfl 2 rfl dX0_whyNot_96 ?_
          refine zj_iadd C dX0_whyNot_97 ?_
          refine zj_callVi C F Z [.int (i32 (w32 ((w32 (8 * x3)) + x2)))] [] cal_X3_whyNotTear calv_X3_whyNotTear ml_X0_159 h_t0 rfl rfl (by decide) (Nat.le_of_ble_eq_true rfl) rfl dX0_whyNot_98 (fun q h => M_X3_whyNotTear l Γ F h_t0 (ir_w _) m12 q h) (fun y14 m15 h_y14 => ?_)
          refine zj_goto (tgt := 106) C dX0_whyNot_101 rfl ?_
          exact zrt_i C Z h_y14 dX0_whyNot_106
      · refine zj_split (fun c16 => ?_) (fun c16 => ?_)
        · refine zj_lookup (off := 106) C 107 h_x1 dX0_whyNot_1 rfl (by rw [c16]; rfl) rfl ?_
          refine zj_aload_n (j := 0) (i := 0) C rfl 0 rfl dX0_whyNot_107 ?_
          refine zj_iload_n (j := 2) (i := 2) C rfl 2 rfl dX0_whyNot_108 ?_
          refine zj_callVi C F Z [.int (i32 x2)] [] cal_X3_whyNotBury calv_X3_whyNotBury ml_X0_162 h_t0 rfl rfl (by decide) (Nat.le_of_ble_eq_true rfl) rfl dX0_whyNot_109 (fun q h => M_X3_whyNotBury l Γ F h_t0 h_x2 mem q h) (fun y17 m18 h_y17 => ?_)
          exact zrt_i C Z h_y17 dX0_whyNot_112
        · refine zj_lookup (off := 112) C 113 h_x1 dX0_whyNot_1 rfl (by show Op.lookupswitch.offset [(0, 43), (10, 50), (20, 78), (30, 106)] 112 _ = _; rw [Op.lookupswitch.offset_cons, if_neg (fun z => c1 z.symm), Op.lookupswitch.offset_cons, if_neg (fun z => c4 z.symm), Op.lookupswitch.offset_cons, if_neg (fun z => c10 z.symm), Op.lookupswitch.offset_cons, if_neg (fun z => c16 z.symm)]; rfl) rfl ?_
          refine zj_aload_n (j := 0) (i := 0) C rfl 0 rfl dX0_whyNot_113 ?_
          refine zj_getR C F h_t0 fl_X0_114 rfl rfl dX0_whyNot_114 ?_
          refine zj_getI C F 5 rfl (zt_3_1 h_t0) fl_X0_120 rfl dX0_whyNot_117 (fun h19 => ?_)
          refine zj_iload_n (j := 2) (i := 2) C rfl 2 rfl dX0_whyNot_120 ?_
          refine zj_iadd C dX0_whyNot_121 ?_
          refine zj_sipush C 400 rfl dX0_whyNot_122 ?_
          refine zj_icmp_le C 132 (ir_w _) irc_400 dX0_whyNot_125 rfl (fun c20 => ?_) (fun c20 => ?_)
          · refine zj_iconst C 0 dX0_whyNot_132 ?_
            exact zrt_i C Z irc_0 dX0_whyNot_133
          · refine zj_iconst C 1 dX0_whyNot_128 ?_
            refine zj_goto (tgt := 133) C dX0_whyNot_129 rfl ?_
            exact zrt_i C Z irc_1 dX0_whyNot_133
noncomputable def f_X1_livePerson (t0 : Nat) (x1 : Int) (mem : zMem) : Option (Int × zMem) := zbind (f_X1_draw 6 mem) fun y1 m2 => if y1 ≥ 4 then (if y1 = 4 then (zbind (f_X1_draw (m2 (sRf t0 0) 0) m2) fun y6 m7 => zbind (f_X1_draw (m7 (sRf t0 0) 1) m7) fun y9 m10 => pipe (w32 ((w32 (8 * y9)) + y6)) fun y11 => zbind (f_X3_whyNotLay t0 y11 m10) fun y12 m13 => if y12 = 0 then (zbind (f_X3_layStone t0 y11 m13) fun _ m15 => some (0, m15)) else (some (0, m13))) else (some (0, m2))) else (zbind (f_X3_whyNotStep t0 x1 y1 m2) fun y16 m17 => if y16 = 0 then (zbind (f_X3_makeStep t0 x1 y1 m17) fun _ m19 => some (0, m19)) else (some (0, m17)))
set_option maxHeartbeats 4000000 in
theorem M_X1_livePerson (l : Launch) (Γ : zG) (F : zFull Γ)  {t0 : Nat} {x1 : Int} (h_t0 : zk t0 3) (h_x1 : ir x1) (mem : zMem) (q : Int × zMem) (h : f_X1_livePerson t0 x1 mem = some q) : zMet l yX1_livePerson cX1_livePerson 7 none 3 Γ 0 [.ref (zad Γ 101), .ref (zad Γ t0), .int (i32 x1)] mem q := by
  refine zMet_of (own := "ShadowHeirs$Draws") (by decide) rfl (Nat.le_of_ble_eq_true rfl) (fun X C Z => ?_)
  revert h
  show zJ X Γ 7 q (f_X1_livePerson t0 x1 mem) 0 [(0, .ref (zad Γ 101)), (1, .ref (zad Γ t0)), (2, .int (i32 x1))] [] mem
  unfold f_X1_livePerson
  refine zj_aload_n (j := 0) (i := 0) C rfl 0 rfl dX1_livePerson_0 ?_
  refine zj_bipush C 6 rfl dX1_livePerson_1 ?_
  refine zj_callVi C F Z [.int (i32 6)] [] cal_X1_draw calv_X1_draw ml_X1_46 zk_101 rfl rfl (by decide) (Nat.le_of_ble_eq_true rfl) rfl dX1_livePerson_3 (fun q h => M_X1_draw l Γ F irc_6 mem q h) (fun y1 m2 h_y1 => ?_)
  refine zj_istore_n (j := 3) (i := 3) C rfl [(3, .int (i32 y1)), (0, .ref (zad Γ 101)), (1, .ref (zad Γ t0)), (2, .int (i32 x1))] dX1_livePerson_6 (by decide) rfl ?_
  refine zj_iload_n (j := 3) (i := 3) C rfl 0 rfl dX1_livePerson_7 ?_
  refine zj_iconst C 4 dX1_livePerson_8 ?_
  refine zj_icmp_ge C 30 h_y1 irc_4 dX1_livePerson_9 rfl (fun c3 => ?_) (fun c3 => ?_)
  · refine zj_iload_n (j := 3) (i := 3) C rfl 0 rfl dX1_livePerson_30 ?_
    refine zj_iconst C 4 dX1_livePerson_31 ?_
    refine zj_icmp_ne C 86 h_y1 irc_4 dX1_livePerson_32 rfl (fun c4 => ?_) (fun c4 => ?_)
    · refine zj_aload_n (j := 0) (i := 0) C rfl 1 rfl dX1_livePerson_35 ?_
      refine zj_aload_n (j := 1) (i := 1) C rfl 2 rfl dX1_livePerson_36 ?_
      refine zj_getR C F h_t0 fl_X1_33 rfl rfl dX1_livePerson_37 ?_
      refine zj_getI C F 0 rfl (zt_3_0 h_t0) fl_X1_67 rfl dX1_livePerson_40 (fun h5 => ?_)
      refine zj_callVi C F Z [.int (i32 (m2 (sRf t0 0) 0))] [] cal_X1_draw calv_X1_draw ml_X1_46 zk_101 rfl rfl (by decide) (Nat.le_of_ble_eq_true rfl) rfl dX1_livePerson_43 (fun q h => M_X1_draw l Γ F h5 m2 q h) (fun y6 m7 h_y6 => ?_)
      refine zj_istore C [(4, .int (i32 y6)), (3, .int (i32 y1)), (0, .ref (zad Γ 101)), (1, .ref (zad Γ t0)), (2, .int (i32 x1))] dX1_livePerson_46 (by decide) rfl ?_
      refine zj_aload_n (j := 0) (i := 0) C rfl 2 rfl dX1_livePerson_48 ?_
      refine zj_aload_n (j := 1) (i := 1) C rfl 3 rfl dX1_livePerson_49 ?_
      refine zj_getR C F h_t0 fl_X1_33 rfl rfl dX1_livePerson_50 ?_
      refine zj_getI C F 1 rfl (zt_3_0 h_t0) fl_X1_70 rfl dX1_livePerson_53 (fun h8 => ?_)
      refine zj_callVi C F Z [.int (i32 (m7 (sRf t0 0) 1))] [] cal_X1_draw calv_X1_draw ml_X1_46 zk_101 rfl rfl (by decide) (Nat.le_of_ble_eq_true rfl) rfl dX1_livePerson_56 (fun q h => M_X1_draw l Γ F h8 m7 q h) (fun y9 m10 h_y9 => ?_)
      refine zj_istore C [(5, .int (i32 y9)), (4, .int (i32 y6)), (3, .int (i32 y1)), (0, .ref (zad Γ 101)), (1, .ref (zad Γ t0)), (2, .int (i32 x1))] dX1_livePerson_59 (by decide) rfl ?_
      refine zj_bipush C 8 rfl dX1_livePerson_61 ?_
      refine zj_iload C 0 rfl dX1_livePerson_63 ?_
      refine zj_imul C dX1_livePerson_65 ?_
      refine zj_iload C 1 rfl dX1_livePerson_66 ?_
      refine zj_iadd C dX1_livePerson_68 ?_
      refine zj_pipeI (fun y11 e_y11 => ?_)
      have h_y11 := ir_eq e_y11 (ir_w _)
      refine zj_istore C [(6, .int (i32 y11)), (5, .int (i32 y9)), (4, .int (i32 y6)), (3, .int (i32 y1)), (0, .ref (zad Γ 101)), (1, .ref (zad Γ t0)), (2, .int (i32 x1))] dX1_livePerson_69 (by decide) rfl ?_
      refine zj_aload_n (j := 1) (i := 1) C rfl 5 rfl dX1_livePerson_71 ?_
      refine zj_iload C 0 rfl dX1_livePerson_72 ?_
      refine zj_callVi C F Z [.int (i32 y11)] [] cal_X3_whyNotLay calv_X3_whyNotLay ml_X1_73 h_t0 rfl rfl (by decide) (Nat.le_of_ble_eq_true rfl) rfl dX1_livePerson_74 (fun q h => M_X3_whyNotLay l Γ F h_t0 h_y11 m10 q h) (fun y12 m13 h_y12 => ?_)
      refine zj_if_ne C 86 h_y12 dX1_livePerson_77 rfl (fun c14 => ?_) (fun c14 => ?_)
      · refine zj_aload_n (j := 1) (i := 1) C rfl 5 rfl dX1_livePerson_80 ?_
        refine zj_iload C 0 rfl dX1_livePerson_81 ?_
        refine zj_callVv C F Z [.int (i32 y11)] [] cal_X3_layStone calv_X3_layStone ml_X1_76 h_t0 rfl rfl (by decide) (Nat.le_of_ble_eq_true rfl) rfl dX1_livePerson_83 (fun q h => M_X3_layStone l Γ F h_t0 h_y11 m13 q h) (fun _ m15 _ => ?_)
        exact zrt_v C Z dX1_livePerson_86
      · exact zrt_v C Z dX1_livePerson_86
    · exact zrt_v C Z dX1_livePerson_86
  · refine zj_aload_n (j := 1) (i := 1) C rfl 2 rfl dX1_livePerson_12 ?_
    refine zj_iload_n (j := 2) (i := 2) C rfl 3 rfl dX1_livePerson_13 ?_
    refine zj_iload_n (j := 3) (i := 3) C rfl 0 rfl dX1_livePerson_14 ?_
    refine zj_callVi C F Z [.int (i32 x1), .int (i32 y1)] [] cal_X3_whyNotStep calv_X3_whyNotStep ml_X1_60 h_t0 rfl rfl (by decide) (Nat.le_of_ble_eq_true rfl) rfl dX1_livePerson_15 (fun q h => M_X3_whyNotStep l Γ F h_t0 h_x1 h_y1 m2 q h) (fun y16 m17 h_y16 => ?_)
    refine zj_if_ne C 86 h_y16 dX1_livePerson_18 rfl (fun c18 => ?_) (fun c18 => ?_)
    · refine zj_aload_n (j := 1) (i := 1) C rfl 2 rfl dX1_livePerson_21 ?_
      refine zj_iload_n (j := 2) (i := 2) C rfl 3 rfl dX1_livePerson_22 ?_
      refine zj_iload_n (j := 3) (i := 3) C rfl 0 rfl dX1_livePerson_23 ?_
      refine zj_callVv C F Z [.int (i32 x1), .int (i32 y1)] [] cal_X3_makeStep calv_X3_makeStep ml_X1_63 h_t0 rfl rfl (by decide) (Nat.le_of_ble_eq_true rfl) rfl dX1_livePerson_24 (fun q h => M_X3_makeStep l Γ F h_t0 h_x1 h_y1 m17 q h) (fun _ m19 _ => ?_)
      refine zj_goto (tgt := 86) C dX1_livePerson_27 rfl ?_
      exact zrt_v C Z dX1_livePerson_86
    · exact zrt_v C Z dX1_livePerson_86
noncomputable def b_X3_spotThatSpares_0 (rec : Nat → Int → Int → Int → Int → Int → Int → zMem → Option (Int × zMem)) (r0 : Nat) (v1 : Int) (v2 : Int) (v3 : Int) (v4 : Int) (v5 : Int) (v6 : Int) (mem : zMem) : Option (Int × zMem) := if v6 ≥ v3 then (some (v4, mem)) else (if v6 ≥ 8 then (some (v4, mem)) else (if ix ((sRf r0 0) + 1) v1 then if ix ((sRf r0 0) + 5) v2 then zbind (f_X5_spotFrom (sRf r0 0) (mem ((sRf r0 0) + 1) v1) (mem ((sRf r0 0) + 5) v2) v6 mem) fun y7 m8 => zbind (f_X3_stonesToStop r0 v1 v2 y7 m8) fun y9 m10 => if y9 ≥ v5 then (rec r0 v1 v2 v3 v4 v5 (w32 (v6 + 1)) m10) else (zbind (f_X3_whyNotLay r0 y7 m10) fun y12 m13 => if y12 = 0 then (rec r0 v1 v2 v3 y7 y9 (w32 (v6 + 1)) m13) else (rec r0 v1 v2 v3 v4 v5 (w32 (v6 + 1)) m13)) else none else none))
noncomputable def f_X3_spotThatSpares_0 : Nat → Nat → Int → Int → Int → Int → Int → Int → zMem → Option (Int × zMem) := zfuel (fun _ _ _ _ _ _ _ _ => none) (b_X3_spotThatSpares_0)
set_option maxHeartbeats 4000000 in
theorem L_X3_spotThatSpares_0 (l : Launch) {Γ : zG} (F : zFull Γ) {X : zM} {q : Int × zMem} (C : zC X Γ "ShadowHeirs$Island" cX3_spotThatSpares 9) (Z : zRt X l Γ 4 1 (some .int) q) : ∀ n : Nat, ∀ (r0 : Nat) (v1 : Int) (v2 : Int) (v3 : Int) (v4 : Int) (v5 : Int) (v6 : Int) (h_r0 : zk r0 3) (h_v1 : ir v1) (h_v2 : ir v2) (h_v3 : ir v3) (h_v4 : ir v4) (h_v5 : ir v5) (h_v6 : ir v6) (mem : zMem), zJ X Γ 9 q (f_X3_spotThatSpares_0 n r0 v1 v2 v3 v4 v5 v6 mem) 25 [(0, .ref (zad Γ r0)), (1, .int (i32 v1)), (2, .int (i32 v2)), (3, .int (i32 v3)), (4, .int (i32 v4)), (5, .int (i32 v5)), (6, .int (i32 v6))] [] mem := by
  intro n
  induction n with
  | zero => intros; exact zj_none
  | succ n ih =>
    intro r0 v1 v2 v3 v4 v5 v6 h_r0 h_v1 h_v2 h_v3 h_v4 h_v5 h_v6 mem
    show zJ X Γ 9 q (b_X3_spotThatSpares_0 (f_X3_spotThatSpares_0 n) r0 v1 v2 v3 v4 v5 v6 mem) _ _ _ _
    unfold b_X3_spotThatSpares_0
    refine zj_iload C 6 rfl dX3_spotThatSpares_25 ?_
    refine zj_iload_n (j := 3) (i := 3) C rfl 3 rfl dX3_spotThatSpares_27 ?_
    refine zj_icmp_ge C 107 h_v6 h_v3 dX3_spotThatSpares_28 rfl (fun c1 => ?_) (fun c1 => ?_)
    · refine zj_iload C 4 rfl dX3_spotThatSpares_107 ?_
      exact zrt_i C Z h_v4 dX3_spotThatSpares_109
    · refine zj_iload C 6 rfl dX3_spotThatSpares_31 ?_
      refine zj_bipush C 8 rfl dX3_spotThatSpares_33 ?_
      refine zj_icmp_ge C 107 h_v6 irc_8 dX3_spotThatSpares_35 rfl (fun c2 => ?_) (fun c2 => ?_)
      · refine zj_iload C 4 rfl dX3_spotThatSpares_107 ?_
        exact zrt_i C Z h_v4 dX3_spotThatSpares_109
      · refine zj_aload_n (j := 0) (i := 0) C rfl 0 rfl dX3_spotThatSpares_38 ?_
        refine zj_getR C F h_r0 fl_X3_9 rfl rfl dX3_spotThatSpares_39 ?_
        refine zj_aload_n (j := 0) (i := 0) C rfl 0 rfl dX3_spotThatSpares_42 ?_
        refine zj_getR C F h_r0 fl_X3_9 rfl rfl dX3_spotThatSpares_43 ?_
        refine zj_getR C F (zt_3_0 h_r0) fl_X3_43 rfl (rfo_5_5 (zt_3_0 h_r0)) dX3_spotThatSpares_46 ?_
        refine zj_iload_n (j := 1) (i := 1) C rfl 1 rfl dX3_spotThatSpares_49 ?_
        refine zj_iaload C F (zko_5_5 (zt_3_0 h_r0)) h_v1 dX3_spotThatSpares_50 (fun c3 h4 => ?_)
        refine zj_aload_n (j := 0) (i := 0) C rfl 0 rfl dX3_spotThatSpares_51 ?_
        refine zj_getR C F h_r0 fl_X3_9 rfl rfl dX3_spotThatSpares_52 ?_
        refine zj_getR C F (zt_3_0 h_r0) fl_X3_69 rfl (rfo_5_9 (zt_3_0 h_r0)) dX3_spotThatSpares_55 ?_
        refine zj_iload_n (j := 2) (i := 2) C rfl 2 rfl dX3_spotThatSpares_58 ?_
        refine zj_iaload C F (zko_5_9 (zt_3_0 h_r0)) h_v2 dX3_spotThatSpares_59 (fun c5 h6 => ?_)
        refine zj_iload C 6 rfl dX3_spotThatSpares_60 ?_
        refine zj_callVi C F Z [.int (i32 (mem ((sRf r0 0) + 1) v1)), .int (i32 (mem ((sRf r0 0) + 5) v2)), .int (i32 v6)] [] cal_X5_spotFrom calv_X5_spotFrom ml_X3_72 (zt_3_0 h_r0) rfl rfl (by decide) (Nat.le_of_ble_eq_true rfl) rfl dX3_spotThatSpares_62 (fun q h => M_X5_spotFrom l Γ F (zt_3_0 h_r0) h4 h6 h_v6 mem q h) (fun y7 m8 h_y7 => ?_)
        refine zj_istore C [(7, .int (i32 y7)), (0, .ref (zad Γ r0)), (1, .int (i32 v1)), (2, .int (i32 v2)), (3, .int (i32 v3)), (4, .int (i32 v4)), (5, .int (i32 v5)), (6, .int (i32 v6))] dX3_spotThatSpares_65 (by decide) rfl ?_
        refine zj_aload_n (j := 0) (i := 0) C rfl 1 rfl dX3_spotThatSpares_67 ?_
        refine zj_iload_n (j := 1) (i := 1) C rfl 2 rfl dX3_spotThatSpares_68 ?_
        refine zj_iload_n (j := 2) (i := 2) C rfl 3 rfl dX3_spotThatSpares_69 ?_
        refine zj_iload C 0 rfl dX3_spotThatSpares_70 ?_
        refine zj_callVi C F Z [.int (i32 v1), .int (i32 v2), .int (i32 y7)] [] cal_X3_stonesToStop calv_X3_stonesToStop ml_X3_102 h_r0 rfl rfl (by decide) (Nat.le_of_ble_eq_true rfl) rfl dX3_spotThatSpares_72 (fun q h => M_X3_stonesToStop l Γ F h_r0 h_v1 h_v2 h_y7 m8 q h) (fun y9 m10 h_y9 => ?_)
        refine zj_istore C [(8, .int (i32 y9)), (7, .int (i32 y7)), (0, .ref (zad Γ r0)), (1, .int (i32 v1)), (2, .int (i32 v2)), (3, .int (i32 v3)), (4, .int (i32 v4)), (5, .int (i32 v5)), (6, .int (i32 v6))] dX3_spotThatSpares_75 (by decide) rfl ?_
        refine zj_iload C 0 rfl dX3_spotThatSpares_77 ?_
        refine zj_iload C 7 rfl dX3_spotThatSpares_79 ?_
        refine zj_icmp_ge C 101 h_y9 h_v5 dX3_spotThatSpares_81 rfl (fun c11 => ?_) (fun c11 => ?_)
        · refine zj_iinc C 8 [(6, .int (i32 (w32 (v6 + 1)))), (8, .int (i32 y9)), (7, .int (i32 y7)), (0, .ref (zad Γ r0)), (1, .int (i32 v1)), (2, .int (i32 v2)), (3, .int (i32 v3)), (4, .int (i32 v4)), (5, .int (i32 v5))] rfl dX3_spotThatSpares_101 (by decide) rfl ?_
          refine zj_goto (tgt := 25) C dX3_spotThatSpares_104 rfl ?_
          exact zj_sub [3, 4, 5, 6, 7, 8, 0] rfl (ih r0 v1 v2 v3 v4 v5 (w32 (v6 + 1)) h_r0 h_v1 h_v2 h_v3 h_v4 h_v5 (ir_w _) m10)
        · refine zj_aload_n (j := 0) (i := 0) C rfl 2 rfl dX3_spotThatSpares_84 ?_
          refine zj_iload C 1 rfl dX3_spotThatSpares_85 ?_
          refine zj_callVi C F Z [.int (i32 y7)] [] cal_X3_whyNotLay calv_X3_whyNotLay ml_X3_105 h_r0 rfl rfl (by decide) (Nat.le_of_ble_eq_true rfl) rfl dX3_spotThatSpares_87 (fun q h => M_X3_whyNotLay l Γ F h_r0 h_y7 m10 q h) (fun y12 m13 h_y12 => ?_)
          refine zj_if_ne C 101 h_y12 dX3_spotThatSpares_90 rfl (fun c14 => ?_) (fun c14 => ?_)
          · refine zj_iload C 0 rfl dX3_spotThatSpares_93 ?_
            refine zj_istore C [(5, .int (i32 y9)), (8, .int (i32 y9)), (7, .int (i32 y7)), (0, .ref (zad Γ r0)), (1, .int (i32 v1)), (2, .int (i32 v2)), (3, .int (i32 v3)), (4, .int (i32 v4)), (6, .int (i32 v6))] dX3_spotThatSpares_95 (by decide) rfl ?_
            refine zj_iload C 2 rfl dX3_spotThatSpares_97 ?_
            refine zj_istore C [(4, .int (i32 y7)), (5, .int (i32 y9)), (8, .int (i32 y9)), (7, .int (i32 y7)), (0, .ref (zad Γ r0)), (1, .int (i32 v1)), (2, .int (i32 v2)), (3, .int (i32 v3)), (6, .int (i32 v6))] dX3_spotThatSpares_99 (by decide) rfl ?_
            refine zj_iinc C 8 [(6, .int (i32 (w32 (v6 + 1)))), (4, .int (i32 y7)), (5, .int (i32 y9)), (8, .int (i32 y9)), (7, .int (i32 y7)), (0, .ref (zad Γ r0)), (1, .int (i32 v1)), (2, .int (i32 v2)), (3, .int (i32 v3))] rfl dX3_spotThatSpares_101 (by decide) rfl ?_
            refine zj_goto (tgt := 25) C dX3_spotThatSpares_104 rfl ?_
            exact zj_sub [5, 6, 7, 8, 1, 2, 0] rfl (ih r0 v1 v2 v3 y7 y9 (w32 (v6 + 1)) h_r0 h_v1 h_v2 h_v3 h_y7 h_y9 (ir_w _) m13)
          · refine zj_iinc C 8 [(6, .int (i32 (w32 (v6 + 1)))), (8, .int (i32 y9)), (7, .int (i32 y7)), (0, .ref (zad Γ r0)), (1, .int (i32 v1)), (2, .int (i32 v2)), (3, .int (i32 v3)), (4, .int (i32 v4)), (5, .int (i32 v5))] rfl dX3_spotThatSpares_101 (by decide) rfl ?_
            refine zj_goto (tgt := 25) C dX3_spotThatSpares_104 rfl ?_
            exact zj_sub [3, 4, 5, 6, 7, 8, 0] rfl (ih r0 v1 v2 v3 v4 v5 (w32 (v6 + 1)) h_r0 h_v1 h_v2 h_v3 h_v4 h_v5 (ir_w _) m13)
noncomputable def f_X3_spotThatSpares (t0 : Nat) (x1 : Int) (x2 : Int) (x3 : Int) (mem : zMem) : Option (Int × zMem) := zbind (f_X5_hasShadow (sRf t0 0) x1 x2 mem) fun y1 m2 => if y1 = 0 then (some ((-1), m2)) else (f_X3_spotThatSpares_0 zN t0 x1 x2 x3 (-1) 10 1 m2)
set_option maxHeartbeats 4000000 in
theorem M_X3_spotThatSpares (l : Launch) (Γ : zG) (F : zFull Γ)  {t0 : Nat} {x1 : Int} {x2 : Int} {x3 : Int} (h_t0 : zk t0 3) (h_x1 : ir x1) (h_x2 : ir x2) (h_x3 : ir x3) (mem : zMem) (q : Int × zMem) (h : f_X3_spotThatSpares t0 x1 x2 x3 mem = some q) : zMet l yX3_spotThatSpares cX3_spotThatSpares 9 (some .int) 4 Γ 1 [.ref (zad Γ t0), .int (i32 x1), .int (i32 x2), .int (i32 x3)] mem q := by
  refine zMet_of (own := "ShadowHeirs$Island") (by decide) rfl (Nat.le_of_ble_eq_true rfl) (fun X C Z => ?_)
  revert h
  show zJ X Γ 9 q (f_X3_spotThatSpares t0 x1 x2 x3 mem) 0 [(0, .ref (zad Γ t0)), (1, .int (i32 x1)), (2, .int (i32 x2)), (3, .int (i32 x3))] [] mem
  unfold f_X3_spotThatSpares
  refine zj_iconst C (-1) dX3_spotThatSpares_0 ?_
  refine zj_istore C [(4, .int (i32 (-1))), (0, .ref (zad Γ t0)), (1, .int (i32 x1)), (2, .int (i32 x2)), (3, .int (i32 x3))] dX3_spotThatSpares_1 (by decide) rfl ?_
  refine zj_aload_n (j := 0) (i := 0) C rfl 1 rfl dX3_spotThatSpares_3 ?_
  refine zj_getR C F h_t0 fl_X3_9 rfl rfl dX3_spotThatSpares_4 ?_
  refine zj_iload_n (j := 1) (i := 1) C rfl 2 rfl dX3_spotThatSpares_7 ?_
  refine zj_iload_n (j := 2) (i := 2) C rfl 3 rfl dX3_spotThatSpares_8 ?_
  refine zj_callVi C F Z [.int (i32 x1), .int (i32 x2)] [] cal_X5_hasShadow calv_X5_hasShadow ml_X3_65 (zt_3_0 h_t0) rfl rfl (by decide) (Nat.le_of_ble_eq_true rfl) rfl dX3_spotThatSpares_9 (fun q h => M_X5_hasShadow l Γ F (zt_3_0 h_t0) h_x1 h_x2 mem q h) (fun y1 m2 h_y1 => ?_)
  refine zj_if_ne C 18 h_y1 dX3_spotThatSpares_12 rfl (fun c3 => ?_) (fun c3 => ?_)
  · refine zj_iload C 0 rfl dX3_spotThatSpares_15 ?_
    exact zrt_i C Z irc_m1 dX3_spotThatSpares_17
  · refine zj_bipush C 10 rfl dX3_spotThatSpares_18 ?_
    refine zj_istore C [(5, .int (i32 10)), (4, .int (i32 (-1))), (0, .ref (zad Γ t0)), (1, .int (i32 x1)), (2, .int (i32 x2)), (3, .int (i32 x3))] dX3_spotThatSpares_20 (by decide) rfl ?_
    refine zj_iconst C 1 dX3_spotThatSpares_22 ?_
    refine zj_istore C [(6, .int (i32 1)), (5, .int (i32 10)), (4, .int (i32 (-1))), (0, .ref (zad Γ t0)), (1, .int (i32 x1)), (2, .int (i32 x2)), (3, .int (i32 x3))] dX3_spotThatSpares_23 (by decide) rfl ?_
    exact zj_sub [3, 4, 5, 6, 2, 1, 0] rfl ((L_X3_spotThatSpares_0 l F C Z zN) t0 x1 x2 x3 (-1) 10 1 h_t0 h_x1 h_x2 h_x3 irc_m1 irc_10 irc_1 m2)
noncomputable def f_X4_readGround  (mem : zMem) : Option (Int × zMem) := if (mem 27 4) = 0 then (if (mem 27 5) = 0 then (pipe (zup mem 27 4 1) fun m5 => zbind (f_X6_wantNumber 2 8 m5) fun y6 m7 => if y6 = 0 then (some (0, m7)) else (pipe (zup m7 28 0 (w32 (m7 1 7))) fun m10 => zbind (f_X6_wantNumber 2 8 m10) fun y11 m12 => if y11 = 0 then (some (0, m12)) else (pipe (zup m12 28 1 (w32 (m12 1 7))) fun m15 => some (1, m15)))) else (zbind (f_X6_fail 3 mem) fun y16 m17 => if y16 = 0 ∨ y16 = 1 then some (y16, m17) else none)) else (zbind (f_X6_fail 3 mem) fun y18 m19 => if y18 = 0 ∨ y18 = 1 then some (y18, m19) else none)
set_option maxHeartbeats 4000000 in
theorem M_X4_readGround (l : Launch) (Γ : zG) (F : zFull Γ)    (mem : zMem) (q : Int × zMem) (h : f_X4_readGround  mem = some q) : zMet l yX4_readGround cX4_readGround 1 (some .boolean) 4 Γ 1 [.ref (zad Γ 27)] mem q := by
  refine zMet_of (own := "ShadowHeirs$IslandText") (by decide) rfl (Nat.le_of_ble_eq_true rfl) (fun X C Z => ?_)
  revert h
  show zJ X Γ 1 q (f_X4_readGround  mem) 0 [(0, .ref (zad Γ 27))] [] mem
  unfold f_X4_readGround
  refine zj_aload_n (j := 0) (i := 0) C rfl 0 rfl dX4_readGround_0 ?_
  refine zj_getI C F 4 rfl zk_27 fl_X4_37 rfl dX4_readGround_1 (fun h1 => ?_)
  refine zj_if_ne C 14 h1 dX4_readGround_4 rfl (fun c2 => ?_) (fun c2 => ?_)
  · refine zj_aload_n (j := 0) (i := 0) C rfl 0 rfl dX4_readGround_7 ?_
    refine zj_getI C F 5 rfl zk_27 fl_X4_41 rfl dX4_readGround_8 (fun h3 => ?_)
    refine zj_if_eq C 23 h3 dX4_readGround_11 rfl (fun c4 => ?_) (fun c4 => ?_)
    · refine zj_aload_n (j := 0) (i := 0) C rfl 0 rfl dX4_readGround_23 ?_
      refine zj_iconst C 1 dX4_readGround_24 ?_
      refine zj_putZ C F 4 rfl zk_27 fl_X4_37 rfl fp_4_4 (Or.inr rfl) dX4_readGround_25 ?_
      refine zj_pipeM (fun m5 e_m5 => ?_)
      refine zj_aload_n (j := 0) (i := 0) C rfl 0 rfl dX4_readGround_28 ?_
      refine zj_getR C F zk_27 fl_X4_48 rfl rf_27_0 dX4_readGround_29 ?_
      refine zj_iconst C 2 dX4_readGround_32 ?_
      refine zj_bipush C 8 rfl dX4_readGround_33 ?_
      refine zj_callVi C F Z [.int (i32 2), .int (i32 8)] [] cal_X6_wantNumber calv_X6_wantNumber ml_X4_98 zk_1 rfl rfl (by decide) (Nat.le_of_ble_eq_true rfl) rfl dX4_readGround_35 (fun q h => M_X6_wantNumber l Γ F irc_2 irc_8 m5 q h) (fun y6 m7 h_y6 => ?_)
      refine zj_if_ne C 43 h_y6 dX4_readGround_38 rfl (fun c8 => ?_) (fun c8 => ?_)
      · refine zj_iconst C 0 dX4_readGround_41 ?_
        exact zrt_z C Z (Or.inl rfl) dX4_readGround_42
      · refine zj_aload_n (j := 0) (i := 0) C rfl 0 rfl dX4_readGround_43 ?_
        refine zj_getR C F zk_27 fl_X4_12 rfl rf_27_1 dX4_readGround_44 ?_
        refine zj_aload_n (j := 0) (i := 0) C rfl 0 rfl dX4_readGround_47 ?_
        refine zj_getR C F zk_27 fl_X4_48 rfl rf_27_0 dX4_readGround_48 ?_
        refine zj_getL C F 7 rfl zk_1 fl_X4_102 rfl dX4_readGround_51 (fun h9 => ?_)
        refine zj_l2i C h9 dX4_readGround_54 ?_
        refine zj_putI C F 0 rfl zk_28 fl_X4_106 rfl fp_5_0 (ir_w _) dX4_readGround_55 ?_
        refine zj_pipeM (fun m10 e_m10 => ?_)
        refine zj_aload_n (j := 0) (i := 0) C rfl 0 rfl dX4_readGround_58 ?_
        refine zj_getR C F zk_27 fl_X4_48 rfl rf_27_0 dX4_readGround_59 ?_
        refine zj_iconst C 2 dX4_readGround_62 ?_
        refine zj_bipush C 8 rfl dX4_readGround_63 ?_
        refine zj_callVi C F Z [.int (i32 2), .int (i32 8)] [] cal_X6_wantNumber calv_X6_wantNumber ml_X4_98 zk_1 rfl rfl (by decide) (Nat.le_of_ble_eq_true rfl) rfl dX4_readGround_65 (fun q h => M_X6_wantNumber l Γ F irc_2 irc_8 m10 q h) (fun y11 m12 h_y11 => ?_)
        refine zj_if_ne C 73 h_y11 dX4_readGround_68 rfl (fun c13 => ?_) (fun c13 => ?_)
        · refine zj_iconst C 0 dX4_readGround_71 ?_
          exact zrt_z C Z (Or.inl rfl) dX4_readGround_72
        · refine zj_aload_n (j := 0) (i := 0) C rfl 0 rfl dX4_readGround_73 ?_
          refine zj_getR C F zk_27 fl_X4_12 rfl rf_27_1 dX4_readGround_74 ?_
          refine zj_aload_n (j := 0) (i := 0) C rfl 0 rfl dX4_readGround_77 ?_
          refine zj_getR C F zk_27 fl_X4_48 rfl rf_27_0 dX4_readGround_78 ?_
          refine zj_getL C F 7 rfl zk_1 fl_X4_102 rfl dX4_readGround_81 (fun h14 => ?_)
          refine zj_l2i C h14 dX4_readGround_84 ?_
          refine zj_putI C F 1 rfl zk_28 fl_X4_109 rfl fp_5_1 (ir_w _) dX4_readGround_85 ?_
          refine zj_pipeM (fun m15 e_m15 => ?_)
          refine zj_iconst C 1 dX4_readGround_88 ?_
          exact zrt_z C Z (Or.inr rfl) dX4_readGround_89
    · refine zj_aload_n (j := 0) (i := 0) C rfl 0 rfl dX4_readGround_14 ?_
      refine zj_getR C F zk_27 fl_X4_48 rfl rf_27_0 dX4_readGround_15 ?_
      refine zj_iconst C 3 dX4_readGround_18 ?_
      refine zj_callVi C F Z [.int (i32 3)] [] cal_X6_fail calv_X6_fail ml_X4_94 zk_1 rfl rfl (by decide) (Nat.le_of_ble_eq_true rfl) rfl dX4_readGround_19 (fun q h => M_X6_fail l Γ F irc_3 mem q h) (fun y16 m17 h_y16 => ?_)
      exact zrt_zc C Z dX4_readGround_22
  · refine zj_aload_n (j := 0) (i := 0) C rfl 0 rfl dX4_readGround_14 ?_
    refine zj_getR C F zk_27 fl_X4_48 rfl rf_27_0 dX4_readGround_15 ?_
    refine zj_iconst C 3 dX4_readGround_18 ?_
    refine zj_callVi C F Z [.int (i32 3)] [] cal_X6_fail calv_X6_fail ml_X4_94 zk_1 rfl rfl (by decide) (Nat.le_of_ble_eq_true rfl) rfl dX4_readGround_19 (fun q h => M_X6_fail l Γ F irc_3 mem q h) (fun y18 m19 h_y18 => ?_)
    exact zrt_zc C Z dX4_readGround_22
noncomputable def f_X4_readSun  (mem : zMem) : Option (Int × zMem) := pipe (mem 28 4) fun y2 => if y2 < 8 then (zbind (f_X6_wantSide mem) fun y4 m5 => if y4 = 0 then (some (0, m5)) else (if ix 33 y2 then pipe (zup m5 33 y2 (w32 ((m5 1 8) - 5))) fun m9 => zbind (f_X6_wantNumber 1 9 m9) fun y10 m11 => if y10 = 0 then (some (0, m11)) else (if ix 34 y2 then pipe (zup m11 34 y2 (w32 (m11 1 7))) fun m15 => pipe (zup m15 28 4 (w32 ((m15 28 4) + 1))) fun m17 => some (1, m17) else none) else none)) else (zbind (f_X6_fail 4 mem) fun y18 m19 => if y18 = 0 ∨ y18 = 1 then some (y18, m19) else none)
set_option maxHeartbeats 4000000 in
theorem M_X4_readSun (l : Launch) (Γ : zG) (F : zFull Γ)    (mem : zMem) (q : Int × zMem) (h : f_X4_readSun  mem = some q) : zMet l yX4_readSun cX4_readSun 2 (some .boolean) 4 Γ 1 [.ref (zad Γ 27)] mem q := by
  refine zMet_of (own := "ShadowHeirs$IslandText") (by decide) rfl (Nat.le_of_ble_eq_true rfl) (fun X C Z => ?_)
  revert h
  show zJ X Γ 2 q (f_X4_readSun  mem) 0 [(0, .ref (zad Γ 27))] [] mem
  unfold f_X4_readSun
  refine zj_aload_n (j := 0) (i := 0) C rfl 0 rfl dX4_readSun_0 ?_
  refine zj_getR C F zk_27 fl_X4_12 rfl rf_27_1 dX4_readSun_1 ?_
  refine zj_getI C F 4 rfl zk_28 fl_X4_148 rfl dX4_readSun_4 (fun h1 => ?_)
  refine zj_pipeI (fun y2 e_y2 => ?_)
  have h_y2 := ir_eq e_y2 h1
  refine zj_istore_n (j := 1) (i := 1) C rfl [(1, .int (i32 y2)), (0, .ref (zad Γ 27))] dX4_readSun_7 (by decide) rfl ?_
  refine zj_iload_n (j := 1) (i := 1) C rfl 0 rfl dX4_readSun_8 ?_
  refine zj_bipush C 8 rfl dX4_readSun_9 ?_
  refine zj_icmp_lt C 23 h_y2 irc_8 dX4_readSun_11 rfl (fun c3 => ?_) (fun c3 => ?_)
  · refine zj_aload_n (j := 0) (i := 0) C rfl 1 rfl dX4_readSun_23 ?_
    refine zj_getR C F zk_27 fl_X4_48 rfl rf_27_0 dX4_readSun_24 ?_
    refine zj_callVi C F Z [] [] cal_X6_wantSide calv_X6_wantSide ml_X4_151 zk_1 rfl rfl (by decide) (Nat.le_of_ble_eq_true rfl) rfl dX4_readSun_27 (fun q h => M_X6_wantSide l Γ F  mem q h) (fun y4 m5 h_y4 => ?_)
    refine zj_if_ne C 35 h_y4 dX4_readSun_30 rfl (fun c6 => ?_) (fun c6 => ?_)
    · refine zj_iconst C 0 dX4_readSun_33 ?_
      exact zrt_z C Z (Or.inl rfl) dX4_readSun_34
    · refine zj_aload_n (j := 0) (i := 0) C rfl 1 rfl dX4_readSun_35 ?_
      refine zj_getR C F zk_27 fl_X4_12 rfl rf_27_1 dX4_readSun_36 ?_
      refine zj_getR C F zk_28 fl_X4_154 rfl rf_28_9 dX4_readSun_39 ?_
      refine zj_iload_n (j := 1) (i := 1) C rfl 0 rfl dX4_readSun_42 ?_
      refine zj_aload_n (j := 0) (i := 0) C rfl 1 rfl dX4_readSun_43 ?_
      refine zj_getR C F zk_27 fl_X4_48 rfl rf_27_0 dX4_readSun_44 ?_
      refine zj_getI C F 8 rfl zk_1 fl_X4_76 rfl dX4_readSun_47 (fun h7 => ?_)
      refine zj_iconst C 5 dX4_readSun_50 ?_
      refine zj_isub C dX4_readSun_51 ?_
      refine zj_iastore C F zk_33 h_y2 (ir_w _) dX4_readSun_52 (fun c8 => ?_)
      refine zj_pipeM (fun m9 e_m9 => ?_)
      refine zj_aload_n (j := 0) (i := 0) C rfl 1 rfl dX4_readSun_53 ?_
      refine zj_getR C F zk_27 fl_X4_48 rfl rf_27_0 dX4_readSun_54 ?_
      refine zj_iconst C 1 dX4_readSun_57 ?_
      refine zj_bipush C 9 rfl dX4_readSun_58 ?_
      refine zj_callVi C F Z [.int (i32 1), .int (i32 9)] [] cal_X6_wantNumber calv_X6_wantNumber ml_X4_98 zk_1 rfl rfl (by decide) (Nat.le_of_ble_eq_true rfl) rfl dX4_readSun_60 (fun q h => M_X6_wantNumber l Γ F irc_1 irc_9 m9 q h) (fun y10 m11 h_y10 => ?_)
      refine zj_if_ne C 68 h_y10 dX4_readSun_63 rfl (fun c12 => ?_) (fun c12 => ?_)
      · refine zj_iconst C 0 dX4_readSun_66 ?_
        exact zrt_z C Z (Or.inl rfl) dX4_readSun_67
      · refine zj_aload_n (j := 0) (i := 0) C rfl 1 rfl dX4_readSun_68 ?_
        refine zj_getR C F zk_27 fl_X4_12 rfl rf_27_1 dX4_readSun_69 ?_
        refine zj_getR C F zk_28 fl_X4_157 rfl rf_28_10 dX4_readSun_72 ?_
        refine zj_iload_n (j := 1) (i := 1) C rfl 0 rfl dX4_readSun_75 ?_
        refine zj_aload_n (j := 0) (i := 0) C rfl 1 rfl dX4_readSun_76 ?_
        refine zj_getR C F zk_27 fl_X4_48 rfl rf_27_0 dX4_readSun_77 ?_
        refine zj_getL C F 7 rfl zk_1 fl_X4_102 rfl dX4_readSun_80 (fun h13 => ?_)
        refine zj_l2i C h13 dX4_readSun_83 ?_
        refine zj_iastore C F zk_34 h_y2 (ir_w _) dX4_readSun_84 (fun c14 => ?_)
        refine zj_pipeM (fun m15 e_m15 => ?_)
        refine zj_aload_n (j := 0) (i := 0) C rfl 1 rfl dX4_readSun_85 ?_
        refine zj_getR C F zk_27 fl_X4_12 rfl rf_27_1 dX4_readSun_86 ?_
        refine zj_dup C rfl dX4_readSun_89 ?_
        refine zj_getI C F 4 rfl zk_28 fl_X4_148 rfl dX4_readSun_90 (fun h16 => ?_)
        refine zj_iconst C 1 dX4_readSun_93 ?_
        refine zj_iadd C dX4_readSun_94 ?_
        refine zj_putI C F 4 rfl zk_28 fl_X4_148 rfl fp_5_4 (ir_w _) dX4_readSun_95 ?_
        refine zj_pipeM (fun m17 e_m17 => ?_)
        refine zj_iconst C 1 dX4_readSun_98 ?_
        exact zrt_z C Z (Or.inr rfl) dX4_readSun_99
  · refine zj_aload_n (j := 0) (i := 0) C rfl 1 rfl dX4_readSun_14 ?_
    refine zj_getR C F zk_27 fl_X4_48 rfl rf_27_0 dX4_readSun_15 ?_
    refine zj_iconst C 4 dX4_readSun_18 ?_
    refine zj_callVi C F Z [.int (i32 4)] [] cal_X6_fail calv_X6_fail ml_X4_94 zk_1 rfl rfl (by decide) (Nat.le_of_ble_eq_true rfl) rfl dX4_readSun_19 (fun q h => M_X6_fail l Γ F irc_4 mem q h) (fun y18 m19 h_y18 => ?_)
    exact zrt_zc C Z dX4_readSun_22
noncomputable def f_X4_readNewName  (mem : zMem) : Option (Int × zMem) := zbind (f_X6_wantName mem) fun y1 m2 => if y1 = 0 then (some (0, m2)) else (zbind (f_X5_houseNamed 28 (m2 1 7) m2) fun y5 m6 => if y5 = (-1) then (zbind (f_X5_personNamed 28 (m6 1 7) m6) fun y9 m10 => if y9 = (-1) then (some (1, m10)) else (zbind (f_X6_fail 3 m10) fun y14 m15 => if y14 = 0 then (some (0, m15)) else (some (1, m15)))) else (zbind (f_X6_fail 3 m6) fun y18 m19 => if y18 = 0 then (some (0, m19)) else (some (1, m19))))
set_option maxHeartbeats 4000000 in
theorem M_X4_readNewName (l : Launch) (Γ : zG) (F : zFull Γ)    (mem : zMem) (q : Int × zMem) (h : f_X4_readNewName  mem = some q) : zMet l yX4_readNewName cX4_readNewName 2 (some .boolean) 4 Γ 1 [.ref (zad Γ 27)] mem q := by
  refine zMet_of (own := "ShadowHeirs$IslandText") (by decide) rfl (Nat.le_of_ble_eq_true rfl) (fun X C Z => ?_)
  revert h
  show zJ X Γ 2 q (f_X4_readNewName  mem) 0 [(0, .ref (zad Γ 27))] [] mem
  unfold f_X4_readNewName
  refine zj_aload_n (j := 0) (i := 0) C rfl 0 rfl dX4_readNewName_0 ?_
  refine zj_getR C F zk_27 fl_X4_48 rfl rf_27_0 dX4_readNewName_1 ?_
  refine zj_callVi C F Z [] [] cal_X6_wantName calv_X6_wantName ml_X4_160 zk_1 rfl rfl (by decide) (Nat.le_of_ble_eq_true rfl) rfl dX4_readNewName_4 (fun q h => M_X6_wantName l Γ F  mem q h) (fun y1 m2 h_y1 => ?_)
  refine zj_if_ne C 12 h_y1 dX4_readNewName_7 rfl (fun c3 => ?_) (fun c3 => ?_)
  · refine zj_iconst C 0 dX4_readNewName_10 ?_
    exact zrt_z C Z (Or.inl rfl) dX4_readNewName_11
  · refine zj_aload_n (j := 0) (i := 0) C rfl 0 rfl dX4_readNewName_12 ?_
    refine zj_getR C F zk_27 fl_X4_12 rfl rf_27_1 dX4_readNewName_13 ?_
    refine zj_aload_n (j := 0) (i := 0) C rfl 0 rfl dX4_readNewName_16 ?_
    refine zj_getR C F zk_27 fl_X4_48 rfl rf_27_0 dX4_readNewName_17 ?_
    refine zj_getL C F 7 rfl zk_1 fl_X4_102 rfl dX4_readNewName_20 (fun h4 => ?_)
    refine zj_callVi C F Z [.long (i64 (m2 1 7))] [] cal_X5_houseNamed calv_X5_houseNamed ml_X4_163 zk_28 rfl rfl (by decide) (Nat.le_of_ble_eq_true rfl) rfl dX4_readNewName_23 (fun q h => M_X5_houseNamed l Γ F zk_28 h4 m2 q h) (fun y5 m6 h_y5 => ?_)
    refine zj_iconst C (-1) dX4_readNewName_26 ?_
    refine zj_icmp_ne C 48 h_y5 irc_m1 dX4_readNewName_27 rfl (fun c7 => ?_) (fun c7 => ?_)
    · refine zj_aload_n (j := 0) (i := 0) C rfl 0 rfl dX4_readNewName_30 ?_
      refine zj_getR C F zk_27 fl_X4_12 rfl rf_27_1 dX4_readNewName_31 ?_
      refine zj_aload_n (j := 0) (i := 0) C rfl 0 rfl dX4_readNewName_34 ?_
      refine zj_getR C F zk_27 fl_X4_48 rfl rf_27_0 dX4_readNewName_35 ?_
      refine zj_getL C F 7 rfl zk_1 fl_X4_102 rfl dX4_readNewName_38 (fun h8 => ?_)
      refine zj_callVi C F Z [.long (i64 (m6 1 7))] [] cal_X5_personNamed calv_X5_personNamed ml_X4_167 zk_28 rfl rfl (by decide) (Nat.le_of_ble_eq_true rfl) rfl dX4_readNewName_41 (fun q h => M_X5_personNamed l Γ F zk_28 h8 m6 q h) (fun y9 m10 h_y9 => ?_)
      refine zj_iconst C (-1) dX4_readNewName_44 ?_
      refine zj_icmp_eq C 52 h_y9 irc_m1 dX4_readNewName_45 rfl (fun c11 => ?_) (fun c11 => ?_)
      · refine zj_iconst C 0 dX4_readNewName_52 ?_
        refine zj_istore_n (j := 1) (i := 1) C rfl [(1, .int (i32 0)), (0, .ref (zad Γ 27))] dX4_readNewName_53 (by decide) rfl ?_
        refine zj_iload_n (j := 1) (i := 1) C rfl 0 rfl dX4_readNewName_54 ?_
        refine zj_cpos (by decide) (zj_if_eq (B := none) C 69 irc_0 dX4_readNewName_55 rfl (fun c12 => ?_) (fun _ => zj_none))
        refine zj_iconst C 1 dX4_readNewName_69 ?_
        refine zj_goto (tgt := 74) C dX4_readNewName_70 rfl ?_
        exact zrt_z C Z (Or.inr rfl) dX4_readNewName_74
      · refine zj_iconst C 1 dX4_readNewName_48 ?_
        refine zj_goto (tgt := 53) C dX4_readNewName_49 rfl ?_
        refine zj_istore_n (j := 1) (i := 1) C rfl [(1, .int (i32 1)), (0, .ref (zad Γ 27))] dX4_readNewName_53 (by decide) rfl ?_
        refine zj_iload_n (j := 1) (i := 1) C rfl 0 rfl dX4_readNewName_54 ?_
        refine zj_cneg (by decide) (zj_if_eq (A := none) C 69 irc_1 dX4_readNewName_55 rfl (fun _ => zj_none) (fun c13 => ?_))
        refine zj_aload_n (j := 0) (i := 0) C rfl 1 rfl dX4_readNewName_58 ?_
        refine zj_getR C F zk_27 fl_X4_48 rfl rf_27_0 dX4_readNewName_59 ?_
        refine zj_iconst C 3 dX4_readNewName_62 ?_
        refine zj_callVi C F Z [.int (i32 3)] [] cal_X6_fail calv_X6_fail ml_X4_94 zk_1 rfl rfl (by decide) (Nat.le_of_ble_eq_true rfl) rfl dX4_readNewName_63 (fun q h => M_X6_fail l Γ F irc_3 m10 q h) (fun y14 m15 h_y14 => ?_)
        refine zj_if_eq C 73 h_y14 dX4_readNewName_66 rfl (fun c16 => ?_) (fun c16 => ?_)
        · refine zj_iconst C 0 dX4_readNewName_73 ?_
          exact zrt_z C Z (Or.inl rfl) dX4_readNewName_74
        · refine zj_iconst C 1 dX4_readNewName_69 ?_
          refine zj_goto (tgt := 74) C dX4_readNewName_70 rfl ?_
          exact zrt_z C Z (Or.inr rfl) dX4_readNewName_74
    · refine zj_iconst C 1 dX4_readNewName_48 ?_
      refine zj_goto (tgt := 53) C dX4_readNewName_49 rfl ?_
      refine zj_istore_n (j := 1) (i := 1) C rfl [(1, .int (i32 1)), (0, .ref (zad Γ 27))] dX4_readNewName_53 (by decide) rfl ?_
      refine zj_iload_n (j := 1) (i := 1) C rfl 0 rfl dX4_readNewName_54 ?_
      refine zj_cneg (by decide) (zj_if_eq (A := none) C 69 irc_1 dX4_readNewName_55 rfl (fun _ => zj_none) (fun c17 => ?_))
      refine zj_aload_n (j := 0) (i := 0) C rfl 1 rfl dX4_readNewName_58 ?_
      refine zj_getR C F zk_27 fl_X4_48 rfl rf_27_0 dX4_readNewName_59 ?_
      refine zj_iconst C 3 dX4_readNewName_62 ?_
      refine zj_callVi C F Z [.int (i32 3)] [] cal_X6_fail calv_X6_fail ml_X4_94 zk_1 rfl rfl (by decide) (Nat.le_of_ble_eq_true rfl) rfl dX4_readNewName_63 (fun q h => M_X6_fail l Γ F irc_3 m6 q h) (fun y18 m19 h_y18 => ?_)
      refine zj_if_eq C 73 h_y18 dX4_readNewName_66 rfl (fun c20 => ?_) (fun c20 => ?_)
      · refine zj_iconst C 0 dX4_readNewName_73 ?_
        exact zrt_z C Z (Or.inl rfl) dX4_readNewName_74
      · refine zj_iconst C 1 dX4_readNewName_69 ?_
        refine zj_goto (tgt := 74) C dX4_readNewName_70 rfl ?_
        exact zrt_z C Z (Or.inr rfl) dX4_readNewName_74
noncomputable def f_X4_readSpot (x0 : Int) (mem : zMem) : Option (Int × zMem) := pipe (zup mem 27 5 1) fun m1 => zbind (f_X6_wantNumber 0 (w32 ((m1 28 0) - 1)) m1) fun y3 m4 => if y3 = 0 then (some (0, m4)) else (pipe (w32 (m4 1 7)) fun y7 => zbind (f_X6_wantNumber 0 (w32 ((m4 28 1) - 1)) m4) fun y9 m10 => if y9 = 0 then (some (0, m10)) else (pipe (zup m10 27 6 (w32 ((w32 (8 * (w32 (m10 1 7)))) + y7))) fun m13 => zbind (f_X3_heightAt 40 (m13 27 6) m13) fun y15 m16 => if y15 > 0 then (zbind (f_X6_fail 3 m16) fun y18 m19 => if y18 = 0 ∨ y18 = 1 then some (y18, m19) else none) else (if x0 = 0 then (zbind (f_X3_personsOn 40 (m16 27 6) m16) fun y22 m23 => if y22 = 0 then (some (1, m23)) else (zbind (f_X6_fail 3 m23) fun y25 m26 => if y25 = 0 ∨ y25 = 1 then some (y25, m26) else none)) else (some (1, m16)))))
set_option maxHeartbeats 4000000 in
theorem M_X4_readSpot (l : Launch) (Γ : zG) (F : zFull Γ)  {x0 : Int} (h_x0 : ir x0) (mem : zMem) (q : Int × zMem) (h : f_X4_readSpot x0 mem = some q) : zMet l yX4_readSpot cX4_readSpot 3 (some .boolean) 4 Γ 1 [.ref (zad Γ 27), .int (i32 x0)] mem q := by
  refine zMet_of (own := "ShadowHeirs$IslandText") (by decide) rfl (Nat.le_of_ble_eq_true rfl) (fun X C Z => ?_)
  revert h
  show zJ X Γ 3 q (f_X4_readSpot x0 mem) 0 [(0, .ref (zad Γ 27)), (1, .int (i32 x0))] [] mem
  unfold f_X4_readSpot
  refine zj_aload_n (j := 0) (i := 0) C rfl 0 rfl dX4_readSpot_0 ?_
  refine zj_iconst C 1 dX4_readSpot_1 ?_
  refine zj_putZ C F 5 rfl zk_27 fl_X4_41 rfl fp_4_5 (Or.inr rfl) dX4_readSpot_2 ?_
  refine zj_pipeM (fun m1 e_m1 => ?_)
  refine zj_aload_n (j := 0) (i := 0) C rfl 0 rfl dX4_readSpot_5 ?_
  refine zj_getR C F zk_27 fl_X4_48 rfl rf_27_0 dX4_readSpot_6 ?_
  refine zj_iconst C 0 dX4_readSpot_9 ?_
  refine zj_aload_n (j := 0) (i := 0) C rfl 0 rfl dX4_readSpot_10 ?_
  refine zj_getR C F zk_27 fl_X4_12 rfl rf_27_1 dX4_readSpot_11 ?_
  refine zj_getI C F 0 rfl zk_28 fl_X4_106 rfl dX4_readSpot_14 (fun h2 => ?_)
  refine zj_iconst C 1 dX4_readSpot_17 ?_
  refine zj_isub C dX4_readSpot_18 ?_
  refine zj_callVi C F Z [.int (i32 0), .int (i32 (w32 ((m1 28 0) - 1)))] [] cal_X6_wantNumber calv_X6_wantNumber ml_X4_98 zk_1 rfl rfl (by decide) (Nat.le_of_ble_eq_true rfl) rfl dX4_readSpot_19 (fun q h => M_X6_wantNumber l Γ F irc_0 (ir_w _) m1 q h) (fun y3 m4 h_y3 => ?_)
  refine zj_if_ne C 27 h_y3 dX4_readSpot_22 rfl (fun c5 => ?_) (fun c5 => ?_)
  · refine zj_iconst C 0 dX4_readSpot_25 ?_
    exact zrt_z C Z (Or.inl rfl) dX4_readSpot_26
  · refine zj_aload_n (j := 0) (i := 0) C rfl 0 rfl dX4_readSpot_27 ?_
    refine zj_getR C F zk_27 fl_X4_48 rfl rf_27_0 dX4_readSpot_28 ?_
    refine zj_getL C F 7 rfl zk_1 fl_X4_102 rfl dX4_readSpot_31 (fun h6 => ?_)
    refine zj_l2i C h6 dX4_readSpot_34 ?_
    refine zj_pipeI (fun y7 e_y7 => ?_)
    have h_y7 := ir_eq e_y7 (ir_w _)
    refine zj_istore_n (j := 2) (i := 2) C rfl [(2, .int (i32 y7)), (0, .ref (zad Γ 27)), (1, .int (i32 x0))] dX4_readSpot_35 (by decide) rfl ?_
    refine zj_aload_n (j := 0) (i := 0) C rfl 1 rfl dX4_readSpot_36 ?_
    refine zj_getR C F zk_27 fl_X4_48 rfl rf_27_0 dX4_readSpot_37 ?_
    refine zj_iconst C 0 dX4_readSpot_40 ?_
    refine zj_aload_n (j := 0) (i := 0) C rfl 1 rfl dX4_readSpot_41 ?_
    refine zj_getR C F zk_27 fl_X4_12 rfl rf_27_1 dX4_readSpot_42 ?_
    refine zj_getI C F 1 rfl zk_28 fl_X4_109 rfl dX4_readSpot_45 (fun h8 => ?_)
    refine zj_iconst C 1 dX4_readSpot_48 ?_
    refine zj_isub C dX4_readSpot_49 ?_
    refine zj_callVi C F Z [.int (i32 0), .int (i32 (w32 ((m4 28 1) - 1)))] [] cal_X6_wantNumber calv_X6_wantNumber ml_X4_98 zk_1 rfl rfl (by decide) (Nat.le_of_ble_eq_true rfl) rfl dX4_readSpot_50 (fun q h => M_X6_wantNumber l Γ F irc_0 (ir_w _) m4 q h) (fun y9 m10 h_y9 => ?_)
    refine zj_if_ne C 58 h_y9 dX4_readSpot_53 rfl (fun c11 => ?_) (fun c11 => ?_)
    · refine zj_iconst C 0 dX4_readSpot_56 ?_
      exact zrt_z C Z (Or.inl rfl) dX4_readSpot_57
    · refine zj_aload_n (j := 0) (i := 0) C rfl 1 rfl dX4_readSpot_58 ?_
      refine zj_bipush C 8 rfl dX4_readSpot_59 ?_
      refine zj_aload_n (j := 0) (i := 0) C rfl 1 rfl dX4_readSpot_61 ?_
      refine zj_getR C F zk_27 fl_X4_48 rfl rf_27_0 dX4_readSpot_62 ?_
      refine zj_getL C F 7 rfl zk_1 fl_X4_102 rfl dX4_readSpot_65 (fun h12 => ?_)
      refine zj_l2i C h12 dX4_readSpot_68 ?_
      refine zj_imul C dX4_readSpot_69 ?_
      refine zj_iload_n (j := 2) (i := 2) C rfl 0 rfl dX4_readSpot_70 ?_
      refine zj_iadd C dX4_readSpot_71 ?_
      refine zj_putI C F 6 rfl zk_27 fl_X4_44 rfl fp_4_6 (ir_w _) dX4_readSpot_72 ?_
      refine zj_pipeM (fun m13 e_m13 => ?_)
      refine zj_aload_n (j := 0) (i := 0) C rfl 1 rfl dX4_readSpot_75 ?_
      refine zj_getR C F zk_27 fl_X4_33 rfl rf_27_3 dX4_readSpot_76 ?_
      refine zj_aload_n (j := 0) (i := 0) C rfl 1 rfl dX4_readSpot_79 ?_
      refine zj_getI C F 6 rfl zk_27 fl_X4_44 rfl dX4_readSpot_80 (fun h14 => ?_)
      refine zj_callVi C F Z [.int (i32 (m13 27 6))] [] cal_X3_heightAt calv_X3_heightAt ml_X4_170 zk_40 rfl rfl (by decide) (Nat.le_of_ble_eq_true rfl) rfl dX4_readSpot_83 (fun q h => M_X3_heightAt l Γ F zk_40 h14 m13 q h) (fun y15 m16 h_y15 => ?_)
      refine zj_if_gt C 107 h_y15 dX4_readSpot_86 rfl (fun c17 => ?_) (fun c17 => ?_)
      · refine zj_aload_n (j := 0) (i := 0) C rfl 1 rfl dX4_readSpot_107 ?_
        refine zj_getR C F zk_27 fl_X4_48 rfl rf_27_0 dX4_readSpot_108 ?_
        refine zj_iconst C 3 dX4_readSpot_111 ?_
        refine zj_callVi C F Z [.int (i32 3)] [] cal_X6_fail calv_X6_fail ml_X4_94 zk_1 rfl rfl (by decide) (Nat.le_of_ble_eq_true rfl) rfl dX4_readSpot_112 (fun q h => M_X6_fail l Γ F irc_3 m16 q h) (fun y18 m19 h_y18 => ?_)
        exact zrt_zc C Z dX4_readSpot_115
      · refine zj_iload_n (j := 1) (i := 1) C rfl 2 rfl dX4_readSpot_89 ?_
        refine zj_if_ne C 116 h_x0 dX4_readSpot_90 rfl (fun c20 => ?_) (fun c20 => ?_)
        · refine zj_aload_n (j := 0) (i := 0) C rfl 1 rfl dX4_readSpot_93 ?_
          refine zj_getR C F zk_27 fl_X4_33 rfl rf_27_3 dX4_readSpot_94 ?_
          refine zj_aload_n (j := 0) (i := 0) C rfl 1 rfl dX4_readSpot_97 ?_
          refine zj_getI C F 6 rfl zk_27 fl_X4_44 rfl dX4_readSpot_98 (fun h21 => ?_)
          refine zj_callVi C F Z [.int (i32 (m16 27 6))] [] cal_X3_personsOn calv_X3_personsOn ml_X4_174 zk_40 rfl rfl (by decide) (Nat.le_of_ble_eq_true rfl) rfl dX4_readSpot_101 (fun q h => M_X3_personsOn l Γ F zk_40 h21 m16 q h) (fun y22 m23 h_y22 => ?_)
          refine zj_if_eq C 116 h_y22 dX4_readSpot_104 rfl (fun c24 => ?_) (fun c24 => ?_)
          · refine zj_iconst C 1 dX4_readSpot_116 ?_
            exact zrt_z C Z (Or.inr rfl) dX4_readSpot_117
          · refine zj_aload_n (j := 0) (i := 0) C rfl 1 rfl dX4_readSpot_107 ?_
            refine zj_getR C F zk_27 fl_X4_48 rfl rf_27_0 dX4_readSpot_108 ?_
            refine zj_iconst C 3 dX4_readSpot_111 ?_
            refine zj_callVi C F Z [.int (i32 3)] [] cal_X6_fail calv_X6_fail ml_X4_94 zk_1 rfl rfl (by decide) (Nat.le_of_ble_eq_true rfl) rfl dX4_readSpot_112 (fun q h => M_X6_fail l Γ F irc_3 m23 q h) (fun y25 m26 h_y25 => ?_)
            exact zrt_zc C Z dX4_readSpot_115
        · refine zj_iconst C 1 dX4_readSpot_116 ?_
          exact zrt_z C Z (Or.inr rfl) dX4_readSpot_117
noncomputable def f_X8_readText (t0 : Nat) (t1 : Nat) (mem : zMem) : Option (Int × zMem) := zbind (f_X8_clear t0 mem) fun _ m1 => zbind (f_X6_beginText 200 m1) fun _ m2 => zbind (f_X6_step m2) fun _ m3 => zbind (f_X8_readCond t0 t1 1 m3) fun y4 m5 => if y4 = 0 then (some (0, m5)) else (if (m5 1 6) = 0 then (some (0, m5)) else (zbind (f_X6_fail 1 m5) fun y9 m10 => some (0, m10)))
set_option maxHeartbeats 4000000 in
theorem M_X8_readText (l : Launch) (Γ : zG) (F : zFull Γ)  {t0 : Nat} {t1 : Nat} (h_t0 : zk t0 8) (h_t1 : zk t1 5) (mem : zMem) (q : Int × zMem) (h : f_X8_readText t0 t1 mem = some q) : zMet l yX8_readText cX8_readText 3 none 45 Γ 0 [.ref (zad Γ t0), .ref (zad Γ 1), .ref (zad Γ t1)] mem q := by
  refine zMet_of (own := "ShadowHeirs$Sentence") (by decide) rfl (Nat.le_of_ble_eq_true rfl) (fun X C Z => ?_)
  revert h
  show zJ X Γ 3 q (f_X8_readText t0 t1 mem) 0 [(0, .ref (zad Γ t0)), (1, .ref (zad Γ 1)), (2, .ref (zad Γ t1))] [] mem
  unfold f_X8_readText
  refine zj_aload_n (j := 0) (i := 0) C rfl 0 rfl dX8_readText_0 ?_
  refine zj_callVv C F Z [] [] cal_X8_clear calv_X8_clear ml_X8_32 h_t0 rfl rfl (by decide) (Nat.le_of_ble_eq_true rfl) rfl dX8_readText_1 (fun q h => M_X8_clear l Γ F h_t0 mem q h) (fun _ m1 _ => ?_)
  refine zj_aload_n (j := 1) (i := 1) C rfl 1 rfl dX8_readText_4 ?_
  refine zj_sipush C 200 rfl dX8_readText_5 ?_
  refine zj_callVv C F Z [.int (i32 200)] [] cal_X6_beginText calv_X6_beginText ml_X8_35 zk_1 rfl rfl (by decide) (Nat.le_of_ble_eq_true rfl) rfl dX8_readText_8 (fun q h => M_X6_beginText l Γ F irc_200 m1 q h) (fun _ m2 _ => ?_)
  refine zj_aload_n (j := 1) (i := 1) C rfl 1 rfl dX8_readText_11 ?_
  refine zj_callVv C F Z [] [] cal_X6_step calv_X6_step ml_X8_41 zk_1 rfl rfl (by decide) (Nat.le_of_ble_eq_true rfl) rfl dX8_readText_12 (fun q h => M_X6_step l Γ F  m2 q h) (fun _ m3 _ => ?_)
  refine zj_aload_n (j := 0) (i := 0) C rfl 0 rfl dX8_readText_15 ?_
  refine zj_aload_n (j := 1) (i := 1) C rfl 1 rfl dX8_readText_16 ?_
  refine zj_aload_n (j := 2) (i := 2) C rfl 2 rfl dX8_readText_17 ?_
  refine zj_iconst C 1 dX8_readText_18 ?_
  refine zj_callVi C F Z [.ref (zad Γ 1), .ref (zad Γ t1), .int (i32 1)] [] cal_X8_readCond calv_X8_readCond ml_X8_44 h_t0 rfl rfl (by decide) (Nat.le_of_ble_eq_true rfl) rfl dX8_readText_19 (fun q h => M_X8_readCond l Γ F h_t0 h_t1 irc_1 m3 q h) (fun y4 m5 h_y4 => ?_)
  refine zj_if_eq C 38 h_y4 dX8_readText_22 rfl (fun c6 => ?_) (fun c6 => ?_)
  · exact zrt_v C Z dX8_readText_38
  · refine zj_aload_n (j := 1) (i := 1) C rfl 1 rfl dX8_readText_25 ?_
    refine zj_getI C F 6 rfl zk_1 fl_X8_48 rfl dX8_readText_26 (fun h7 => ?_)
    refine zj_if_eq C 38 h7 dX8_readText_29 rfl (fun c8 => ?_) (fun c8 => ?_)
    · exact zrt_v C Z dX8_readText_38
    · refine zj_aload_n (j := 1) (i := 1) C rfl 1 rfl dX8_readText_32 ?_
      refine zj_iconst C 1 dX8_readText_33 ?_
      refine zj_callVi C F Z [.int (i32 1)] [] cal_X6_fail calv_X6_fail ml_X8_51 zk_1 rfl rfl (by decide) (Nat.le_of_ble_eq_true rfl) rfl dX8_readText_34 (fun q h => M_X6_fail l Γ F irc_1 m5 q h) (fun y9 m10 h_y9 => ?_)
      refine zj_pop C rfl dX8_readText_37 ?_
      exact zrt_v C Z dX8_readText_38
noncomputable def b_X8_personsOf_0 (rec : Nat → Int → Int → Int → Int → zMem → Option (Int × zMem)) (r0 : Nat) (v1 : Int) (v2 : Int) (v3 : Int) (v4 : Int) (mem : zMem) : Option (Int × zMem) := if v4 ≥ (mem (sRf r0 0) 3) then (some (v3, mem)) else (if v4 ≥ 6 then (some (v3, mem)) else (if v1 < 100 then (zbind (f_X8_isSo r0 v1 v2 v4 mem) fun y5 m6 => if y5 = 0 then (rec r0 v1 v2 v3 (w32 (v4 + 1)) m6) else (pipe (zor v3 (zshl 1 v4)) fun y8 => rec r0 v1 v2 y8 (w32 (v4 + 1)) m6)) else (zbind (f_X8_numberOf r0 (zrem v1 100) v4 mem) fun y9 m10 => zbind (f_X8_isCompared y9 (w32 ((zdiv v1 100) - 1)) v2 m10) fun y11 m12 => if y11 = 0 then (rec r0 v1 v2 v3 (w32 (v4 + 1)) m12) else (pipe (zor v3 (zshl 1 v4)) fun y14 => rec r0 v1 v2 y14 (w32 (v4 + 1)) m12))))
noncomputable def f_X8_personsOf_0 : Nat → Nat → Int → Int → Int → Int → zMem → Option (Int × zMem) := zfuel (fun _ _ _ _ _ _ => none) (b_X8_personsOf_0)
set_option maxHeartbeats 4000000 in
theorem L_X8_personsOf_0 (l : Launch) {Γ : zG} (F : zFull Γ) {X : zM} {q : Int × zMem} (C : zC X Γ "ShadowHeirs$Sentence" cX8_personsOf 6) (Z : zRt X l Γ 5 1 (some .int) q) : ∀ n : Nat, ∀ (r0 : Nat) (v1 : Int) (v2 : Int) (v3 : Int) (v4 : Int) (h_r0 : zk r0 3) (h_v1 : ir v1) (h_v2 : ir v2) (h_v3 : ir v3) (h_v4 : ir v4) (mem : zMem), zJ X Γ 6 q (f_X8_personsOf_0 n r0 v1 v2 v3 v4 mem) 5 [(0, .ref (zad Γ r0)), (1, .int (i32 v1)), (2, .int (i32 v2)), (3, .int (i32 v3)), (4, .int (i32 v4))] [] mem := by
  intro n
  induction n with
  | zero => intros; exact zj_none
  | succ n ih =>
    intro r0 v1 v2 v3 v4 h_r0 h_v1 h_v2 h_v3 h_v4 mem
    show zJ X Γ 6 q (b_X8_personsOf_0 (f_X8_personsOf_0 n) r0 v1 v2 v3 v4 mem) _ _ _ _
    unfold b_X8_personsOf_0
    refine zj_iload C 4 rfl dX8_personsOf_5 ?_
    refine zj_aload_n (j := 0) (i := 0) C rfl 0 rfl dX8_personsOf_7 ?_
    refine zj_getR C F h_r0 fl_X8_99 rfl rfl dX8_personsOf_8 ?_
    refine zj_getI C F 3 rfl (zt_3_0 h_r0) fl_X8_105 rfl dX8_personsOf_11 (fun h1 => ?_)
    refine zj_icmp_ge C 81 h_v4 h1 dX8_personsOf_14 rfl (fun c2 => ?_) (fun c2 => ?_)
    · refine zj_iload_n (j := 3) (i := 3) C rfl 3 rfl dX8_personsOf_81 ?_
      exact zrt_i C Z h_v3 dX8_personsOf_82
    · refine zj_iload C 4 rfl dX8_personsOf_17 ?_
      refine zj_bipush C 6 rfl dX8_personsOf_19 ?_
      refine zj_icmp_ge C 81 h_v4 irc_6 dX8_personsOf_21 rfl (fun c3 => ?_) (fun c3 => ?_)
      · refine zj_iload_n (j := 3) (i := 3) C rfl 3 rfl dX8_personsOf_81 ?_
        exact zrt_i C Z h_v3 dX8_personsOf_82
      · refine zj_iload_n (j := 1) (i := 1) C rfl 1 rfl dX8_personsOf_24 ?_
        refine zj_bipush C 100 rfl dX8_personsOf_25 ?_
        refine zj_icmp_lt C 53 h_v1 irc_100 dX8_personsOf_27 rfl (fun c4 => ?_) (fun c4 => ?_)
        · refine zj_aload_n (j := 0) (i := 0) C rfl 0 rfl dX8_personsOf_53 ?_
          refine zj_iload_n (j := 1) (i := 1) C rfl 1 rfl dX8_personsOf_54 ?_
          refine zj_iload_n (j := 2) (i := 2) C rfl 2 rfl dX8_personsOf_55 ?_
          refine zj_iload C 4 rfl dX8_personsOf_56 ?_
          refine zj_callSi C Z [.ref (zad Γ r0), .int (i32 v1), .int (i32 v2), .int (i32 v4)] [] cal_X8_isSo sta_X8_isSo ml_X8_115 rfl (by decide) (Nat.le_of_ble_eq_true rfl) rfl dX8_personsOf_58 (fun q h => M_X8_isSo l Γ F h_r0 h_v1 h_v2 h_v4 mem q h) (fun y5 m6 h_y5 => ?_)
          refine zj_istore C [(5, .int (i32 y5)), (0, .ref (zad Γ r0)), (1, .int (i32 v1)), (2, .int (i32 v2)), (3, .int (i32 v3)), (4, .int (i32 v4))] dX8_personsOf_61 (by decide) rfl ?_
          refine zj_iload C 0 rfl dX8_personsOf_63 ?_
          refine zj_if_eq C 75 h_y5 dX8_personsOf_65 rfl (fun c7 => ?_) (fun c7 => ?_)
          · refine zj_iinc C 5 [(4, .int (i32 (w32 (v4 + 1)))), (5, .int (i32 y5)), (0, .ref (zad Γ r0)), (1, .int (i32 v1)), (2, .int (i32 v2)), (3, .int (i32 v3))] rfl dX8_personsOf_75 (by decide) rfl ?_
            refine zj_goto (tgt := 5) C dX8_personsOf_78 rfl ?_
            exact zj_sub [2, 3, 4, 5, 0] rfl (ih r0 v1 v2 v3 (w32 (v4 + 1)) h_r0 h_v1 h_v2 h_v3 (ir_w _) m6)
          · refine zj_iload_n (j := 3) (i := 3) C rfl 4 rfl dX8_personsOf_68 ?_
            refine zj_iconst C 1 dX8_personsOf_69 ?_
            refine zj_iload C 5 rfl dX8_personsOf_70 ?_
            refine zj_ishl C dX8_personsOf_72 ?_
            refine zj_ior C dX8_personsOf_73 ?_
            refine zj_pipeI (fun y8 e_y8 => ?_)
            have h_y8 := ir_eq e_y8 (ir_toInt _)
            refine zj_istore_n (j := 3) (i := 3) C rfl [(3, .int (i32 y8)), (5, .int (i32 y5)), (0, .ref (zad Γ r0)), (1, .int (i32 v1)), (2, .int (i32 v2)), (4, .int (i32 v4))] dX8_personsOf_74 (by decide) rfl ?_
            refine zj_iinc C 5 [(4, .int (i32 (w32 (v4 + 1)))), (3, .int (i32 y8)), (5, .int (i32 y5)), (0, .ref (zad Γ r0)), (1, .int (i32 v1)), (2, .int (i32 v2))] rfl dX8_personsOf_75 (by decide) rfl ?_
            refine zj_goto (tgt := 5) C dX8_personsOf_78 rfl ?_
            exact zj_sub [3, 4, 5, 1, 0] rfl (ih r0 v1 v2 y8 (w32 (v4 + 1)) h_r0 h_v1 h_v2 h_y8 (ir_w _) m6)
        · refine zj_aload_n (j := 0) (i := 0) C rfl 0 rfl dX8_personsOf_30 ?_
          refine zj_iload_n (j := 1) (i := 1) C rfl 1 rfl dX8_personsOf_31 ?_
          refine zj_bipush C 100 rfl dX8_personsOf_32 ?_
          refine zj_iremc C (by decide) dX8_personsOf_34 ?_
          refine zj_iload C 4 rfl dX8_personsOf_35 ?_
          refine zj_callSi C Z [.ref (zad Γ r0), .int (i32 (zrem v1 100)), .int (i32 v4)] [] cal_X8_numberOf sta_X8_numberOf ml_X8_108 rfl (by decide) (Nat.le_of_ble_eq_true rfl) rfl dX8_personsOf_37 (fun q h => M_X8_numberOf l Γ F h_r0 (ir_toInt _) h_v4 mem q h) (fun y9 m10 h_y9 => ?_)
          refine zj_iload_n (j := 1) (i := 1) C rfl 1 rfl dX8_personsOf_40 ?_
          refine zj_bipush C 100 rfl dX8_personsOf_41 ?_
          refine zj_idivc C (by decide) dX8_personsOf_43 ?_
          refine zj_iconst C 1 dX8_personsOf_44 ?_
          refine zj_isub C dX8_personsOf_45 ?_
          refine zj_iload_n (j := 2) (i := 2) C rfl 2 rfl dX8_personsOf_46 ?_
          refine zj_callSi C Z [.int (i32 y9), .int (i32 (w32 ((zdiv v1 100) - 1))), .int (i32 v2)] [] cal_X8_isCompared sta_X8_isCompared ml_X8_111 rfl (by decide) (Nat.le_of_ble_eq_true rfl) rfl dX8_personsOf_47 (fun q h => M_X8_isCompared l Γ F h_y9 (ir_w _) h_v2 m10 q h) (fun y11 m12 h_y11 => ?_)
          refine zj_goto (tgt := 61) C dX8_personsOf_50 rfl ?_
          refine zj_istore C [(5, .int (i32 y11)), (0, .ref (zad Γ r0)), (1, .int (i32 v1)), (2, .int (i32 v2)), (3, .int (i32 v3)), (4, .int (i32 v4))] dX8_personsOf_61 (by decide) rfl ?_
          refine zj_iload C 0 rfl dX8_personsOf_63 ?_
          refine zj_if_eq C 75 h_y11 dX8_personsOf_65 rfl (fun c13 => ?_) (fun c13 => ?_)
          · refine zj_iinc C 5 [(4, .int (i32 (w32 (v4 + 1)))), (5, .int (i32 y11)), (0, .ref (zad Γ r0)), (1, .int (i32 v1)), (2, .int (i32 v2)), (3, .int (i32 v3))] rfl dX8_personsOf_75 (by decide) rfl ?_
            refine zj_goto (tgt := 5) C dX8_personsOf_78 rfl ?_
            exact zj_sub [2, 3, 4, 5, 0] rfl (ih r0 v1 v2 v3 (w32 (v4 + 1)) h_r0 h_v1 h_v2 h_v3 (ir_w _) m12)
          · refine zj_iload_n (j := 3) (i := 3) C rfl 4 rfl dX8_personsOf_68 ?_
            refine zj_iconst C 1 dX8_personsOf_69 ?_
            refine zj_iload C 5 rfl dX8_personsOf_70 ?_
            refine zj_ishl C dX8_personsOf_72 ?_
            refine zj_ior C dX8_personsOf_73 ?_
            refine zj_pipeI (fun y14 e_y14 => ?_)
            have h_y14 := ir_eq e_y14 (ir_toInt _)
            refine zj_istore_n (j := 3) (i := 3) C rfl [(3, .int (i32 y14)), (5, .int (i32 y11)), (0, .ref (zad Γ r0)), (1, .int (i32 v1)), (2, .int (i32 v2)), (4, .int (i32 v4))] dX8_personsOf_74 (by decide) rfl ?_
            refine zj_iinc C 5 [(4, .int (i32 (w32 (v4 + 1)))), (3, .int (i32 y14)), (5, .int (i32 y11)), (0, .ref (zad Γ r0)), (1, .int (i32 v1)), (2, .int (i32 v2))] rfl dX8_personsOf_75 (by decide) rfl ?_
            refine zj_goto (tgt := 5) C dX8_personsOf_78 rfl ?_
            exact zj_sub [3, 4, 5, 1, 0] rfl (ih r0 v1 v2 y14 (w32 (v4 + 1)) h_r0 h_v1 h_v2 h_y14 (ir_w _) m12)
noncomputable def f_X8_personsOf (t0 : Nat) (x1 : Int) (x2 : Int) (mem : zMem) : Option (Int × zMem) := f_X8_personsOf_0 zN t0 x1 x2 0 0 mem
set_option maxHeartbeats 4000000 in
theorem M_X8_personsOf (l : Launch) (Γ : zG) (F : zFull Γ)  {t0 : Nat} {x1 : Int} {x2 : Int} (h_t0 : zk t0 3) (h_x1 : ir x1) (h_x2 : ir x2) (mem : zMem) (q : Int × zMem) (h : f_X8_personsOf t0 x1 x2 mem = some q) : zMet l yX8_personsOf cX8_personsOf 6 (some .int) 5 Γ 1 [.ref (zad Γ t0), .int (i32 x1), .int (i32 x2)] mem q := by
  refine zMet_of (own := "ShadowHeirs$Sentence") (by decide) rfl (Nat.le_of_ble_eq_true rfl) (fun X C Z => ?_)
  revert h
  show zJ X Γ 6 q (f_X8_personsOf t0 x1 x2 mem) 0 [(0, .ref (zad Γ t0)), (1, .int (i32 x1)), (2, .int (i32 x2))] [] mem
  unfold f_X8_personsOf
  refine zj_iconst C 0 dX8_personsOf_0 ?_
  refine zj_istore_n (j := 3) (i := 3) C rfl [(3, .int (i32 0)), (0, .ref (zad Γ t0)), (1, .int (i32 x1)), (2, .int (i32 x2))] dX8_personsOf_1 (by decide) rfl ?_
  refine zj_iconst C 0 dX8_personsOf_2 ?_
  refine zj_istore C [(4, .int (i32 0)), (3, .int (i32 0)), (0, .ref (zad Γ t0)), (1, .int (i32 x1)), (2, .int (i32 x2))] dX8_personsOf_3 (by decide) rfl ?_
  exact zj_sub [2, 3, 4, 1, 0] rfl ((L_X8_personsOf_0 l F C Z zN) t0 x1 x2 0 0 h_t0 h_x1 h_x2 irc_0 irc_0 mem)
noncomputable def b_X10_mostInShadow_0 (rec : Int → Int → zMem → Option (Int × zMem)) (v4 : Int) (v5 : Int) (mem : zMem) : Option (Int × zMem) := if v5 ≥ 128 then (some (v4, mem)) else (if ix 100 v5 then if (mem 100 v5) = 0 then (rec v4 (w32 (v5 + 1)) mem) else (zbind (f_J6_bitCount_0f7a4 v5 mem) fun y5 m6 => pipe (zmax v4 y5) fun y7 => rec y7 (w32 (v5 + 1)) m6) else none)
noncomputable def f_X10_mostInShadow_0 : Nat → Int → Int → zMem → Option (Int × zMem) := zfuel (fun _ _ _ => none) (b_X10_mostInShadow_0)
set_option maxHeartbeats 4000000 in
theorem L_X10_mostInShadow_0 (l : Launch) {Γ : zG} (F : zFull Γ) {X : zM} {q : Int × zMem} (C : zC X Γ "ShadowHeirs$Walk" cX10_mostInShadow 6) (Z : zRt X l Γ 4 1 (some .int) q) : ∀ n : Nat, ∀ (v4 : Int) (v5 : Int) (h_v4 : ir v4) (h_v5 : ir v5) (mem : zMem), zJ X Γ 6 q (f_X10_mostInShadow_0 n v4 v5 mem) 77 [(0, .ref (zad Γ 97)), (4, .int (i32 v4)), (5, .int (i32 v5))] [] mem := by
  intro n
  induction n with
  | zero => intros; exact zj_none
  | succ n ih =>
    intro v4 v5 h_v4 h_v5 mem
    show zJ X Γ 6 q (b_X10_mostInShadow_0 (f_X10_mostInShadow_0 n) v4 v5 mem) _ _ _ _
    unfold b_X10_mostInShadow_0
    refine zj_iload C 2 rfl dX10_mostInShadow_77 ?_
    refine zj_sipush C 128 rfl dX10_mostInShadow_79 ?_
    refine zj_icmp_ge C 113 h_v5 irc_128 dX10_mostInShadow_82 rfl (fun c1 => ?_) (fun c1 => ?_)
    · refine zj_iload C 1 rfl dX10_mostInShadow_113 ?_
      exact zrt_i C Z h_v4 dX10_mostInShadow_115
    · refine zj_aload_n (j := 0) (i := 0) C rfl 0 rfl dX10_mostInShadow_85 ?_
      refine zj_getR C F zk_97 fl_X10_18 rfl rf_97_3 dX10_mostInShadow_86 ?_
      refine zj_iload C 2 rfl dX10_mostInShadow_89 ?_
      refine zj_baload C F zk_100 h_v5 dX10_mostInShadow_91 (fun c2 h3 => ?_)
      refine zj_if_eq C 107 h3 dX10_mostInShadow_92 rfl (fun c4 => ?_) (fun c4 => ?_)
      · refine zj_iinc C 2 [(5, .int (i32 (w32 (v5 + 1)))), (0, .ref (zad Γ 97)), (4, .int (i32 v4))] rfl dX10_mostInShadow_107 (by decide) rfl ?_
        refine zj_goto (tgt := 77) C dX10_mostInShadow_110 rfl ?_
        exact zj_sub [1, 2, 0] rfl (ih v4 (w32 (v5 + 1)) h_v4 (ir_w _) mem)
      · refine zj_iload C 1 rfl dX10_mostInShadow_95 ?_
        refine zj_iload C 2 rfl dX10_mostInShadow_97 ?_
        refine zj_callSi C Z [.int (i32 v5)] [.int (i32 v4)] cal_J6_bitCount_0f7a4 sta_J6_bitCount_0f7a4 ml_X10_87 rfl (by decide) (Nat.le_of_ble_eq_true rfl) rfl dX10_mostInShadow_99 (fun q h => M_J6_bitCount_0f7a4 l Γ F h_v5 mem q h) (fun y5 m6 h_y5 => ?_)
        refine zj_mmax C Z (by decide) h_v4 h_y5 (Nat.le_of_ble_eq_true rfl) mm_l_X10_92 mm_s_max mm_i mm_c_max dX10_mostInShadow_102 ?_
        refine zj_pipeI (fun y7 e_y7 => ?_)
        have h_y7 := ir_eq e_y7 (ir_max h_v4 h_y5)
        refine zj_istore C [(4, .int (i32 y7)), (0, .ref (zad Γ 97)), (5, .int (i32 v5))] dX10_mostInShadow_105 (by decide) rfl ?_
        refine zj_iinc C 2 [(5, .int (i32 (w32 (v5 + 1)))), (4, .int (i32 y7)), (0, .ref (zad Γ 97))] rfl dX10_mostInShadow_107 (by decide) rfl ?_
        refine zj_goto (tgt := 77) C dX10_mostInShadow_110 rfl ?_
        exact zj_sub [2, 1, 0] rfl (ih y7 (w32 (v5 + 1)) h_y7 (ir_w _) m6)
noncomputable def b_X10_mostInShadow_1 (rec : Int → Int → Int → Int → zMem → Option (Int × zMem)) (v1 : Int) (v2 : Int) (v3 : Int) (v4 : Int) (mem : zMem) : Option (Int × zMem) := if v4 ≥ (mem 4 3) then (f_X10_mostInShadow_0 zN 0 0 mem) else (zbind (f_X10_cellsWithin v4 v1 v2 v3 mem) fun y3 m4 => zbind (f_X10_takeOneMore y3 m4) fun _ m5 => rec v1 v2 v3 (w32 (v4 + 1)) m5)
noncomputable def f_X10_mostInShadow_1 : Nat → Int → Int → Int → Int → zMem → Option (Int × zMem) := zfuel (fun _ _ _ _ _ => none) (b_X10_mostInShadow_1)
set_option maxHeartbeats 4000000 in
theorem L_X10_mostInShadow_1 (l : Launch) {Γ : zG} (F : zFull Γ) {X : zM} {q : Int × zMem} (C : zC X Γ "ShadowHeirs$Walk" cX10_mostInShadow 6) (Z : zRt X l Γ 4 1 (some .int) q) : ∀ n : Nat, ∀ (v1 : Int) (v2 : Int) (v3 : Int) (v4 : Int) (h_v1 : ir v1) (h_v2 : ir v2) (h_v3 : ir v3) (h_v4 : ir v4) (mem : zMem), zJ X Γ 6 q (f_X10_mostInShadow_1 n v1 v2 v3 v4 mem) 37 [(0, .ref (zad Γ 97)), (1, .int (i32 v1)), (2, .int (i32 v2)), (3, .int (i32 v3)), (4, .int (i32 v4))] [] mem := by
  intro n
  induction n with
  | zero => intros; exact zj_none
  | succ n ih =>
    intro v1 v2 v3 v4 h_v1 h_v2 h_v3 h_v4 mem
    show zJ X Γ 6 q (b_X10_mostInShadow_1 (f_X10_mostInShadow_1 n) v1 v2 v3 v4 mem) _ _ _ _
    unfold b_X10_mostInShadow_1
    refine zj_iload C 4 rfl dX10_mostInShadow_37 ?_
    refine zj_aload_n (j := 0) (i := 0) C rfl 0 rfl dX10_mostInShadow_39 ?_
    refine zj_getR C F zk_97 fl_X10_22 rfl rf_97_0 dX10_mostInShadow_40 ?_
    refine zj_getR C F zk_20 fl_X10_26 rfl rf_20_0 dX10_mostInShadow_43 ?_
    refine zj_getI C F 3 rfl zk_4 fl_X10_76 rfl dX10_mostInShadow_46 (fun h1 => ?_)
    refine zj_icmp_ge C 71 h_v4 h1 dX10_mostInShadow_49 rfl (fun c2 => ?_) (fun c2 => ?_)
    · refine zj_iconst C 0 dX10_mostInShadow_71 ?_
      refine zj_istore C [(4, .int (i32 0)), (0, .ref (zad Γ 97)), (1, .int (i32 v1)), (2, .int (i32 v2)), (3, .int (i32 v3))] dX10_mostInShadow_72 (by decide) rfl ?_
      refine zj_iconst C 0 dX10_mostInShadow_74 ?_
      refine zj_istore C [(5, .int (i32 0)), (4, .int (i32 0)), (0, .ref (zad Γ 97)), (1, .int (i32 v1)), (2, .int (i32 v2)), (3, .int (i32 v3))] dX10_mostInShadow_75 (by decide) rfl ?_
      exact zj_sub [2, 1, 0] rfl ((L_X10_mostInShadow_0 l F C Z zN) 0 0 irc_0 irc_0 mem)
    · refine zj_aload_n (j := 0) (i := 0) C rfl 0 rfl dX10_mostInShadow_52 ?_
      refine zj_aload_n (j := 0) (i := 0) C rfl 0 rfl dX10_mostInShadow_53 ?_
      refine zj_iload C 4 rfl dX10_mostInShadow_54 ?_
      refine zj_iload_n (j := 1) (i := 1) C rfl 1 rfl dX10_mostInShadow_56 ?_
      refine zj_iload_n (j := 2) (i := 2) C rfl 2 rfl dX10_mostInShadow_57 ?_
      refine zj_iload_n (j := 3) (i := 3) C rfl 3 rfl dX10_mostInShadow_58 ?_
      refine zj_callVi C F Z [.int (i32 v4), .int (i32 v1), .int (i32 v2), .int (i32 v3)] [.ref (zad Γ 97)] cal_X10_cellsWithin calv_X10_cellsWithin ml_X10_80 zk_97 rfl rfl (by decide) (Nat.le_of_ble_eq_true rfl) rfl dX10_mostInShadow_59 (fun q h => M_X10_cellsWithin l Γ F h_v4 h_v1 h_v2 h_v3 mem q h) (fun y3 m4 h_y3 => ?_)
      refine zj_callVv C F Z [.int (i32 y3)] [] cal_X10_takeOneMore calv_X10_takeOneMore ml_X10_84 zk_97 rfl rfl (by decide) (Nat.le_of_ble_eq_true rfl) rfl dX10_mostInShadow_62 (fun q h => M_X10_takeOneMore l Γ F h_y3 m4 q h) (fun _ m5 _ => ?_)
      refine zj_iinc C 4 [(4, .int (i32 (w32 (v4 + 1)))), (0, .ref (zad Γ 97)), (1, .int (i32 v1)), (2, .int (i32 v2)), (3, .int (i32 v3))] rfl dX10_mostInShadow_65 (by decide) rfl ?_
      refine zj_goto (tgt := 37) C dX10_mostInShadow_68 rfl ?_
      exact zj_sub [1, 2, 3, 4, 0] rfl (ih v1 v2 v3 (w32 (v4 + 1)) h_v1 h_v2 h_v3 (ir_w _) m5)
noncomputable def b_X10_mostInShadow_2 (rec : Int → Int → Int → Int → zMem → Option (Int × zMem)) (v1 : Int) (v2 : Int) (v3 : Int) (v4 : Int) (mem : zMem) : Option (Int × zMem) := if v4 ≥ 128 then (f_X10_mostInShadow_1 zN v1 v2 v3 0 mem) else (if v4 = 0 then (if ix 100 v4 then pipe (zup mem 100 v4 1) fun m4 => rec v1 v2 v3 (w32 (v4 + 1)) m4 else none) else (if ix 100 v4 then pipe (zup mem 100 v4 0) fun m6 => rec v1 v2 v3 (w32 (v4 + 1)) m6 else none))
noncomputable def f_X10_mostInShadow_2 : Nat → Int → Int → Int → Int → zMem → Option (Int × zMem) := zfuel (fun _ _ _ _ _ => none) (b_X10_mostInShadow_2)
set_option maxHeartbeats 4000000 in
theorem L_X10_mostInShadow_2 (l : Launch) {Γ : zG} (F : zFull Γ) {X : zM} {q : Int × zMem} (C : zC X Γ "ShadowHeirs$Walk" cX10_mostInShadow 6) (Z : zRt X l Γ 4 1 (some .int) q) : ∀ n : Nat, ∀ (v1 : Int) (v2 : Int) (v3 : Int) (v4 : Int) (h_v1 : ir v1) (h_v2 : ir v2) (h_v3 : ir v3) (h_v4 : ir v4) (mem : zMem), zJ X Γ 6 q (f_X10_mostInShadow_2 n v1 v2 v3 v4 mem) 3 [(0, .ref (zad Γ 97)), (1, .int (i32 v1)), (2, .int (i32 v2)), (3, .int (i32 v3)), (4, .int (i32 v4))] [] mem := by
  intro n
  induction n with
  | zero => intros; exact zj_none
  | succ n ih =>
    intro v1 v2 v3 v4 h_v1 h_v2 h_v3 h_v4 mem
    show zJ X Γ 6 q (b_X10_mostInShadow_2 (f_X10_mostInShadow_2 n) v1 v2 v3 v4 mem) _ _ _ _
    unfold b_X10_mostInShadow_2
    refine zj_iload C 4 rfl dX10_mostInShadow_3 ?_
    refine zj_sipush C 128 rfl dX10_mostInShadow_5 ?_
    refine zj_icmp_ge C 34 h_v4 irc_128 dX10_mostInShadow_8 rfl (fun c1 => ?_) (fun c1 => ?_)
    · refine zj_iconst C 0 dX10_mostInShadow_34 ?_
      refine zj_istore C [(4, .int (i32 0)), (0, .ref (zad Γ 97)), (1, .int (i32 v1)), (2, .int (i32 v2)), (3, .int (i32 v3))] dX10_mostInShadow_35 (by decide) rfl ?_
      exact zj_sub [1, 2, 3, 4, 0] rfl ((L_X10_mostInShadow_1 l F C Z zN) v1 v2 v3 0 h_v1 h_v2 h_v3 irc_0 mem)
    · refine zj_aload_n (j := 0) (i := 0) C rfl 0 rfl dX10_mostInShadow_11 ?_
      refine zj_getR C F zk_97 fl_X10_18 rfl rf_97_3 dX10_mostInShadow_12 ?_
      refine zj_iload C 4 rfl dX10_mostInShadow_15 ?_
      refine zj_iload C 4 rfl dX10_mostInShadow_17 ?_
      refine zj_if_ne C 26 h_v4 dX10_mostInShadow_19 rfl (fun c2 => ?_) (fun c2 => ?_)
      · refine zj_iconst C 1 dX10_mostInShadow_22 ?_
        refine zj_goto (tgt := 27) C dX10_mostInShadow_23 rfl ?_
        refine zj_bastore C F zk_100 h_v4 (Or.inr rfl) dX10_mostInShadow_27 (fun c3 => ?_)
        refine zj_pipeM (fun m4 e_m4 => ?_)
        refine zj_iinc C 4 [(4, .int (i32 (w32 (v4 + 1)))), (0, .ref (zad Γ 97)), (1, .int (i32 v1)), (2, .int (i32 v2)), (3, .int (i32 v3))] rfl dX10_mostInShadow_28 (by decide) rfl ?_
        refine zj_goto (tgt := 3) C dX10_mostInShadow_31 rfl ?_
        exact zj_sub [1, 2, 3, 4, 0] rfl (ih v1 v2 v3 (w32 (v4 + 1)) h_v1 h_v2 h_v3 (ir_w _) m4)
      · refine zj_iconst C 0 dX10_mostInShadow_26 ?_
        refine zj_bastore C F zk_100 h_v4 (Or.inl rfl) dX10_mostInShadow_27 (fun c5 => ?_)
        refine zj_pipeM (fun m6 e_m6 => ?_)
        refine zj_iinc C 4 [(4, .int (i32 (w32 (v4 + 1)))), (0, .ref (zad Γ 97)), (1, .int (i32 v1)), (2, .int (i32 v2)), (3, .int (i32 v3))] rfl dX10_mostInShadow_28 (by decide) rfl ?_
        refine zj_goto (tgt := 3) C dX10_mostInShadow_31 rfl ?_
        exact zj_sub [1, 2, 3, 4, 0] rfl (ih v1 v2 v3 (w32 (v4 + 1)) h_v1 h_v2 h_v3 (ir_w _) m6)
noncomputable def f_X10_mostInShadow (x0 : Int) (x1 : Int) (x2 : Int) (mem : zMem) : Option (Int × zMem) := f_X10_mostInShadow_2 zN x0 x1 x2 0 mem
set_option maxHeartbeats 4000000 in
theorem M_X10_mostInShadow (l : Launch) (Γ : zG) (F : zFull Γ)  {x0 : Int} {x1 : Int} {x2 : Int} (h_x0 : ir x0) (h_x1 : ir x1) (h_x2 : ir x2) (mem : zMem) (q : Int × zMem) (h : f_X10_mostInShadow x0 x1 x2 mem = some q) : zMet l yX10_mostInShadow cX10_mostInShadow 6 (some .int) 4 Γ 1 [.ref (zad Γ 97), .int (i32 x0), .int (i32 x1), .int (i32 x2)] mem q := by
  refine zMet_of (own := "ShadowHeirs$Walk") (by decide) rfl (Nat.le_of_ble_eq_true rfl) (fun X C Z => ?_)
  revert h
  show zJ X Γ 6 q (f_X10_mostInShadow x0 x1 x2 mem) 0 [(0, .ref (zad Γ 97)), (1, .int (i32 x0)), (2, .int (i32 x1)), (3, .int (i32 x2))] [] mem
  unfold f_X10_mostInShadow
  refine zj_iconst C 0 dX10_mostInShadow_0 ?_
  refine zj_istore C [(4, .int (i32 0)), (0, .ref (zad Γ 97)), (1, .int (i32 x0)), (2, .int (i32 x1)), (3, .int (i32 x2))] dX10_mostInShadow_1 (by decide) rfl ?_
  exact zj_sub [1, 2, 3, 4, 0] rfl ((L_X10_mostInShadow_2 l F C Z zN) x0 x1 x2 0 h_x0 h_x1 h_x2 irc_0 mem)
