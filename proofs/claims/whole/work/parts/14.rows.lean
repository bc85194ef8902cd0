noncomputable def f_X5_copyFrom (t0 : Nat) (t1 : Nat) (mem : zMem) : Option (Int × zMem) := pipe (zup mem t0 0 (mem t1 0)) fun m2 => pipe (zup m2 t0 1 (m2 t1 1)) fun m4 => pipe (zup m4 t0 2 (m4 t1 2)) fun m6 => pipe (zup m6 t0 3 (m6 t1 3)) fun m8 => pipe (zup m8 t0 4 (m8 t1 4)) fun m10 => zbind (f_X11_copyRow (t1 + 1) (t0 + 1) m10) fun _ m11 => zbind (f_X11_copyRow (t1 + 2) (t0 + 2) m11) fun _ m12 => zbind (f_X11_copyNames (t1 + 3) (t0 + 3) m12) fun _ m13 => zbind (f_X11_copyNames (t1 + 4) (t0 + 4) m13) fun _ m14 => zbind (f_X11_copyRow (t1 + 5) (t0 + 5) m14) fun _ m15 => zbind (f_X11_copyRow (t1 + 6) (t0 + 6) m15) fun _ m16 => some (0, m16)
set_option maxHeartbeats 4000000 in
theorem M_X5_copyFrom (l : Launch) (Γ : zG) (F : zFull Γ)  {t0 : Nat} {t1 : Nat} (h_t0 : zk t0 5) (h_t1 : zk t1 5) (mem : zMem) (q : Int × zMem) (h : f_X5_copyFrom t0 t1 mem = some q) : zMet l yX5_copyFrom cX5_copyFrom 2 none 3 Γ 0 [.ref (zad Γ t0), .ref (zad Γ t1)] mem q := by
  refine zMet_of (own := "ShadowHeirs$Plan") (by decide) rfl (Nat.le_of_ble_eq_true rfl) (fun X C Z => ?_)
  revert h
  show zJ X Γ 2 q (f_X5_copyFrom t0 t1 mem) 0 [(0, .ref (zad Γ t0)), (1, .ref (zad Γ t1))] [] mem
  unfold f_X5_copyFrom
  refine zj_aload_n (j := 0) (i := 0) C rfl 0 rfl dX5_copyFrom_0 ?_
  refine zj_aload_n (j := 1) (i := 1) C rfl 1 rfl dX5_copyFrom_1 ?_
  refine zj_getI C F 0 rfl h_t1 fl_X5_11 rfl dX5_copyFrom_2 (fun h1 => ?_)
  refine zj_putI C F 0 rfl h_t0 fl_X5_11 rfl fp_5_0 h1 dX5_copyFrom_5 ?_
  refine zj_pipeM (fun m2 e_m2 => ?_)
  refine zj_aload_n (j := 0) (i := 0) C rfl 0 rfl dX5_copyFrom_8 ?_
  refine zj_aload_n (j := 1) (i := 1) C rfl 1 rfl dX5_copyFrom_9 ?_
  refine zj_getI C F 1 rfl h_t1 fl_X5_15 rfl dX5_copyFrom_10 (fun h3 => ?_)
  refine zj_putI C F 1 rfl h_t0 fl_X5_15 rfl fp_5_1 h3 dX5_copyFrom_13 ?_
  refine zj_pipeM (fun m4 e_m4 => ?_)
  refine zj_aload_n (j := 0) (i := 0) C rfl 0 rfl dX5_copyFrom_16 ?_
  refine zj_aload_n (j := 1) (i := 1) C rfl 1 rfl dX5_copyFrom_17 ?_
  refine zj_getI C F 2 rfl h_t1 fl_X5_18 rfl dX5_copyFrom_18 (fun h5 => ?_)
  refine zj_putI C F 2 rfl h_t0 fl_X5_18 rfl fp_5_2 h5 dX5_copyFrom_21 ?_
  refine zj_pipeM (fun m6 e_m6 => ?_)
  refine zj_aload_n (j := 0) (i := 0) C rfl 0 rfl dX5_copyFrom_24 ?_
  refine zj_aload_n (j := 1) (i := 1) C rfl 1 rfl dX5_copyFrom_25 ?_
  refine zj_getI C F 3 rfl h_t1 fl_X5_21 rfl dX5_copyFrom_26 (fun h7 => ?_)
  refine zj_putI C F 3 rfl h_t0 fl_X5_21 rfl fp_5_3 h7 dX5_copyFrom_29 ?_
  refine zj_pipeM (fun m8 e_m8 => ?_)
  refine zj_aload_n (j := 0) (i := 0) C rfl 0 rfl dX5_copyFrom_32 ?_
  refine zj_aload_n (j := 1) (i := 1) C rfl 1 rfl dX5_copyFrom_33 ?_
  refine zj_getI C F 4 rfl h_t1 fl_X5_24 rfl dX5_copyFrom_34 (fun h9 => ?_)
  refine zj_putI C F 4 rfl h_t0 fl_X5_24 rfl fp_5_4 h9 dX5_copyFrom_37 ?_
  refine zj_pipeM (fun m10 e_m10 => ?_)
  refine zj_aload_n (j := 1) (i := 1) C rfl 1 rfl dX5_copyFrom_40 ?_
  refine zj_getR C F h_t1 fl_X5_27 rfl (rfo_5_5 h_t1) dX5_copyFrom_41 ?_
  refine zj_aload_n (j := 0) (i := 0) C rfl 0 rfl dX5_copyFrom_44 ?_
  refine zj_getR C F h_t0 fl_X5_27 rfl (rfo_5_5 h_t0) dX5_copyFrom_45 ?_
  refine zj_callSv C Z [.ref (zad Γ (t1 + 1)), .ref (zad Γ (t0 + 1))] [] cal_X11_copyRow sta_X11_copyRow ml_X5_47 rfl (by decide) (Nat.le_of_ble_eq_true rfl) rfl dX5_copyFrom_48 (fun q h => M_X11_copyRow l Γ F (zko_5_5 h_t1) (zko_5_5 h_t0) m10 q h) (fun _ m11 _ => ?_)
  refine zj_aload_n (j := 1) (i := 1) C rfl 1 rfl dX5_copyFrom_51 ?_
  refine zj_getR C F h_t1 fl_X5_31 rfl (rfo_5_6 h_t1) dX5_copyFrom_52 ?_
  refine zj_aload_n (j := 0) (i := 0) C rfl 0 rfl dX5_copyFrom_55 ?_
  refine zj_getR C F h_t0 fl_X5_31 rfl (rfo_5_6 h_t0) dX5_copyFrom_56 ?_
  refine zj_callSv C Z [.ref (zad Γ (t1 + 2)), .ref (zad Γ (t0 + 2))] [] cal_X11_copyRow sta_X11_copyRow ml_X5_47 rfl (by decide) (Nat.le_of_ble_eq_true rfl) rfl dX5_copyFrom_59 (fun q h => M_X11_copyRow l Γ F (zko_5_6 h_t1) (zko_5_6 h_t0) m11 q h) (fun _ m12 _ => ?_)
  refine zj_aload_n (j := 1) (i := 1) C rfl 1 rfl dX5_copyFrom_62 ?_
  refine zj_getR C F h_t1 fl_X5_34 rfl (rfo_5_7 h_t1) dX5_copyFrom_63 ?_
  refine zj_aload_n (j := 0) (i := 0) C rfl 0 rfl dX5_copyFrom_66 ?_
  refine zj_getR C F h_t0 fl_X5_34 rfl (rfo_5_7 h_t0) dX5_copyFrom_67 ?_
  refine zj_callSv C Z [.ref (zad Γ (t1 + 3)), .ref (zad Γ (t0 + 3))] [] cal_X11_copyNames sta_X11_copyNames ml_X5_51 rfl (by decide) (Nat.le_of_ble_eq_true rfl) rfl dX5_copyFrom_70 (fun q h => M_X11_copyNames l Γ F (zko_5_7 h_t1) (zko_5_7 h_t0) m12 q h) (fun _ m13 _ => ?_)
  refine zj_aload_n (j := 1) (i := 1) C rfl 1 rfl dX5_copyFrom_73 ?_
  refine zj_getR C F h_t1 fl_X5_38 rfl (rfo_5_8 h_t1) dX5_copyFrom_74 ?_
  refine zj_aload_n (j := 0) (i := 0) C rfl 0 rfl dX5_copyFrom_77 ?_
  refine zj_getR C F h_t0 fl_X5_38 rfl (rfo_5_8 h_t0) dX5_copyFrom_78 ?_
  refine zj_callSv C Z [.ref (zad Γ (t1 + 4)), .ref (zad Γ (t0 + 4))] [] cal_X11_copyNames sta_X11_copyNames ml_X5_51 rfl (by decide) (Nat.le_of_ble_eq_true rfl) rfl dX5_copyFrom_81 (fun q h => M_X11_copyNames l Γ F (zko_5_8 h_t1) (zko_5_8 h_t0) m13 q h) (fun _ m14 _ => ?_)
  refine zj_aload_n (j := 1) (i := 1) C rfl 1 rfl dX5_copyFrom_84 ?_
  refine zj_getR C F h_t1 fl_X5_41 rfl (rfo_5_9 h_t1) dX5_copyFrom_85 ?_
  refine zj_aload_n (j := 0) (i := 0) C rfl 0 rfl dX5_copyFrom_88 ?_
  refine zj_getR C F h_t0 fl_X5_41 rfl (rfo_5_9 h_t0) dX5_copyFrom_89 ?_
  refine zj_callSv C Z [.ref (zad Γ (t1 + 5)), .ref (zad Γ (t0 + 5))] [] cal_X11_copyRow sta_X11_copyRow ml_X5_47 rfl (by decide) (Nat.le_of_ble_eq_true rfl) rfl dX5_copyFrom_92 (fun q h => M_X11_copyRow l Γ F (zko_5_9 h_t1) (zko_5_9 h_t0) m14 q h) (fun _ m15 _ => ?_)
  refine zj_aload_n (j := 1) (i := 1) C rfl 1 rfl dX5_copyFrom_95 ?_
  refine zj_getR C F h_t1 fl_X5_44 rfl (rfo_5_10 h_t1) dX5_copyFrom_96 ?_
  refine zj_aload_n (j := 0) (i := 0) C rfl 0 rfl dX5_copyFrom_99 ?_
  refine zj_getR C F h_t0 fl_X5_44 rfl (rfo_5_10 h_t0) dX5_copyFrom_100 ?_
  refine zj_callSv C Z [.ref (zad Γ (t1 + 6)), .ref (zad Γ (t0 + 6))] [] cal_X11_copyRow sta_X11_copyRow ml_X5_47 rfl (by decide) (Nat.le_of_ble_eq_true rfl) rfl dX5_copyFrom_103 (fun q h => M_X11_copyRow l Γ F (zko_5_10 h_t1) (zko_5_10 h_t0) m15 q h) (fun _ m16 _ => ?_)
  exact zrt_v C Z dX5_copyFrom_106
noncomputable def f_X5_hasCell (t0 : Nat) (x1 : Int) (x2 : Int) (mem : zMem) : Option (Int × zMem) := if x1 < 0 then (some (0, mem)) else (if x1 ≥ (mem t0 0) then (some (0, mem)) else (if x2 < 0 then (some (0, mem)) else (if x2 ≥ (mem t0 1) then (some (0, mem)) else (some (1, mem)))))
set_option maxHeartbeats 4000000 in
theorem M_X5_hasCell (l : Launch) (Γ : zG) (F : zFull Γ)  {t0 : Nat} {x1 : Int} {x2 : Int} (h_t0 : zk t0 5) (h_x1 : ir x1) (h_x2 : ir x2) (mem : zMem) (q : Int × zMem) (h : f_X5_hasCell t0 x1 x2 mem = some q) : zMet l yX5_hasCell cX5_hasCell 3 (some .boolean) 1 Γ 1 [.ref (zad Γ t0), .int (i32 x1), .int (i32 x2)] mem q := by
  refine zMet_of (own := "ShadowHeirs$Plan") (by decide) rfl (Nat.le_of_ble_eq_true rfl) (fun X C Z => ?_)
  revert h
  show zJ X Γ 3 q (f_X5_hasCell t0 x1 x2 mem) 0 [(0, .ref (zad Γ t0)), (1, .int (i32 x1)), (2, .int (i32 x2))] [] mem
  unfold f_X5_hasCell
  refine zj_iload_n (j := 1) (i := 1) C rfl 1 rfl dX5_hasCell_0 ?_
  refine zj_if_lt C 28 h_x1 dX5_hasCell_1 rfl (fun c1 => ?_) (fun c1 => ?_)
  · refine zj_iconst C 0 dX5_hasCell_28 ?_
    exact zrt_z C Z (Or.inl rfl) dX5_hasCell_29
  · refine zj_iload_n (j := 1) (i := 1) C rfl 1 rfl dX5_hasCell_4 ?_
    refine zj_aload_n (j := 0) (i := 0) C rfl 0 rfl dX5_hasCell_5 ?_
    refine zj_getI C F 0 rfl h_t0 fl_X5_11 rfl dX5_hasCell_6 (fun h2 => ?_)
    refine zj_icmp_ge C 28 h_x1 h2 dX5_hasCell_9 rfl (fun c3 => ?_) (fun c3 => ?_)
    · refine zj_iconst C 0 dX5_hasCell_28 ?_
      exact zrt_z C Z (Or.inl rfl) dX5_hasCell_29
    · refine zj_iload_n (j := 2) (i := 2) C rfl 2 rfl dX5_hasCell_12 ?_
      refine zj_if_lt C 28 h_x2 dX5_hasCell_13 rfl (fun c4 => ?_) (fun c4 => ?_)
      · refine zj_iconst C 0 dX5_hasCell_28 ?_
        exact zrt_z C Z (Or.inl rfl) dX5_hasCell_29
      · refine zj_iload_n (j := 2) (i := 2) C rfl 2 rfl dX5_hasCell_16 ?_
        refine zj_aload_n (j := 0) (i := 0) C rfl 0 rfl dX5_hasCell_17 ?_
        refine zj_getI C F 1 rfl h_t0 fl_X5_15 rfl dX5_hasCell_18 (fun h5 => ?_)
        refine zj_icmp_ge C 28 h_x2 h5 dX5_hasCell_21 rfl (fun c6 => ?_) (fun c6 => ?_)
        · refine zj_iconst C 0 dX5_hasCell_28 ?_
          exact zrt_z C Z (Or.inl rfl) dX5_hasCell_29
        · refine zj_iconst C 1 dX5_hasCell_24 ?_
          refine zj_goto (tgt := 29) C dX5_hasCell_25 rfl ?_
          exact zrt_z C Z (Or.inr rfl) dX5_hasCell_29
noncomputable def f_X5_hasHouse (t0 : Nat) (x1 : Int) (mem : zMem) : Option (Int × zMem) := if x1 < 0 then (some (0, mem)) else (if x1 ≥ (mem t0 2) then (some (0, mem)) else (if x1 ≥ 5 then (some (0, mem)) else (some (1, mem))))
set_option maxHeartbeats 4000000 in
theorem M_X5_hasHouse (l : Launch) (Γ : zG) (F : zFull Γ)  {t0 : Nat} {x1 : Int} (h_t0 : zk t0 5) (h_x1 : ir x1) (mem : zMem) (q : Int × zMem) (h : f_X5_hasHouse t0 x1 mem = some q) : zMet l yX5_hasHouse cX5_hasHouse 2 (some .boolean) 1 Γ 1 [.ref (zad Γ t0), .int (i32 x1)] mem q := by
  refine zMet_of (own := "ShadowHeirs$Plan") (by decide) rfl (Nat.le_of_ble_eq_true rfl) (fun X C Z => ?_)
  revert h
  show zJ X Γ 2 q (f_X5_hasHouse t0 x1 mem) 0 [(0, .ref (zad Γ t0)), (1, .int (i32 x1))] [] mem
  unfold f_X5_hasHouse
  refine zj_iload_n (j := 1) (i := 1) C rfl 1 rfl dX5_hasHouse_0 ?_
  refine zj_if_lt C 21 h_x1 dX5_hasHouse_1 rfl (fun c1 => ?_) (fun c1 => ?_)
  · refine zj_iconst C 0 dX5_hasHouse_21 ?_
    exact zrt_z C Z (Or.inl rfl) dX5_hasHouse_22
  · refine zj_iload_n (j := 1) (i := 1) C rfl 1 rfl dX5_hasHouse_4 ?_
    refine zj_aload_n (j := 0) (i := 0) C rfl 0 rfl dX5_hasHouse_5 ?_
    refine zj_getI C F 2 rfl h_t0 fl_X5_18 rfl dX5_hasHouse_6 (fun h2 => ?_)
    refine zj_icmp_ge C 21 h_x1 h2 dX5_hasHouse_9 rfl (fun c3 => ?_) (fun c3 => ?_)
    · refine zj_iconst C 0 dX5_hasHouse_21 ?_
      exact zrt_z C Z (Or.inl rfl) dX5_hasHouse_22
    · refine zj_iload_n (j := 1) (i := 1) C rfl 1 rfl dX5_hasHouse_12 ?_
      refine zj_iconst C 5 dX5_hasHouse_13 ?_
      refine zj_icmp_ge C 21 h_x1 irc_5 dX5_hasHouse_14 rfl (fun c4 => ?_) (fun c4 => ?_)
      · refine zj_iconst C 0 dX5_hasHouse_21 ?_
        exact zrt_z C Z (Or.inl rfl) dX5_hasHouse_22
      · refine zj_iconst C 1 dX5_hasHouse_17 ?_
        refine zj_goto (tgt := 22) C dX5_hasHouse_18 rfl ?_
        exact zrt_z C Z (Or.inr rfl) dX5_hasHouse_22
noncomputable def f_X5_hasPerson (t0 : Nat) (x1 : Int) (mem : zMem) : Option (Int × zMem) := if x1 < 0 then (some (0, mem)) else (if x1 ≥ (mem t0 3) then (some (0, mem)) else (if x1 ≥ 6 then (some (0, mem)) else (some (1, mem))))
set_option maxHeartbeats 4000000 in
theorem M_X5_hasPerson (l : Launch) (Γ : zG) (F : zFull Γ)  {t0 : Nat} {x1 : Int} (h_t0 : zk t0 5) (h_x1 : ir x1) (mem : zMem) (q : Int × zMem) (h : f_X5_hasPerson t0 x1 mem = some q) : zMet l yX5_hasPerson cX5_hasPerson 2 (some .boolean) 1 Γ 1 [.ref (zad Γ t0), .int (i32 x1)] mem q := by
  refine zMet_of (own := "ShadowHeirs$Plan") (by decide) rfl (Nat.le_of_ble_eq_true rfl) (fun X C Z => ?_)
  revert h
  show zJ X Γ 2 q (f_X5_hasPerson t0 x1 mem) 0 [(0, .ref (zad Γ t0)), (1, .int (i32 x1))] [] mem
  unfold f_X5_hasPerson
  refine zj_iload_n (j := 1) (i := 1) C rfl 1 rfl dX5_hasPerson_0 ?_
  refine zj_if_lt C 22 h_x1 dX5_hasPerson_1 rfl (fun c1 => ?_) (fun c1 => ?_)
  · refine zj_iconst C 0 dX5_hasPerson_22 ?_
    exact zrt_z C Z (Or.inl rfl) dX5_hasPerson_23
  · refine zj_iload_n (j := 1) (i := 1) C rfl 1 rfl dX5_hasPerson_4 ?_
    refine zj_aload_n (j := 0) (i := 0) C rfl 0 rfl dX5_hasPerson_5 ?_
    refine zj_getI C F 3 rfl h_t0 fl_X5_21 rfl dX5_hasPerson_6 (fun h2 => ?_)
    refine zj_icmp_ge C 22 h_x1 h2 dX5_hasPerson_9 rfl (fun c3 => ?_) (fun c3 => ?_)
    · refine zj_iconst C 0 dX5_hasPerson_22 ?_
      exact zrt_z C Z (Or.inl rfl) dX5_hasPerson_23
    · refine zj_iload_n (j := 1) (i := 1) C rfl 1 rfl dX5_hasPerson_12 ?_
      refine zj_bipush C 6 rfl dX5_hasPerson_13 ?_
      refine zj_icmp_ge C 22 h_x1 irc_6 dX5_hasPerson_15 rfl (fun c4 => ?_) (fun c4 => ?_)
      · refine zj_iconst C 0 dX5_hasPerson_22 ?_
        exact zrt_z C Z (Or.inl rfl) dX5_hasPerson_23
      · refine zj_iconst C 1 dX5_hasPerson_18 ?_
        refine zj_goto (tgt := 23) C dX5_hasPerson_19 rfl ?_
        exact zrt_z C Z (Or.inr rfl) dX5_hasPerson_23
noncomputable def f_X5_hasShadow (t0 : Nat) (x1 : Int) (x2 : Int) (mem : zMem) : Option (Int × zMem) := if x1 < 0 then (some (0, mem)) else (if x1 ≥ (mem t0 2) then (some (0, mem)) else (if x1 ≥ 5 then (some (0, mem)) else (if x2 < 0 then (some (0, mem)) else (if x2 ≥ (mem t0 4) then (some (0, mem)) else (if x2 ≥ 8 then (some (0, mem)) else (some (1, mem)))))))
set_option maxHeartbeats 4000000 in
theorem M_X5_hasShadow (l : Launch) (Γ : zG) (F : zFull Γ)  {t0 : Nat} {x1 : Int} {x2 : Int} (h_t0 : zk t0 5) (h_x1 : ir x1) (h_x2 : ir x2) (mem : zMem) (q : Int × zMem) (h : f_X5_hasShadow t0 x1 x2 mem = some q) : zMet l yX5_hasShadow cX5_hasShadow 3 (some .boolean) 1 Γ 1 [.ref (zad Γ t0), .int (i32 x1), .int (i32 x2)] mem q := by
  refine zMet_of (own := "ShadowHeirs$Plan") (by decide) rfl (Nat.le_of_ble_eq_true rfl) (fun X C Z => ?_)
  revert h
  show zJ X Γ 3 q (f_X5_hasShadow t0 x1 x2 mem) 0 [(0, .ref (zad Γ t0)), (1, .int (i32 x1)), (2, .int (i32 x2))] [] mem
  unfold f_X5_hasShadow
  refine zj_iload_n (j := 1) (i := 1) C rfl 1 rfl dX5_hasShadow_0 ?_
  refine zj_if_lt C 39 h_x1 dX5_hasShadow_1 rfl (fun c1 => ?_) (fun c1 => ?_)
  · refine zj_iconst C 0 dX5_hasShadow_39 ?_
    exact zrt_z C Z (Or.inl rfl) dX5_hasShadow_40
  · refine zj_iload_n (j := 1) (i := 1) C rfl 1 rfl dX5_hasShadow_4 ?_
    refine zj_aload_n (j := 0) (i := 0) C rfl 0 rfl dX5_hasShadow_5 ?_
    refine zj_getI C F 2 rfl h_t0 fl_X5_18 rfl dX5_hasShadow_6 (fun h2 => ?_)
    refine zj_icmp_ge C 39 h_x1 h2 dX5_hasShadow_9 rfl (fun c3 => ?_) (fun c3 => ?_)
    · refine zj_iconst C 0 dX5_hasShadow_39 ?_
      exact zrt_z C Z (Or.inl rfl) dX5_hasShadow_40
    · refine zj_iload_n (j := 1) (i := 1) C rfl 1 rfl dX5_hasShadow_12 ?_
      refine zj_iconst C 5 dX5_hasShadow_13 ?_
      refine zj_icmp_ge C 39 h_x1 irc_5 dX5_hasShadow_14 rfl (fun c4 => ?_) (fun c4 => ?_)
      · refine zj_iconst C 0 dX5_hasShadow_39 ?_
        exact zrt_z C Z (Or.inl rfl) dX5_hasShadow_40
      · refine zj_iload_n (j := 2) (i := 2) C rfl 2 rfl dX5_hasShadow_17 ?_
        refine zj_if_lt C 39 h_x2 dX5_hasShadow_18 rfl (fun c5 => ?_) (fun c5 => ?_)
        · refine zj_iconst C 0 dX5_hasShadow_39 ?_
          exact zrt_z C Z (Or.inl rfl) dX5_hasShadow_40
        · refine zj_iload_n (j := 2) (i := 2) C rfl 2 rfl dX5_hasShadow_21 ?_
          refine zj_aload_n (j := 0) (i := 0) C rfl 0 rfl dX5_hasShadow_22 ?_
          refine zj_getI C F 4 rfl h_t0 fl_X5_24 rfl dX5_hasShadow_23 (fun h6 => ?_)
          refine zj_icmp_ge C 39 h_x2 h6 dX5_hasShadow_26 rfl (fun c7 => ?_) (fun c7 => ?_)
          · refine zj_iconst C 0 dX5_hasShadow_39 ?_
            exact zrt_z C Z (Or.inl rfl) dX5_hasShadow_40
          · refine zj_iload_n (j := 2) (i := 2) C rfl 2 rfl dX5_hasShadow_29 ?_
            refine zj_bipush C 8 rfl dX5_hasShadow_30 ?_
            refine zj_icmp_ge C 39 h_x2 irc_8 dX5_hasShadow_32 rfl (fun c8 => ?_) (fun c8 => ?_)
            · refine zj_iconst C 0 dX5_hasShadow_39 ?_
              exact zrt_z C Z (Or.inl rfl) dX5_hasShadow_40
            · refine zj_iconst C 1 dX5_hasShadow_35 ?_
              refine zj_goto (tgt := 40) C dX5_hasShadow_36 rfl ?_
              exact zrt_z C Z (Or.inr rfl) dX5_hasShadow_40
noncomputable def b_X5_houseOn_0 (rec : Nat → Int → Int → zMem → Option (Int × zMem)) (r0 : Nat) (v1 : Int) (v2 : Int) (mem : zMem) : Option (Int × zMem) := if v2 ≥ (mem r0 2) then (some ((-1), mem)) else (if v2 ≥ 5 then (some ((-1), mem)) else (if ix (r0 + 1) v2 then if (mem (r0 + 1) v2) = v1 then (some (v2, mem)) else (rec r0 v1 (w32 (v2 + 1)) mem) else none))
noncomputable def f_X5_houseOn_0 : Nat → Nat → Int → Int → zMem → Option (Int × zMem) := zfuel (fun _ _ _ _ => none) (b_X5_houseOn_0)
set_option maxHeartbeats 4000000 in
theorem L_X5_houseOn_0 (l : Launch) {Γ : zG} (F : zFull Γ) {X : zM} {q : Int × zMem} (C : zC X Γ "ShadowHeirs$Plan" cX5_houseOn 3) (Z : zRt X l Γ 1 1 (some .int) q) : ∀ n : Nat, ∀ (r0 : Nat) (v1 : Int) (v2 : Int) (h_r0 : zk r0 5) (h_v1 : ir v1) (h_v2 : ir v2) (mem : zMem), zJ X Γ 3 q (f_X5_houseOn_0 n r0 v1 v2 mem) 2 [(0, .ref (zad Γ r0)), (1, .int (i32 v1)), (2, .int (i32 v2))] [] mem := by
  intro n
  induction n with
  | zero => intros; exact zj_none
  | succ n ih =>
    intro r0 v1 v2 h_r0 h_v1 h_v2 mem
    show zJ X Γ 3 q (b_X5_houseOn_0 (f_X5_houseOn_0 n) r0 v1 v2 mem) _ _ _ _
    unfold b_X5_houseOn_0
    refine zj_iload_n (j := 2) (i := 2) C rfl 2 rfl dX5_houseOn_2 ?_
    refine zj_aload_n (j := 0) (i := 0) C rfl 0 rfl dX5_houseOn_3 ?_
    refine zj_getI C F 2 rfl h_r0 fl_X5_18 rfl dX5_houseOn_4 (fun h1 => ?_)
    refine zj_icmp_ge C 33 h_v2 h1 dX5_houseOn_7 rfl (fun c2 => ?_) (fun c2 => ?_)
    · refine zj_iconst C (-1) dX5_houseOn_33 ?_
      exact zrt_i C Z irc_m1 dX5_houseOn_34
    · refine zj_iload_n (j := 2) (i := 2) C rfl 2 rfl dX5_houseOn_10 ?_
      refine zj_iconst C 5 dX5_houseOn_11 ?_
      refine zj_icmp_ge C 33 h_v2 irc_5 dX5_houseOn_12 rfl (fun c3 => ?_) (fun c3 => ?_)
      · refine zj_iconst C (-1) dX5_houseOn_33 ?_
        exact zrt_i C Z irc_m1 dX5_houseOn_34
      · refine zj_aload_n (j := 0) (i := 0) C rfl 0 rfl dX5_houseOn_15 ?_
        refine zj_getR C F h_r0 fl_X5_27 rfl (rfo_5_5 h_r0) dX5_houseOn_16 ?_
        refine zj_iload_n (j := 2) (i := 2) C rfl 2 rfl dX5_houseOn_19 ?_
        refine zj_iaload C F (zko_5_5 h_r0) h_v2 dX5_houseOn_20 (fun c4 h5 => ?_)
        refine zj_iload_n (j := 1) (i := 1) C rfl 1 rfl dX5_houseOn_21 ?_
        refine zj_icmp_ne C 27 h5 h_v1 dX5_houseOn_22 rfl (fun c6 => ?_) (fun c6 => ?_)
        · refine zj_iload_n (j := 2) (i := 2) C rfl 2 rfl dX5_houseOn_25 ?_
          exact zrt_i C Z h_v2 dX5_houseOn_26
        · refine zj_iinc C 2 [(2, .int (i32 (w32 (v2 + 1)))), (0, .ref (zad Γ r0)), (1, .int (i32 v1))] rfl dX5_houseOn_27 (by decide) rfl ?_
          refine zj_goto (tgt := 2) C dX5_houseOn_30 rfl ?_
          exact zj_sub [1, 2, 0] rfl (ih r0 v1 (w32 (v2 + 1)) h_r0 h_v1 (ir_w _) mem)
noncomputable def f_X5_houseOn (t0 : Nat) (x1 : Int) (mem : zMem) : Option (Int × zMem) := f_X5_houseOn_0 zN t0 x1 0 mem
set_option maxHeartbeats 4000000 in
theorem M_X5_houseOn (l : Launch) (Γ : zG) (F : zFull Γ)  {t0 : Nat} {x1 : Int} (h_t0 : zk t0 5) (h_x1 : ir x1) (mem : zMem) (q : Int × zMem) (h : f_X5_houseOn t0 x1 mem = some q) : zMet l yX5_houseOn cX5_houseOn 3 (some .int) 1 Γ 1 [.ref (zad Γ t0), .int (i32 x1)] mem q := by
  refine zMet_of (own := "ShadowHeirs$Plan") (by decide) rfl (Nat.le_of_ble_eq_true rfl) (fun X C Z => ?_)
  revert h
  show zJ X Γ 3 q (f_X5_houseOn t0 x1 mem) 0 [(0, .ref (zad Γ t0)), (1, .int (i32 x1))] [] mem
  unfold f_X5_houseOn
  refine zj_iconst C 0 dX5_houseOn_0 ?_
  refine zj_istore_n (j := 2) (i := 2) C rfl [(2, .int (i32 0)), (0, .ref (zad Γ t0)), (1, .int (i32 x1))] dX5_houseOn_1 (by decide) rfl ?_
  exact zj_sub [1, 2, 0] rfl ((L_X5_houseOn_0 l F C Z zN) t0 x1 0 h_t0 h_x1 irc_0 mem)
noncomputable def b_X5_houseNamed_0 (rec : Nat → Int → Int → zMem → Option (Int × zMem)) (r0 : Nat) (w1 : Int) (v3 : Int) (mem : zMem) : Option (Int × zMem) := if v3 ≥ (mem r0 2) then (some ((-1), mem)) else (if v3 ≥ 5 then (some ((-1), mem)) else (if ix (r0 + 3) v3 then if (zcmp (mem (r0 + 3) v3) w1) = 0 then (some (v3, mem)) else (rec r0 w1 (w32 (v3 + 1)) mem) else none))
noncomputable def f_X5_houseNamed_0 : Nat → Nat → Int → Int → zMem → Option (Int × zMem) := zfuel (fun _ _ _ _ => none) (b_X5_houseNamed_0)
set_option maxHeartbeats 4000000 in
theorem L_X5_houseNamed_0 (l : Launch) {Γ : zG} (F : zFull Γ) {X : zM} {q : Int × zMem} (C : zC X Γ "ShadowHeirs$Plan" cX5_houseNamed 4) (Z : zRt X l Γ 1 1 (some .int) q) : ∀ n : Nat, ∀ (r0 : Nat) (w1 : Int) (v3 : Int) (h_r0 : zk r0 5) (h_w1 : lr w1) (h_v3 : ir v3) (mem : zMem), zJ X Γ 4 q (f_X5_houseNamed_0 n r0 w1 v3 mem) 2 [(0, .ref (zad Γ r0)), (1, .long (i64 w1)), (3, .int (i32 v3))] [] mem := by
  intro n
  induction n with
  | zero => intros; exact zj_none
  | succ n ih =>
    intro r0 w1 v3 h_r0 h_w1 h_v3 mem
    show zJ X Γ 4 q (b_X5_houseNamed_0 (f_X5_houseNamed_0 n) r0 w1 v3 mem) _ _ _ _
    unfold b_X5_houseNamed_0
    refine zj_iload_n (j := 3) (i := 3) C rfl 2 rfl dX5_houseNamed_2 ?_
    refine zj_aload_n (j := 0) (i := 0) C rfl 0 rfl dX5_houseNamed_3 ?_
    refine zj_getI C F 2 rfl h_r0 fl_X5_18 rfl dX5_houseNamed_4 (fun h1 => ?_)
    refine zj_icmp_ge C 34 h_v3 h1 dX5_houseNamed_7 rfl (fun c2 => ?_) (fun c2 => ?_)
    · refine zj_iconst C (-1) dX5_houseNamed_34 ?_
      exact zrt_i C Z irc_m1 dX5_houseNamed_35
    · refine zj_iload_n (j := 3) (i := 3) C rfl 2 rfl dX5_houseNamed_10 ?_
      refine zj_iconst C 5 dX5_houseNamed_11 ?_
      refine zj_icmp_ge C 34 h_v3 irc_5 dX5_houseNamed_12 rfl (fun c3 => ?_) (fun c3 => ?_)
      · refine zj_iconst C (-1) dX5_houseNamed_34 ?_
        exact zrt_i C Z irc_m1 dX5_houseNamed_35
      · refine zj_aload_n (j := 0) (i := 0) C rfl 0 rfl dX5_houseNamed_15 ?_
        refine zj_getR C F h_r0 fl_X5_34 rfl (rfo_5_7 h_r0) dX5_houseNamed_16 ?_
        refine zj_iload_n (j := 3) (i := 3) C rfl 2 rfl dX5_houseNamed_19 ?_
        refine zj_laload C F (zko_5_7 h_r0) h_v3 dX5_houseNamed_20 (fun c4 h5 => ?_)
        refine zj_lload_n (j := 1) (i := 1) C rfl 1 rfl dX5_houseNamed_21 ?_
        refine zj_lcmp C h5 h_w1 dX5_houseNamed_22 ?_
        refine zj_if_ne C 28 (ir_cmp _ _) dX5_houseNamed_23 rfl (fun c6 => ?_) (fun c6 => ?_)
        · refine zj_iload_n (j := 3) (i := 3) C rfl 2 rfl dX5_houseNamed_26 ?_
          exact zrt_i C Z h_v3 dX5_houseNamed_27
        · refine zj_iinc C 2 [(3, .int (i32 (w32 (v3 + 1)))), (0, .ref (zad Γ r0)), (1, .long (i64 w1))] rfl dX5_houseNamed_28 (by decide) rfl ?_
          refine zj_goto (tgt := 2) C dX5_houseNamed_31 rfl ?_
          exact zj_sub [1, 2, 0] rfl (ih r0 w1 (w32 (v3 + 1)) h_r0 h_w1 (ir_w _) mem)
noncomputable def f_X5_houseNamed (t0 : Nat) (x1 : Int) (mem : zMem) : Option (Int × zMem) := f_X5_houseNamed_0 zN t0 x1 0 mem
set_option maxHeartbeats 4000000 in
theorem M_X5_houseNamed (l : Launch) (Γ : zG) (F : zFull Γ)  {t0 : Nat} {x1 : Int} (h_t0 : zk t0 5) (h_x1 : lr x1) (mem : zMem) (q : Int × zMem) (h : f_X5_houseNamed t0 x1 mem = some q) : zMet l yX5_houseNamed cX5_houseNamed 4 (some .int) 1 Γ 1 [.ref (zad Γ t0), .long (i64 x1)] mem q := by
  refine zMet_of (own := "ShadowHeirs$Plan") (by decide) rfl (Nat.le_of_ble_eq_true rfl) (fun X C Z => ?_)
  revert h
  show zJ X Γ 4 q (f_X5_houseNamed t0 x1 mem) 0 [(0, .ref (zad Γ t0)), (1, .long (i64 x1))] [] mem
  unfold f_X5_houseNamed
  refine zj_iconst C 0 dX5_houseNamed_0 ?_
  refine zj_istore_n (j := 3) (i := 3) C rfl [(3, .int (i32 0)), (0, .ref (zad Γ t0)), (1, .long (i64 x1))] dX5_houseNamed_1 (by decide) rfl ?_
  exact zj_sub [1, 2, 0] rfl ((L_X5_houseNamed_0 l F C Z zN) t0 x1 0 h_t0 h_x1 irc_0 mem)
noncomputable def b_X5_personNamed_0 (rec : Nat → Int → Int → zMem → Option (Int × zMem)) (r0 : Nat) (w1 : Int) (v3 : Int) (mem : zMem) : Option (Int × zMem) := if v3 ≥ (mem r0 3) then (some ((-1), mem)) else (if v3 ≥ 6 then (some ((-1), mem)) else (if ix (r0 + 4) v3 then if (zcmp (mem (r0 + 4) v3) w1) = 0 then (some (v3, mem)) else (rec r0 w1 (w32 (v3 + 1)) mem) else none))
noncomputable def f_X5_personNamed_0 : Nat → Nat → Int → Int → zMem → Option (Int × zMem) := zfuel (fun _ _ _ _ => none) (b_X5_personNamed_0)
set_option maxHeartbeats 4000000 in
theorem L_X5_personNamed_0 (l : Launch) {Γ : zG} (F : zFull Γ) {X : zM} {q : Int × zMem} (C : zC X Γ "ShadowHeirs$Plan" cX5_personNamed 4) (Z : zRt X l Γ 1 1 (some .int) q) : ∀ n : Nat, ∀ (r0 : Nat) (w1 : Int) (v3 : Int) (h_r0 : zk r0 5) (h_w1 : lr w1) (h_v3 : ir v3) (mem : zMem), zJ X Γ 4 q (f_X5_personNamed_0 n r0 w1 v3 mem) 2 [(0, .ref (zad Γ r0)), (1, .long (i64 w1)), (3, .int (i32 v3))] [] mem := by
  intro n
  induction n with
  | zero => intros; exact zj_none
  | succ n ih =>
    intro r0 w1 v3 h_r0 h_w1 h_v3 mem
    show zJ X Γ 4 q (b_X5_personNamed_0 (f_X5_personNamed_0 n) r0 w1 v3 mem) _ _ _ _
    unfold b_X5_personNamed_0
    refine zj_iload_n (j := 3) (i := 3) C rfl 2 rfl dX5_personNamed_2 ?_
    refine zj_aload_n (j := 0) (i := 0) C rfl 0 rfl dX5_personNamed_3 ?_
    refine zj_getI C F 3 rfl h_r0 fl_X5_21 rfl dX5_personNamed_4 (fun h1 => ?_)
    refine zj_icmp_ge C 35 h_v3 h1 dX5_personNamed_7 rfl (fun c2 => ?_) (fun c2 => ?_)
    · refine zj_iconst C (-1) dX5_personNamed_35 ?_
      exact zrt_i C Z irc_m1 dX5_personNamed_36
    · refine zj_iload_n (j := 3) (i := 3) C rfl 2 rfl dX5_personNamed_10 ?_
      refine zj_bipush C 6 rfl dX5_personNamed_11 ?_
      refine zj_icmp_ge C 35 h_v3 irc_6 dX5_personNamed_13 rfl (fun c3 => ?_) (fun c3 => ?_)
      · refine zj_iconst C (-1) dX5_personNamed_35 ?_
        exact zrt_i C Z irc_m1 dX5_personNamed_36
      · refine zj_aload_n (j := 0) (i := 0) C rfl 0 rfl dX5_personNamed_16 ?_
        refine zj_getR C F h_r0 fl_X5_38 rfl (rfo_5_8 h_r0) dX5_personNamed_17 ?_
        refine zj_iload_n (j := 3) (i := 3) C rfl 2 rfl dX5_personNamed_20 ?_
        refine zj_laload C F (zko_5_8 h_r0) h_v3 dX5_personNamed_21 (fun c4 h5 => ?_)
        refine zj_lload_n (j := 1) (i := 1) C rfl 1 rfl dX5_personNamed_22 ?_
        refine zj_lcmp C h5 h_w1 dX5_personNamed_23 ?_
        refine zj_if_ne C 29 (ir_cmp _ _) dX5_personNamed_24 rfl (fun c6 => ?_) (fun c6 => ?_)
        · refine zj_iload_n (j := 3) (i := 3) C rfl 2 rfl dX5_personNamed_27 ?_
          exact zrt_i C Z h_v3 dX5_personNamed_28
        · refine zj_iinc C 2 [(3, .int (i32 (w32 (v3 + 1)))), (0, .ref (zad Γ r0)), (1, .long (i64 w1))] rfl dX5_personNamed_29 (by decide) rfl ?_
          refine zj_goto (tgt := 2) C dX5_personNamed_32 rfl ?_
          exact zj_sub [1, 2, 0] rfl (ih r0 w1 (w32 (v3 + 1)) h_r0 h_w1 (ir_w _) mem)
noncomputable def f_X5_personNamed (t0 : Nat) (x1 : Int) (mem : zMem) : Option (Int × zMem) := f_X5_personNamed_0 zN t0 x1 0 mem
set_option maxHeartbeats 4000000 in
theorem M_X5_personNamed (l : Launch) (Γ : zG) (F : zFull Γ)  {t0 : Nat} {x1 : Int} (h_t0 : zk t0 5) (h_x1 : lr x1) (mem : zMem) (q : Int × zMem) (h : f_X5_personNamed t0 x1 mem = some q) : zMet l yX5_personNamed cX5_personNamed 4 (some .int) 1 Γ 1 [.ref (zad Γ t0), .long (i64 x1)] mem q := by
  refine zMet_of (own := "ShadowHeirs$Plan") (by decide) rfl (Nat.le_of_ble_eq_true rfl) (fun X C Z => ?_)
  revert h
  show zJ X Γ 4 q (f_X5_personNamed t0 x1 mem) 0 [(0, .ref (zad Γ t0)), (1, .long (i64 x1))] [] mem
  unfold f_X5_personNamed
  refine zj_iconst C 0 dX5_personNamed_0 ?_
  refine zj_istore_n (j := 3) (i := 3) C rfl [(3, .int (i32 0)), (0, .ref (zad Γ t0)), (1, .long (i64 x1))] dX5_personNamed_1 (by decide) rfl ?_
  exact zj_sub [1, 2, 0] rfl ((L_X5_personNamed_0 l F C Z zN) t0 x1 0 h_t0 h_x1 irc_0 mem)
noncomputable def f_X5_spotFrom (t0 : Nat) (x1 : Int) (x2 : Int) (x3 : Int) (mem : zMem) : Option (Int × zMem) := if x1 < 0 then (some ((-1), mem)) else (if x1 ≥ 64 then (some ((-1), mem)) else (if x2 < 0 then (some ((-1), mem)) else (if x2 < 4 then (if 0 ≤ x2 ∧ x2 < 4 then pipe (w32 ((zrem x1 8) + (w32 (x3 * (zDir true (Int.toNat x2)))))) fun y7 => if 0 ≤ x2 ∧ x2 < 4 then pipe (w32 ((zdiv x1 8) + (w32 (x3 * (zDir false (Int.toNat x2)))))) fun y10 => if y7 < 0 then (some ((-1), mem)) else (if y7 ≥ (mem t0 0) then (some ((-1), mem)) else (if y10 < 0 then (some ((-1), mem)) else (if y10 ≥ (mem t0 1) then (some ((-1), mem)) else (some ((w32 ((w32 (8 * y10)) + y7)), mem))))) else none else none) else (some ((-1), mem)))))
set_option maxHeartbeats 4000000 in
theorem M_X5_spotFrom (l : Launch) (Γ : zG) (F : zFull Γ)  {t0 : Nat} {x1 : Int} {x2 : Int} {x3 : Int} (h_t0 : zk t0 5) (h_x1 : ir x1) (h_x2 : ir x2) (h_x3 : ir x3) (mem : zMem) (q : Int × zMem) (h : f_X5_spotFrom t0 x1 x2 x3 mem = some q) : zMet l yX5_spotFrom cX5_spotFrom 6 (some .int) 1 Γ 1 [.ref (zad Γ t0), .int (i32 x1), .int (i32 x2), .int (i32 x3)] mem q := by
  refine zMet_of (own := "ShadowHeirs$Plan") (by decide) rfl (Nat.le_of_ble_eq_true rfl) (fun X C Z => ?_)
  revert h
  show zJ X Γ 6 q (f_X5_spotFrom t0 x1 x2 x3 mem) 0 [(0, .ref (zad Γ t0)), (1, .int (i32 x1)), (2, .int (i32 x2)), (3, .int (i32 x3))] [] mem
  unfold f_X5_spotFrom
  refine zj_iload_n (j := 1) (i := 1) C rfl 1 rfl dX5_spotFrom_0 ?_
  refine zj_if_lt C 19 h_x1 dX5_spotFrom_1 rfl (fun c1 => ?_) (fun c1 => ?_)
  · refine zj_iconst C (-1) dX5_spotFrom_19 ?_
    exact zrt_i C Z irc_m1 dX5_spotFrom_20
  · refine zj_iload_n (j := 1) (i := 1) C rfl 1 rfl dX5_spotFrom_4 ?_
    refine zj_bipush C 64 rfl dX5_spotFrom_5 ?_
    refine zj_icmp_ge C 19 h_x1 irc_64 dX5_spotFrom_7 rfl (fun c2 => ?_) (fun c2 => ?_)
    · refine zj_iconst C (-1) dX5_spotFrom_19 ?_
      exact zrt_i C Z irc_m1 dX5_spotFrom_20
    · refine zj_iload_n (j := 2) (i := 2) C rfl 2 rfl dX5_spotFrom_10 ?_
      refine zj_if_lt C 19 h_x2 dX5_spotFrom_11 rfl (fun c3 => ?_) (fun c3 => ?_)
      · refine zj_iconst C (-1) dX5_spotFrom_19 ?_
        exact zrt_i C Z irc_m1 dX5_spotFrom_20
      · refine zj_iload_n (j := 2) (i := 2) C rfl 2 rfl dX5_spotFrom_14 ?_
        refine zj_iconst C 4 dX5_spotFrom_15 ?_
        refine zj_icmp_lt C 21 h_x2 irc_4 dX5_spotFrom_16 rfl (fun c4 => ?_) (fun c4 => ?_)
        · refine zj_iload_n (j := 1) (i := 1) C rfl 1 rfl dX5_spotFrom_21 ?_
          refine zj_bipush C 8 rfl dX5_spotFrom_22 ?_
          refine zj_iremc C (by decide) dX5_spotFrom_24 ?_
          refine zj_iload_n (j := 3) (i := 3) C rfl 3 rfl dX5_spotFrom_25 ?_
          refine zj_dir C true ds_true dX5_spotFrom_26 ?_
          refine zj_iload_n (j := 2) (i := 2) C rfl 2 rfl dX5_spotFrom_29 ?_
          refine zj_diral C true h_x2 dX5_spotFrom_30 (fun c5 h6 => ?_)
          refine zj_imul C dX5_spotFrom_31 ?_
          refine zj_iadd C dX5_spotFrom_32 ?_
          refine zj_pipeI (fun y7 e_y7 => ?_)
          have h_y7 := ir_eq e_y7 (ir_w _)
          refine zj_istore C [(4, .int (i32 y7)), (0, .ref (zad Γ t0)), (1, .int (i32 x1)), (2, .int (i32 x2)), (3, .int (i32 x3))] dX5_spotFrom_33 (by decide) rfl ?_
          refine zj_iload_n (j := 1) (i := 1) C rfl 2 rfl dX5_spotFrom_35 ?_
          refine zj_bipush C 8 rfl dX5_spotFrom_36 ?_
          refine zj_idivc C (by decide) dX5_spotFrom_38 ?_
          refine zj_iload_n (j := 3) (i := 3) C rfl 4 rfl dX5_spotFrom_39 ?_
          refine zj_dir C false ds_false dX5_spotFrom_40 ?_
          refine zj_iload_n (j := 2) (i := 2) C rfl 3 rfl dX5_spotFrom_43 ?_
          refine zj_diral C false h_x2 dX5_spotFrom_44 (fun c8 h9 => ?_)
          refine zj_imul C dX5_spotFrom_45 ?_
          refine zj_iadd C dX5_spotFrom_46 ?_
          refine zj_pipeI (fun y10 e_y10 => ?_)
          have h_y10 := ir_eq e_y10 (ir_w _)
          refine zj_istore C [(5, .int (i32 y10)), (4, .int (i32 y7)), (0, .ref (zad Γ t0)), (1, .int (i32 x1)), (2, .int (i32 x2)), (3, .int (i32 x3))] dX5_spotFrom_47 (by decide) rfl ?_
          refine zj_iload C 1 rfl dX5_spotFrom_49 ?_
          refine zj_if_lt C 88 h_y7 dX5_spotFrom_51 rfl (fun c11 => ?_) (fun c11 => ?_)
          · refine zj_iconst C (-1) dX5_spotFrom_88 ?_
            exact zrt_i C Z irc_m1 dX5_spotFrom_89
          · refine zj_iload C 1 rfl dX5_spotFrom_54 ?_
            refine zj_aload_n (j := 0) (i := 0) C rfl 2 rfl dX5_spotFrom_56 ?_
            refine zj_getI C F 0 rfl h_t0 fl_X5_11 rfl dX5_spotFrom_57 (fun h12 => ?_)
            refine zj_icmp_ge C 88 h_y7 h12 dX5_spotFrom_60 rfl (fun c13 => ?_) (fun c13 => ?_)
            · refine zj_iconst C (-1) dX5_spotFrom_88 ?_
              exact zrt_i C Z irc_m1 dX5_spotFrom_89
            · refine zj_iload C 0 rfl dX5_spotFrom_63 ?_
              refine zj_if_lt C 88 h_y10 dX5_spotFrom_65 rfl (fun c14 => ?_) (fun c14 => ?_)
              · refine zj_iconst C (-1) dX5_spotFrom_88 ?_
                exact zrt_i C Z irc_m1 dX5_spotFrom_89
              · refine zj_iload C 0 rfl dX5_spotFrom_68 ?_
                refine zj_aload_n (j := 0) (i := 0) C rfl 2 rfl dX5_spotFrom_70 ?_
                refine zj_getI C F 1 rfl h_t0 fl_X5_15 rfl dX5_spotFrom_71 (fun h15 => ?_)
                refine zj_icmp_ge C 88 h_y10 h15 dX5_spotFrom_74 rfl (fun c16 => ?_) (fun c16 => ?_)
                · refine zj_iconst C (-1) dX5_spotFrom_88 ?_
                  exact zrt_i C Z irc_m1 dX5_spotFrom_89
                · refine zj_bipush C 8 rfl dX5_spotFrom_77 ?_
                  refine zj_iload C 0 rfl dX5_spotFrom_79 ?_
                  refine zj_imul C dX5_spotFrom_81 ?_
                  refine zj_iload C 1 rfl dX5_spotFrom_82 ?_
                  refine zj_iadd C dX5_spotFrom_84 ?_
                  refine zj_goto (tgt := 89) C dX5_spotFrom_85 rfl ?_
                  exact zrt_i C Z (ir_w _) dX5_spotFrom_89
        · refine zj_iconst C (-1) dX5_spotFrom_19 ?_
          exact zrt_i C Z irc_m1 dX5_spotFrom_20
noncomputable def f_X5_stepsAlong (t0 : Nat) (x1 : Int) (x2 : Int) (x3 : Int) (mem : zMem) : Option (Int × zMem) := zbind (f_X5_hasShadow t0 x1 x2 mem) fun y1 m2 => if y1 = 0 then (some (0, m2)) else (if ix (t0 + 5) x2 then pipe (m2 (t0 + 5) x2) fun y6 => if y6 < 0 then (some (0, m2)) else (if y6 < 4 then (if ix (t0 + 1) x1 then pipe (w32 ((zrem x3 8) - (zrem (m2 (t0 + 1) x1) 8))) fun y11 => if ix (t0 + 1) x1 then pipe (w32 ((zdiv x3 8) - (zdiv (m2 (t0 + 1) x1) 8))) fun y14 => if 0 ≤ y6 ∧ y6 < 4 then if 0 ≤ y6 ∧ y6 < 4 then pipe (w32 ((w32 (y11 * (zDir false (Int.toNat y6)))) + (w32 (y14 * (zDir true (Int.toNat y6)))))) fun y19 => if y19 = 0 then (if 0 ≤ y6 ∧ y6 < 4 then if 0 ≤ y6 ∧ y6 < 4 then some ((w32 ((w32 (y11 * (zDir true (Int.toNat y6)))) + (w32 (y14 * (zDir false (Int.toNat y6)))))), m2) else none else none) else (some (0, m2)) else none else none else none else none) else (some (0, m2))) else none)
set_option maxHeartbeats 4000000 in
theorem M_X5_stepsAlong (l : Launch) (Γ : zG) (F : zFull Γ)  {t0 : Nat} {x1 : Int} {x2 : Int} {x3 : Int} (h_t0 : zk t0 5) (h_x1 : ir x1) (h_x2 : ir x2) (h_x3 : ir x3) (mem : zMem) (q : Int × zMem) (h : f_X5_stepsAlong t0 x1 x2 x3 mem = some q) : zMet l yX5_stepsAlong cX5_stepsAlong 8 (some .int) 2 Γ 1 [.ref (zad Γ t0), .int (i32 x1), .int (i32 x2), .int (i32 x3)] mem q := by
  refine zMet_of (own := "ShadowHeirs$Plan") (by decide) rfl (Nat.le_of_ble_eq_true rfl) (fun X C Z => ?_)
  revert h
  show zJ X Γ 8 q (f_X5_stepsAlong t0 x1 x2 x3 mem) 0 [(0, .ref (zad Γ t0)), (1, .int (i32 x1)), (2, .int (i32 x2)), (3, .int (i32 x3))] [] mem
  unfold f_X5_stepsAlong
  refine zj_aload_n (j := 0) (i := 0) C rfl 0 rfl dX5_stepsAlong_0 ?_
  refine zj_iload_n (j := 1) (i := 1) C rfl 1 rfl dX5_stepsAlong_1 ?_
  refine zj_iload_n (j := 2) (i := 2) C rfl 2 rfl dX5_stepsAlong_2 ?_
  refine zj_callVi C F Z [.int (i32 x1), .int (i32 x2)] [] cal_X5_hasShadow calv_X5_hasShadow ml_X5_61 h_t0 rfl rfl (by decide) (Nat.le_of_ble_eq_true rfl) rfl dX5_stepsAlong_3 (fun q h => M_X5_hasShadow l Γ F h_t0 h_x1 h_x2 mem q h) (fun y1 m2 h_y1 => ?_)
  refine zj_if_ne C 11 h_y1 dX5_stepsAlong_6 rfl (fun c3 => ?_) (fun c3 => ?_)
  · refine zj_iconst C 0 dX5_stepsAlong_9 ?_
    exact zrt_i C Z irc_0 dX5_stepsAlong_10
  · refine zj_aload_n (j := 0) (i := 0) C rfl 0 rfl dX5_stepsAlong_11 ?_
    refine zj_getR C F h_t0 fl_X5_41 rfl (rfo_5_9 h_t0) dX5_stepsAlong_12 ?_
    refine zj_iload_n (j := 2) (i := 2) C rfl 2 rfl dX5_stepsAlong_15 ?_
    refine zj_iaload C F (zko_5_9 h_t0) h_x2 dX5_stepsAlong_16 (fun c4 h5 => ?_)
    refine zj_pipeI (fun y6 e_y6 => ?_)
    have h_y6 := ir_eq e_y6 h5
    refine zj_istore C [(4, .int (i32 y6)), (0, .ref (zad Γ t0)), (1, .int (i32 x1)), (2, .int (i32 x2)), (3, .int (i32 x3))] dX5_stepsAlong_17 (by decide) rfl ?_
    refine zj_iload C 0 rfl dX5_stepsAlong_19 ?_
    refine zj_if_lt C 30 h_y6 dX5_stepsAlong_21 rfl (fun c7 => ?_) (fun c7 => ?_)
    · refine zj_iconst C 0 dX5_stepsAlong_30 ?_
      exact zrt_i C Z irc_0 dX5_stepsAlong_31
    · refine zj_iload C 0 rfl dX5_stepsAlong_24 ?_
      refine zj_iconst C 4 dX5_stepsAlong_26 ?_
      refine zj_icmp_lt C 32 h_y6 irc_4 dX5_stepsAlong_27 rfl (fun c8 => ?_) (fun c8 => ?_)
      · refine zj_iload_n (j := 3) (i := 3) C rfl 4 rfl dX5_stepsAlong_32 ?_
        refine zj_bipush C 8 rfl dX5_stepsAlong_33 ?_
        refine zj_iremc C (by decide) dX5_stepsAlong_35 ?_
        refine zj_aload_n (j := 0) (i := 0) C rfl 1 rfl dX5_stepsAlong_36 ?_
        refine zj_getR C F h_t0 fl_X5_27 rfl (rfo_5_5 h_t0) dX5_stepsAlong_37 ?_
        refine zj_iload_n (j := 1) (i := 1) C rfl 2 rfl dX5_stepsAlong_40 ?_
        refine zj_iaload C F (zko_5_5 h_t0) h_x1 dX5_stepsAlong_41 (fun c9 h10 => ?_)
        refine zj_bipush C 8 rfl dX5_stepsAlong_42 ?_
        refine zj_iremc C (by decide) dX5_stepsAlong_44 ?_
        refine zj_isub C dX5_stepsAlong_45 ?_
        refine zj_pipeI (fun y11 e_y11 => ?_)
        have h_y11 := ir_eq e_y11 (ir_w _)
        refine zj_istore C [(5, .int (i32 y11)), (4, .int (i32 y6)), (0, .ref (zad Γ t0)), (1, .int (i32 x1)), (2, .int (i32 x2)), (3, .int (i32 x3))] dX5_stepsAlong_46 (by decide) rfl ?_
        refine zj_iload_n (j := 3) (i := 3) C rfl 5 rfl dX5_stepsAlong_48 ?_
        refine zj_bipush C 8 rfl dX5_stepsAlong_49 ?_
        refine zj_idivc C (by decide) dX5_stepsAlong_51 ?_
        refine zj_aload_n (j := 0) (i := 0) C rfl 2 rfl dX5_stepsAlong_52 ?_
        refine zj_getR C F h_t0 fl_X5_27 rfl (rfo_5_5 h_t0) dX5_stepsAlong_53 ?_
        refine zj_iload_n (j := 1) (i := 1) C rfl 3 rfl dX5_stepsAlong_56 ?_
        refine zj_iaload C F (zko_5_5 h_t0) h_x1 dX5_stepsAlong_57 (fun c12 h13 => ?_)
        refine zj_bipush C 8 rfl dX5_stepsAlong_58 ?_
        refine zj_idivc C (by decide) dX5_stepsAlong_60 ?_
        refine zj_isub C dX5_stepsAlong_61 ?_
        refine zj_pipeI (fun y14 e_y14 => ?_)
        have h_y14 := ir_eq e_y14 (ir_w _)
        refine zj_istore C [(6, .int (i32 y14)), (5, .int (i32 y11)), (4, .int (i32 y6)), (0, .ref (zad Γ t0)), (1, .int (i32 x1)), (2, .int (i32 x2)), (3, .int (i32 x3))] dX5_stepsAlong_62 (by decide) rfl ?_
        refine zj_iload C 1 rfl dX5_stepsAlong_64 ?_
        refine zj_dir C false ds_false dX5_stepsAlong_66 ?_
        refine zj_iload C 2 rfl dX5_stepsAlong_69 ?_
        refine zj_diral C false h_y6 dX5_stepsAlong_71 (fun c15 h16 => ?_)
        refine zj_imul C dX5_stepsAlong_72 ?_
        refine zj_iload C 0 rfl dX5_stepsAlong_73 ?_
        refine zj_dir C true ds_true dX5_stepsAlong_75 ?_
        refine zj_iload C 2 rfl dX5_stepsAlong_78 ?_
        refine zj_diral C true h_y6 dX5_stepsAlong_80 (fun c17 h18 => ?_)
        refine zj_imul C dX5_stepsAlong_81 ?_
        refine zj_iadd C dX5_stepsAlong_82 ?_
        refine zj_pipeI (fun y19 e_y19 => ?_)
        have h_y19 := ir_eq e_y19 (ir_w _)
        refine zj_istore C [(7, .int (i32 y19)), (6, .int (i32 y14)), (5, .int (i32 y11)), (4, .int (i32 y6)), (0, .ref (zad Γ t0)), (1, .int (i32 x1)), (2, .int (i32 x2)), (3, .int (i32 x3))] dX5_stepsAlong_83 (by decide) rfl ?_
        refine zj_iload C 0 rfl dX5_stepsAlong_85 ?_
        refine zj_if_ne C 112 h_y19 dX5_stepsAlong_87 rfl (fun c20 => ?_) (fun c20 => ?_)
        · refine zj_iload C 2 rfl dX5_stepsAlong_90 ?_
          refine zj_dir C true ds_true dX5_stepsAlong_92 ?_
          refine zj_iload C 3 rfl dX5_stepsAlong_95 ?_
          refine zj_diral C true h_y6 dX5_stepsAlong_97 (fun c21 h22 => ?_)
          refine zj_imul C dX5_stepsAlong_98 ?_
          refine zj_iload C 1 rfl dX5_stepsAlong_99 ?_
          refine zj_dir C false ds_false dX5_stepsAlong_101 ?_
          refine zj_iload C 3 rfl dX5_stepsAlong_104 ?_
          refine zj_diral C false h_y6 dX5_stepsAlong_106 (fun c23 h24 => ?_)
          refine zj_imul C dX5_stepsAlong_107 ?_
          refine zj_iadd C dX5_stepsAlong_108 ?_
          refine zj_goto (tgt := 113) C dX5_stepsAlong_109 rfl ?_
          exact zrt_i C Z (ir_w _) dX5_stepsAlong_113
        · refine zj_iconst C 0 dX5_stepsAlong_112 ?_
          exact zrt_i C Z irc_0 dX5_stepsAlong_113
      · refine zj_iconst C 0 dX5_stepsAlong_30 ?_
        exact zrt_i C Z irc_0 dX5_stepsAlong_31
noncomputable def f_X6_hasRoom (x0 : Int) (mem : zMem) : Option (Int × zMem) := if (w32 ((mem 1 2) + x0)) > 940 then (some (0, mem)) else (some (1, mem))
set_option maxHeartbeats 4000000 in
theorem M_X6_hasRoom (l : Launch) (Γ : zG) (F : zFull Γ)  {x0 : Int} (h_x0 : ir x0) (mem : zMem) (q : Int × zMem) (h : f_X6_hasRoom x0 mem = some q) : zMet l yX6_hasRoom cX6_hasRoom 2 (some .boolean) 1 Γ 1 [.ref (zad Γ 1), .int (i32 x0)] mem q := by
  refine zMet_of (own := "ShadowHeirs$Reader") (by decide) rfl (Nat.le_of_ble_eq_true rfl) (fun X C Z => ?_)
  revert h
  show zJ X Γ 2 q (f_X6_hasRoom x0 mem) 0 [(0, .ref (zad Γ 1)), (1, .int (i32 x0))] [] mem
  unfold f_X6_hasRoom
  refine zj_aload_n (j := 0) (i := 0) C rfl 0 rfl dX6_hasRoom_0 ?_
  refine zj_getI C F 2 rfl zk_1 fl_X6_19 rfl dX6_hasRoom_1 (fun h1 => ?_)
  refine zj_iload_n (j := 1) (i := 1) C rfl 1 rfl dX6_hasRoom_4 ?_
  refine zj_iadd C dX6_hasRoom_5 ?_
  refine zj_sipush C 940 rfl dX6_hasRoom_6 ?_
  refine zj_icmp_gt C 16 (ir_w _) irc_940 dX6_hasRoom_9 rfl (fun c2 => ?_) (fun c2 => ?_)
  · refine zj_iconst C 0 dX6_hasRoom_16 ?_
    exact zrt_z C Z (Or.inl rfl) dX6_hasRoom_17
  · refine zj_iconst C 1 dX6_hasRoom_12 ?_
    refine zj_goto (tgt := 17) C dX6_hasRoom_13 rfl ?_
    exact zrt_z C Z (Or.inr rfl) dX6_hasRoom_17
noncomputable def b_X6_addNumber_0 (rec : Int → Int → zMem → Option (Int × zMem)) (v1 : Int) (v2 : Int) (mem : zMem) : Option (Int × zMem) := if v2 < 0 then (some (0, mem)) else (if (mem 1 2) ≥ 940 then (rec v1 (w32 (v2 + (-8))) mem) else (if ix 2 (mem 1 2) then pipe (zup mem 2 (mem 1 2) (zand (zush v1 v2) 255)) fun m6 => pipe (zup m6 1 2 (w32 ((m6 1 2) + 1))) fun m8 => rec v1 (w32 (v2 + (-8))) m8 else none))
noncomputable def f_X6_addNumber_0 : Nat → Int → Int → zMem → Option (Int × zMem) := zfuel (fun _ _ _ => none) (b_X6_addNumber_0)
set_option maxHeartbeats 4000000 in
theorem L_X6_addNumber_0 (l : Launch) {Γ : zG} (F : zFull Γ) {X : zM} {q : Int × zMem} (C : zC X Γ "ShadowHeirs$Reader" cX6_addNumber 3) (Z : zRt X l Γ 1 0 none q) : ∀ n : Nat, ∀ (v1 : Int) (v2 : Int) (h_v1 : ir v1) (h_v2 : ir v2) (mem : zMem), zJ X Γ 3 q (f_X6_addNumber_0 n v1 v2 mem) 3 [(0, .ref (zad Γ 1)), (1, .int (i32 v1)), (2, .int (i32 v2))] [] mem := by
  intro n
  induction n with
  | zero => intros; exact zj_none
  | succ n ih =>
    intro v1 v2 h_v1 h_v2 mem
    show zJ X Γ 3 q (b_X6_addNumber_0 (f_X6_addNumber_0 n) v1 v2 mem) _ _ _ _
    unfold b_X6_addNumber_0
    refine zj_iload_n (j := 2) (i := 2) C rfl 2 rfl dX6_addNumber_3 ?_
    refine zj_if_lt C 51 h_v2 dX6_addNumber_4 rfl (fun c1 => ?_) (fun c1 => ?_)
    · exact zrt_v C Z dX6_addNumber_51
    · refine zj_aload_n (j := 0) (i := 0) C rfl 0 rfl dX6_addNumber_7 ?_
      refine zj_getI C F 2 rfl zk_1 fl_X6_19 rfl dX6_addNumber_8 (fun h2 => ?_)
      refine zj_aload_n (j := 0) (i := 0) C rfl 0 rfl dX6_addNumber_11 ?_
      refine zj_getR C F zk_1 fl_X6_11 rfl rf_1_0 dX6_addNumber_12 ?_
      refine zj_alen C F 940 zk_2 (Or.inl rfl) len_2 dX6_addNumber_15 ?_
      refine zj_icmp_ge C 45 h2 irc_940 dX6_addNumber_16 rfl (fun c3 => ?_) (fun c3 => ?_)
      · refine zj_iinc C 2 [(2, .int (i32 (w32 (v2 + (-8))))), (0, .ref (zad Γ 1)), (1, .int (i32 v1))] rfl dX6_addNumber_45 (by decide) rfl ?_
        refine zj_goto (tgt := 3) C dX6_addNumber_48 rfl ?_
        exact zj_sub [1, 2, 0] rfl (ih v1 (w32 (v2 + (-8))) h_v1 (ir_w _) mem)
      · refine zj_aload_n (j := 0) (i := 0) C rfl 0 rfl dX6_addNumber_19 ?_
        refine zj_getR C F zk_1 fl_X6_11 rfl rf_1_0 dX6_addNumber_20 ?_
        refine zj_aload_n (j := 0) (i := 0) C rfl 0 rfl dX6_addNumber_23 ?_
        refine zj_getI C F 2 rfl zk_1 fl_X6_19 rfl dX6_addNumber_24 (fun h4 => ?_)
        refine zj_iload_n (j := 1) (i := 1) C rfl 1 rfl dX6_addNumber_27 ?_
        refine zj_iload_n (j := 2) (i := 2) C rfl 2 rfl dX6_addNumber_28 ?_
        refine zj_iushr C dX6_addNumber_29 ?_
        refine zj_sipush C 255 rfl dX6_addNumber_30 ?_
        refine zj_iand C dX6_addNumber_33 ?_
        refine zj_iastore C F zk_2 h4 (ir_toInt _) dX6_addNumber_34 (fun c5 => ?_)
        refine zj_pipeM (fun m6 e_m6 => ?_)
        refine zj_aload_n (j := 0) (i := 0) C rfl 0 rfl dX6_addNumber_35 ?_
        refine zj_dup C rfl dX6_addNumber_36 ?_
        refine zj_getI C F 2 rfl zk_1 fl_X6_19 rfl dX6_addNumber_37 (fun h7 => ?_)
        refine zj_iconst C 1 dX6_addNumber_40 ?_
        refine zj_iadd C dX6_addNumber_41 ?_
        refine zj_putI C F 2 rfl zk_1 fl_X6_19 rfl fp_6_2 (ir_w _) dX6_addNumber_42 ?_
        refine zj_pipeM (fun m8 e_m8 => ?_)
        refine zj_iinc C 2 [(2, .int (i32 (w32 (v2 + (-8))))), (0, .ref (zad Γ 1)), (1, .int (i32 v1))] rfl dX6_addNumber_45 (by decide) rfl ?_
        refine zj_goto (tgt := 3) C dX6_addNumber_48 rfl ?_
        exact zj_sub [1, 2, 0] rfl (ih v1 (w32 (v2 + (-8))) h_v1 (ir_w _) m8)
noncomputable def f_X6_addNumber (x0 : Int) (mem : zMem) : Option (Int × zMem) := f_X6_addNumber_0 zN x0 24 mem
set_option maxHeartbeats 4000000 in
theorem M_X6_addNumber (l : Launch) (Γ : zG) (F : zFull Γ)  {x0 : Int} (h_x0 : ir x0) (mem : zMem) (q : Int × zMem) (h : f_X6_addNumber x0 mem = some q) : zMet l yX6_addNumber cX6_addNumber 3 none 1 Γ 0 [.ref (zad Γ 1), .int (i32 x0)] mem q := by
  refine zMet_of (own := "ShadowHeirs$Reader") (by decide) rfl (Nat.le_of_ble_eq_true rfl) (fun X C Z => ?_)
  revert h
  show zJ X Γ 3 q (f_X6_addNumber x0 mem) 0 [(0, .ref (zad Γ 1)), (1, .int (i32 x0))] [] mem
  unfold f_X6_addNumber
  refine zj_bipush C 24 rfl dX6_addNumber_0 ?_
  refine zj_istore_n (j := 2) (i := 2) C rfl [(2, .int (i32 24)), (0, .ref (zad Γ 1)), (1, .int (i32 x0))] dX6_addNumber_2 (by decide) rfl ?_
  exact zj_sub [1, 2, 0] rfl ((L_X6_addNumber_0 l F C Z zN) x0 24 h_x0 irc_24 mem)
noncomputable def f_X6_byteOn (x0 : Int) (mem : zMem) : Option (Int × zMem) := if x0 < 0 then (some (0, mem)) else (if x0 ≥ (mem 1 2) then (some (0, mem)) else (if x0 ≥ 940 then (some (0, mem)) else (if ix 2 x0 then some ((mem 2 x0), mem) else none)))
set_option maxHeartbeats 4000000 in
theorem M_X6_byteOn (l : Launch) (Γ : zG) (F : zFull Γ)  {x0 : Int} (h_x0 : ir x0) (mem : zMem) (q : Int × zMem) (h : f_X6_byteOn x0 mem = some q) : zMet l yX6_byteOn cX6_byteOn 2 (some .int) 1 Γ 1 [.ref (zad Γ 1), .int (i32 x0)] mem q := by
  refine zMet_of (own := "ShadowHeirs$Reader") (by decide) rfl (Nat.le_of_ble_eq_true rfl) (fun X C Z => ?_)
  revert h
  show zJ X Γ 2 q (f_X6_byteOn x0 mem) 0 [(0, .ref (zad Γ 1)), (1, .int (i32 x0))] [] mem
  unfold f_X6_byteOn
  refine zj_iload_n (j := 1) (i := 1) C rfl 1 rfl dX6_byteOn_0 ?_
  refine zj_if_lt C 30 h_x0 dX6_byteOn_1 rfl (fun c1 => ?_) (fun c1 => ?_)
  · refine zj_iconst C 0 dX6_byteOn_30 ?_
    exact zrt_i C Z irc_0 dX6_byteOn_31
  · refine zj_iload_n (j := 1) (i := 1) C rfl 1 rfl dX6_byteOn_4 ?_
    refine zj_aload_n (j := 0) (i := 0) C rfl 0 rfl dX6_byteOn_5 ?_
    refine zj_getI C F 2 rfl zk_1 fl_X6_19 rfl dX6_byteOn_6 (fun h2 => ?_)
    refine zj_icmp_ge C 30 h_x0 h2 dX6_byteOn_9 rfl (fun c3 => ?_) (fun c3 => ?_)
    · refine zj_iconst C 0 dX6_byteOn_30 ?_
      exact zrt_i C Z irc_0 dX6_byteOn_31
    · refine zj_iload_n (j := 1) (i := 1) C rfl 1 rfl dX6_byteOn_12 ?_
      refine zj_aload_n (j := 0) (i := 0) C rfl 0 rfl dX6_byteOn_13 ?_
      refine zj_getR C F zk_1 fl_X6_11 rfl rf_1_0 dX6_byteOn_14 ?_
      refine zj_alen C F 940 zk_2 (Or.inl rfl) len_2 dX6_byteOn_17 ?_
      refine zj_icmp_ge C 30 h_x0 irc_940 dX6_byteOn_18 rfl (fun c4 => ?_) (fun c4 => ?_)
      · refine zj_iconst C 0 dX6_byteOn_30 ?_
        exact zrt_i C Z irc_0 dX6_byteOn_31
      · refine zj_aload_n (j := 0) (i := 0) C rfl 0 rfl dX6_byteOn_21 ?_
        refine zj_getR C F zk_1 fl_X6_11 rfl rf_1_0 dX6_byteOn_22 ?_
        refine zj_iload_n (j := 1) (i := 1) C rfl 1 rfl dX6_byteOn_25 ?_
        refine zj_iaload C F zk_2 h_x0 dX6_byteOn_26 (fun c5 h6 => ?_)
        refine zj_goto (tgt := 31) C dX6_byteOn_27 rfl ?_
        exact zrt_i C Z h6 dX6_byteOn_31
noncomputable def f_X6_beginText (x0 : Int) (mem : zMem) : Option (Int × zMem) := pipe (zup mem 1 3 x0) fun m1 => pipe (zup m1 1 4 0) fun m2 => pipe (zup m2 1 9 0) fun m3 => pipe (zup m3 1 10 0) fun m4 => some (0, m4)
set_option maxHeartbeats 4000000 in
theorem M_X6_beginText (l : Launch) (Γ : zG) (F : zFull Γ)  {x0 : Int} (h_x0 : ir x0) (mem : zMem) (q : Int × zMem) (h : f_X6_beginText x0 mem = some q) : zMet l yX6_beginText cX6_beginText 2 none 1 Γ 0 [.ref (zad Γ 1), .int (i32 x0)] mem q := by
  refine zMet_of (own := "ShadowHeirs$Reader") (by decide) rfl (Nat.le_of_ble_eq_true rfl) (fun X C Z => ?_)
  revert h
  show zJ X Γ 2 q (f_X6_beginText x0 mem) 0 [(0, .ref (zad Γ 1)), (1, .int (i32 x0))] [] mem
  unfold f_X6_beginText
  refine zj_aload_n (j := 0) (i := 0) C rfl 0 rfl dX6_beginText_0 ?_
  refine zj_iload_n (j := 1) (i := 1) C rfl 1 rfl dX6_beginText_1 ?_
  refine zj_putI C F 3 rfl zk_1 fl_X6_23 rfl fp_6_3 h_x0 dX6_beginText_2 ?_
  refine zj_pipeM (fun m1 e_m1 => ?_)
  refine zj_aload_n (j := 0) (i := 0) C rfl 0 rfl dX6_beginText_5 ?_
  refine zj_iconst C 0 dX6_beginText_6 ?_
  refine zj_putI C F 4 rfl zk_1 fl_X6_26 rfl fp_6_4 irc_0 dX6_beginText_7 ?_
  refine zj_pipeM (fun m2 e_m2 => ?_)
  refine zj_aload_n (j := 0) (i := 0) C rfl 0 rfl dX6_beginText_10 ?_
  refine zj_iconst C 0 dX6_beginText_11 ?_
  refine zj_putI C F 9 rfl zk_1 fl_X6_42 rfl fp_6_9 irc_0 dX6_beginText_12 ?_
  refine zj_pipeM (fun m3 e_m3 => ?_)
  refine zj_aload_n (j := 0) (i := 0) C rfl 0 rfl dX6_beginText_15 ?_
  refine zj_iconst C 0 dX6_beginText_16 ?_
  refine zj_putI C F 10 rfl zk_1 fl_X6_45 rfl fp_6_10 irc_0 dX6_beginText_17 ?_
  refine zj_pipeM (fun m4 e_m4 => ?_)
  exact zrt_v C Z dX6_beginText_20
noncomputable def f_X6_fail (x0 : Int) (mem : zMem) : Option (Int × zMem) := if (mem 1 9) = 0 then (pipe (zup mem 1 9 x0) fun m3 => pipe (zup m3 1 10 (m3 1 5)) fun m5 => some (0, m5)) else (some (0, mem))
set_option maxHeartbeats 4000000 in
theorem M_X6_fail (l : Launch) (Γ : zG) (F : zFull Γ)  {x0 : Int} (h_x0 : ir x0) (mem : zMem) (q : Int × zMem) (h : f_X6_fail x0 mem = some q) : zMet l yX6_fail cX6_fail 2 (some .boolean) 1 Γ 1 [.ref (zad Γ 1), .int (i32 x0)] mem q := by
  refine zMet_of (own := "ShadowHeirs$Reader") (by decide) rfl (Nat.le_of_ble_eq_true rfl) (fun X C Z => ?_)
  revert h
  show zJ X Γ 2 q (f_X6_fail x0 mem) 0 [(0, .ref (zad Γ 1)), (1, .int (i32 x0))] [] mem
  unfold f_X6_fail
  refine zj_aload_n (j := 0) (i := 0) C rfl 0 rfl dX6_fail_0 ?_
  refine zj_getI C F 9 rfl zk_1 fl_X6_42 rfl dX6_fail_1 (fun h1 => ?_)
  refine zj_if_ne C 20 h1 dX6_fail_4 rfl (fun c2 => ?_) (fun c2 => ?_)
  · refine zj_aload_n (j := 0) (i := 0) C rfl 0 rfl dX6_fail_7 ?_
    refine zj_iload_n (j := 1) (i := 1) C rfl 1 rfl dX6_fail_8 ?_
    refine zj_putI C F 9 rfl zk_1 fl_X6_42 rfl fp_6_9 h_x0 dX6_fail_9 ?_
    refine zj_pipeM (fun m3 e_m3 => ?_)
    refine zj_aload_n (j := 0) (i := 0) C rfl 0 rfl dX6_fail_12 ?_
    refine zj_aload_n (j := 0) (i := 0) C rfl 0 rfl dX6_fail_13 ?_
    refine zj_getI C F 5 rfl zk_1 fl_X6_29 rfl dX6_fail_14 (fun h4 => ?_)
    refine zj_putI C F 10 rfl zk_1 fl_X6_45 rfl fp_6_10 h4 dX6_fail_17 ?_
    refine zj_pipeM (fun m5 e_m5 => ?_)
    refine zj_iconst C 0 dX6_fail_20 ?_
    exact zrt_z C Z (Or.inl rfl) dX6_fail_21
  · refine zj_iconst C 0 dX6_fail_20 ?_
    exact zrt_z C Z (Or.inl rfl) dX6_fail_21
noncomputable def b_X6_readRun_0 (rec : Int → Int → zMem → Option (Int × zMem)) (w3 : Int) (v6 : Int) (mem : zMem) : Option (Int × zMem) := if v6 ≥ 24 then (some (0, mem)) else (if (mem 1 8) = (-1) then (if ix 3 v6 then if (zcmp (mem 3 v6) w3) = 0 then (pipe (zup mem 1 8 v6) fun m7 => rec w3 (w32 (v6 + 1)) m7) else (pipe (zup mem 1 8 (-1)) fun m8 => rec w3 (w32 (v6 + 1)) m8) else none) else (some (0, mem)))
noncomputable def f_X6_readRun_0 : Nat → Int → Int → zMem → Option (Int × zMem) := zfuel (fun _ _ _ => none) (b_X6_readRun_0)
set_option maxHeartbeats 4000000 in
theorem L_X6_readRun_0 (l : Launch) {Γ : zG} (F : zFull Γ) {X : zM} {q : Int × zMem} (C : zC X Γ "ShadowHeirs$Reader" cX6_readRun 7) (Z : zRt X l Γ 1 0 none q) : ∀ n : Nat, ∀ (w3 : Int) (v6 : Int) (h_w3 : lr w3) (h_v6 : ir v6) (mem : zMem), zJ X Γ 7 q (f_X6_readRun_0 n w3 v6 mem) 144 [(0, .ref (zad Γ 1)), (3, .long (i64 w3)), (6, .int (i32 v6))] [] mem := by
  intro n
  induction n with
  | zero => intros; exact zj_none
  | succ n ih =>
    intro w3 v6 h_w3 h_v6 mem
    show zJ X Γ 7 q (b_X6_readRun_0 (f_X6_readRun_0 n) w3 v6 mem) _ _ _ _
    unfold b_X6_readRun_0
    refine zj_iload C 2 rfl dX6_readRun_144 ?_
    refine zj_aload_n (j := 0) (i := 0) C rfl 0 rfl dX6_readRun_146 ?_
    refine zj_getR C F zk_1 fl_X6_15 rfl rf_1_1 dX6_readRun_147 ?_
    refine zj_alen C F 24 zk_3 (Or.inr (Or.inl rfl)) len_3 dX6_readRun_150 ?_
    refine zj_icmp_ge C 190 h_v6 irc_24 dX6_readRun_151 rfl (fun c1 => ?_) (fun c1 => ?_)
    · refine zj_goto (tgt := 222) C dX6_readRun_190 rfl ?_
      exact zrt_v C Z dX6_readRun_222
    · refine zj_aload_n (j := 0) (i := 0) C rfl 0 rfl dX6_readRun_154 ?_
      refine zj_getI C F 8 rfl zk_1 fl_X6_39 rfl dX6_readRun_155 (fun h2 => ?_)
      refine zj_iconst C (-1) dX6_readRun_158 ?_
      refine zj_icmp_ne C 190 h2 irc_m1 dX6_readRun_159 rfl (fun c3 => ?_) (fun c3 => ?_)
      · refine zj_aload_n (j := 0) (i := 0) C rfl 0 rfl dX6_readRun_162 ?_
        refine zj_aload_n (j := 0) (i := 0) C rfl 0 rfl dX6_readRun_163 ?_
        refine zj_getR C F zk_1 fl_X6_15 rfl rf_1_1 dX6_readRun_164 ?_
        refine zj_iload C 2 rfl dX6_readRun_167 ?_
        refine zj_laload C F zk_3 h_v6 dX6_readRun_169 (fun c4 h5 => ?_)
        refine zj_lload_n (j := 3) (i := 3) C rfl 1 rfl dX6_readRun_170 ?_
        refine zj_lcmp C h5 h_w3 dX6_readRun_171 ?_
        refine zj_if_ne C 180 (ir_cmp _ _) dX6_readRun_172 rfl (fun c6 => ?_) (fun c6 => ?_)
        · refine zj_iload C 2 rfl dX6_readRun_175 ?_
          refine zj_goto (tgt := 181) C dX6_readRun_177 rfl ?_
          refine zj_putI C F 8 rfl zk_1 fl_X6_39 rfl fp_6_8 h_v6 dX6_readRun_181 ?_
          refine zj_pipeM (fun m7 e_m7 => ?_)
          refine zj_iinc C 2 [(6, .int (i32 (w32 (v6 + 1)))), (0, .ref (zad Γ 1)), (3, .long (i64 w3))] rfl dX6_readRun_184 (by decide) rfl ?_
          refine zj_goto (tgt := 144) C dX6_readRun_187 rfl ?_
          exact zj_sub [1, 2, 0] rfl (ih w3 (w32 (v6 + 1)) h_w3 (ir_w _) m7)
        · refine zj_iconst C (-1) dX6_readRun_180 ?_
          refine zj_putI C F 8 rfl zk_1 fl_X6_39 rfl fp_6_8 irc_m1 dX6_readRun_181 ?_
          refine zj_pipeM (fun m8 e_m8 => ?_)
          refine zj_iinc C 2 [(6, .int (i32 (w32 (v6 + 1)))), (0, .ref (zad Γ 1)), (3, .long (i64 w3))] rfl dX6_readRun_184 (by decide) rfl ?_
          refine zj_goto (tgt := 144) C dX6_readRun_187 rfl ?_
          exact zj_sub [1, 2, 0] rfl (ih w3 (w32 (v6 + 1)) h_w3 (ir_w _) m8)
      · refine zj_goto (tgt := 222) C dX6_readRun_190 rfl ?_
        exact zrt_v C Z dX6_readRun_222
noncomputable def f_X6_readRun_j121 (v1 : Int) (v2 : Int) (w3 : Int) (v5 : Int) (mem : zMem) : Option (Int × zMem) := if v2 = 0 then (if v1 > 7 then (if v1 = 0 then (if v2 > 3 then (pipe (zup mem 1 6 4) fun m5 => some (0, m5)) else (pipe (zup mem 1 6 2) fun m6 => pipe (zup m6 1 7 v5) fun m7 => some (0, m7))) else (pipe (zup mem 1 6 4) fun m8 => some (0, m8))) else (pipe (zup mem 1 6 1) fun m9 => pipe (zup m9 1 7 w3) fun m10 => f_X6_readRun_0 zN w3 0 m10)) else (if v1 = 0 then (if v2 > 3 then (pipe (zup mem 1 6 4) fun m13 => some (0, m13)) else (pipe (zup mem 1 6 2) fun m14 => pipe (zup m14 1 7 v5) fun m15 => some (0, m15))) else (pipe (zup mem 1 6 4) fun m16 => some (0, m16)))
set_option maxHeartbeats 4000000 in
theorem J_X6_readRun_j121 (l : Launch) {Γ : zG} (F : zFull Γ) {X : zM} {q : Int × zMem} (C : zC X Γ "ShadowHeirs$Reader" cX6_readRun 7) (Z : zRt X l Γ 1 0 none q) {v1 : Int} {v2 : Int} {w3 : Int} {v5 : Int} (h_v1 : ir v1) (h_v2 : ir v2) (h_w3 : lr w3) (h_v5 : ir v5) (mem : zMem) : zJ X Γ 7 q (f_X6_readRun_j121 v1 v2 w3 v5 mem) 121 [(0, .ref (zad Γ 1)), (1, .int (i32 v1)), (2, .int (i32 v2)), (3, .long (i64 w3)), (5, .int (i32 v5))] [] mem := by
  unfold f_X6_readRun_j121
  refine zj_iload_n (j := 2) (i := 2) C rfl 2 rfl dX6_readRun_121 ?_
  refine zj_if_ne C 193 h_v2 dX6_readRun_122 rfl (fun c1 => ?_) (fun c1 => ?_)
  · refine zj_iload_n (j := 1) (i := 1) C rfl 1 rfl dX6_readRun_125 ?_
    refine zj_bipush C 7 rfl dX6_readRun_126 ?_
    refine zj_icmp_gt C 193 h_v1 irc_7 dX6_readRun_128 rfl (fun c2 => ?_) (fun c2 => ?_)
    · refine zj_iload_n (j := 1) (i := 1) C rfl 1 rfl dX6_readRun_193 ?_
      refine zj_if_ne C 217 h_v1 dX6_readRun_194 rfl (fun c3 => ?_) (fun c3 => ?_)
      · refine zj_iload_n (j := 2) (i := 2) C rfl 2 rfl dX6_readRun_197 ?_
        refine zj_iconst C 3 dX6_readRun_198 ?_
        refine zj_icmp_gt C 217 h_v2 irc_3 dX6_readRun_199 rfl (fun c4 => ?_) (fun c4 => ?_)
        · refine zj_aload_n (j := 0) (i := 0) C rfl 0 rfl dX6_readRun_217 ?_
          refine zj_iconst C 4 dX6_readRun_218 ?_
          refine zj_putI C F 6 rfl zk_1 fl_X6_32 rfl fp_6_6 irc_4 dX6_readRun_219 ?_
          refine zj_pipeM (fun m5 e_m5 => ?_)
          exact zrt_v C Z dX6_readRun_222
        · refine zj_aload_n (j := 0) (i := 0) C rfl 0 rfl dX6_readRun_202 ?_
          refine zj_iconst C 2 dX6_readRun_203 ?_
          refine zj_putI C F 6 rfl zk_1 fl_X6_32 rfl fp_6_6 irc_2 dX6_readRun_204 ?_
          refine zj_pipeM (fun m6 e_m6 => ?_)
          refine zj_aload_n (j := 0) (i := 0) C rfl 0 rfl dX6_readRun_207 ?_
          refine zj_iload C 4 rfl dX6_readRun_208 ?_
          refine zj_i2l C h_v5 dX6_readRun_210 ?_
          refine zj_putL C F 7 rfl zk_1 fl_X6_35 rfl fp_6_7 (ir_lr h_v5) dX6_readRun_211 ?_
          refine zj_pipeM (fun m7 e_m7 => ?_)
          refine zj_goto (tgt := 222) C dX6_readRun_214 rfl ?_
          exact zrt_v C Z dX6_readRun_222
      · refine zj_aload_n (j := 0) (i := 0) C rfl 0 rfl dX6_readRun_217 ?_
        refine zj_iconst C 4 dX6_readRun_218 ?_
        refine zj_putI C F 6 rfl zk_1 fl_X6_32 rfl fp_6_6 irc_4 dX6_readRun_219 ?_
        refine zj_pipeM (fun m8 e_m8 => ?_)
        exact zrt_v C Z dX6_readRun_222
    · refine zj_aload_n (j := 0) (i := 0) C rfl 0 rfl dX6_readRun_131 ?_
      refine zj_iconst C 1 dX6_readRun_132 ?_
      refine zj_putI C F 6 rfl zk_1 fl_X6_32 rfl fp_6_6 irc_1 dX6_readRun_133 ?_
      refine zj_pipeM (fun m9 e_m9 => ?_)
      refine zj_aload_n (j := 0) (i := 0) C rfl 0 rfl dX6_readRun_136 ?_
      refine zj_lload_n (j := 3) (i := 3) C rfl 3 rfl dX6_readRun_137 ?_
      refine zj_putL C F 7 rfl zk_1 fl_X6_35 rfl fp_6_7 h_w3 dX6_readRun_138 ?_
      refine zj_pipeM (fun m10 e_m10 => ?_)
      refine zj_iconst C 0 dX6_readRun_141 ?_
      refine zj_istore C [(6, .int (i32 0)), (0, .ref (zad Γ 1)), (1, .int (i32 v1)), (2, .int (i32 v2)), (3, .long (i64 w3)), (5, .int (i32 v5))] dX6_readRun_142 (by decide) rfl ?_
      exact zj_sub [1, 4, 0] rfl ((L_X6_readRun_0 l F C Z zN) w3 0 h_w3 irc_0 m10)
  · refine zj_iload_n (j := 1) (i := 1) C rfl 1 rfl dX6_readRun_193 ?_
    refine zj_if_ne C 217 h_v1 dX6_readRun_194 rfl (fun c11 => ?_) (fun c11 => ?_)
    · refine zj_iload_n (j := 2) (i := 2) C rfl 2 rfl dX6_readRun_197 ?_
      refine zj_iconst C 3 dX6_readRun_198 ?_
      refine zj_icmp_gt C 217 h_v2 irc_3 dX6_readRun_199 rfl (fun c12 => ?_) (fun c12 => ?_)
      · refine zj_aload_n (j := 0) (i := 0) C rfl 0 rfl dX6_readRun_217 ?_
        refine zj_iconst C 4 dX6_readRun_218 ?_
        refine zj_putI C F 6 rfl zk_1 fl_X6_32 rfl fp_6_6 irc_4 dX6_readRun_219 ?_
        refine zj_pipeM (fun m13 e_m13 => ?_)
        exact zrt_v C Z dX6_readRun_222
      · refine zj_aload_n (j := 0) (i := 0) C rfl 0 rfl dX6_readRun_202 ?_
        refine zj_iconst C 2 dX6_readRun_203 ?_
        refine zj_putI C F 6 rfl zk_1 fl_X6_32 rfl fp_6_6 irc_2 dX6_readRun_204 ?_
        refine zj_pipeM (fun m14 e_m14 => ?_)
        refine zj_aload_n (j := 0) (i := 0) C rfl 0 rfl dX6_readRun_207 ?_
        refine zj_iload C 4 rfl dX6_readRun_208 ?_
        refine zj_i2l C h_v5 dX6_readRun_210 ?_
        refine zj_putL C F 7 rfl zk_1 fl_X6_35 rfl fp_6_7 (ir_lr h_v5) dX6_readRun_211 ?_
        refine zj_pipeM (fun m15 e_m15 => ?_)
        refine zj_goto (tgt := 222) C dX6_readRun_214 rfl ?_
        exact zrt_v C Z dX6_readRun_222
    · refine zj_aload_n (j := 0) (i := 0) C rfl 0 rfl dX6_readRun_217 ?_
      refine zj_iconst C 4 dX6_readRun_218 ?_
      refine zj_putI C F 6 rfl zk_1 fl_X6_32 rfl fp_6_6 irc_4 dX6_readRun_219 ?_
      refine zj_pipeM (fun m16 e_m16 => ?_)
      exact zrt_v C Z dX6_readRun_222
noncomputable def b_X6_readRun_2 (rec : Int → Int → Int → Int → zMem → Option (Int × zMem)) (v1 : Int) (v2 : Int) (w3 : Int) (v5 : Int) (mem : zMem) : Option (Int × zMem) := if (mem 1 4) ≥ (mem 1 2) then (f_X6_readRun_j121 v1 v2 w3 v5 mem) else (if (mem 1 4) ≥ 940 then (f_X6_readRun_j121 v1 v2 w3 v5 mem) else (if ix 2 (mem 1 4) then pipe (mem 2 (mem 1 4)) fun y9 => if y9 < 97 then (if y9 < 48 then (f_X6_readRun_j121 v1 v2 w3 v5 mem) else (if y9 > 57 then (f_X6_readRun_j121 v1 v2 w3 v5 mem) else (pipe (w32 ((w32 (v5 * 10)) + (w32 (y9 - 48)))) fun y13 => pipe (zup mem 1 4 (w32 ((mem 1 4) + 1))) fun m15 => rec v1 (w32 (v2 + 1)) w3 y13 m15))) else (if y9 > 122 then (if y9 < 48 then (f_X6_readRun_j121 v1 v2 w3 v5 mem) else (if y9 > 57 then (f_X6_readRun_j121 v1 v2 w3 v5 mem) else (pipe (w32 ((w32 (v5 * 10)) + (w32 (y9 - 48)))) fun y19 => pipe (zup mem 1 4 (w32 ((mem 1 4) + 1))) fun m21 => rec v1 (w32 (v2 + 1)) w3 y19 m21))) else (pipe (w64 ((w64 (w3 * 32)) + (w32 ((w32 (y9 - 97)) + 1)))) fun y22 => pipe (zup mem 1 4 (w32 ((mem 1 4) + 1))) fun m24 => rec (w32 (v1 + 1)) v2 y22 v5 m24)) else none))
noncomputable def f_X6_readRun_2 : Nat → Int → Int → Int → Int → zMem → Option (Int × zMem) := zfuel (fun _ _ _ _ _ => none) (b_X6_readRun_2)
set_option maxHeartbeats 4000000 in
theorem L_X6_readRun_2 (l : Launch) {Γ : zG} (F : zFull Γ) {X : zM} {q : Int × zMem} (C : zC X Γ "ShadowHeirs$Reader" cX6_readRun 7) (Z : zRt X l Γ 1 0 none q) : ∀ n : Nat, ∀ (v1 : Int) (v2 : Int) (w3 : Int) (v5 : Int) (h_v1 : ir v1) (h_v2 : ir v2) (h_w3 : lr w3) (h_v5 : ir v5) (mem : zMem), zJ X Γ 7 q (f_X6_readRun_2 n v1 v2 w3 v5 mem) 9 [(0, .ref (zad Γ 1)), (1, .int (i32 v1)), (2, .int (i32 v2)), (3, .long (i64 w3)), (5, .int (i32 v5))] [] mem := by
  intro n
  induction n with
  | zero => intros; exact zj_none
  | succ n ih =>
    intro v1 v2 w3 v5 h_v1 h_v2 h_w3 h_v5 mem
    show zJ X Γ 7 q (b_X6_readRun_2 (f_X6_readRun_2 n) v1 v2 w3 v5 mem) _ _ _ _
    unfold b_X6_readRun_2
    refine zj_aload_n (j := 0) (i := 0) C rfl 0 rfl dX6_readRun_9 ?_
    refine zj_getI C F 4 rfl zk_1 fl_X6_26 rfl dX6_readRun_10 (fun h1 => ?_)
    refine zj_aload_n (j := 0) (i := 0) C rfl 0 rfl dX6_readRun_13 ?_
    refine zj_getI C F 2 rfl zk_1 fl_X6_19 rfl dX6_readRun_14 (fun h2 => ?_)
    refine zj_icmp_ge C 121 h1 h2 dX6_readRun_17 rfl (fun c3 => ?_) (fun c3 => ?_)
    · exact zj_sub [0, 1, 2, 3, 4] rfl (J_X6_readRun_j121 l F C Z h_v1 h_v2 h_w3 h_v5 mem)
    · refine zj_aload_n (j := 0) (i := 0) C rfl 0 rfl dX6_readRun_20 ?_
      refine zj_getI C F 4 rfl zk_1 fl_X6_26 rfl dX6_readRun_21 (fun h4 => ?_)
      refine zj_aload_n (j := 0) (i := 0) C rfl 0 rfl dX6_readRun_24 ?_
      refine zj_getR C F zk_1 fl_X6_11 rfl rf_1_0 dX6_readRun_25 ?_
      refine zj_alen C F 940 zk_2 (Or.inl rfl) len_2 dX6_readRun_28 ?_
      refine zj_icmp_ge C 121 h4 irc_940 dX6_readRun_29 rfl (fun c5 => ?_) (fun c5 => ?_)
      · exact zj_sub [0, 1, 2, 3, 4] rfl (J_X6_readRun_j121 l F C Z h_v1 h_v2 h_w3 h_v5 mem)
      · refine zj_aload_n (j := 0) (i := 0) C rfl 0 rfl dX6_readRun_32 ?_
        refine zj_getR C F zk_1 fl_X6_11 rfl rf_1_0 dX6_readRun_33 ?_
        refine zj_aload_n (j := 0) (i := 0) C rfl 0 rfl dX6_readRun_36 ?_
        refine zj_getI C F 4 rfl zk_1 fl_X6_26 rfl dX6_readRun_37 (fun h6 => ?_)
        refine zj_iaload C F zk_2 h6 dX6_readRun_40 (fun c7 h8 => ?_)
        refine zj_pipeI (fun y9 e_y9 => ?_)
        have h_y9 := ir_eq e_y9 h8
        refine zj_istore C [(6, .int (i32 y9)), (0, .ref (zad Γ 1)), (1, .int (i32 v1)), (2, .int (i32 v2)), (3, .long (i64 w3)), (5, .int (i32 v5))] dX6_readRun_41 (by decide) rfl ?_
        refine zj_iload C 0 rfl dX6_readRun_43 ?_
        refine zj_bipush C 97 rfl dX6_readRun_45 ?_
        refine zj_icmp_lt C 78 h_y9 irc_97 dX6_readRun_47 rfl (fun c10 => ?_) (fun c10 => ?_)
        · refine zj_iload C 0 rfl dX6_readRun_78 ?_
          refine zj_bipush C 48 rfl dX6_readRun_80 ?_
          refine zj_icmp_lt C 121 h_y9 irc_48 dX6_readRun_82 rfl (fun c11 => ?_) (fun c11 => ?_)
          · exact zj_sub [1, 2, 3, 4, 5] rfl (J_X6_readRun_j121 l F C Z h_v1 h_v2 h_w3 h_v5 mem)
          · refine zj_iload C 0 rfl dX6_readRun_85 ?_
            refine zj_bipush C 57 rfl dX6_readRun_87 ?_
            refine zj_icmp_gt C 121 h_y9 irc_57 dX6_readRun_89 rfl (fun c12 => ?_) (fun c12 => ?_)
            · exact zj_sub [1, 2, 3, 4, 5] rfl (J_X6_readRun_j121 l F C Z h_v1 h_v2 h_w3 h_v5 mem)
            · refine zj_iinc C 3 [(2, .int (i32 (w32 (v2 + 1)))), (6, .int (i32 y9)), (0, .ref (zad Γ 1)), (1, .int (i32 v1)), (3, .long (i64 w3)), (5, .int (i32 v5))] rfl dX6_readRun_92 (by decide) rfl ?_
              refine zj_iload C 5 rfl dX6_readRun_95 ?_
              refine zj_bipush C 10 rfl dX6_readRun_97 ?_
              refine zj_imul C dX6_readRun_99 ?_
              refine zj_iload C 1 rfl dX6_readRun_100 ?_
              refine zj_bipush C 48 rfl dX6_readRun_102 ?_
              refine zj_isub C dX6_readRun_104 ?_
              refine zj_iadd C dX6_readRun_105 ?_
              refine zj_pipeI (fun y13 e_y13 => ?_)
              have h_y13 := ir_eq e_y13 (ir_w _)
              refine zj_istore C [(5, .int (i32 y13)), (2, .int (i32 (w32 (v2 + 1)))), (6, .int (i32 y9)), (0, .ref (zad Γ 1)), (1, .int (i32 v1)), (3, .long (i64 w3))] dX6_readRun_106 (by decide) rfl ?_
              refine zj_aload_n (j := 0) (i := 0) C rfl 3 rfl dX6_readRun_108 ?_
              refine zj_dup C rfl dX6_readRun_109 ?_
              refine zj_getI C F 4 rfl zk_1 fl_X6_26 rfl dX6_readRun_110 (fun h14 => ?_)
              refine zj_iconst C 1 dX6_readRun_113 ?_
              refine zj_iadd C dX6_readRun_114 ?_
              refine zj_putI C F 4 rfl zk_1 fl_X6_26 rfl fp_6_4 (ir_w _) dX6_readRun_115 ?_
              refine zj_pipeM (fun m15 e_m15 => ?_)
              refine zj_goto (tgt := 9) C dX6_readRun_118 rfl ?_
              exact zj_sub [3, 4, 1, 5, 0] rfl (ih v1 (w32 (v2 + 1)) w3 y13 h_v1 (ir_w _) h_w3 h_y13 m15)
        · refine zj_iload C 0 rfl dX6_readRun_50 ?_
          refine zj_bipush C 122 rfl dX6_readRun_52 ?_
          refine zj_icmp_gt C 78 h_y9 irc_122 dX6_readRun_54 rfl (fun c16 => ?_) (fun c16 => ?_)
          · refine zj_iload C 0 rfl dX6_readRun_78 ?_
            refine zj_bipush C 48 rfl dX6_readRun_80 ?_
            refine zj_icmp_lt C 121 h_y9 irc_48 dX6_readRun_82 rfl (fun c17 => ?_) (fun c17 => ?_)
            · exact zj_sub [1, 2, 3, 4, 5] rfl (J_X6_readRun_j121 l F C Z h_v1 h_v2 h_w3 h_v5 mem)
            · refine zj_iload C 0 rfl dX6_readRun_85 ?_
              refine zj_bipush C 57 rfl dX6_readRun_87 ?_
              refine zj_icmp_gt C 121 h_y9 irc_57 dX6_readRun_89 rfl (fun c18 => ?_) (fun c18 => ?_)
              · exact zj_sub [1, 2, 3, 4, 5] rfl (J_X6_readRun_j121 l F C Z h_v1 h_v2 h_w3 h_v5 mem)
              · refine zj_iinc C 3 [(2, .int (i32 (w32 (v2 + 1)))), (6, .int (i32 y9)), (0, .ref (zad Γ 1)), (1, .int (i32 v1)), (3, .long (i64 w3)), (5, .int (i32 v5))] rfl dX6_readRun_92 (by decide) rfl ?_
                refine zj_iload C 5 rfl dX6_readRun_95 ?_
                refine zj_bipush C 10 rfl dX6_readRun_97 ?_
                refine zj_imul C dX6_readRun_99 ?_
                refine zj_iload C 1 rfl dX6_readRun_100 ?_
                refine zj_bipush C 48 rfl dX6_readRun_102 ?_
                refine zj_isub C dX6_readRun_104 ?_
                refine zj_iadd C dX6_readRun_105 ?_
                refine zj_pipeI (fun y19 e_y19 => ?_)
                have h_y19 := ir_eq e_y19 (ir_w _)
                refine zj_istore C [(5, .int (i32 y19)), (2, .int (i32 (w32 (v2 + 1)))), (6, .int (i32 y9)), (0, .ref (zad Γ 1)), (1, .int (i32 v1)), (3, .long (i64 w3))] dX6_readRun_106 (by decide) rfl ?_
                refine zj_aload_n (j := 0) (i := 0) C rfl 3 rfl dX6_readRun_108 ?_
                refine zj_dup C rfl dX6_readRun_109 ?_
                refine zj_getI C F 4 rfl zk_1 fl_X6_26 rfl dX6_readRun_110 (fun h20 => ?_)
                refine zj_iconst C 1 dX6_readRun_113 ?_
                refine zj_iadd C dX6_readRun_114 ?_
                refine zj_putI C F 4 rfl zk_1 fl_X6_26 rfl fp_6_4 (ir_w _) dX6_readRun_115 ?_
                refine zj_pipeM (fun m21 e_m21 => ?_)
                refine zj_goto (tgt := 9) C dX6_readRun_118 rfl ?_
                exact zj_sub [3, 4, 1, 5, 0] rfl (ih v1 (w32 (v2 + 1)) w3 y19 h_v1 (ir_w _) h_w3 h_y19 m21)
          · refine zj_iinc C 2 [(1, .int (i32 (w32 (v1 + 1)))), (6, .int (i32 y9)), (0, .ref (zad Γ 1)), (2, .int (i32 v2)), (3, .long (i64 w3)), (5, .int (i32 v5))] rfl dX6_readRun_57 (by decide) rfl ?_
            refine zj_lload_n (j := 3) (i := 3) C rfl 4 rfl dX6_readRun_60 ?_
            refine zj_ldc2 C 32 kc_X6_68 dX6_readRun_61 ?_
            refine zj_lmul C dX6_readRun_64 ?_
            refine zj_iload C 1 rfl dX6_readRun_65 ?_
            refine zj_bipush C 97 rfl dX6_readRun_67 ?_
            refine zj_isub C dX6_readRun_69 ?_
            refine zj_iconst C 1 dX6_readRun_70 ?_
            refine zj_iadd C dX6_readRun_71 ?_
            refine zj_i2l C (ir_w _) dX6_readRun_72 ?_
            refine zj_ladd C dX6_readRun_73 ?_
            refine zj_pipeL (fun y22 e_y22 => ?_)
            have h_y22 := lr_eq e_y22 (lr_w _)
            refine zj_lstore_n (j := 3) (i := 3) C rfl [(3, .long (i64 y22)), (1, .int (i32 (w32 (v1 + 1)))), (6, .int (i32 y9)), (0, .ref (zad Γ 1)), (2, .int (i32 v2)), (5, .int (i32 v5))] dX6_readRun_74 (by decide) rfl ?_
            refine zj_goto (tgt := 108) C dX6_readRun_75 rfl ?_
            refine zj_aload_n (j := 0) (i := 0) C rfl 3 rfl dX6_readRun_108 ?_
            refine zj_dup C rfl dX6_readRun_109 ?_
            refine zj_getI C F 4 rfl zk_1 fl_X6_26 rfl dX6_readRun_110 (fun h23 => ?_)
            refine zj_iconst C 1 dX6_readRun_113 ?_
            refine zj_iadd C dX6_readRun_114 ?_
            refine zj_putI C F 4 rfl zk_1 fl_X6_26 rfl fp_6_4 (ir_w _) dX6_readRun_115 ?_
            refine zj_pipeM (fun m24 e_m24 => ?_)
            refine zj_goto (tgt := 9) C dX6_readRun_118 rfl ?_
            exact zj_sub [3, 1, 4, 0, 5] rfl (ih (w32 (v1 + 1)) v2 y22 v5 (ir_w _) h_v2 h_y22 h_v5 m24)
noncomputable def f_X6_readRun  (mem : zMem) : Option (Int × zMem) := f_X6_readRun_2 zN 0 0 0 0 mem
set_option maxHeartbeats 4000000 in
theorem M_X6_readRun (l : Launch) (Γ : zG) (F : zFull Γ)    (mem : zMem) (q : Int × zMem) (h : f_X6_readRun  mem = some q) : zMet l yX6_readRun cX6_readRun 7 none 1 Γ 0 [.ref (zad Γ 1)] mem q := by
  refine zMet_of (own := "ShadowHeirs$Reader") (by decide) rfl (Nat.le_of_ble_eq_true rfl) (fun X C Z => ?_)
  revert h
  show zJ X Γ 7 q (f_X6_readRun  mem) 0 [(0, .ref (zad Γ 1))] [] mem
  unfold f_X6_readRun
  refine zj_iconst C 0 dX6_readRun_0 ?_
  refine zj_istore_n (j := 1) (i := 1) C rfl [(1, .int (i32 0)), (0, .ref (zad Γ 1))] dX6_readRun_1 (by decide) rfl ?_
  refine zj_iconst C 0 dX6_readRun_2 ?_
  refine zj_istore_n (j := 2) (i := 2) C rfl [(2, .int (i32 0)), (1, .int (i32 0)), (0, .ref (zad Γ 1))] dX6_readRun_3 (by decide) rfl ?_
  refine zj_lconst (n := 0) C 0 rfl dX6_readRun_4 ?_
  refine zj_lstore_n (j := 3) (i := 3) C rfl [(3, .long (i64 0)), (2, .int (i32 0)), (1, .int (i32 0)), (0, .ref (zad Γ 1))] dX6_readRun_5 (by decide) rfl ?_
  refine zj_iconst C 0 dX6_readRun_6 ?_
  refine zj_istore C [(5, .int (i32 0)), (3, .long (i64 0)), (2, .int (i32 0)), (1, .int (i32 0)), (0, .ref (zad Γ 1))] dX6_readRun_7 (by decide) rfl ?_
  exact zj_sub [4, 3, 2, 1, 0] rfl ((L_X6_readRun_2 l F C Z zN) 0 0 0 0 irc_0 irc_0 lrc_0 irc_0 mem)
noncomputable def f_X6_isSign (x0 : Int) (mem : zMem) : Option (Int × zMem) := if (mem 1 6) = 3 then (if (zcmp (mem 1 7) x0) = 0 then (some (1, mem)) else (some (0, mem))) else (some (0, mem))
set_option maxHeartbeats 4000000 in
theorem M_X6_isSign (l : Launch) (Γ : zG) (F : zFull Γ)  {x0 : Int} (h_x0 : ir x0) (mem : zMem) (q : Int × zMem) (h : f_X6_isSign x0 mem = some q) : zMet l yX6_isSign cX6_isSign 2 (some .boolean) 1 Γ 1 [.ref (zad Γ 1), .int (i32 x0)] mem q := by
  refine zMet_of (own := "ShadowHeirs$Reader") (by decide) rfl (Nat.le_of_ble_eq_true rfl) (fun X C Z => ?_)
  revert h
  show zJ X Γ 2 q (f_X6_isSign x0 mem) 0 [(0, .ref (zad Γ 1)), (1, .int (i32 x0))] [] mem
  unfold f_X6_isSign
  refine zj_aload_n (j := 0) (i := 0) C rfl 0 rfl dX6_isSign_0 ?_
  refine zj_getI C F 6 rfl zk_1 fl_X6_32 rfl dX6_isSign_1 (fun h1 => ?_)
  refine zj_iconst C 3 dX6_isSign_4 ?_
  refine zj_icmp_ne C 22 h1 irc_3 dX6_isSign_5 rfl (fun c2 => ?_) (fun c2 => ?_)
  · refine zj_aload_n (j := 0) (i := 0) C rfl 0 rfl dX6_isSign_8 ?_
    refine zj_getL C F 7 rfl zk_1 fl_X6_35 rfl dX6_isSign_9 (fun h3 => ?_)
    refine zj_iload_n (j := 1) (i := 1) C rfl 1 rfl dX6_isSign_12 ?_
    refine zj_i2l C h_x0 dX6_isSign_13 ?_
    refine zj_lcmp C h3 (ir_lr h_x0) dX6_isSign_14 ?_
    refine zj_if_ne C 22 (ir_cmp _ _) dX6_isSign_15 rfl (fun c4 => ?_) (fun c4 => ?_)
    · refine zj_iconst C 1 dX6_isSign_18 ?_
      refine zj_goto (tgt := 23) C dX6_isSign_19 rfl ?_
      exact zrt_z C Z (Or.inr rfl) dX6_isSign_23
    · refine zj_iconst C 0 dX6_isSign_22 ?_
      exact zrt_z C Z (Or.inl rfl) dX6_isSign_23
  · refine zj_iconst C 0 dX6_isSign_22 ?_
    exact zrt_z C Z (Or.inl rfl) dX6_isSign_23
noncomputable def b_X7_clear_0 (rec : Nat → Int → zMem → Option (Int × zMem)) (r0 : Nat) (v1 : Int) (mem : zMem) : Option (Int × zMem) := if v1 ≥ 6 then (pipe (zup mem r0 4 0) fun m2 => pipe (zup m2 r0 5 0) fun m3 => pipe (zup m3 r0 6 0) fun m4 => pipe (zup m4 r0 7 0) fun m5 => pipe (zup m5 r0 8 0) fun m6 => some (0, m6)) else (if ix (r0 + 3) v1 then pipe (zup mem (r0 + 3) v1 0) fun m8 => rec r0 (w32 (v1 + 1)) m8 else none)
noncomputable def f_X7_clear_0 : Nat → Nat → Int → zMem → Option (Int × zMem) := zfuel (fun _ _ _ => none) (b_X7_clear_0)
set_option maxHeartbeats 4000000 in
theorem L_X7_clear_0 (l : Launch) {Γ : zG} (F : zFull Γ) {X : zM} {q : Int × zMem} (C : zC X Γ "ShadowHeirs$Scene" cX7_clear 2) (Z : zRt X l Γ 1 0 none q) : ∀ n : Nat, ∀ (r0 : Nat) (v1 : Int) (h_r0 : zk r0 7) (h_v1 : ir v1) (mem : zMem), zJ X Γ 2 q (f_X7_clear_0 n r0 v1 mem) 26 [(0, .ref (zad Γ r0)), (1, .int (i32 v1))] [] mem := by
  intro n
  induction n with
  | zero => intros; exact zj_none
  | succ n ih =>
    intro r0 v1 h_r0 h_v1 mem
    show zJ X Γ 2 q (b_X7_clear_0 (f_X7_clear_0 n) r0 v1 mem) _ _ _ _
    unfold b_X7_clear_0
    refine zj_iload_n (j := 1) (i := 1) C rfl 1 rfl dX7_clear_26 ?_
    refine zj_aload_n (j := 0) (i := 0) C rfl 0 rfl dX7_clear_27 ?_
    refine zj_getR C F h_r0 fl_X7_18 rfl (rfo_7_2 h_r0) dX7_clear_28 ?_
    refine zj_alen C F 6 (zko_7_2 h_r0) (Or.inl rfl) (leno_7_2 h_r0) dX7_clear_31 ?_
    refine zj_icmp_ge C 48 h_v1 irc_6 dX7_clear_32 rfl (fun c1 => ?_) (fun c1 => ?_)
    · refine zj_aload_n (j := 0) (i := 0) C rfl 0 rfl dX7_clear_48 ?_
      refine zj_iconst C 0 dX7_clear_49 ?_
      refine zj_putI C F 4 rfl h_r0 fl_X7_24 rfl fp_7_4 irc_0 dX7_clear_50 ?_
      refine zj_pipeM (fun m2 e_m2 => ?_)
      refine zj_aload_n (j := 0) (i := 0) C rfl 0 rfl dX7_clear_53 ?_
      refine zj_iconst C 0 dX7_clear_54 ?_
      refine zj_putI C F 5 rfl h_r0 fl_X7_28 rfl fp_7_5 irc_0 dX7_clear_55 ?_
      refine zj_pipeM (fun m3 e_m3 => ?_)
      refine zj_aload_n (j := 0) (i := 0) C rfl 0 rfl dX7_clear_58 ?_
      refine zj_iconst C 0 dX7_clear_59 ?_
      refine zj_putI C F 6 rfl h_r0 fl_X7_31 rfl fp_7_6 irc_0 dX7_clear_60 ?_
      refine zj_pipeM (fun m4 e_m4 => ?_)
      refine zj_aload_n (j := 0) (i := 0) C rfl 0 rfl dX7_clear_63 ?_
      refine zj_iconst C 0 dX7_clear_64 ?_
      refine zj_putI C F 7 rfl h_r0 fl_X7_34 rfl fp_7_7 irc_0 dX7_clear_65 ?_
      refine zj_pipeM (fun m5 e_m5 => ?_)
      refine zj_aload_n (j := 0) (i := 0) C rfl 0 rfl dX7_clear_68 ?_
      refine zj_iconst C 0 dX7_clear_69 ?_
      refine zj_putI C F 8 rfl h_r0 fl_X7_37 rfl fp_7_8 irc_0 dX7_clear_70 ?_
      refine zj_pipeM (fun m6 e_m6 => ?_)
      exact zrt_v C Z dX7_clear_73
    · refine zj_aload_n (j := 0) (i := 0) C rfl 0 rfl dX7_clear_35 ?_
      refine zj_getR C F h_r0 fl_X7_18 rfl (rfo_7_2 h_r0) dX7_clear_36 ?_
      refine zj_iload_n (j := 1) (i := 1) C rfl 1 rfl dX7_clear_39 ?_
      refine zj_iconst C 0 dX7_clear_40 ?_
      refine zj_iastore C F (zko_7_2 h_r0) h_v1 irc_0 dX7_clear_41 (fun c7 => ?_)
      refine zj_pipeM (fun m8 e_m8 => ?_)
      refine zj_iinc C 1 [(1, .int (i32 (w32 (v1 + 1)))), (0, .ref (zad Γ r0))] rfl dX7_clear_42 (by decide) rfl ?_
      refine zj_goto (tgt := 26) C dX7_clear_45 rfl ?_
      exact zj_sub [1, 0] rfl (ih r0 (w32 (v1 + 1)) h_r0 (ir_w _) m8)
noncomputable def b_X7_clear_1 (rec : Nat → Int → zMem → Option (Int × zMem)) (r0 : Nat) (v1 : Int) (mem : zMem) : Option (Int × zMem) := if v1 ≥ 64 then (f_X7_clear_0 zN r0 0 mem) else (if ix (r0 + 1) v1 then pipe (zup mem (r0 + 1) v1 0) fun m3 => rec r0 (w32 (v1 + 1)) m3 else none)
noncomputable def f_X7_clear_1 : Nat → Nat → Int → zMem → Option (Int × zMem) := zfuel (fun _ _ _ => none) (b_X7_clear_1)
set_option maxHeartbeats 4000000 in
theorem L_X7_clear_1 (l : Launch) {Γ : zG} (F : zFull Γ) {X : zM} {q : Int × zMem} (C : zC X Γ "ShadowHeirs$Scene" cX7_clear 2) (Z : zRt X l Γ 1 0 none q) : ∀ n : Nat, ∀ (r0 : Nat) (v1 : Int) (h_r0 : zk r0 7) (h_v1 : ir v1) (mem : zMem), zJ X Γ 2 q (f_X7_clear_1 n r0 v1 mem) 2 [(0, .ref (zad Γ r0)), (1, .int (i32 v1))] [] mem := by
  intro n
  induction n with
  | zero => intros; exact zj_none
  | succ n ih =>
    intro r0 v1 h_r0 h_v1 mem
    show zJ X Γ 2 q (b_X7_clear_1 (f_X7_clear_1 n) r0 v1 mem) _ _ _ _
    unfold b_X7_clear_1
    refine zj_iload_n (j := 1) (i := 1) C rfl 1 rfl dX7_clear_2 ?_
    refine zj_aload_n (j := 0) (i := 0) C rfl 0 rfl dX7_clear_3 ?_
    refine zj_getR C F h_r0 fl_X7_9 rfl (rfo_7_0 h_r0) dX7_clear_4 ?_
    refine zj_alen C F 64 (zko_7_0 h_r0) (Or.inl rfl) (leno_7_0 h_r0) dX7_clear_7 ?_
    refine zj_icmp_ge C 24 h_v1 irc_64 dX7_clear_8 rfl (fun c1 => ?_) (fun c1 => ?_)
    · refine zj_iconst C 0 dX7_clear_24 ?_
      refine zj_istore_n (j := 1) (i := 1) C rfl [(1, .int (i32 0)), (0, .ref (zad Γ r0))] dX7_clear_25 (by decide) rfl ?_
      exact zj_sub [1, 0] rfl ((L_X7_clear_0 l F C Z zN) r0 0 h_r0 irc_0 mem)
    · refine zj_aload_n (j := 0) (i := 0) C rfl 0 rfl dX7_clear_11 ?_
      refine zj_getR C F h_r0 fl_X7_9 rfl (rfo_7_0 h_r0) dX7_clear_12 ?_
      refine zj_iload_n (j := 1) (i := 1) C rfl 1 rfl dX7_clear_15 ?_
      refine zj_iconst C 0 dX7_clear_16 ?_
      refine zj_iastore C F (zko_7_0 h_r0) h_v1 irc_0 dX7_clear_17 (fun c2 => ?_)
      refine zj_pipeM (fun m3 e_m3 => ?_)
      refine zj_iinc C 1 [(1, .int (i32 (w32 (v1 + 1)))), (0, .ref (zad Γ r0))] rfl dX7_clear_18 (by decide) rfl ?_
      refine zj_goto (tgt := 2) C dX7_clear_21 rfl ?_
      exact zj_sub [1, 0] rfl (ih r0 (w32 (v1 + 1)) h_r0 (ir_w _) m3)
noncomputable def f_X7_clear (t0 : Nat) (mem : zMem) : Option (Int × zMem) := f_X7_clear_1 zN t0 0 mem
set_option maxHeartbeats 4000000 in
theorem M_X7_clear (l : Launch) (Γ : zG) (F : zFull Γ)  {t0 : Nat} (h_t0 : zk t0 7) (mem : zMem) (q : Int × zMem) (h : f_X7_clear t0 mem = some q) : zMet l yX7_clear cX7_clear 2 none 1 Γ 0 [.ref (zad Γ t0)] mem q := by
  refine zMet_of (own := "ShadowHeirs$Scene") (by decide) rfl (Nat.le_of_ble_eq_true rfl) (fun X C Z => ?_)
  revert h
  show zJ X Γ 2 q (f_X7_clear t0 mem) 0 [(0, .ref (zad Γ t0))] [] mem
  unfold f_X7_clear
  refine zj_iconst C 0 dX7_clear_0 ?_
  refine zj_istore_n (j := 1) (i := 1) C rfl [(1, .int (i32 0)), (0, .ref (zad Γ t0))] dX7_clear_1 (by decide) rfl ?_
  exact zj_sub [1, 0] rfl ((L_X7_clear_1 l F C Z zN) t0 0 h_t0 irc_0 mem)
noncomputable def f_X7_copyFrom (t0 : Nat) (t1 : Nat) (mem : zMem) : Option (Int × zMem) := zbind (f_X11_copyRow (t1 + 1) (t0 + 1) mem) fun _ m1 => zbind (f_X11_copyRow (t1 + 2) (t0 + 2) m1) fun _ m2 => zbind (f_X11_copyRow (t1 + 3) (t0 + 3) m2) fun _ m3 => zbind (f_X11_copyRow (t1 + 4) (t0 + 4) m3) fun _ m4 => pipe (zup m4 t0 4 (m4 t1 4)) fun m6 => pipe (zup m6 t0 5 (m6 t1 5)) fun m8 => pipe (zup m8 t0 6 (m8 t1 6)) fun m10 => pipe (zup m10 t0 7 (m10 t1 7)) fun m12 => pipe (zup m12 t0 8 (m12 t1 8)) fun m14 => some (0, m14)
set_option maxHeartbeats 4000000 in
theorem M_X7_copyFrom (l : Launch) (Γ : zG) (F : zFull Γ)  {t0 : Nat} {t1 : Nat} (h_t0 : zk t0 7) (h_t1 : zk t1 7) (mem : zMem) (q : Int × zMem) (h : f_X7_copyFrom t0 t1 mem = some q) : zMet l yX7_copyFrom cX7_copyFrom 2 none 3 Γ 0 [.ref (zad Γ t0), .ref (zad Γ t1)] mem q := by
  refine zMet_of (own := "ShadowHeirs$Scene") (by decide) rfl (Nat.le_of_ble_eq_true rfl) (fun X C Z => ?_)
  revert h
  show zJ X Γ 2 q (f_X7_copyFrom t0 t1 mem) 0 [(0, .ref (zad Γ t0)), (1, .ref (zad Γ t1))] [] mem
  unfold f_X7_copyFrom
  refine zj_aload_n (j := 1) (i := 1) C rfl 1 rfl dX7_copyFrom_0 ?_
  refine zj_getR C F h_t1 fl_X7_9 rfl (rfo_7_0 h_t1) dX7_copyFrom_1 ?_
  refine zj_aload_n (j := 0) (i := 0) C rfl 0 rfl dX7_copyFrom_4 ?_
  refine zj_getR C F h_t0 fl_X7_9 rfl (rfo_7_0 h_t0) dX7_copyFrom_5 ?_
  refine zj_callSv C Z [.ref (zad Γ (t1 + 1)), .ref (zad Γ (t0 + 1))] [] cal_X11_copyRow sta_X11_copyRow ml_X7_40 rfl (by decide) (Nat.le_of_ble_eq_true rfl) rfl dX7_copyFrom_8 (fun q h => M_X11_copyRow l Γ F (zko_7_0 h_t1) (zko_7_0 h_t0) mem q h) (fun _ m1 _ => ?_)
  refine zj_aload_n (j := 1) (i := 1) C rfl 1 rfl dX7_copyFrom_11 ?_
  refine zj_getR C F h_t1 fl_X7_15 rfl (rfo_7_1 h_t1) dX7_copyFrom_12 ?_
  refine zj_aload_n (j := 0) (i := 0) C rfl 0 rfl dX7_copyFrom_15 ?_
  refine zj_getR C F h_t0 fl_X7_15 rfl (rfo_7_1 h_t0) dX7_copyFrom_16 ?_
  refine zj_callSv C Z [.ref (zad Γ (t1 + 2)), .ref (zad Γ (t0 + 2))] [] cal_X11_copyRow sta_X11_copyRow ml_X7_40 rfl (by decide) (Nat.le_of_ble_eq_true rfl) rfl dX7_copyFrom_19 (fun q h => M_X11_copyRow l Γ F (zko_7_1 h_t1) (zko_7_1 h_t0) m1 q h) (fun _ m2 _ => ?_)
  refine zj_aload_n (j := 1) (i := 1) C rfl 1 rfl dX7_copyFrom_22 ?_
  refine zj_getR C F h_t1 fl_X7_18 rfl (rfo_7_2 h_t1) dX7_copyFrom_23 ?_
  refine zj_aload_n (j := 0) (i := 0) C rfl 0 rfl dX7_copyFrom_26 ?_
  refine zj_getR C F h_t0 fl_X7_18 rfl (rfo_7_2 h_t0) dX7_copyFrom_27 ?_
  refine zj_callSv C Z [.ref (zad Γ (t1 + 3)), .ref (zad Γ (t0 + 3))] [] cal_X11_copyRow sta_X11_copyRow ml_X7_40 rfl (by decide) (Nat.le_of_ble_eq_true rfl) rfl dX7_copyFrom_30 (fun q h => M_X11_copyRow l Γ F (zko_7_2 h_t1) (zko_7_2 h_t0) m2 q h) (fun _ m3 _ => ?_)
  refine zj_aload_n (j := 1) (i := 1) C rfl 1 rfl dX7_copyFrom_33 ?_
  refine zj_getR C F h_t1 fl_X7_21 rfl (rfo_7_3 h_t1) dX7_copyFrom_34 ?_
  refine zj_aload_n (j := 0) (i := 0) C rfl 0 rfl dX7_copyFrom_37 ?_
  refine zj_getR C F h_t0 fl_X7_21 rfl (rfo_7_3 h_t0) dX7_copyFrom_38 ?_
  refine zj_callSv C Z [.ref (zad Γ (t1 + 4)), .ref (zad Γ (t0 + 4))] [] cal_X11_copyRow sta_X11_copyRow ml_X7_40 rfl (by decide) (Nat.le_of_ble_eq_true rfl) rfl dX7_copyFrom_41 (fun q h => M_X11_copyRow l Γ F (zko_7_3 h_t1) (zko_7_3 h_t0) m3 q h) (fun _ m4 _ => ?_)
  refine zj_aload_n (j := 0) (i := 0) C rfl 0 rfl dX7_copyFrom_44 ?_
  refine zj_aload_n (j := 1) (i := 1) C rfl 1 rfl dX7_copyFrom_45 ?_
  refine zj_getI C F 4 rfl h_t1 fl_X7_24 rfl dX7_copyFrom_46 (fun h5 => ?_)
  refine zj_putI C F 4 rfl h_t0 fl_X7_24 rfl fp_7_4 h5 dX7_copyFrom_49 ?_
  refine zj_pipeM (fun m6 e_m6 => ?_)
  refine zj_aload_n (j := 0) (i := 0) C rfl 0 rfl dX7_copyFrom_52 ?_
  refine zj_aload_n (j := 1) (i := 1) C rfl 1 rfl dX7_copyFrom_53 ?_
  refine zj_getI C F 5 rfl h_t1 fl_X7_28 rfl dX7_copyFrom_54 (fun h7 => ?_)
  refine zj_putI C F 5 rfl h_t0 fl_X7_28 rfl fp_7_5 h7 dX7_copyFrom_57 ?_
  refine zj_pipeM (fun m8 e_m8 => ?_)
  refine zj_aload_n (j := 0) (i := 0) C rfl 0 rfl dX7_copyFrom_60 ?_
  refine zj_aload_n (j := 1) (i := 1) C rfl 1 rfl dX7_copyFrom_61 ?_
  refine zj_getI C F 6 rfl h_t1 fl_X7_31 rfl dX7_copyFrom_62 (fun h9 => ?_)
  refine zj_putI C F 6 rfl h_t0 fl_X7_31 rfl fp_7_6 h9 dX7_copyFrom_65 ?_
  refine zj_pipeM (fun m10 e_m10 => ?_)
  refine zj_aload_n (j := 0) (i := 0) C rfl 0 rfl dX7_copyFrom_68 ?_
  refine zj_aload_n (j := 1) (i := 1) C rfl 1 rfl dX7_copyFrom_69 ?_
  refine zj_getI C F 7 rfl h_t1 fl_X7_34 rfl dX7_copyFrom_70 (fun h11 => ?_)
  refine zj_putI C F 7 rfl h_t0 fl_X7_34 rfl fp_7_7 h11 dX7_copyFrom_73 ?_
  refine zj_pipeM (fun m12 e_m12 => ?_)
  refine zj_aload_n (j := 0) (i := 0) C rfl 0 rfl dX7_copyFrom_76 ?_
  refine zj_aload_n (j := 1) (i := 1) C rfl 1 rfl dX7_copyFrom_77 ?_
  refine zj_getI C F 8 rfl h_t1 fl_X7_37 rfl dX7_copyFrom_78 (fun h13 => ?_)
  refine zj_putI C F 8 rfl h_t0 fl_X7_37 rfl fp_7_8 h13 dX7_copyFrom_81 ?_
  refine zj_pipeM (fun m14 e_m14 => ?_)
  exact zrt_v C Z dX7_copyFrom_84
noncomputable def f_X7_isBuried (t0 : Nat) (x1 : Int) (mem : zMem) : Option (Int × zMem) := if (zand (zshr (mem t0 4) x1) 1) = 1 then (some (1, mem)) else (some (0, mem))
set_option maxHeartbeats 4000000 in
theorem M_X7_isBuried (l : Launch) (Γ : zG) (F : zFull Γ)  {t0 : Nat} {x1 : Int} (h_t0 : zk t0 7) (h_x1 : ir x1) (mem : zMem) (q : Int × zMem) (h : f_X7_isBuried t0 x1 mem = some q) : zMet l yX7_isBuried cX7_isBuried 2 (some .boolean) 1 Γ 1 [.ref (zad Γ t0), .int (i32 x1)] mem q := by
  refine zMet_of (own := "ShadowHeirs$Scene") (by decide) rfl (Nat.le_of_ble_eq_true rfl) (fun X C Z => ?_)
  revert h
  show zJ X Γ 2 q (f_X7_isBuried t0 x1 mem) 0 [(0, .ref (zad Γ t0)), (1, .int (i32 x1))] [] mem
  unfold f_X7_isBuried
  refine zj_aload_n (j := 0) (i := 0) C rfl 0 rfl dX7_isBuried_0 ?_
  refine zj_getI C F 4 rfl h_t0 fl_X7_24 rfl dX7_isBuried_1 (fun h1 => ?_)
  refine zj_iload_n (j := 1) (i := 1) C rfl 1 rfl dX7_isBuried_4 ?_
  refine zj_ishr C dX7_isBuried_5 ?_
  refine zj_iconst C 1 dX7_isBuried_6 ?_
  refine zj_iand C dX7_isBuried_7 ?_
  refine zj_iconst C 1 dX7_isBuried_8 ?_
  refine zj_icmp_ne C 16 (ir_toInt _) irc_1 dX7_isBuried_9 rfl (fun c2 => ?_) (fun c2 => ?_)
  · refine zj_iconst C 1 dX7_isBuried_12 ?_
    refine zj_goto (tgt := 17) C dX7_isBuried_13 rfl ?_
    exact zrt_z C Z (Or.inr rfl) dX7_isBuried_17
  · refine zj_iconst C 0 dX7_isBuried_16 ?_
    exact zrt_z C Z (Or.inl rfl) dX7_isBuried_17
noncomputable def b_X7_allStones_0 (rec : Nat → Int → Int → zMem → Option (Int × zMem)) (r0 : Nat) (v1 : Int) (v2 : Int) (mem : zMem) : Option (Int × zMem) := if v2 ≥ 64 then (some (v1, mem)) else (if ix (r0 + 1) v2 then pipe (w32 (v1 + (mem (r0 + 1) v2))) fun y4 => rec r0 y4 (w32 (v2 + 1)) mem else none)
noncomputable def f_X7_allStones_0 : Nat → Nat → Int → Int → zMem → Option (Int × zMem) := zfuel (fun _ _ _ _ => none) (b_X7_allStones_0)
set_option maxHeartbeats 4000000 in
theorem L_X7_allStones_0 (l : Launch) {Γ : zG} (F : zFull Γ) {X : zM} {q : Int × zMem} (C : zC X Γ "ShadowHeirs$Scene" cX7_allStones 3) (Z : zRt X l Γ 1 1 (some .int) q) : ∀ n : Nat, ∀ (r0 : Nat) (v1 : Int) (v2 : Int) (h_r0 : zk r0 7) (h_v1 : ir v1) (h_v2 : ir v2) (mem : zMem), zJ X Γ 3 q (f_X7_allStones_0 n r0 v1 v2 mem) 4 [(0, .ref (zad Γ r0)), (1, .int (i32 v1)), (2, .int (i32 v2))] [] mem := by
  intro n
  induction n with
  | zero => intros; exact zj_none
  | succ n ih =>
    intro r0 v1 v2 h_r0 h_v1 h_v2 mem
    show zJ X Γ 3 q (b_X7_allStones_0 (f_X7_allStones_0 n) r0 v1 v2 mem) _ _ _ _
    unfold b_X7_allStones_0
    refine zj_iload_n (j := 2) (i := 2) C rfl 2 rfl dX7_allStones_4 ?_
    refine zj_aload_n (j := 0) (i := 0) C rfl 0 rfl dX7_allStones_5 ?_
    refine zj_getR C F h_r0 fl_X7_9 rfl (rfo_7_0 h_r0) dX7_allStones_6 ?_
    refine zj_alen C F 64 (zko_7_0 h_r0) (Or.inl rfl) (leno_7_0 h_r0) dX7_allStones_9 ?_
    refine zj_icmp_ge C 28 h_v2 irc_64 dX7_allStones_10 rfl (fun c1 => ?_) (fun c1 => ?_)
    · refine zj_iload_n (j := 1) (i := 1) C rfl 1 rfl dX7_allStones_28 ?_
      exact zrt_i C Z h_v1 dX7_allStones_29
    · refine zj_iload_n (j := 1) (i := 1) C rfl 1 rfl dX7_allStones_13 ?_
      refine zj_aload_n (j := 0) (i := 0) C rfl 0 rfl dX7_allStones_14 ?_
      refine zj_getR C F h_r0 fl_X7_9 rfl (rfo_7_0 h_r0) dX7_allStones_15 ?_
      refine zj_iload_n (j := 2) (i := 2) C rfl 2 rfl dX7_allStones_18 ?_
      refine zj_iaload C F (zko_7_0 h_r0) h_v2 dX7_allStones_19 (fun c2 h3 => ?_)
      refine zj_iadd C dX7_allStones_20 ?_
      refine zj_pipeI (fun y4 e_y4 => ?_)
      have h_y4 := ir_eq e_y4 (ir_w _)
      refine zj_istore_n (j := 1) (i := 1) C rfl [(1, .int (i32 y4)), (0, .ref (zad Γ r0)), (2, .int (i32 v2))] dX7_allStones_21 (by decide) rfl ?_
      refine zj_iinc C 2 [(2, .int (i32 (w32 (v2 + 1)))), (1, .int (i32 y4)), (0, .ref (zad Γ r0))] rfl dX7_allStones_22 (by decide) rfl ?_
      refine zj_goto (tgt := 4) C dX7_allStones_25 rfl ?_
      exact zj_sub [2, 1, 0] rfl (ih r0 y4 (w32 (v2 + 1)) h_r0 h_y4 (ir_w _) mem)
noncomputable def f_X7_allStones (t0 : Nat) (mem : zMem) : Option (Int × zMem) := f_X7_allStones_0 zN t0 0 0 mem
set_option maxHeartbeats 4000000 in
theorem M_X7_allStones (l : Launch) (Γ : zG) (F : zFull Γ)  {t0 : Nat} (h_t0 : zk t0 7) (mem : zMem) (q : Int × zMem) (h : f_X7_allStones t0 mem = some q) : zMet l yX7_allStones cX7_allStones 3 (some .int) 1 Γ 1 [.ref (zad Γ t0)] mem q := by
  refine zMet_of (own := "ShadowHeirs$Scene") (by decide) rfl (Nat.le_of_ble_eq_true rfl) (fun X C Z => ?_)
  revert h
  show zJ X Γ 3 q (f_X7_allStones t0 mem) 0 [(0, .ref (zad Γ t0))] [] mem
  unfold f_X7_allStones
  refine zj_iconst C 0 dX7_allStones_0 ?_
  refine zj_istore_n (j := 1) (i := 1) C rfl [(1, .int (i32 0)), (0, .ref (zad Γ t0))] dX7_allStones_1 (by decide) rfl ?_
  refine zj_iconst C 0 dX7_allStones_2 ?_
  refine zj_istore_n (j := 2) (i := 2) C rfl [(2, .int (i32 0)), (1, .int (i32 0)), (0, .ref (zad Γ t0))] dX7_allStones_3 (by decide) rfl ?_
  exact zj_sub [2, 1, 0] rfl ((L_X7_allStones_0 l F C Z zN) t0 0 0 h_t0 irc_0 irc_0 mem)
noncomputable def b_X7_allWealth_0 (rec : Nat → Int → Int → zMem → Option (Int × zMem)) (r0 : Nat) (v1 : Int) (v2 : Int) (mem : zMem) : Option (Int × zMem) := if v2 ≥ 6 then (some (v1, mem)) else (if ix (r0 + 3) v2 then pipe (w32 (v1 + (mem (r0 + 3) v2))) fun y4 => rec r0 y4 (w32 (v2 + 1)) mem else none)
noncomputable def f_X7_allWealth_0 : Nat → Nat → Int → Int → zMem → Option (Int × zMem) := zfuel (fun _ _ _ _ => none) (b_X7_allWealth_0)
set_option maxHeartbeats 4000000 in
theorem L_X7_allWealth_0 (l : Launch) {Γ : zG} (F : zFull Γ) {X : zM} {q : Int × zMem} (C : zC X Γ "ShadowHeirs$Scene" cX7_allWealth 3) (Z : zRt X l Γ 1 1 (some .int) q) : ∀ n : Nat, ∀ (r0 : Nat) (v1 : Int) (v2 : Int) (h_r0 : zk r0 7) (h_v1 : ir v1) (h_v2 : ir v2) (mem : zMem), zJ X Γ 3 q (f_X7_allWealth_0 n r0 v1 v2 mem) 4 [(0, .ref (zad Γ r0)), (1, .int (i32 v1)), (2, .int (i32 v2))] [] mem := by
  intro n
  induction n with
  | zero => intros; exact zj_none
  | succ n ih =>
    intro r0 v1 v2 h_r0 h_v1 h_v2 mem
    show zJ X Γ 3 q (b_X7_allWealth_0 (f_X7_allWealth_0 n) r0 v1 v2 mem) _ _ _ _
    unfold b_X7_allWealth_0
    refine zj_iload_n (j := 2) (i := 2) C rfl 2 rfl dX7_allWealth_4 ?_
    refine zj_aload_n (j := 0) (i := 0) C rfl 0 rfl dX7_allWealth_5 ?_
    refine zj_getR C F h_r0 fl_X7_18 rfl (rfo_7_2 h_r0) dX7_allWealth_6 ?_
    refine zj_alen C F 6 (zko_7_2 h_r0) (Or.inl rfl) (leno_7_2 h_r0) dX7_allWealth_9 ?_
    refine zj_icmp_ge C 28 h_v2 irc_6 dX7_allWealth_10 rfl (fun c1 => ?_) (fun c1 => ?_)
    · refine zj_iload_n (j := 1) (i := 1) C rfl 1 rfl dX7_allWealth_28 ?_
      exact zrt_i C Z h_v1 dX7_allWealth_29
    · refine zj_iload_n (j := 1) (i := 1) C rfl 1 rfl dX7_allWealth_13 ?_
      refine zj_aload_n (j := 0) (i := 0) C rfl 0 rfl dX7_allWealth_14 ?_
      refine zj_getR C F h_r0 fl_X7_18 rfl (rfo_7_2 h_r0) dX7_allWealth_15 ?_
      refine zj_iload_n (j := 2) (i := 2) C rfl 2 rfl dX7_allWealth_18 ?_
      refine zj_iaload C F (zko_7_2 h_r0) h_v2 dX7_allWealth_19 (fun c2 h3 => ?_)
      refine zj_iadd C dX7_allWealth_20 ?_
      refine zj_pipeI (fun y4 e_y4 => ?_)
      have h_y4 := ir_eq e_y4 (ir_w _)
      refine zj_istore_n (j := 1) (i := 1) C rfl [(1, .int (i32 y4)), (0, .ref (zad Γ r0)), (2, .int (i32 v2))] dX7_allWealth_21 (by decide) rfl ?_
      refine zj_iinc C 2 [(2, .int (i32 (w32 (v2 + 1)))), (1, .int (i32 y4)), (0, .ref (zad Γ r0))] rfl dX7_allWealth_22 (by decide) rfl ?_
      refine zj_goto (tgt := 4) C dX7_allWealth_25 rfl ?_
      exact zj_sub [2, 1, 0] rfl (ih r0 y4 (w32 (v2 + 1)) h_r0 h_y4 (ir_w _) mem)
noncomputable def f_X7_allWealth (t0 : Nat) (mem : zMem) : Option (Int × zMem) := f_X7_allWealth_0 zN t0 0 0 mem
set_option maxHeartbeats 4000000 in
theorem M_X7_allWealth (l : Launch) (Γ : zG) (F : zFull Γ)  {t0 : Nat} (h_t0 : zk t0 7) (mem : zMem) (q : Int × zMem) (h : f_X7_allWealth t0 mem = some q) : zMet l yX7_allWealth cX7_allWealth 3 (some .int) 1 Γ 1 [.ref (zad Γ t0)] mem q := by
  refine zMet_of (own := "ShadowHeirs$Scene") (by decide) rfl (Nat.le_of_ble_eq_true rfl) (fun X C Z => ?_)
  revert h
  show zJ X Γ 3 q (f_X7_allWealth t0 mem) 0 [(0, .ref (zad Γ t0))] [] mem
  unfold f_X7_allWealth
  refine zj_iconst C 0 dX7_allWealth_0 ?_
  refine zj_istore_n (j := 1) (i := 1) C rfl [(1, .int (i32 0)), (0, .ref (zad Γ t0))] dX7_allWealth_1 (by decide) rfl ?_
  refine zj_iconst C 0 dX7_allWealth_2 ?_
  refine zj_istore_n (j := 2) (i := 2) C rfl [(2, .int (i32 0)), (1, .int (i32 0)), (0, .ref (zad Γ t0))] dX7_allWealth_3 (by decide) rfl ?_
  exact zj_sub [2, 1, 0] rfl ((L_X7_allWealth_0 l F C Z zN) t0 0 0 h_t0 irc_0 irc_0 mem)
noncomputable def f_X8_clear (t0 : Nat) (mem : zMem) : Option (Int × zMem) := pipe (zup mem t0 3 0) fun m1 => pipe (zup m1 t0 4 0) fun m2 => some (0, m2)
set_option maxHeartbeats 4000000 in
theorem M_X8_clear (l : Launch) (Γ : zG) (F : zFull Γ)  {t0 : Nat} (h_t0 : zk t0 8) (mem : zMem) (q : Int × zMem) (h : f_X8_clear t0 mem = some q) : zMet l yX8_clear cX8_clear 1 none 1 Γ 0 [.ref (zad Γ t0)] mem q := by
  refine zMet_of (own := "ShadowHeirs$Sentence") (by decide) rfl (Nat.le_of_ble_eq_true rfl) (fun X C Z => ?_)
  revert h
  show zJ X Γ 1 q (f_X8_clear t0 mem) 0 [(0, .ref (zad Γ t0))] [] mem
  unfold f_X8_clear
  refine zj_aload_n (j := 0) (i := 0) C rfl 0 rfl dX8_clear_0 ?_
  refine zj_iconst C 0 dX8_clear_1 ?_
  refine zj_putI C F 3 rfl h_t0 fl_X8_21 rfl fp_8_3 irc_0 dX8_clear_2 ?_
  refine zj_pipeM (fun m1 e_m1 => ?_)
  refine zj_aload_n (j := 0) (i := 0) C rfl 0 rfl dX8_clear_5 ?_
  refine zj_iconst C 0 dX8_clear_6 ?_
  refine zj_putI C F 4 rfl h_t0 fl_X8_25 rfl fp_8_4 irc_0 dX8_clear_7 ?_
  refine zj_pipeM (fun m2 e_m2 => ?_)
  exact zrt_v C Z dX8_clear_10
noncomputable def f_X8_copyFrom (t0 : Nat) (t1 : Nat) (mem : zMem) : Option (Int × zMem) := zbind (f_X11_copyRow (t1 + 1) (t0 + 1) mem) fun _ m1 => zbind (f_X11_copyRow (t1 + 2) (t0 + 2) m1) fun _ m2 => pipe (zup m2 t0 3 (m2 t1 3)) fun m4 => pipe (zup m4 t0 4 (m4 t1 4)) fun m6 => some (0, m6)
set_option maxHeartbeats 4000000 in
theorem M_X8_copyFrom (l : Launch) (Γ : zG) (F : zFull Γ)  {t0 : Nat} {t1 : Nat} (h_t0 : zk t0 8) (h_t1 : zk t1 8) (mem : zMem) (q : Int × zMem) (h : f_X8_copyFrom t0 t1 mem = some q) : zMet l yX8_copyFrom cX8_copyFrom 2 none 3 Γ 0 [.ref (zad Γ t0), .ref (zad Γ t1)] mem q := by
  refine zMet_of (own := "ShadowHeirs$Sentence") (by decide) rfl (Nat.le_of_ble_eq_true rfl) (fun X C Z => ?_)
  revert h
  show zJ X Γ 2 q (f_X8_copyFrom t0 t1 mem) 0 [(0, .ref (zad Γ t0)), (1, .ref (zad Γ t1))] [] mem
  unfold f_X8_copyFrom
  refine zj_aload_n (j := 1) (i := 1) C rfl 1 rfl dX8_copyFrom_0 ?_
  refine zj_getR C F h_t1 fl_X8_11 rfl (rfo_8_0 h_t1) dX8_copyFrom_1 ?_
  refine zj_aload_n (j := 0) (i := 0) C rfl 0 rfl dX8_copyFrom_4 ?_
  refine zj_getR C F h_t0 fl_X8_11 rfl (rfo_8_0 h_t0) dX8_copyFrom_5 ?_
  refine zj_callSv C Z [.ref (zad Γ (t1 + 1)), .ref (zad Γ (t0 + 1))] [] cal_X11_copyRow sta_X11_copyRow ml_X8_28 rfl (by decide) (Nat.le_of_ble_eq_true rfl) rfl dX8_copyFrom_8 (fun q h => M_X11_copyRow l Γ F (zko_8_0 h_t1) (zko_8_0 h_t0) mem q h) (fun _ m1 _ => ?_)
  refine zj_aload_n (j := 1) (i := 1) C rfl 1 rfl dX8_copyFrom_11 ?_
  refine zj_getR C F h_t1 fl_X8_15 rfl (rfo_8_1 h_t1) dX8_copyFrom_12 ?_
  refine zj_aload_n (j := 0) (i := 0) C rfl 0 rfl dX8_copyFrom_15 ?_
  refine zj_getR C F h_t0 fl_X8_15 rfl (rfo_8_1 h_t0) dX8_copyFrom_16 ?_
  refine zj_callSv C Z [.ref (zad Γ (t1 + 2)), .ref (zad Γ (t0 + 2))] [] cal_X11_copyRow sta_X11_copyRow ml_X8_28 rfl (by decide) (Nat.le_of_ble_eq_true rfl) rfl dX8_copyFrom_19 (fun q h => M_X11_copyRow l Γ F (zko_8_1 h_t1) (zko_8_1 h_t0) m1 q h) (fun _ m2 _ => ?_)
  refine zj_aload_n (j := 0) (i := 0) C rfl 0 rfl dX8_copyFrom_22 ?_
  refine zj_aload_n (j := 1) (i := 1) C rfl 1 rfl dX8_copyFrom_23 ?_
  refine zj_getI C F 3 rfl h_t1 fl_X8_21 rfl dX8_copyFrom_24 (fun h3 => ?_)
  refine zj_putI C F 3 rfl h_t0 fl_X8_21 rfl fp_8_3 h3 dX8_copyFrom_27 ?_
  refine zj_pipeM (fun m4 e_m4 => ?_)
  refine zj_aload_n (j := 0) (i := 0) C rfl 0 rfl dX8_copyFrom_30 ?_
  refine zj_aload_n (j := 1) (i := 1) C rfl 1 rfl dX8_copyFrom_31 ?_
  refine zj_getI C F 4 rfl h_t1 fl_X8_25 rfl dX8_copyFrom_32 (fun h5 => ?_)
  refine zj_putI C F 4 rfl h_t0 fl_X8_25 rfl fp_8_4 h5 dX8_copyFrom_35 ?_
  refine zj_pipeM (fun m6 e_m6 => ?_)
  exact zrt_v C Z dX8_copyFrom_38
noncomputable def f_X8_add (t0 : Nat) (x1 : Int) (x2 : Int) (mem : zMem) : Option (Int × zMem) := if (mem t0 3) ≥ 40 then (some (0, mem)) else (if (mem t0 3) ≥ 40 then (some (0, mem)) else (if ix (t0 + 1) (mem t0 3) then pipe (zup mem (t0 + 1) (mem t0 3) x1) fun m7 => if ix (t0 + 2) (m7 t0 3) then pipe (zup m7 (t0 + 2) (m7 t0 3) x2) fun m10 => pipe (zup m10 t0 3 (w32 ((m10 t0 3) + 1))) fun m12 => some (0, m12) else none else none))
set_option maxHeartbeats 4000000 in
theorem M_X8_add (l : Launch) (Γ : zG) (F : zFull Γ)  {t0 : Nat} {x1 : Int} {x2 : Int} (h_t0 : zk t0 8) (h_x1 : ir x1) (h_x2 : ir x2) (mem : zMem) (q : Int × zMem) (h : f_X8_add t0 x1 x2 mem = some q) : zMet l yX8_add cX8_add 3 none 1 Γ 0 [.ref (zad Γ t0), .int (i32 x1), .int (i32 x2)] mem q := by
  refine zMet_of (own := "ShadowHeirs$Sentence") (by decide) rfl (Nat.le_of_ble_eq_true rfl) (fun X C Z => ?_)
  revert h
  show zJ X Γ 3 q (f_X8_add t0 x1 x2 mem) 0 [(0, .ref (zad Γ t0)), (1, .int (i32 x1)), (2, .int (i32 x2))] [] mem
  unfold f_X8_add
  refine zj_aload_n (j := 0) (i := 0) C rfl 0 rfl dX8_add_0 ?_
  refine zj_getI C F 3 rfl h_t0 fl_X8_21 rfl dX8_add_1 (fun h1 => ?_)
  refine zj_aload_n (j := 0) (i := 0) C rfl 0 rfl dX8_add_4 ?_
  refine zj_getR C F h_t0 fl_X8_11 rfl (rfo_8_0 h_t0) dX8_add_5 ?_
  refine zj_alen C F 40 (zko_8_0 h_t0) (Or.inl rfl) (leno_8_0 h_t0) dX8_add_8 ?_
  refine zj_icmp_ge C 54 h1 irc_40 dX8_add_9 rfl (fun c2 => ?_) (fun c2 => ?_)
  · exact zrt_v C Z dX8_add_54
  · refine zj_aload_n (j := 0) (i := 0) C rfl 0 rfl dX8_add_12 ?_
    refine zj_getI C F 3 rfl h_t0 fl_X8_21 rfl dX8_add_13 (fun h3 => ?_)
    refine zj_aload_n (j := 0) (i := 0) C rfl 0 rfl dX8_add_16 ?_
    refine zj_getR C F h_t0 fl_X8_15 rfl (rfo_8_1 h_t0) dX8_add_17 ?_
    refine zj_alen C F 40 (zko_8_1 h_t0) (Or.inl rfl) (leno_8_1 h_t0) dX8_add_20 ?_
    refine zj_icmp_ge C 54 h3 irc_40 dX8_add_21 rfl (fun c4 => ?_) (fun c4 => ?_)
    · exact zrt_v C Z dX8_add_54
    · refine zj_aload_n (j := 0) (i := 0) C rfl 0 rfl dX8_add_24 ?_
      refine zj_getR C F h_t0 fl_X8_11 rfl (rfo_8_0 h_t0) dX8_add_25 ?_
      refine zj_aload_n (j := 0) (i := 0) C rfl 0 rfl dX8_add_28 ?_
      refine zj_getI C F 3 rfl h_t0 fl_X8_21 rfl dX8_add_29 (fun h5 => ?_)
      refine zj_iload_n (j := 1) (i := 1) C rfl 1 rfl dX8_add_32 ?_
      refine zj_iastore C F (zko_8_0 h_t0) h5 h_x1 dX8_add_33 (fun c6 => ?_)
      refine zj_pipeM (fun m7 e_m7 => ?_)
      refine zj_aload_n (j := 0) (i := 0) C rfl 0 rfl dX8_add_34 ?_
      refine zj_getR C F h_t0 fl_X8_15 rfl (rfo_8_1 h_t0) dX8_add_35 ?_
      refine zj_aload_n (j := 0) (i := 0) C rfl 0 rfl dX8_add_38 ?_
      refine zj_getI C F 3 rfl h_t0 fl_X8_21 rfl dX8_add_39 (fun h8 => ?_)
      refine zj_iload_n (j := 2) (i := 2) C rfl 2 rfl dX8_add_42 ?_
      refine zj_iastore C F (zko_8_1 h_t0) h8 h_x2 dX8_add_43 (fun c9 => ?_)
      refine zj_pipeM (fun m10 e_m10 => ?_)
      refine zj_aload_n (j := 0) (i := 0) C rfl 0 rfl dX8_add_44 ?_
      refine zj_dup C rfl dX8_add_45 ?_
      refine zj_getI C F 3 rfl h_t0 fl_X8_21 rfl dX8_add_46 (fun h11 => ?_)
      refine zj_iconst C 1 dX8_add_49 ?_
      refine zj_iadd C dX8_add_50 ?_
      refine zj_putI C F 3 rfl h_t0 fl_X8_21 rfl fp_8_3 (ir_w _) dX8_add_51 ?_
      refine zj_pipeM (fun m12 e_m12 => ?_)
      exact zrt_v C Z dX8_add_54
noncomputable def f_X8_numberOf (t0 : Nat) (x1 : Int) (x2 : Int) (mem : zMem) : Option (Int × zMem) := if (w32 (x1 - 20)) = 0 then (if ix ((sRf t0 1) + 3) x2 then some ((mem ((sRf t0 1) + 3) x2), mem) else none) else (if (w32 (x1 - 20)) = 1 then (if ix ((sRf t0 1) + 2) x2 then some ((zrem (mem ((sRf t0 1) + 2) x2) 8), mem) else none) else (if (w32 (x1 - 20)) = 2 then (if ix ((sRf t0 1) + 2) x2 then some ((zdiv (mem ((sRf t0 1) + 2) x2) 8), mem) else none) else (some (x2, mem))))
set_option maxHeartbeats 4000000 in
theorem M_X8_numberOf (l : Launch) (Γ : zG) (F : zFull Γ)  {t0 : Nat} {x1 : Int} {x2 : Int} (h_t0 : zk t0 3) (h_x1 : ir x1) (h_x2 : ir x2) (mem : zMem) (q : Int × zMem) (h : f_X8_numberOf t0 x1 x2 mem = some q) : zMet l yX8_numberOf cX8_numberOf 3 (some .int) 1 Γ 1 [.ref (zad Γ t0), .int (i32 x1), .int (i32 x2)] mem q := by
  refine zMet_of (own := "ShadowHeirs$Sentence") (by decide) rfl (Nat.le_of_ble_eq_true rfl) (fun X C Z => ?_)
  revert h
  show zJ X Γ 3 q (f_X8_numberOf t0 x1 x2 mem) 0 [(0, .ref (zad Γ t0)), (1, .int (i32 x1)), (2, .int (i32 x2))] [] mem
  unfold f_X8_numberOf
  refine zj_iload_n (j := 1) (i := 1) C rfl 1 rfl dX8_numberOf_0 ?_
  refine zj_bipush C 20 rfl dX8_numberOf_1 ?_
  refine zj_isub C dX8_numberOf_3 ?_
  refine zj_split (fun c1 => ?_) (fun c1 => ?_)
  · refine zj_tableIn (off := 28) C 0 32 (ir_w _) c1 dX8_numberOf_4 rfl rfl ?_
    refine zj_aload_n (j := 0) (i := 0) C rfl 0 rfl dX8_numberOf_32 ?_
    refine zj_getR C F h_t0 fl_X8_119 rfl rfl dX8_numberOf_33 ?_
    refine zj_getR C F (zt_3_1 h_t0) fl_X8_135 rfl (rfo_7_2 (zt_3_1 h_t0)) dX8_numberOf_36 ?_
    refine zj_iload_n (j := 2) (i := 2) C rfl 2 rfl dX8_numberOf_39 ?_
    refine zj_iaload C F (zko_7_2 (zt_3_1 h_t0)) h_x2 dX8_numberOf_40 (fun c2 h3 => ?_)
    exact zrt_i C Z h3 dX8_numberOf_41
  · refine zj_split (fun c4 => ?_) (fun c4 => ?_)
    · refine zj_tableIn (off := 38) C 1 42 (ir_w _) c4 dX8_numberOf_4 rfl rfl ?_
      refine zj_aload_n (j := 0) (i := 0) C rfl 0 rfl dX8_numberOf_42 ?_
      refine zj_getR C F h_t0 fl_X8_119 rfl rfl dX8_numberOf_43 ?_
      refine zj_getR C F (zt_3_1 h_t0) fl_X8_123 rfl (rfo_7_1 (zt_3_1 h_t0)) dX8_numberOf_46 ?_
      refine zj_iload_n (j := 2) (i := 2) C rfl 2 rfl dX8_numberOf_49 ?_
      refine zj_iaload C F (zko_7_1 (zt_3_1 h_t0)) h_x2 dX8_numberOf_50 (fun c5 h6 => ?_)
      refine zj_bipush C 8 rfl dX8_numberOf_51 ?_
      refine zj_iremc C (by decide) dX8_numberOf_53 ?_
      exact zrt_i C Z (ir_toInt _) dX8_numberOf_54
    · refine zj_split (fun c7 => ?_) (fun c7 => ?_)
      · refine zj_tableIn (off := 51) C 2 55 (ir_w _) c7 dX8_numberOf_4 rfl rfl ?_
        refine zj_aload_n (j := 0) (i := 0) C rfl 0 rfl dX8_numberOf_55 ?_
        refine zj_getR C F h_t0 fl_X8_119 rfl rfl dX8_numberOf_56 ?_
        refine zj_getR C F (zt_3_1 h_t0) fl_X8_123 rfl (rfo_7_1 (zt_3_1 h_t0)) dX8_numberOf_59 ?_
        refine zj_iload_n (j := 2) (i := 2) C rfl 2 rfl dX8_numberOf_62 ?_
        refine zj_iaload C F (zko_7_1 (zt_3_1 h_t0)) h_x2 dX8_numberOf_63 (fun c8 h9 => ?_)
        refine zj_bipush C 8 rfl dX8_numberOf_64 ?_
        refine zj_idivc C (by decide) dX8_numberOf_66 ?_
        exact zrt_i C Z (ir_toInt _) dX8_numberOf_67
      · refine zj_tableOut C 68 (ir_w _) dX8_numberOf_4 (by omega) rfl ?_
        refine zj_iload_n (j := 2) (i := 2) C rfl 2 rfl dX8_numberOf_68 ?_
        exact zrt_i C Z h_x2 dX8_numberOf_69
noncomputable def f_X8_isCompared (x0 : Int) (x1 : Int) (x2 : Int) (mem : zMem) : Option (Int × zMem) := if x1 = 0 then (if x0 ≥ x2 then (some (0, mem)) else (some (1, mem))) else (if x1 = 1 then (if x0 = x2 then (some (1, mem)) else (some (0, mem))) else (if x0 ≤ x2 then (some (0, mem)) else (some (1, mem))))
set_option maxHeartbeats 4000000 in
theorem M_X8_isCompared (l : Launch) (Γ : zG) (F : zFull Γ)  {x0 : Int} {x1 : Int} {x2 : Int} (h_x0 : ir x0) (h_x1 : ir x1) (h_x2 : ir x2) (mem : zMem) (q : Int × zMem) (h : f_X8_isCompared x0 x1 x2 mem = some q) : zMet l yX8_isCompared cX8_isCompared 3 (some .boolean) 1 Γ 1 [.int (i32 x0), .int (i32 x1), .int (i32 x2)] mem q := by
  refine zMet_of (own := "ShadowHeirs$Sentence") (by decide) rfl (Nat.le_of_ble_eq_true rfl) (fun X C Z => ?_)
  revert h
  show zJ X Γ 3 q (f_X8_isCompared x0 x1 x2 mem) 0 [(0, .int (i32 x0)), (1, .int (i32 x1)), (2, .int (i32 x2))] [] mem
  unfold f_X8_isCompared
  refine zj_iload_n (j := 1) (i := 1) C rfl 1 rfl dX8_isCompared_0 ?_
  refine zj_if_ne C 15 h_x1 dX8_isCompared_1 rfl (fun c1 => ?_) (fun c1 => ?_)
  · refine zj_iload_n (j := 0) (i := 0) C rfl 0 rfl dX8_isCompared_4 ?_
    refine zj_iload_n (j := 2) (i := 2) C rfl 2 rfl dX8_isCompared_5 ?_
    refine zj_icmp_ge C 13 h_x0 h_x2 dX8_isCompared_6 rfl (fun c2 => ?_) (fun c2 => ?_)
    · refine zj_iconst C 0 dX8_isCompared_13 ?_
      exact zrt_z C Z (Or.inl rfl) dX8_isCompared_14
    · refine zj_iconst C 1 dX8_isCompared_9 ?_
      refine zj_goto (tgt := 14) C dX8_isCompared_10 rfl ?_
      exact zrt_z C Z (Or.inr rfl) dX8_isCompared_14
  · refine zj_iload_n (j := 1) (i := 1) C rfl 1 rfl dX8_isCompared_15 ?_
    refine zj_iconst C 1 dX8_isCompared_16 ?_
    refine zj_icmp_ne C 33 h_x1 irc_1 dX8_isCompared_17 rfl (fun c3 => ?_) (fun c3 => ?_)
    · refine zj_iload_n (j := 0) (i := 0) C rfl 0 rfl dX8_isCompared_20 ?_
      refine zj_iload_n (j := 2) (i := 2) C rfl 2 rfl dX8_isCompared_21 ?_
      refine zj_icmp_ne C 29 h_x0 h_x2 dX8_isCompared_22 rfl (fun c4 => ?_) (fun c4 => ?_)
      · refine zj_iconst C 1 dX8_isCompared_25 ?_
        refine zj_goto (tgt := 43) C dX8_isCompared_26 rfl ?_
        exact zrt_z C Z (Or.inr rfl) dX8_isCompared_43
      · refine zj_iconst C 0 dX8_isCompared_29 ?_
        refine zj_goto (tgt := 43) C dX8_isCompared_30 rfl ?_
        exact zrt_z C Z (Or.inl rfl) dX8_isCompared_43
    · refine zj_iload_n (j := 0) (i := 0) C rfl 0 rfl dX8_isCompared_33 ?_
      refine zj_iload_n (j := 2) (i := 2) C rfl 2 rfl dX8_isCompared_34 ?_
      refine zj_icmp_le C 42 h_x0 h_x2 dX8_isCompared_35 rfl (fun c5 => ?_) (fun c5 => ?_)
      · refine zj_iconst C 0 dX8_isCompared_42 ?_
        exact zrt_z C Z (Or.inl rfl) dX8_isCompared_43
      · refine zj_iconst C 1 dX8_isCompared_38 ?_
        refine zj_goto (tgt := 43) C dX8_isCompared_39 rfl ?_
        exact zrt_z C Z (Or.inr rfl) dX8_isCompared_43
noncomputable def f_X9_byteOn (x0 : Int) (mem : zMem) : Option (Int × zMem) := if x0 < 0 then (some ((-1), mem)) else (if x0 ≥ (mem 102 1) then (some ((-1), mem)) else (if x0 ≥ 40 then (some ((-1), mem)) else (if ix 103 x0 then some ((mem 103 x0), mem) else none)))
set_option maxHeartbeats 4000000 in
theorem M_X9_byteOn (l : Launch) (Γ : zG) (F : zFull Γ)  {x0 : Int} (h_x0 : ir x0) (mem : zMem) (q : Int × zMem) (h : f_X9_byteOn x0 mem = some q) : zMet l yX9_byteOn cX9_byteOn 2 (some .int) 1 Γ 1 [.ref (zad Γ 102), .int (i32 x0)] mem q := by
  refine zMet_of (own := "ShadowHeirs$Slip") (by decide) rfl (Nat.le_of_ble_eq_true rfl) (fun X C Z => ?_)
  revert h
  show zJ X Γ 2 q (f_X9_byteOn x0 mem) 0 [(0, .ref (zad Γ 102)), (1, .int (i32 x0))] [] mem
  unfold f_X9_byteOn
  refine zj_iload_n (j := 1) (i := 1) C rfl 1 rfl dX9_byteOn_0 ?_
  refine zj_if_lt C 30 h_x0 dX9_byteOn_1 rfl (fun c1 => ?_) (fun c1 => ?_)
  · refine zj_iconst C (-1) dX9_byteOn_30 ?_
    exact zrt_i C Z irc_m1 dX9_byteOn_31
  · refine zj_iload_n (j := 1) (i := 1) C rfl 1 rfl dX9_byteOn_4 ?_
    refine zj_aload_n (j := 0) (i := 0) C rfl 0 rfl dX9_byteOn_5 ?_
    refine zj_getI C F 1 rfl zk_102 fl_X9_15 rfl dX9_byteOn_6 (fun h2 => ?_)
    refine zj_icmp_ge C 30 h_x0 h2 dX9_byteOn_9 rfl (fun c3 => ?_) (fun c3 => ?_)
    · refine zj_iconst C (-1) dX9_byteOn_30 ?_
      exact zrt_i C Z irc_m1 dX9_byteOn_31
    · refine zj_iload_n (j := 1) (i := 1) C rfl 1 rfl dX9_byteOn_12 ?_
      refine zj_aload_n (j := 0) (i := 0) C rfl 0 rfl dX9_byteOn_13 ?_
      refine zj_getR C F zk_102 fl_X9_11 rfl rf_102_0 dX9_byteOn_14 ?_
      refine zj_alen C F 40 zk_103 (Or.inl rfl) len_103 dX9_byteOn_17 ?_
      refine zj_icmp_ge C 30 h_x0 irc_40 dX9_byteOn_18 rfl (fun c4 => ?_) (fun c4 => ?_)
      · refine zj_iconst C (-1) dX9_byteOn_30 ?_
        exact zrt_i C Z irc_m1 dX9_byteOn_31
      · refine zj_aload_n (j := 0) (i := 0) C rfl 0 rfl dX9_byteOn_21 ?_
        refine zj_getR C F zk_102 fl_X9_11 rfl rf_102_0 dX9_byteOn_22 ?_
        refine zj_iload_n (j := 1) (i := 1) C rfl 1 rfl dX9_byteOn_25 ?_
        refine zj_iaload C F zk_103 h_x0 dX9_byteOn_26 (fun c5 h6 => ?_)
        refine zj_goto (tgt := 31) C dX9_byteOn_27 rfl ?_
        exact zrt_i C Z h6 dX9_byteOn_31
noncomputable def f_X9_add (x0 : Int) (mem : zMem) : Option (Int × zMem) := if (mem 102 1) ≥ 40 then (some (0, mem)) else (if ix 103 (mem 102 1) then pipe (zup mem 103 (mem 102 1) x0) fun m5 => pipe (zup m5 102 1 (w32 ((m5 102 1) + 1))) fun m7 => some (0, m7) else none)
set_option maxHeartbeats 4000000 in
theorem M_X9_add (l : Launch) (Γ : zG) (F : zFull Γ)  {x0 : Int} (h_x0 : ir x0) (mem : zMem) (q : Int × zMem) (h : f_X9_add x0 mem = some q) : zMet l yX9_add cX9_add 2 none 1 Γ 0 [.ref (zad Γ 102), .int (i32 x0)] mem q := by
  refine zMet_of (own := "ShadowHeirs$Slip") (by decide) rfl (Nat.le_of_ble_eq_true rfl) (fun X C Z => ?_)
  revert h
  show zJ X Γ 2 q (f_X9_add x0 mem) 0 [(0, .ref (zad Γ 102)), (1, .int (i32 x0))] [] mem
  unfold f_X9_add
  refine zj_aload_n (j := 0) (i := 0) C rfl 0 rfl dX9_add_0 ?_
  refine zj_getI C F 1 rfl zk_102 fl_X9_15 rfl dX9_add_1 (fun h1 => ?_)
  refine zj_aload_n (j := 0) (i := 0) C rfl 0 rfl dX9_add_4 ?_
  refine zj_getR C F zk_102 fl_X9_11 rfl rf_102_0 dX9_add_5 ?_
  refine zj_alen C F 40 zk_103 (Or.inl rfl) len_103 dX9_add_8 ?_
  refine zj_icmp_ge C 32 h1 irc_40 dX9_add_9 rfl (fun c2 => ?_) (fun c2 => ?_)
  · exact zrt_v C Z dX9_add_32
  · refine zj_aload_n (j := 0) (i := 0) C rfl 0 rfl dX9_add_12 ?_
    refine zj_getR C F zk_102 fl_X9_11 rfl rf_102_0 dX9_add_13 ?_
    refine zj_aload_n (j := 0) (i := 0) C rfl 0 rfl dX9_add_16 ?_
    refine zj_getI C F 1 rfl zk_102 fl_X9_15 rfl dX9_add_17 (fun h3 => ?_)
    refine zj_iload_n (j := 1) (i := 1) C rfl 1 rfl dX9_add_20 ?_
    refine zj_iastore C F zk_103 h3 h_x0 dX9_add_21 (fun c4 => ?_)
    refine zj_pipeM (fun m5 e_m5 => ?_)
    refine zj_aload_n (j := 0) (i := 0) C rfl 0 rfl dX9_add_22 ?_
    refine zj_dup C rfl dX9_add_23 ?_
    refine zj_getI C F 1 rfl zk_102 fl_X9_15 rfl dX9_add_24 (fun h6 => ?_)
    refine zj_iconst C 1 dX9_add_27 ?_
    refine zj_iadd C dX9_add_28 ?_
    refine zj_putI C F 1 rfl zk_102 fl_X9_15 rfl fp_9_1 (ir_w _) dX9_add_29 ?_
    refine zj_pipeM (fun m7 e_m7 => ?_)
    exact zrt_v C Z dX9_add_32
noncomputable def b_X9_addName_0 (rec : Int → Int → zMem → Option (Int × zMem)) (w1 : Int) (v3 : Int) (mem : zMem) : Option (Int × zMem) := if v3 < 0 then (some (0, mem)) else (pipe (w32 (zandL (zshrL w1 v3) 31)) fun y2 => if y2 = 0 then (rec w1 (w32 (v3 + (-5))) mem) else (zbind (f_X9_add (w32 (96 + y2)) mem) fun _ m4 => rec w1 (w32 (v3 + (-5))) m4))
noncomputable def f_X9_addName_0 : Nat → Int → Int → zMem → Option (Int × zMem) := zfuel (fun _ _ _ => none) (b_X9_addName_0)
set_option maxHeartbeats 4000000 in
theorem L_X9_addName_0 (l : Launch) {Γ : zG} (F : zFull Γ) {X : zM} {q : Int × zMem} (C : zC X Γ "ShadowHeirs$Slip" cX9_addName 5) (Z : zRt X l Γ 2 0 none q) : ∀ n : Nat, ∀ (w1 : Int) (v3 : Int) (h_w1 : lr w1) (h_v3 : ir v3) (mem : zMem), zJ X Γ 5 q (f_X9_addName_0 n w1 v3 mem) 3 [(0, .ref (zad Γ 102)), (1, .long (i64 w1)), (3, .int (i32 v3))] [] mem := by
  intro n
  induction n with
  | zero => intros; exact zj_none
  | succ n ih =>
    intro w1 v3 h_w1 h_v3 mem
    show zJ X Γ 5 q (b_X9_addName_0 (f_X9_addName_0 n) w1 v3 mem) _ _ _ _
    unfold b_X9_addName_0
    refine zj_iload_n (j := 3) (i := 3) C rfl 2 rfl dX9_addName_3 ?_
    refine zj_if_lt C 37 h_v3 dX9_addName_4 rfl (fun c1 => ?_) (fun c1 => ?_)
    · exact zrt_v C Z dX9_addName_37
    · refine zj_lload_n (j := 1) (i := 1) C rfl 1 rfl dX9_addName_7 ?_
      refine zj_iload_n (j := 3) (i := 3) C rfl 2 rfl dX9_addName_8 ?_
      refine zj_lshr C dX9_addName_9 ?_
      refine zj_ldc2 C 31 kc_X9_86 dX9_addName_10 ?_
      refine zj_land C dX9_addName_13 ?_
      refine zj_l2i C (lr_toInt _) dX9_addName_14 ?_
      refine zj_pipeI (fun y2 e_y2 => ?_)
      have h_y2 := ir_eq e_y2 (ir_w _)
      refine zj_istore C [(4, .int (i32 y2)), (0, .ref (zad Γ 102)), (1, .long (i64 w1)), (3, .int (i32 v3))] dX9_addName_15 (by decide) rfl ?_
      refine zj_iload C 0 rfl dX9_addName_17 ?_
      refine zj_if_eq C 31 h_y2 dX9_addName_19 rfl (fun c3 => ?_) (fun c3 => ?_)
      · refine zj_iinc C 3 [(3, .int (i32 (w32 (v3 + (-5))))), (4, .int (i32 y2)), (0, .ref (zad Γ 102)), (1, .long (i64 w1))] rfl dX9_addName_31 (by decide) rfl ?_
        refine zj_goto (tgt := 3) C dX9_addName_34 rfl ?_
        exact zj_sub [2, 3, 0] rfl (ih w1 (w32 (v3 + (-5))) h_w1 (ir_w _) mem)
      · refine zj_aload_n (j := 0) (i := 0) C rfl 1 rfl dX9_addName_22 ?_
        refine zj_bipush C 96 rfl dX9_addName_23 ?_
        refine zj_iload C 0 rfl dX9_addName_25 ?_
        refine zj_iadd C dX9_addName_27 ?_
        refine zj_callVv C F Z [.int (i32 (w32 (96 + y2)))] [] cal_X9_add calv_X9_add ml_X9_83 zk_102 rfl rfl (by decide) (Nat.le_of_ble_eq_true rfl) rfl dX9_addName_28 (fun q h => M_X9_add l Γ F (ir_w _) mem q h) (fun _ m4 _ => ?_)
        refine zj_iinc C 3 [(3, .int (i32 (w32 (v3 + (-5))))), (4, .int (i32 y2)), (0, .ref (zad Γ 102)), (1, .long (i64 w1))] rfl dX9_addName_31 (by decide) rfl ?_
        refine zj_goto (tgt := 3) C dX9_addName_34 rfl ?_
        exact zj_sub [2, 3, 0] rfl (ih w1 (w32 (v3 + (-5))) h_w1 (ir_w _) m4)
noncomputable def f_X9_addName (x0 : Int) (mem : zMem) : Option (Int × zMem) := f_X9_addName_0 zN x0 30 mem
set_option maxHeartbeats 4000000 in
theorem M_X9_addName (l : Launch) (Γ : zG) (F : zFull Γ)  {x0 : Int} (h_x0 : lr x0) (mem : zMem) (q : Int × zMem) (h : f_X9_addName x0 mem = some q) : zMet l yX9_addName cX9_addName 5 none 2 Γ 0 [.ref (zad Γ 102), .long (i64 x0)] mem q := by
  refine zMet_of (own := "ShadowHeirs$Slip") (by decide) rfl (Nat.le_of_ble_eq_true rfl) (fun X C Z => ?_)
  revert h
  show zJ X Γ 5 q (f_X9_addName x0 mem) 0 [(0, .ref (zad Γ 102)), (1, .long (i64 x0))] [] mem
  unfold f_X9_addName
  refine zj_bipush C 30 rfl dX9_addName_0 ?_
  refine zj_istore_n (j := 3) (i := 3) C rfl [(3, .int (i32 30)), (0, .ref (zad Γ 102)), (1, .long (i64 x0))] dX9_addName_2 (by decide) rfl ?_
  exact zj_sub [1, 2, 0] rfl ((L_X9_addName_0 l F C Z zN) x0 30 h_x0 irc_30 mem)
noncomputable def b_X9_addNumber_0 (rec : Int → Int → zMem → Option (Int × zMem)) (v1 : Int) (v2 : Int) (mem : zMem) : Option (Int × zMem) := if v2 < 1 then (some (0, mem)) else (if v1 ≥ v2 then (if v2 = 0 then none else zbind (f_X9_add (w32 (48 + (zrem (zdiv v1 v2) 10))) mem) fun _ m4 => pipe (zdiv v2 10) fun y5 => rec v1 y5 m4) else (if v2 = 1 then (if v2 = 0 then none else zbind (f_X9_add (w32 (48 + (zrem (zdiv v1 v2) 10))) mem) fun _ m8 => pipe (zdiv v2 10) fun y9 => rec v1 y9 m8) else (pipe (zdiv v2 10) fun y10 => rec v1 y10 mem)))
noncomputable def f_X9_addNumber_0 : Nat → Int → Int → zMem → Option (Int × zMem) := zfuel (fun _ _ _ => none) (b_X9_addNumber_0)
set_option maxHeartbeats 4000000 in
theorem L_X9_addNumber_0 (l : Launch) {Γ : zG} (F : zFull Γ) {X : zM} {q : Int × zMem} (C : zC X Γ "ShadowHeirs$Slip" cX9_addNumber 3) (Z : zRt X l Γ 2 0 none q) : ∀ n : Nat, ∀ (v1 : Int) (v2 : Int) (h_v1 : ir v1) (h_v2 : ir v2) (mem : zMem), zJ X Γ 3 q (f_X9_addNumber_0 n v1 v2 mem) 3 [(0, .ref (zad Γ 102)), (1, .int (i32 v1)), (2, .int (i32 v2))] [] mem := by
  intro n
  induction n with
  | zero => intros; exact zj_none
  | succ n ih =>
    intro v1 v2 h_v1 h_v2 mem
    show zJ X Γ 3 q (b_X9_addNumber_0 (f_X9_addNumber_0 n) v1 v2 mem) _ _ _ _
    unfold b_X9_addNumber_0
    refine zj_iload_n (j := 2) (i := 2) C rfl 2 rfl dX9_addNumber_3 ?_
    refine zj_iconst C 1 dX9_addNumber_4 ?_
    refine zj_icmp_lt C 39 h_v2 irc_1 dX9_addNumber_5 rfl (fun c1 => ?_) (fun c1 => ?_)
    · exact zrt_v C Z dX9_addNumber_39
    · refine zj_iload_n (j := 1) (i := 1) C rfl 1 rfl dX9_addNumber_8 ?_
      refine zj_iload_n (j := 2) (i := 2) C rfl 2 rfl dX9_addNumber_9 ?_
      refine zj_icmp_ge C 18 h_v1 h_v2 dX9_addNumber_10 rfl (fun c2 => ?_) (fun c2 => ?_)
      · refine zj_aload_n (j := 0) (i := 0) C rfl 0 rfl dX9_addNumber_18 ?_
        refine zj_bipush C 48 rfl dX9_addNumber_19 ?_
        refine zj_iload_n (j := 1) (i := 1) C rfl 1 rfl dX9_addNumber_21 ?_
        refine zj_iload_n (j := 2) (i := 2) C rfl 2 rfl dX9_addNumber_22 ?_
        refine zj_idiv C h_v2 dX9_addNumber_23 (fun c3 => ?_)
        refine zj_bipush C 10 rfl dX9_addNumber_24 ?_
        refine zj_iremc C (by decide) dX9_addNumber_26 ?_
        refine zj_iadd C dX9_addNumber_27 ?_
        refine zj_callVv C F Z [.int (i32 (w32 (48 + (zrem (zdiv v1 v2) 10))))] [] cal_X9_add calv_X9_add ml_X9_83 zk_102 rfl rfl (by decide) (Nat.le_of_ble_eq_true rfl) rfl dX9_addNumber_28 (fun q h => M_X9_add l Γ F (ir_w _) mem q h) (fun _ m4 _ => ?_)
        refine zj_iload_n (j := 2) (i := 2) C rfl 2 rfl dX9_addNumber_31 ?_
        refine zj_bipush C 10 rfl dX9_addNumber_32 ?_
        refine zj_idivc C (by decide) dX9_addNumber_34 ?_
        refine zj_pipeI (fun y5 e_y5 => ?_)
        have h_y5 := ir_eq e_y5 (ir_toInt _)
        refine zj_istore_n (j := 2) (i := 2) C rfl [(2, .int (i32 y5)), (0, .ref (zad Γ 102)), (1, .int (i32 v1))] dX9_addNumber_35 (by decide) rfl ?_
        refine zj_goto (tgt := 3) C dX9_addNumber_36 rfl ?_
        exact zj_sub [1, 2, 0] rfl (ih v1 y5 h_v1 h_y5 m4)
      · refine zj_iload_n (j := 2) (i := 2) C rfl 2 rfl dX9_addNumber_13 ?_
        refine zj_iconst C 1 dX9_addNumber_14 ?_
        refine zj_icmp_ne C 31 h_v2 irc_1 dX9_addNumber_15 rfl (fun c6 => ?_) (fun c6 => ?_)
        · refine zj_aload_n (j := 0) (i := 0) C rfl 0 rfl dX9_addNumber_18 ?_
          refine zj_bipush C 48 rfl dX9_addNumber_19 ?_
          refine zj_iload_n (j := 1) (i := 1) C rfl 1 rfl dX9_addNumber_21 ?_
          refine zj_iload_n (j := 2) (i := 2) C rfl 2 rfl dX9_addNumber_22 ?_
          refine zj_idiv C h_v2 dX9_addNumber_23 (fun c7 => ?_)
          refine zj_bipush C 10 rfl dX9_addNumber_24 ?_
          refine zj_iremc C (by decide) dX9_addNumber_26 ?_
          refine zj_iadd C dX9_addNumber_27 ?_
          refine zj_callVv C F Z [.int (i32 (w32 (48 + (zrem (zdiv v1 v2) 10))))] [] cal_X9_add calv_X9_add ml_X9_83 zk_102 rfl rfl (by decide) (Nat.le_of_ble_eq_true rfl) rfl dX9_addNumber_28 (fun q h => M_X9_add l Γ F (ir_w _) mem q h) (fun _ m8 _ => ?_)
          refine zj_iload_n (j := 2) (i := 2) C rfl 2 rfl dX9_addNumber_31 ?_
          refine zj_bipush C 10 rfl dX9_addNumber_32 ?_
          refine zj_idivc C (by decide) dX9_addNumber_34 ?_
          refine zj_pipeI (fun y9 e_y9 => ?_)
          have h_y9 := ir_eq e_y9 (ir_toInt _)
          refine zj_istore_n (j := 2) (i := 2) C rfl [(2, .int (i32 y9)), (0, .ref (zad Γ 102)), (1, .int (i32 v1))] dX9_addNumber_35 (by decide) rfl ?_
          refine zj_goto (tgt := 3) C dX9_addNumber_36 rfl ?_
          exact zj_sub [1, 2, 0] rfl (ih v1 y9 h_v1 h_y9 m8)
        · refine zj_iload_n (j := 2) (i := 2) C rfl 2 rfl dX9_addNumber_31 ?_
          refine zj_bipush C 10 rfl dX9_addNumber_32 ?_
          refine zj_idivc C (by decide) dX9_addNumber_34 ?_
          refine zj_pipeI (fun y10 e_y10 => ?_)
          have h_y10 := ir_eq e_y10 (ir_toInt _)
          refine zj_istore_n (j := 2) (i := 2) C rfl [(2, .int (i32 y10)), (0, .ref (zad Γ 102)), (1, .int (i32 v1))] dX9_addNumber_35 (by decide) rfl ?_
          refine zj_goto (tgt := 3) C dX9_addNumber_36 rfl ?_
          exact zj_sub [1, 2, 0] rfl (ih v1 y10 h_v1 h_y10 mem)
noncomputable def f_X9_addNumber (x0 : Int) (mem : zMem) : Option (Int × zMem) := f_X9_addNumber_0 zN x0 100 mem
set_option maxHeartbeats 4000000 in
theorem M_X9_addNumber (l : Launch) (Γ : zG) (F : zFull Γ)  {x0 : Int} (h_x0 : ir x0) (mem : zMem) (q : Int × zMem) (h : f_X9_addNumber x0 mem = some q) : zMet l yX9_addNumber cX9_addNumber 3 none 2 Γ 0 [.ref (zad Γ 102), .int (i32 x0)] mem q := by
  refine zMet_of (own := "ShadowHeirs$Slip") (by decide) rfl (Nat.le_of_ble_eq_true rfl) (fun X C Z => ?_)
  revert h
  show zJ X Γ 3 q (f_X9_addNumber x0 mem) 0 [(0, .ref (zad Γ 102)), (1, .int (i32 x0))] [] mem
  unfold f_X9_addNumber
  refine zj_bipush C 100 rfl dX9_addNumber_0 ?_
  refine zj_istore_n (j := 2) (i := 2) C rfl [(2, .int (i32 100)), (0, .ref (zad Γ 102)), (1, .int (i32 x0))] dX9_addNumber_2 (by decide) rfl ?_
  exact zj_sub [1, 2, 0] rfl ((L_X9_addNumber_0 l F C Z zN) x0 100 h_x0 irc_100 mem)
noncomputable def b_X10_spread_0 (rec : Nat → Int → Int → Int → Int → zMem → Option (Int × zMem)) (tag : Nat) (v3 : Int) (v4 : Int) (v5 : Int) (v6 : Int) (mem : zMem) : Option (Int × zMem) := match tag with
  | 0 => if v4 ≥ v3 then (some (0, mem)) else (if v4 ≥ 64 then (some (0, mem)) else (if ix 99 v4 then pipe (mem 99 v4) fun y5 => rec 1 v3 v4 y5 0 mem else none))
  | _ => if v6 ≥ 4 then (rec 0 v3 (w32 (v4 + 1)) 0 0 mem) else (zbind (f_X5_spotFrom 4 v5 v6 1 mem) fun y1002 m1003 => if y1002 = (-1) then (rec 1 v3 v4 v5 (w32 (v6 + 1)) m1003) else (if ix 98 y1002 then if (m1003 98 y1002) = (-1) then (zbind (f_X3_heightAt 20 y1002 m1003) fun y1008 m1009 => if y1008 = 0 then (if v3 ≥ 64 then (rec 1 v3 v4 v5 (w32 (v6 + 1)) m1009) else (if ix 98 v5 then if ix 98 y1002 then pipe (zup m1009 98 y1002 (w32 ((m1009 98 v5) + 1))) fun m1015 => if ix 99 v3 then pipe (zup m1015 99 v3 y1002) fun m1017 => rec 1 (w32 (v3 + 1)) v4 v5 (w32 (v6 + 1)) m1017 else none else none else none)) else (rec 1 v3 v4 v5 (w32 (v6 + 1)) m1009)) else (rec 1 v3 v4 v5 (w32 (v6 + 1)) m1003) else none))
noncomputable def f_X10_spread_0 : Nat → Nat → Int → Int → Int → Int → zMem → Option (Int × zMem) := zfuel (fun _ _ _ _ _ _ => none) (b_X10_spread_0)
set_option maxHeartbeats 4000000 in
theorem L_X10_spread_0 (l : Launch) {Γ : zG} (F : zFull Γ) {X : zM} {q : Int × zMem} (C : zC X Γ "ShadowHeirs$Walk" cX10_spread 8) (Z : zRt X l Γ 2 0 none q) : ∀ n : Nat, (∀ (v3 : Int) (v4 : Int) (v5 : Int) (v6 : Int) (h_v3 : ir v3) (h_v4 : ir v4) (mem : zMem), zJ X Γ 8 q (f_X10_spread_0 n 0 v3 v4 v5 v6 mem) 85 [(0, .ref (zad Γ 97)), (3, .int (i32 v3)), (4, .int (i32 v4))] [] mem) ∧ (∀ (v3 : Int) (v4 : Int) (v5 : Int) (v6 : Int) (h_v3 : ir v3) (h_v4 : ir v4) (h_v5 : ir v5) (h_v6 : ir v6) (mem : zMem), zJ X Γ 8 q (f_X10_spread_0 n 1 v3 v4 v5 v6 mem) 110 [(0, .ref (zad Γ 97)), (3, .int (i32 v3)), (4, .int (i32 v4)), (5, .int (i32 v5)), (6, .int (i32 v6))] [] mem) := by
  intro n
  induction n with
  | zero => exact ⟨(by intros; exact zj_none), (by intros; exact zj_none)⟩
  | succ n ih =>
    refine ⟨?_, ?_⟩
    · intro v3 v4 v5 v6 h_v3 h_v4 mem
      show zJ X Γ 8 q (b_X10_spread_0 (f_X10_spread_0 n) 0 v3 v4 v5 v6 mem) _ _ _ _
      unfold b_X10_spread_0
      refine zj_iload C 2 rfl dX10_spread_85 ?_
      refine zj_iload_n (j := 3) (i := 3) C rfl 1 rfl dX10_spread_87 ?_
      refine zj_icmp_ge C 207 h_v4 h_v3 dX10_spread_88 rfl (fun c1 => ?_) (fun c1 => ?_)
      · exact zrt_v C Z dX10_spread_207
      · refine zj_iload C 2 rfl dX10_spread_91 ?_
        refine zj_bipush C 64 rfl dX10_spread_93 ?_
        refine zj_icmp_ge C 207 h_v4 irc_64 dX10_spread_95 rfl (fun c2 => ?_) (fun c2 => ?_)
        · exact zrt_v C Z dX10_spread_207
        · refine zj_aload_n (j := 0) (i := 0) C rfl 0 rfl dX10_spread_98 ?_
          refine zj_getR C F zk_97 fl_X10_15 rfl rf_97_2 dX10_spread_99 ?_
          refine zj_iload C 2 rfl dX10_spread_102 ?_
          refine zj_iaload C F zk_99 h_v4 dX10_spread_104 (fun c3 h4 => ?_)
          refine zj_pipeI (fun y5 e_y5 => ?_)
          have h_y5 := ir_eq e_y5 h4
          refine zj_istore C [(5, .int (i32 y5)), (0, .ref (zad Γ 97)), (3, .int (i32 v3)), (4, .int (i32 v4))] dX10_spread_105 (by decide) rfl ?_
          refine zj_iconst C 0 dX10_spread_107 ?_
          refine zj_istore C [(6, .int (i32 0)), (5, .int (i32 y5)), (0, .ref (zad Γ 97)), (3, .int (i32 v3)), (4, .int (i32 v4))] dX10_spread_108 (by decide) rfl ?_
          exact zj_sub [2, 3, 4, 1, 0] rfl (ih.2 v3 v4 y5 0 h_v3 h_v4 h_y5 irc_0 mem)
    · intro v3 v4 v5 v6 h_v3 h_v4 h_v5 h_v6 mem
      show zJ X Γ 8 q (b_X10_spread_0 (f_X10_spread_0 n) 1 v3 v4 v5 v6 mem) _ _ _ _
      unfold b_X10_spread_0
      refine zj_iload C 4 rfl dX10_spread_110 ?_
      refine zj_iconst C 4 dX10_spread_112 ?_
      refine zj_icmp_ge C 201 h_v6 irc_4 dX10_spread_113 rfl (fun c1001 => ?_) (fun c1001 => ?_)
      · refine zj_iinc C 2 [(4, .int (i32 (w32 (v4 + 1)))), (0, .ref (zad Γ 97)), (3, .int (i32 v3)), (5, .int (i32 v5)), (6, .int (i32 v6))] rfl dX10_spread_201 (by decide) rfl ?_
        refine zj_goto (tgt := 85) C dX10_spread_204 rfl ?_
        exact zj_sub [1, 2, 0] rfl (ih.1 v3 (w32 (v4 + 1)) 0 0 h_v3 (ir_w _) mem)
      · refine zj_aload_n (j := 0) (i := 0) C rfl 0 rfl dX10_spread_116 ?_
        refine zj_getR C F zk_97 fl_X10_22 rfl rf_97_0 dX10_spread_117 ?_
        refine zj_getR C F zk_20 fl_X10_26 rfl rf_20_0 dX10_spread_120 ?_
        refine zj_iload C 3 rfl dX10_spread_123 ?_
        refine zj_iload C 4 rfl dX10_spread_125 ?_
        refine zj_iconst C 1 dX10_spread_127 ?_
        refine zj_callVi C F Z [.int (i32 v5), .int (i32 v6), .int (i32 1)] [] cal_X5_spotFrom calv_X5_spotFrom ml_X10_47 zk_4 rfl rfl (by decide) (Nat.le_of_ble_eq_true rfl) rfl dX10_spread_128 (fun q h => M_X5_spotFrom l Γ F zk_4 h_v5 h_v6 irc_1 mem q h) (fun y1002 m1003 h_y1002 => ?_)
        refine zj_istore C [(7, .int (i32 y1002)), (0, .ref (zad Γ 97)), (3, .int (i32 v3)), (4, .int (i32 v4)), (5, .int (i32 v5)), (6, .int (i32 v6))] dX10_spread_131 (by decide) rfl ?_
        refine zj_iload C 0 rfl dX10_spread_133 ?_
        refine zj_iconst C (-1) dX10_spread_135 ?_
        refine zj_icmp_eq C 195 h_y1002 irc_m1 dX10_spread_136 rfl (fun c1004 => ?_) (fun c1004 => ?_)
        · refine zj_iinc C 5 [(6, .int (i32 (w32 (v6 + 1)))), (7, .int (i32 y1002)), (0, .ref (zad Γ 97)), (3, .int (i32 v3)), (4, .int (i32 v4)), (5, .int (i32 v5))] rfl dX10_spread_195 (by decide) rfl ?_
          refine zj_goto (tgt := 110) C dX10_spread_198 rfl ?_
          exact zj_sub [2, 3, 4, 5, 0] rfl (ih.2 v3 v4 v5 (w32 (v6 + 1)) h_v3 h_v4 h_v5 (ir_w _) m1003)
        · refine zj_aload_n (j := 0) (i := 0) C rfl 1 rfl dX10_spread_139 ?_
          refine zj_getR C F zk_97 fl_X10_9 rfl rf_97_1 dX10_spread_140 ?_
          refine zj_iload C 0 rfl dX10_spread_143 ?_
          refine zj_iaload C F zk_98 h_y1002 dX10_spread_145 (fun c1005 h1006 => ?_)
          refine zj_iconst C (-1) dX10_spread_146 ?_
          refine zj_icmp_ne C 195 h1006 irc_m1 dX10_spread_147 rfl (fun c1007 => ?_) (fun c1007 => ?_)
          · refine zj_aload_n (j := 0) (i := 0) C rfl 1 rfl dX10_spread_150 ?_
            refine zj_getR C F zk_97 fl_X10_22 rfl rf_97_0 dX10_spread_151 ?_
            refine zj_iload C 0 rfl dX10_spread_154 ?_
            refine zj_callVi C F Z [.int (i32 y1002)] [] cal_X3_heightAt calv_X3_heightAt ml_X10_51 zk_20 rfl rfl (by decide) (Nat.le_of_ble_eq_true rfl) rfl dX10_spread_156 (fun q h => M_X3_heightAt l Γ F zk_20 h_y1002 m1003 q h) (fun y1008 m1009 h_y1008 => ?_)
            refine zj_if_ne C 195 h_y1008 dX10_spread_159 rfl (fun c1010 => ?_) (fun c1010 => ?_)
            · refine zj_iload_n (j := 3) (i := 3) C rfl 2 rfl dX10_spread_162 ?_
              refine zj_bipush C 64 rfl dX10_spread_163 ?_
              refine zj_icmp_ge C 195 h_v3 irc_64 dX10_spread_165 rfl (fun c1011 => ?_) (fun c1011 => ?_)
              · refine zj_iinc C 5 [(6, .int (i32 (w32 (v6 + 1)))), (7, .int (i32 y1002)), (0, .ref (zad Γ 97)), (3, .int (i32 v3)), (4, .int (i32 v4)), (5, .int (i32 v5))] rfl dX10_spread_195 (by decide) rfl ?_
                refine zj_goto (tgt := 110) C dX10_spread_198 rfl ?_
                exact zj_sub [2, 3, 4, 5, 0] rfl (ih.2 v3 v4 v5 (w32 (v6 + 1)) h_v3 h_v4 h_v5 (ir_w _) m1009)
              · refine zj_aload_n (j := 0) (i := 0) C rfl 1 rfl dX10_spread_168 ?_
                refine zj_getR C F zk_97 fl_X10_9 rfl rf_97_1 dX10_spread_169 ?_
                refine zj_iload C 0 rfl dX10_spread_172 ?_
                refine zj_aload_n (j := 0) (i := 0) C rfl 1 rfl dX10_spread_174 ?_
                refine zj_getR C F zk_97 fl_X10_9 rfl rf_97_1 dX10_spread_175 ?_
                refine zj_iload C 4 rfl dX10_spread_178 ?_
                refine zj_iaload C F zk_98 h_v5 dX10_spread_180 (fun c1012 h1013 => ?_)
                refine zj_iconst C 1 dX10_spread_181 ?_
                refine zj_iadd C dX10_spread_182 ?_
                refine zj_iastore C F zk_98 h_y1002 (ir_w _) dX10_spread_183 (fun c1014 => ?_)
                refine zj_pipeM (fun m1015 e_m1015 => ?_)
                refine zj_aload_n (j := 0) (i := 0) C rfl 1 rfl dX10_spread_184 ?_
                refine zj_getR C F zk_97 fl_X10_15 rfl rf_97_2 dX10_spread_185 ?_
                refine zj_iload_n (j := 3) (i := 3) C rfl 2 rfl dX10_spread_188 ?_
                refine zj_iload C 0 rfl dX10_spread_189 ?_
                refine zj_iastore C F zk_99 h_v3 h_y1002 dX10_spread_191 (fun c1016 => ?_)
                refine zj_pipeM (fun m1017 e_m1017 => ?_)
                refine zj_iinc C 2 [(3, .int (i32 (w32 (v3 + 1)))), (7, .int (i32 y1002)), (0, .ref (zad Γ 97)), (4, .int (i32 v4)), (5, .int (i32 v5)), (6, .int (i32 v6))] rfl dX10_spread_192 (by decide) rfl ?_
                refine zj_iinc C 5 [(6, .int (i32 (w32 (v6 + 1)))), (3, .int (i32 (w32 (v3 + 1)))), (7, .int (i32 y1002)), (0, .ref (zad Γ 97)), (4, .int (i32 v4)), (5, .int (i32 v5))] rfl dX10_spread_195 (by decide) rfl ?_
                refine zj_goto (tgt := 110) C dX10_spread_198 rfl ?_
                exact zj_sub [3, 1, 4, 5, 0] rfl (ih.2 (w32 (v3 + 1)) v4 v5 (w32 (v6 + 1)) (ir_w _) h_v4 h_v5 (ir_w _) m1017)
            · refine zj_iinc C 5 [(6, .int (i32 (w32 (v6 + 1)))), (7, .int (i32 y1002)), (0, .ref (zad Γ 97)), (3, .int (i32 v3)), (4, .int (i32 v4)), (5, .int (i32 v5))] rfl dX10_spread_195 (by decide) rfl ?_
              refine zj_goto (tgt := 110) C dX10_spread_198 rfl ?_
              exact zj_sub [2, 3, 4, 5, 0] rfl (ih.2 v3 v4 v5 (w32 (v6 + 1)) h_v3 h_v4 h_v5 (ir_w _) m1009)
          · refine zj_iinc C 5 [(6, .int (i32 (w32 (v6 + 1)))), (7, .int (i32 y1002)), (0, .ref (zad Γ 97)), (3, .int (i32 v3)), (4, .int (i32 v4)), (5, .int (i32 v5))] rfl dX10_spread_195 (by decide) rfl ?_
            refine zj_goto (tgt := 110) C dX10_spread_198 rfl ?_
            exact zj_sub [2, 3, 4, 5, 0] rfl (ih.2 v3 v4 v5 (w32 (v6 + 1)) h_v3 h_v4 h_v5 (ir_w _) m1003)
noncomputable def b_X10_spread_1 (rec : Int → Int → zMem → Option (Int × zMem)) (v1 : Int) (v2 : Int) (mem : zMem) : Option (Int × zMem) := if v2 ≥ 64 then (zbind (f_X5_hasPerson 4 v1 mem) fun y2 m3 => if y2 = 0 then (some (0, m3)) else (if ix 13 v1 then pipe (m3 13 v1) fun y8 => if y8 < 0 then (some (0, m3)) else (if y8 < 64 then (if ix 98 y8 then pipe (zup m3 98 y8 0) fun m12 => if ix 99 0 then pipe (zup m12 99 0 y8) fun m14 => f_X10_spread_0 zN 0 1 0 0 0 m14 else none else none) else (some (0, m3))) else none)) else (if ix 98 v2 then pipe (zup mem 98 v2 (-1)) fun m16 => rec v1 (w32 (v2 + 1)) m16 else none)
noncomputable def f_X10_spread_1 : Nat → Int → Int → zMem → Option (Int × zMem) := zfuel (fun _ _ _ => none) (b_X10_spread_1)
set_option maxHeartbeats 4000000 in
theorem L_X10_spread_1 (l : Launch) {Γ : zG} (F : zFull Γ) {X : zM} {q : Int × zMem} (C : zC X Γ "ShadowHeirs$Walk" cX10_spread 8) (Z : zRt X l Γ 2 0 none q) : ∀ n : Nat, ∀ (v1 : Int) (v2 : Int) (h_v1 : ir v1) (h_v2 : ir v2) (mem : zMem), zJ X Γ 8 q (f_X10_spread_1 n v1 v2 mem) 2 [(0, .ref (zad Γ 97)), (1, .int (i32 v1)), (2, .int (i32 v2))] [] mem := by
  intro n
  induction n with
  | zero => intros; exact zj_none
  | succ n ih =>
    intro v1 v2 h_v1 h_v2 mem
    show zJ X Γ 8 q (b_X10_spread_1 (f_X10_spread_1 n) v1 v2 mem) _ _ _ _
    unfold b_X10_spread_1
    refine zj_iload_n (j := 2) (i := 2) C rfl 2 rfl dX10_spread_2 ?_
    refine zj_aload_n (j := 0) (i := 0) C rfl 0 rfl dX10_spread_3 ?_
    refine zj_getR C F zk_97 fl_X10_9 rfl rf_97_1 dX10_spread_4 ?_
    refine zj_alen C F 64 zk_98 (Or.inl rfl) len_98 dX10_spread_7 ?_
    refine zj_icmp_ge C 24 h_v2 irc_64 dX10_spread_8 rfl (fun c1 => ?_) (fun c1 => ?_)
    · refine zj_aload_n (j := 0) (i := 0) C rfl 0 rfl dX10_spread_24 ?_
      refine zj_getR C F zk_97 fl_X10_22 rfl rf_97_0 dX10_spread_25 ?_
      refine zj_getR C F zk_20 fl_X10_26 rfl rf_20_0 dX10_spread_28 ?_
      refine zj_iload_n (j := 1) (i := 1) C rfl 1 rfl dX10_spread_31 ?_
      refine zj_callVi C F Z [.int (i32 v1)] [] cal_X5_hasPerson calv_X5_hasPerson ml_X10_32 zk_4 rfl rfl (by decide) (Nat.le_of_ble_eq_true rfl) rfl dX10_spread_32 (fun q h => M_X5_hasPerson l Γ F zk_4 h_v1 mem q h) (fun y2 m3 h_y2 => ?_)
      refine zj_if_eq C 53 h_y2 dX10_spread_35 rfl (fun c4 => ?_) (fun c4 => ?_)
      · refine zj_iconst C (-1) dX10_spread_53 ?_
        refine zj_istore_n (j := 2) (i := 2) C rfl [(2, .int (i32 (-1))), (0, .ref (zad Γ 97)), (1, .int (i32 v1))] dX10_spread_54 (by decide) rfl ?_
        refine zj_iload_n (j := 2) (i := 2) C rfl 0 rfl dX10_spread_55 ?_
        refine zj_cpos (by decide) (zj_if_lt (B := none) C 65 irc_m1 dX10_spread_56 rfl (fun c5 => ?_) (fun _ => zj_none))
        exact zrt_v C Z dX10_spread_65
      · refine zj_aload_n (j := 0) (i := 0) C rfl 0 rfl dX10_spread_38 ?_
        refine zj_getR C F zk_97 fl_X10_22 rfl rf_97_0 dX10_spread_39 ?_
        refine zj_getR C F zk_20 fl_X10_38 rfl rf_20_1 dX10_spread_42 ?_
        refine zj_getR C F zk_11 fl_X10_42 rfl rf_11_1 dX10_spread_45 ?_
        refine zj_iload_n (j := 1) (i := 1) C rfl 1 rfl dX10_spread_48 ?_
        refine zj_iaload C F zk_13 h_v1 dX10_spread_49 (fun c6 h7 => ?_)
        refine zj_goto (tgt := 54) C dX10_spread_50 rfl ?_
        refine zj_pipeI (fun y8 e_y8 => ?_)
        have h_y8 := ir_eq e_y8 h7
        refine zj_istore_n (j := 2) (i := 2) C rfl [(2, .int (i32 y8)), (0, .ref (zad Γ 97)), (1, .int (i32 v1))] dX10_spread_54 (by decide) rfl ?_
        refine zj_iload_n (j := 2) (i := 2) C rfl 0 rfl dX10_spread_55 ?_
        refine zj_if_lt C 65 h_y8 dX10_spread_56 rfl (fun c9 => ?_) (fun c9 => ?_)
        · exact zrt_v C Z dX10_spread_65
        · refine zj_iload_n (j := 2) (i := 2) C rfl 0 rfl dX10_spread_59 ?_
          refine zj_bipush C 64 rfl dX10_spread_60 ?_
          refine zj_icmp_lt C 66 h_y8 irc_64 dX10_spread_62 rfl (fun c10 => ?_) (fun c10 => ?_)
          · refine zj_aload_n (j := 0) (i := 0) C rfl 1 rfl dX10_spread_66 ?_
            refine zj_getR C F zk_97 fl_X10_9 rfl rf_97_1 dX10_spread_67 ?_
            refine zj_iload_n (j := 2) (i := 2) C rfl 0 rfl dX10_spread_70 ?_
            refine zj_iconst C 0 dX10_spread_71 ?_
            refine zj_iastore C F zk_98 h_y8 irc_0 dX10_spread_72 (fun c11 => ?_)
            refine zj_pipeM (fun m12 e_m12 => ?_)
            refine zj_aload_n (j := 0) (i := 0) C rfl 1 rfl dX10_spread_73 ?_
            refine zj_getR C F zk_97 fl_X10_15 rfl rf_97_2 dX10_spread_74 ?_
            refine zj_iconst C 0 dX10_spread_77 ?_
            refine zj_iload_n (j := 2) (i := 2) C rfl 0 rfl dX10_spread_78 ?_
            refine zj_iastore C F zk_99 irc_0 h_y8 dX10_spread_79 (fun c13 => ?_)
            refine zj_pipeM (fun m14 e_m14 => ?_)
            refine zj_iconst C 1 dX10_spread_80 ?_
            refine zj_istore_n (j := 3) (i := 3) C rfl [(3, .int (i32 1)), (2, .int (i32 y8)), (0, .ref (zad Γ 97)), (1, .int (i32 v1))] dX10_spread_81 (by decide) rfl ?_
            refine zj_iconst C 0 dX10_spread_82 ?_
            refine zj_istore C [(4, .int (i32 0)), (3, .int (i32 1)), (2, .int (i32 y8)), (0, .ref (zad Γ 97)), (1, .int (i32 v1))] dX10_spread_83 (by decide) rfl ?_
            exact zj_sub [3, 1, 0] rfl ((L_X10_spread_0 l F C Z zN).1 1 0 0 0 irc_1 irc_0 m14)
          · exact zrt_v C Z dX10_spread_65
    · refine zj_aload_n (j := 0) (i := 0) C rfl 0 rfl dX10_spread_11 ?_
      refine zj_getR C F zk_97 fl_X10_9 rfl rf_97_1 dX10_spread_12 ?_
      refine zj_iload_n (j := 2) (i := 2) C rfl 2 rfl dX10_spread_15 ?_
      refine zj_iconst C (-1) dX10_spread_16 ?_
      refine zj_iastore C F zk_98 h_v2 irc_m1 dX10_spread_17 (fun c15 => ?_)
      refine zj_pipeM (fun m16 e_m16 => ?_)
      refine zj_iinc C 2 [(2, .int (i32 (w32 (v2 + 1)))), (0, .ref (zad Γ 97)), (1, .int (i32 v1))] rfl dX10_spread_18 (by decide) rfl ?_
      refine zj_goto (tgt := 2) C dX10_spread_21 rfl ?_
      exact zj_sub [1, 2, 0] rfl (ih v1 (w32 (v2 + 1)) h_v1 (ir_w _) m16)
noncomputable def f_X10_spread (x0 : Int) (mem : zMem) : Option (Int × zMem) := f_X10_spread_1 zN x0 0 mem
set_option maxHeartbeats 4000000 in
theorem M_X10_spread (l : Launch) (Γ : zG) (F : zFull Γ)  {x0 : Int} (h_x0 : ir x0) (mem : zMem) (q : Int × zMem) (h : f_X10_spread x0 mem = some q) : zMet l yX10_spread cX10_spread 8 none 2 Γ 0 [.ref (zad Γ 97), .int (i32 x0)] mem q := by
  refine zMet_of (own := "ShadowHeirs$Walk") (by decide) rfl (Nat.le_of_ble_eq_true rfl) (fun X C Z => ?_)
  revert h
  show zJ X Γ 8 q (f_X10_spread x0 mem) 0 [(0, .ref (zad Γ 97)), (1, .int (i32 x0))] [] mem
  unfold f_X10_spread
  refine zj_iconst C 0 dX10_spread_0 ?_
  refine zj_istore_n (j := 2) (i := 2) C rfl [(2, .int (i32 0)), (0, .ref (zad Γ 97)), (1, .int (i32 x0))] dX10_spread_1 (by decide) rfl ?_
  exact zj_sub [1, 2, 0] rfl ((L_X10_spread_1 l F C Z zN) x0 0 h_x0 irc_0 mem)
noncomputable def f_X10_stepsToShade (x0 : Int) (x1 : Int) (x2 : Int) (mem : zMem) : Option (Int × zMem) := zbind (f_X5_hasShadow 4 x0 x1 mem) fun y1 m2 => if y1 = 0 then (some ((-1), m2)) else (if ix 5 x0 then if ix 9 x1 then zbind (f_X5_spotFrom 4 (m2 5 x0) (m2 9 x1) x2 m2) fun y8 m9 => if y8 = (-1) then (some ((-1), m9)) else (if ix 98 y8 then some ((m9 98 y8), m9) else none) else none else none)
set_option maxHeartbeats 4000000 in
theorem M_X10_stepsToShade (l : Launch) (Γ : zG) (F : zFull Γ)  {x0 : Int} {x1 : Int} {x2 : Int} (h_x0 : ir x0) (h_x1 : ir x1) (h_x2 : ir x2) (mem : zMem) (q : Int × zMem) (h : f_X10_stepsToShade x0 x1 x2 mem = some q) : zMet l yX10_stepsToShade cX10_stepsToShade 5 (some .int) 2 Γ 1 [.ref (zad Γ 97), .int (i32 x0), .int (i32 x1), .int (i32 x2)] mem q := by
  refine zMet_of (own := "ShadowHeirs$Walk") (by decide) rfl (Nat.le_of_ble_eq_true rfl) (fun X C Z => ?_)
  revert h
  show zJ X Γ 5 q (f_X10_stepsToShade x0 x1 x2 mem) 0 [(0, .ref (zad Γ 97)), (1, .int (i32 x0)), (2, .int (i32 x1)), (3, .int (i32 x2))] [] mem
  unfold f_X10_stepsToShade
  refine zj_aload_n (j := 0) (i := 0) C rfl 0 rfl dX10_stepsToShade_0 ?_
  refine zj_getR C F zk_97 fl_X10_22 rfl rf_97_0 dX10_stepsToShade_1 ?_
  refine zj_getR C F zk_20 fl_X10_26 rfl rf_20_0 dX10_stepsToShade_4 ?_
  refine zj_iload_n (j := 1) (i := 1) C rfl 1 rfl dX10_stepsToShade_7 ?_
  refine zj_iload_n (j := 2) (i := 2) C rfl 2 rfl dX10_stepsToShade_8 ?_
  refine zj_callVi C F Z [.int (i32 x0), .int (i32 x1)] [] cal_X5_hasShadow calv_X5_hasShadow ml_X10_55 zk_4 rfl rfl (by decide) (Nat.le_of_ble_eq_true rfl) rfl dX10_stepsToShade_9 (fun q h => M_X5_hasShadow l Γ F zk_4 h_x0 h_x1 mem q h) (fun y1 m2 h_y1 => ?_)
  refine zj_if_ne C 17 h_y1 dX10_stepsToShade_12 rfl (fun c3 => ?_) (fun c3 => ?_)
  · refine zj_iconst C (-1) dX10_stepsToShade_15 ?_
    exact zrt_i C Z irc_m1 dX10_stepsToShade_16
  · refine zj_aload_n (j := 0) (i := 0) C rfl 0 rfl dX10_stepsToShade_17 ?_
    refine zj_getR C F zk_97 fl_X10_22 rfl rf_97_0 dX10_stepsToShade_18 ?_
    refine zj_getR C F zk_20 fl_X10_26 rfl rf_20_0 dX10_stepsToShade_21 ?_
    refine zj_aload_n (j := 0) (i := 0) C rfl 0 rfl dX10_stepsToShade_24 ?_
    refine zj_getR C F zk_97 fl_X10_22 rfl rf_97_0 dX10_stepsToShade_25 ?_
    refine zj_getR C F zk_20 fl_X10_26 rfl rf_20_0 dX10_stepsToShade_28 ?_
    refine zj_getR C F zk_4 fl_X10_59 rfl rf_4_5 dX10_stepsToShade_31 ?_
    refine zj_iload_n (j := 1) (i := 1) C rfl 1 rfl dX10_stepsToShade_34 ?_
    refine zj_iaload C F zk_5 h_x0 dX10_stepsToShade_35 (fun c4 h5 => ?_)
    refine zj_aload_n (j := 0) (i := 0) C rfl 0 rfl dX10_stepsToShade_36 ?_
    refine zj_getR C F zk_97 fl_X10_22 rfl rf_97_0 dX10_stepsToShade_37 ?_
    refine zj_getR C F zk_20 fl_X10_26 rfl rf_20_0 dX10_stepsToShade_40 ?_
    refine zj_getR C F zk_4 fl_X10_62 rfl rf_4_9 dX10_stepsToShade_43 ?_
    refine zj_iload_n (j := 2) (i := 2) C rfl 2 rfl dX10_stepsToShade_46 ?_
    refine zj_iaload C F zk_9 h_x1 dX10_stepsToShade_47 (fun c6 h7 => ?_)
    refine zj_iload_n (j := 3) (i := 3) C rfl 3 rfl dX10_stepsToShade_48 ?_
    refine zj_callVi C F Z [.int (i32 (m2 5 x0)), .int (i32 (m2 9 x1)), .int (i32 x2)] [] cal_X5_spotFrom calv_X5_spotFrom ml_X10_47 zk_4 rfl rfl (by decide) (Nat.le_of_ble_eq_true rfl) rfl dX10_stepsToShade_49 (fun q h => M_X5_spotFrom l Γ F zk_4 h5 h7 h_x2 m2 q h) (fun y8 m9 h_y8 => ?_)
    refine zj_istore C [(4, .int (i32 y8)), (0, .ref (zad Γ 97)), (1, .int (i32 x0)), (2, .int (i32 x1)), (3, .int (i32 x2))] dX10_stepsToShade_52 (by decide) rfl ?_
    refine zj_iload C 0 rfl dX10_stepsToShade_54 ?_
    refine zj_iconst C (-1) dX10_stepsToShade_56 ?_
    refine zj_icmp_ne C 64 h_y8 irc_m1 dX10_stepsToShade_57 rfl (fun c10 => ?_) (fun c10 => ?_)
    · refine zj_iconst C (-1) dX10_stepsToShade_60 ?_
      refine zj_goto (tgt := 71) C dX10_stepsToShade_61 rfl ?_
      exact zrt_i C Z irc_m1 dX10_stepsToShade_71
    · refine zj_aload_n (j := 0) (i := 0) C rfl 1 rfl dX10_stepsToShade_64 ?_
      refine zj_getR C F zk_97 fl_X10_9 rfl rf_97_1 dX10_stepsToShade_65 ?_
      refine zj_iload C 0 rfl dX10_stepsToShade_68 ?_
      refine zj_iaload C F zk_98 h_y8 dX10_stepsToShade_70 (fun c11 h12 => ?_)
      exact zrt_i C Z h12 dX10_stepsToShade_71
noncomputable def b_X10_takeOneMore_0 (rec : Nat → Int → Int → Int → zMem → Option (Int × zMem)) (tag : Nat) (v1 : Int) (v2 : Int) (v3 : Int) (mem : zMem) : Option (Int × zMem) := match tag with
  | 0 => if v2 < 0 then (some (0, mem)) else (rec 1 v1 v2 1 mem)
  | _ => if ix 100 v2 then if (mem 100 v2) = 0 then (rec 0 v1 (w32 (v2 + (-1))) 0 mem) else (if v3 ≥ 128 then (rec 0 v1 (w32 (v2 + (-1))) 0 mem) else (if (zand v1 v3) = 0 then (pipe (zshl v3 1) fun y1006 => rec 1 v1 v2 y1006 mem) else (if (zand v2 v3) = 0 then (if (zor v2 v3) ≥ 128 then (pipe (zshl v3 1) fun y1009 => rec 1 v1 v2 y1009 mem) else (if ix 100 (zor v2 v3) then pipe (zup mem 100 (zor v2 v3) 1) fun m1011 => pipe (zshl v3 1) fun y1012 => rec 1 v1 v2 y1012 m1011 else none)) else (pipe (zshl v3 1) fun y1013 => rec 1 v1 v2 y1013 mem)))) else none
noncomputable def f_X10_takeOneMore_0 : Nat → Nat → Int → Int → Int → zMem → Option (Int × zMem) := zfuel (fun _ _ _ _ _ => none) (b_X10_takeOneMore_0)
set_option maxHeartbeats 4000000 in
theorem L_X10_takeOneMore_0 (l : Launch) {Γ : zG} (F : zFull Γ) {X : zM} {q : Int × zMem} (C : zC X Γ "ShadowHeirs$Walk" cX10_takeOneMore 4) (Z : zRt X l Γ 1 0 none q) : ∀ n : Nat, (∀ (v1 : Int) (v2 : Int) (v3 : Int) (h_v1 : ir v1) (h_v2 : ir v2) (mem : zMem), zJ X Γ 4 q (f_X10_takeOneMore_0 n 0 v1 v2 v3 mem) 3 [(0, .ref (zad Γ 97)), (1, .int (i32 v1)), (2, .int (i32 v2))] [] mem) ∧ (∀ (v1 : Int) (v2 : Int) (v3 : Int) (h_v1 : ir v1) (h_v2 : ir v2) (h_v3 : ir v3) (mem : zMem), zJ X Γ 4 q (f_X10_takeOneMore_0 n 1 v1 v2 v3 mem) 9 [(0, .ref (zad Γ 97)), (1, .int (i32 v1)), (2, .int (i32 v2)), (3, .int (i32 v3))] [] mem) := by
  intro n
  induction n with
  | zero => exact ⟨(by intros; exact zj_none), (by intros; exact zj_none)⟩
  | succ n ih =>
    refine ⟨?_, ?_⟩
    · intro v1 v2 v3 h_v1 h_v2 mem
      show zJ X Γ 4 q (b_X10_takeOneMore_0 (f_X10_takeOneMore_0 n) 0 v1 v2 v3 mem) _ _ _ _
      unfold b_X10_takeOneMore_0
      refine zj_iload_n (j := 2) (i := 2) C rfl 2 rfl dX10_takeOneMore_3 ?_
      refine zj_if_lt C 68 h_v2 dX10_takeOneMore_4 rfl (fun c1 => ?_) (fun c1 => ?_)
      · exact zrt_v C Z dX10_takeOneMore_68
      · refine zj_iconst C 1 dX10_takeOneMore_7 ?_
        refine zj_istore_n (j := 3) (i := 3) C rfl [(3, .int (i32 1)), (0, .ref (zad Γ 97)), (1, .int (i32 v1)), (2, .int (i32 v2))] dX10_takeOneMore_8 (by decide) rfl ?_
        exact zj_sub [1, 2, 3, 0] rfl (ih.2 v1 v2 1 h_v1 h_v2 irc_1 mem)
    · intro v1 v2 v3 h_v1 h_v2 h_v3 mem
      show zJ X Γ 4 q (b_X10_takeOneMore_0 (f_X10_takeOneMore_0 n) 1 v1 v2 v3 mem) _ _ _ _
      unfold b_X10_takeOneMore_0
      refine zj_aload_n (j := 0) (i := 0) C rfl 0 rfl dX10_takeOneMore_9 ?_
      refine zj_getR C F zk_97 fl_X10_18 rfl rf_97_3 dX10_takeOneMore_10 ?_
      refine zj_iload_n (j := 2) (i := 2) C rfl 2 rfl dX10_takeOneMore_13 ?_
      refine zj_baload C F zk_100 h_v2 dX10_takeOneMore_14 (fun c1001 h1002 => ?_)
      refine zj_if_eq C 62 h1002 dX10_takeOneMore_15 rfl (fun c1003 => ?_) (fun c1003 => ?_)
      · refine zj_iinc C 2 [(2, .int (i32 (w32 (v2 + (-1))))), (0, .ref (zad Γ 97)), (1, .int (i32 v1)), (3, .int (i32 v3))] rfl dX10_takeOneMore_62 (by decide) rfl ?_
        refine zj_goto (tgt := 3) C dX10_takeOneMore_65 rfl ?_
        exact zj_sub [1, 2, 0] rfl (ih.1 v1 (w32 (v2 + (-1))) 0 h_v1 (ir_w _) mem)
      · refine zj_iload_n (j := 3) (i := 3) C rfl 3 rfl dX10_takeOneMore_18 ?_
        refine zj_sipush C 128 rfl dX10_takeOneMore_19 ?_
        refine zj_icmp_ge C 62 h_v3 irc_128 dX10_takeOneMore_22 rfl (fun c1004 => ?_) (fun c1004 => ?_)
        · refine zj_iinc C 2 [(2, .int (i32 (w32 (v2 + (-1))))), (0, .ref (zad Γ 97)), (1, .int (i32 v1)), (3, .int (i32 v3))] rfl dX10_takeOneMore_62 (by decide) rfl ?_
          refine zj_goto (tgt := 3) C dX10_takeOneMore_65 rfl ?_
          exact zj_sub [1, 2, 0] rfl (ih.1 v1 (w32 (v2 + (-1))) 0 h_v1 (ir_w _) mem)
        · refine zj_iload_n (j := 1) (i := 1) C rfl 1 rfl dX10_takeOneMore_25 ?_
          refine zj_iload_n (j := 3) (i := 3) C rfl 3 rfl dX10_takeOneMore_26 ?_
          refine zj_iand C dX10_takeOneMore_27 ?_
          refine zj_if_eq C 55 (ir_toInt _) dX10_takeOneMore_28 rfl (fun c1005 => ?_) (fun c1005 => ?_)
          · refine zj_iload_n (j := 3) (i := 3) C rfl 3 rfl dX10_takeOneMore_55 ?_
            refine zj_iconst C 1 dX10_takeOneMore_56 ?_
            refine zj_ishl C dX10_takeOneMore_57 ?_
            refine zj_pipeI (fun y1006 e_y1006 => ?_)
            have h_y1006 := ir_eq e_y1006 (ir_toInt _)
            refine zj_istore_n (j := 3) (i := 3) C rfl [(3, .int (i32 y1006)), (0, .ref (zad Γ 97)), (1, .int (i32 v1)), (2, .int (i32 v2))] dX10_takeOneMore_58 (by decide) rfl ?_
            refine zj_goto (tgt := 9) C dX10_takeOneMore_59 rfl ?_
            exact zj_sub [1, 2, 3, 0] rfl (ih.2 v1 v2 y1006 h_v1 h_v2 h_y1006 mem)
          · refine zj_iload_n (j := 2) (i := 2) C rfl 2 rfl dX10_takeOneMore_31 ?_
            refine zj_iload_n (j := 3) (i := 3) C rfl 3 rfl dX10_takeOneMore_32 ?_
            refine zj_iand C dX10_takeOneMore_33 ?_
            refine zj_if_ne C 55 (ir_toInt _) dX10_takeOneMore_34 rfl (fun c1007 => ?_) (fun c1007 => ?_)
            · refine zj_iload_n (j := 2) (i := 2) C rfl 2 rfl dX10_takeOneMore_37 ?_
              refine zj_iload_n (j := 3) (i := 3) C rfl 3 rfl dX10_takeOneMore_38 ?_
              refine zj_ior C dX10_takeOneMore_39 ?_
              refine zj_sipush C 128 rfl dX10_takeOneMore_40 ?_
              refine zj_icmp_ge C 55 (ir_toInt _) irc_128 dX10_takeOneMore_43 rfl (fun c1008 => ?_) (fun c1008 => ?_)
              · refine zj_iload_n (j := 3) (i := 3) C rfl 3 rfl dX10_takeOneMore_55 ?_
                refine zj_iconst C 1 dX10_takeOneMore_56 ?_
                refine zj_ishl C dX10_takeOneMore_57 ?_
                refine zj_pipeI (fun y1009 e_y1009 => ?_)
                have h_y1009 := ir_eq e_y1009 (ir_toInt _)
                refine zj_istore_n (j := 3) (i := 3) C rfl [(3, .int (i32 y1009)), (0, .ref (zad Γ 97)), (1, .int (i32 v1)), (2, .int (i32 v2))] dX10_takeOneMore_58 (by decide) rfl ?_
                refine zj_goto (tgt := 9) C dX10_takeOneMore_59 rfl ?_
                exact zj_sub [1, 2, 3, 0] rfl (ih.2 v1 v2 y1009 h_v1 h_v2 h_y1009 mem)
              · refine zj_aload_n (j := 0) (i := 0) C rfl 0 rfl dX10_takeOneMore_46 ?_
                refine zj_getR C F zk_97 fl_X10_18 rfl rf_97_3 dX10_takeOneMore_47 ?_
                refine zj_iload_n (j := 2) (i := 2) C rfl 2 rfl dX10_takeOneMore_50 ?_
                refine zj_iload_n (j := 3) (i := 3) C rfl 3 rfl dX10_takeOneMore_51 ?_
                refine zj_ior C dX10_takeOneMore_52 ?_
                refine zj_iconst C 1 dX10_takeOneMore_53 ?_
                refine zj_bastore C F zk_100 (ir_toInt _) (Or.inr rfl) dX10_takeOneMore_54 (fun c1010 => ?_)
                refine zj_pipeM (fun m1011 e_m1011 => ?_)
                refine zj_iload_n (j := 3) (i := 3) C rfl 3 rfl dX10_takeOneMore_55 ?_
                refine zj_iconst C 1 dX10_takeOneMore_56 ?_
                refine zj_ishl C dX10_takeOneMore_57 ?_
                refine zj_pipeI (fun y1012 e_y1012 => ?_)
                have h_y1012 := ir_eq e_y1012 (ir_toInt _)
                refine zj_istore_n (j := 3) (i := 3) C rfl [(3, .int (i32 y1012)), (0, .ref (zad Γ 97)), (1, .int (i32 v1)), (2, .int (i32 v2))] dX10_takeOneMore_58 (by decide) rfl ?_
                refine zj_goto (tgt := 9) C dX10_takeOneMore_59 rfl ?_
                exact zj_sub [1, 2, 3, 0] rfl (ih.2 v1 v2 y1012 h_v1 h_v2 h_y1012 m1011)
            · refine zj_iload_n (j := 3) (i := 3) C rfl 3 rfl dX10_takeOneMore_55 ?_
              refine zj_iconst C 1 dX10_takeOneMore_56 ?_
              refine zj_ishl C dX10_takeOneMore_57 ?_
              refine zj_pipeI (fun y1013 e_y1013 => ?_)
              have h_y1013 := ir_eq e_y1013 (ir_toInt _)
              refine zj_istore_n (j := 3) (i := 3) C rfl [(3, .int (i32 y1013)), (0, .ref (zad Γ 97)), (1, .int (i32 v1)), (2, .int (i32 v2))] dX10_takeOneMore_58 (by decide) rfl ?_
              refine zj_goto (tgt := 9) C dX10_takeOneMore_59 rfl ?_
              exact zj_sub [1, 2, 3, 0] rfl (ih.2 v1 v2 y1013 h_v1 h_v2 h_y1013 mem)
noncomputable def f_X10_takeOneMore (x0 : Int) (mem : zMem) : Option (Int × zMem) := f_X10_takeOneMore_0 zN 0 x0 127 0 mem
set_option maxHeartbeats 4000000 in
theorem M_X10_takeOneMore (l : Launch) (Γ : zG) (F : zFull Γ)  {x0 : Int} (h_x0 : ir x0) (mem : zMem) (q : Int × zMem) (h : f_X10_takeOneMore x0 mem = some q) : zMet l yX10_takeOneMore cX10_takeOneMore 4 none 1 Γ 0 [.ref (zad Γ 97), .int (i32 x0)] mem q := by
  refine zMet_of (own := "ShadowHeirs$Walk") (by decide) rfl (Nat.le_of_ble_eq_true rfl) (fun X C Z => ?_)
  revert h
  show zJ X Γ 4 q (f_X10_takeOneMore x0 mem) 0 [(0, .ref (zad Γ 97)), (1, .int (i32 x0))] [] mem
  unfold f_X10_takeOneMore
  refine zj_bipush C 127 rfl dX10_takeOneMore_0 ?_
  refine zj_istore_n (j := 2) (i := 2) C rfl [(2, .int (i32 127)), (0, .ref (zad Γ 97)), (1, .int (i32 x0))] dX10_takeOneMore_2 (by decide) rfl ?_
  exact zj_sub [1, 2, 0] rfl ((L_X10_takeOneMore_0 l F C Z zN).1 x0 127 0 h_x0 irc_127 mem)
noncomputable def f_J6_bitCount_0f7a4 (x0 : Int) (mem : zMem) : Option (Int × zMem) := pipe (w32 (x0 - (zand (zush x0 1) 1431655765))) fun y1 => pipe (w32 ((zand y1 858993459) + (zand (zush y1 2) 858993459))) fun y2 => pipe (zand (w32 (y2 + (zush y2 4))) 252645135) fun y3 => pipe (w32 (y3 + (zush y3 8))) fun y4 => pipe (w32 (y4 + (zush y4 16))) fun y5 => some ((zand y5 63), mem)
set_option maxHeartbeats 4000000 in
theorem M_J6_bitCount_0f7a4 (l : Launch) (Γ : zG) (F : zFull Γ)  {x0 : Int} (h_x0 : ir x0) (mem : zMem) (q : Int × zMem) (h : f_J6_bitCount_0f7a4 x0 mem = some q) : zMet l yJ6_bitCount_0f7a4 cJ6_bitCount_0f7a4 1 (some .int) 1 Γ 1 [.int (i32 x0)] mem q := by
  refine zMet_of (own := "java/lang/Integer") (by decide) rfl (Nat.le_of_ble_eq_true rfl) (fun X C Z => ?_)
  revert h
  show zJ X Γ 1 q (f_J6_bitCount_0f7a4 x0 mem) 0 [(0, .int (i32 x0))] [] mem
  unfold f_J6_bitCount_0f7a4
  refine zj_iload_n (j := 0) (i := 0) C rfl 0 rfl dJ6_bitCount_0f7a4_0 ?_
  refine zj_iload_n (j := 0) (i := 0) C rfl 0 rfl dJ6_bitCount_0f7a4_1 ?_
  refine zj_iconst C 1 dJ6_bitCount_0f7a4_2 ?_
  refine zj_iushr C dJ6_bitCount_0f7a4_3 ?_
  refine zj_ldcw C 1431655765 kc_java_lang_Integer_265 dJ6_bitCount_0f7a4_4 ?_
  refine zj_iand C dJ6_bitCount_0f7a4_7 ?_
  refine zj_isub C dJ6_bitCount_0f7a4_8 ?_
  refine zj_pipeI (fun y1 e_y1 => ?_)
  have h_y1 := ir_eq e_y1 (ir_w _)
  refine zj_istore_n (j := 0) (i := 0) C rfl [(0, .int (i32 y1))] dJ6_bitCount_0f7a4_9 (by decide) rfl ?_
  refine zj_iload_n (j := 0) (i := 0) C rfl 0 rfl dJ6_bitCount_0f7a4_10 ?_
  refine zj_ldcw C 858993459 kc_java_lang_Integer_266 dJ6_bitCount_0f7a4_11 ?_
  refine zj_iand C dJ6_bitCount_0f7a4_14 ?_
  refine zj_iload_n (j := 0) (i := 0) C rfl 0 rfl dJ6_bitCount_0f7a4_15 ?_
  refine zj_iconst C 2 dJ6_bitCount_0f7a4_16 ?_
  refine zj_iushr C dJ6_bitCount_0f7a4_17 ?_
  refine zj_ldcw C 858993459 kc_java_lang_Integer_266 dJ6_bitCount_0f7a4_18 ?_
  refine zj_iand C dJ6_bitCount_0f7a4_21 ?_
  refine zj_iadd C dJ6_bitCount_0f7a4_22 ?_
  refine zj_pipeI (fun y2 e_y2 => ?_)
  have h_y2 := ir_eq e_y2 (ir_w _)
  refine zj_istore_n (j := 0) (i := 0) C rfl [(0, .int (i32 y2))] dJ6_bitCount_0f7a4_23 (by decide) rfl ?_
  refine zj_iload_n (j := 0) (i := 0) C rfl 0 rfl dJ6_bitCount_0f7a4_24 ?_
  refine zj_iload_n (j := 0) (i := 0) C rfl 0 rfl dJ6_bitCount_0f7a4_25 ?_
  refine zj_iconst C 4 dJ6_bitCount_0f7a4_26 ?_
  refine zj_iushr C dJ6_bitCount_0f7a4_27 ?_
  refine zj_iadd C dJ6_bitCount_0f7a4_28 ?_
  refine zj_ldcw C 252645135 kc_java_lang_Integer_267 dJ6_bitCount_0f7a4_29 ?_
  refine zj_iand C dJ6_bitCount_0f7a4_32 ?_
  refine zj_pipeI (fun y3 e_y3 => ?_)
  have h_y3 := ir_eq e_y3 (ir_toInt _)
  refine zj_istore_n (j := 0) (i := 0) C rfl [(0, .int (i32 y3))] dJ6_bitCount_0f7a4_33 (by decide) rfl ?_
  refine zj_iload_n (j := 0) (i := 0) C rfl 0 rfl dJ6_bitCount_0f7a4_34 ?_
  refine zj_iload_n (j := 0) (i := 0) C rfl 0 rfl dJ6_bitCount_0f7a4_35 ?_
  refine zj_bipush C 8 rfl dJ6_bitCount_0f7a4_36 ?_
  refine zj_iushr C dJ6_bitCount_0f7a4_38 ?_
  refine zj_iadd C dJ6_bitCount_0f7a4_39 ?_
  refine zj_pipeI (fun y4 e_y4 => ?_)
  have h_y4 := ir_eq e_y4 (ir_w _)
  refine zj_istore_n (j := 0) (i := 0) C rfl [(0, .int (i32 y4))] dJ6_bitCount_0f7a4_40 (by decide) rfl ?_
  refine zj_iload_n (j := 0) (i := 0) C rfl 0 rfl dJ6_bitCount_0f7a4_41 ?_
  refine zj_iload_n (j := 0) (i := 0) C rfl 0 rfl dJ6_bitCount_0f7a4_42 ?_
  refine zj_bipush C 16 rfl dJ6_bitCount_0f7a4_43 ?_
  refine zj_iushr C dJ6_bitCount_0f7a4_45 ?_
  refine zj_iadd C dJ6_bitCount_0f7a4_46 ?_
  refine zj_pipeI (fun y5 e_y5 => ?_)
  have h_y5 := ir_eq e_y5 (ir_w _)
  refine zj_istore_n (j := 0) (i := 0) C rfl [(0, .int (i32 y5))] dJ6_bitCount_0f7a4_47 (by decide) rfl ?_
  refine zj_iload_n (j := 0) (i := 0) C rfl 0 rfl dJ6_bitCount_0f7a4_48 ?_
  refine zj_bipush C 63 rfl dJ6_bitCount_0f7a4_49 ?_
  refine zj_iand C dJ6_bitCount_0f7a4_51 ?_
  exact zrt_i C Z (ir_toInt _) dJ6_bitCount_0f7a4_52
def HS_finds (l : Launch) (Γ : zG) (d : Nat) (self : Int → zMem → Option (Int × zMem)) : Prop := (∀ (x0 : Int) (h_x0 : ir x0) (mem : zMem) (q : Int × zMem), self x0 mem = some q → zMet l yX12_finds cX12_finds 3 (some .boolean) (1 + d) Γ 1 [.ref (zad Γ 138), .int (i32 x0)] mem q)
noncomputable def b_X12_finds_0 (self : Int → zMem → Option (Int × zMem)) (rec : Int → Int → zMem → Option (Int × zMem)) (v1 : Int) (v2 : Int) (mem : zMem) : Option (Int × zMem) := if v2 ≥ 64 then (some (0, mem)) else (if ix 152 v1 then zbind (f_X12_isCast (zandL (mem 152 v1) (zxorL (mem 138 31) (-1))) v2 mem) fun y5 m6 => if y5 = 0 then (rec v1 (w32 (v2 + 1)) m6) else (pipe (zup m6 138 31 (zorL (m6 138 31) (zshlL 1 v2))) fun m9 => if ix 151 v2 then if (m9 151 v2) = (-1) then (if ix 151 v2 then pipe (zup m9 151 v2 v1) fun m14 => some (1, m14) else none) else (if ix 151 v2 then zbind (self (m9 151 v2) m9) fun y17 m18 => if y17 = 0 then (rec v1 (w32 (v2 + 1)) m18) else (if ix 151 v2 then pipe (zup m18 151 v2 v1) fun m21 => some (1, m21) else none) else none) else none) else none)
noncomputable def f_X12_finds_0 (self : Int → zMem → Option (Int × zMem)) : Nat → Int → Int → zMem → Option (Int × zMem) := zfuel (fun _ _ _ => none) (b_X12_finds_0 self)
set_option maxHeartbeats 4000000 in
theorem L_X12_finds_0 (l : Launch) {Γ : zG} {d : Nat} {self : Int → zMem → Option (Int × zMem)} (F : zFull Γ) {X : zM} {q : Int × zMem} (C : zC X Γ "ShadowHeirsModel" cX12_finds 3) (Z : zRt X l Γ (1 + (d + 1)) 1 (some .boolean) q) (hs : HS_finds l Γ d self) : ∀ n : Nat, ∀ (v1 : Int) (v2 : Int) (h_v1 : ir v1) (h_v2 : ir v2) (mem : zMem), zJ X Γ 3 q (f_X12_finds_0 self n v1 v2 mem) 2 [(0, .ref (zad Γ 138)), (1, .int (i32 v1)), (2, .int (i32 v2))] [] mem := by
  intro n
  induction n with
  | zero => intros; exact zj_none
  | succ n ih =>
    intro v1 v2 h_v1 h_v2 mem
    show zJ X Γ 3 q (b_X12_finds_0 self (f_X12_finds_0 self n) v1 v2 mem) _ _ _ _
    unfold b_X12_finds_0
    refine zj_iload_n (j := 2) (i := 2) C rfl 2 rfl dX12_finds_2 ?_
    refine zj_bipush C 64 rfl dX12_finds_3 ?_
    refine zj_icmp_ge C 86 h_v2 irc_64 dX12_finds_5 rfl (fun c1 => ?_) (fun c1 => ?_)
    · refine zj_iconst C 0 dX12_finds_86 ?_
      exact zrt_z C Z (Or.inl rfl) dX12_finds_87
    · refine zj_aload_n (j := 0) (i := 0) C rfl 0 rfl dX12_finds_8 ?_
      refine zj_getR C F zk_138 fl_X12_139 rfl rf_138_30 dX12_finds_9 ?_
      refine zj_iload_n (j := 1) (i := 1) C rfl 1 rfl dX12_finds_12 ?_
      refine zj_laload C F zk_152 h_v1 dX12_finds_13 (fun c2 h3 => ?_)
      refine zj_aload_n (j := 0) (i := 0) C rfl 0 rfl dX12_finds_14 ?_
      refine zj_getL C F 31 rfl zk_138 fl_X12_329 rfl dX12_finds_15 (fun h4 => ?_)
      refine zj_ldc2 C (-1) kc_X12_332 dX12_finds_18 ?_
      refine zj_lxor C dX12_finds_21 ?_
      refine zj_land C dX12_finds_22 ?_
      refine zj_iload_n (j := 2) (i := 2) C rfl 2 rfl dX12_finds_23 ?_
      refine zj_callSi C Z [.long (i64 (zandL (mem 152 v1) (zxorL (mem 138 31) (-1)))), .int (i32 v2)] [] cal_X12_isCast sta_X12_isCast ml_X12_255 rfl (by omega) (Nat.le_of_ble_eq_true rfl) rfl dX12_finds_24 (fun q h => M_X12_isCast l Γ F (lr_toInt _) h_v2 mem q h) (fun y5 m6 h_y5 => ?_)
      refine zj_if_ne C 33 h_y5 dX12_finds_27 rfl (fun c7 => ?_) (fun c7 => ?_)
      · refine zj_goto (tgt := 80) C dX12_finds_30 rfl ?_
        refine zj_iinc C 2 [(2, .int (i32 (w32 (v2 + 1)))), (0, .ref (zad Γ 138)), (1, .int (i32 v1))] rfl dX12_finds_80 (by decide) rfl ?_
        refine zj_goto (tgt := 2) C dX12_finds_83 rfl ?_
        exact zj_sub [1, 2, 0] rfl (ih v1 (w32 (v2 + 1)) h_v1 (ir_w _) m6)
      · refine zj_aload_n (j := 0) (i := 0) C rfl 0 rfl dX12_finds_33 ?_
        refine zj_dup C rfl dX12_finds_34 ?_
        refine zj_getL C F 31 rfl zk_138 fl_X12_329 rfl dX12_finds_35 (fun h8 => ?_)
        refine zj_lconst (n := 1) C 1 rfl dX12_finds_38 ?_
        refine zj_iload_n (j := 2) (i := 2) C rfl 2 rfl dX12_finds_39 ?_
        refine zj_lshl C dX12_finds_40 ?_
        refine zj_lor C dX12_finds_41 ?_
        refine zj_putL C F 31 rfl zk_138 fl_X12_329 rfl fp_12_31 (lr_toInt _) dX12_finds_42 ?_
        refine zj_pipeM (fun m9 e_m9 => ?_)
        refine zj_aload_n (j := 0) (i := 0) C rfl 0 rfl dX12_finds_45 ?_
        refine zj_getR C F zk_138 fl_X12_136 rfl rf_138_29 dX12_finds_46 ?_
        refine zj_iload_n (j := 2) (i := 2) C rfl 2 rfl dX12_finds_49 ?_
        refine zj_iaload C F zk_151 h_v2 dX12_finds_50 (fun c10 h11 => ?_)
        refine zj_iconst C (-1) dX12_finds_51 ?_
        refine zj_icmp_eq C 71 h11 irc_m1 dX12_finds_52 rfl (fun c12 => ?_) (fun c12 => ?_)
        · refine zj_aload_n (j := 0) (i := 0) C rfl 0 rfl dX12_finds_71 ?_
          refine zj_getR C F zk_138 fl_X12_136 rfl rf_138_29 dX12_finds_72 ?_
          refine zj_iload_n (j := 2) (i := 2) C rfl 2 rfl dX12_finds_75 ?_
          refine zj_iload_n (j := 1) (i := 1) C rfl 1 rfl dX12_finds_76 ?_
          refine zj_iastore C F zk_151 h_v2 h_v1 dX12_finds_77 (fun c13 => ?_)
          refine zj_pipeM (fun m14 e_m14 => ?_)
          refine zj_iconst C 1 dX12_finds_78 ?_
          exact zrt_z C Z (Or.inr rfl) dX12_finds_79
        · refine zj_aload_n (j := 0) (i := 0) C rfl 0 rfl dX12_finds_55 ?_
          refine zj_aload_n (j := 0) (i := 0) C rfl 0 rfl dX12_finds_56 ?_
          refine zj_getR C F zk_138 fl_X12_136 rfl rf_138_29 dX12_finds_57 ?_
          refine zj_iload_n (j := 2) (i := 2) C rfl 2 rfl dX12_finds_60 ?_
          refine zj_iaload C F zk_151 h_v2 dX12_finds_61 (fun c15 h16 => ?_)
          refine zj_callVi C F Z [.int (i32 (m9 151 v2))] [] cal_X12_finds calv_X12_finds ml_X12_334 zk_138 rfl rfl (by omega) (Nat.le_of_ble_eq_true rfl) rfl dX12_finds_62 (fun q h => hs (m9 151 v2) h16 m9 q h) (fun y17 m18 h_y17 => ?_)
          refine zj_if_ne C 71 h_y17 dX12_finds_65 rfl (fun c19 => ?_) (fun c19 => ?_)
          · refine zj_goto (tgt := 80) C dX12_finds_68 rfl ?_
            refine zj_iinc C 2 [(2, .int (i32 (w32 (v2 + 1)))), (0, .ref (zad Γ 138)), (1, .int (i32 v1))] rfl dX12_finds_80 (by decide) rfl ?_
            refine zj_goto (tgt := 2) C dX12_finds_83 rfl ?_
            exact zj_sub [1, 2, 0] rfl (ih v1 (w32 (v2 + 1)) h_v1 (ir_w _) m18)
          · refine zj_aload_n (j := 0) (i := 0) C rfl 0 rfl dX12_finds_71 ?_
            refine zj_getR C F zk_138 fl_X12_136 rfl rf_138_29 dX12_finds_72 ?_
            refine zj_iload_n (j := 2) (i := 2) C rfl 2 rfl dX12_finds_75 ?_
            refine zj_iload_n (j := 1) (i := 1) C rfl 1 rfl dX12_finds_76 ?_
            refine zj_iastore C F zk_151 h_v2 h_v1 dX12_finds_77 (fun c20 => ?_)
            refine zj_pipeM (fun m21 e_m21 => ?_)
            refine zj_iconst C 1 dX12_finds_78 ?_
            exact zrt_z C Z (Or.inr rfl) dX12_finds_79
noncomputable def fb_X12_finds (self : Int → zMem → Option (Int × zMem)) (x0 : Int) (mem : zMem) : Option (Int × zMem) := f_X12_finds_0 self zN x0 0 mem
set_option maxHeartbeats 4000000 in
theorem Mb_X12_finds (l : Launch) (Γ : zG) (F : zFull Γ) {d : Nat} {self : Int → zMem → Option (Int × zMem)}  (hs : HS_finds l Γ d self) {x0 : Int} (h_x0 : ir x0) (mem : zMem) (q : Int × zMem) (h : fb_X12_finds self x0 mem = some q) : zMet l yX12_finds cX12_finds 3 (some .boolean) (1 + (d + 1)) Γ 1 [.ref (zad Γ 138), .int (i32 x0)] mem q := by
  refine zMet_of (own := "ShadowHeirsModel") (by decide) rfl (Nat.le_of_ble_eq_true rfl) (fun X C Z => ?_)
  revert h
  show zJ X Γ 3 q (fb_X12_finds self x0 mem) 0 [(0, .ref (zad Γ 138)), (1, .int (i32 x0))] [] mem
  unfold fb_X12_finds
  refine zj_iconst C 0 dX12_finds_0 ?_
  refine zj_istore_n (j := 2) (i := 2) C rfl [(2, .int (i32 0)), (0, .ref (zad Γ 138)), (1, .int (i32 x0))] dX12_finds_1 (by decide) rfl ?_
  exact zj_sub [1, 2, 0] rfl ((L_X12_finds_0 l F C Z hs zN) x0 0 h_x0 irc_0 mem)
noncomputable def bg_finds : (Int → zMem → Option (Int × zMem)) → Int → zMem → Option (Int × zMem) := fb_X12_finds
noncomputable def fg_finds : Nat → Int → zMem → Option (Int × zMem) := zfuel (fun _ _ => none) bg_finds
theorem Mg_finds (l : Launch) (Γ : zG) (F : zFull Γ) : ∀ d : Nat, HS_finds l Γ d (fg_finds d) := by
  intro d
  induction d with
  | zero => exact (by intro x0 h_x0 mem q h; cases h)
  | succ d ih => exact (fun x0 h_x0 mem q h => Mb_X12_finds l Γ F ih h_x0 mem q h)
noncomputable def f_X12_finds (x0 : Int) (mem : zMem) : Option (Int × zMem) := fg_finds 20 x0 mem
theorem M_X12_finds (l : Launch) (Γ : zG) (F : zFull Γ) {x0 : Int} (h_x0 : ir x0) (mem : zMem) (q : Int × zMem) (h : f_X12_finds x0 mem = some q) : zMet l yX12_finds cX12_finds 3 (some .boolean) 21 Γ 1 [.ref (zad Γ 138), .int (i32 x0)] mem q := (Mg_finds l Γ F 20) x0 h_x0 mem q h
