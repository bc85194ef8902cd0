noncomputable def f_X12_readFirst (x0 : Int) (x1 : Int) (mem : zMem) : Option (Int × zMem) := if ix 141 x0 then if (mem 141 x0) = x1 then (zbind (f_X12_bad 4 mem) fun y4 m5 => if y4 = 0 ∨ y4 = 1 then some (y4, m5) else none) else (zbind (f_X12_go mem) fun _ m6 => some (1, m6)) else none
set_option maxHeartbeats 4000000 in
theorem M_X12_readFirst (l : Launch) (Γ : zG) (F : zFull Γ)  {x0 : Int} {x1 : Int} (h_x0 : ir x0) (h_x1 : ir x1) (mem : zMem) (q : Int × zMem) (h : f_X12_readFirst x0 x1 mem = some q) : zMet l yX12_readFirst cX12_readFirst 3 (some .boolean) 3 Γ 1 [.ref (zad Γ 138), .int (i32 x0), .int (i32 x1)] mem q := by
  refine zMet_of (own := "ShadowHeirsModel") (by decide) rfl (Nat.le_of_ble_eq_true rfl) (fun X C Z => ?_)
  revert h
  show zJ X Γ 3 q (f_X12_readFirst x0 x1 mem) 0 [(0, .ref (zad Γ 138)), (1, .int (i32 x0)), (2, .int (i32 x1))] [] mem
  unfold f_X12_readFirst
  refine zj_aload_n (j := 0) (i := 0) C rfl 0 rfl dX12_readFirst_0 ?_
  refine zj_getR C F zk_138 fl_X12_101 rfl rf_138_15 dX12_readFirst_1 ?_
  refine zj_iload_n (j := 1) (i := 1) C rfl 1 rfl dX12_readFirst_4 ?_
  refine zj_iaload C F zk_141 h_x0 dX12_readFirst_5 (fun c1 h2 => ?_)
  refine zj_iload_n (j := 2) (i := 2) C rfl 2 rfl dX12_readFirst_6 ?_
  refine zj_icmp_ne C 16 h2 h_x1 dX12_readFirst_7 rfl (fun c3 => ?_) (fun c3 => ?_)
  · refine zj_aload_n (j := 0) (i := 0) C rfl 0 rfl dX12_readFirst_10 ?_
    refine zj_iconst C 4 dX12_readFirst_11 ?_
    refine zj_callVi C F Z [.int (i32 4)] [] cal_X12_bad calv_X12_bad ml_X12_72 zk_138 rfl rfl (by decide) (Nat.le_of_ble_eq_true rfl) rfl dX12_readFirst_12 (fun q h => M_X12_bad l Γ F irc_4 mem q h) (fun y4 m5 h_y4 => ?_)
    exact zrt_zc C Z dX12_readFirst_15
  · refine zj_aload_n (j := 0) (i := 0) C rfl 0 rfl dX12_readFirst_16 ?_
    refine zj_callVv C F Z [] [] cal_X12_go calv_X12_go ml_X12_82 zk_138 rfl rfl (by decide) (Nat.le_of_ble_eq_true rfl) rfl dX12_readFirst_17 (fun q h => M_X12_go l Γ F  mem q h) (fun _ m6 _ => ?_)
    refine zj_iconst C 1 dX12_readFirst_20 ?_
    exact zrt_z C Z (Or.inr rfl) dX12_readFirst_21
noncomputable def f_X12_put (x0 : Int) (x1 : Int) (mem : zMem) : Option (Int × zMem) := if x1 = 0 then (if x1 = 0 ∨ x1 = 1 then some (x1, mem) else none) else (if ix 141 x0 then pipe (zup mem 141 x0 (mem 138 13)) fun m4 => if x1 = 0 ∨ x1 = 1 then some (x1, m4) else none else none)
set_option maxHeartbeats 4000000 in
theorem M_X12_put (l : Launch) (Γ : zG) (F : zFull Γ)  {x0 : Int} {x1 : Int} (h_x0 : ir x0) (h_x1 : ir x1) (mem : zMem) (q : Int × zMem) (h : f_X12_put x0 x1 mem = some q) : zMet l yX12_put cX12_put 3 (some .boolean) 1 Γ 1 [.ref (zad Γ 138), .int (i32 x0), .int (i32 x1)] mem q := by
  refine zMet_of (own := "ShadowHeirsModel") (by decide) rfl (Nat.le_of_ble_eq_true rfl) (fun X C Z => ?_)
  revert h
  show zJ X Γ 3 q (f_X12_put x0 x1 mem) 0 [(0, .ref (zad Γ 138)), (1, .int (i32 x0)), (2, .int (i32 x1))] [] mem
  unfold f_X12_put
  refine zj_iload_n (j := 2) (i := 2) C rfl 2 rfl dX12_put_0 ?_
  refine zj_if_eq C 14 h_x1 dX12_put_1 rfl (fun c1 => ?_) (fun c1 => ?_)
  · refine zj_iload_n (j := 2) (i := 2) C rfl 2 rfl dX12_put_14 ?_
    exact zrt_zc C Z dX12_put_15
  · refine zj_aload_n (j := 0) (i := 0) C rfl 0 rfl dX12_put_4 ?_
    refine zj_getR C F zk_138 fl_X12_101 rfl rf_138_15 dX12_put_5 ?_
    refine zj_iload_n (j := 1) (i := 1) C rfl 1 rfl dX12_put_8 ?_
    refine zj_aload_n (j := 0) (i := 0) C rfl 0 rfl dX12_put_9 ?_
    refine zj_getI C F 13 rfl zk_138 fl_X12_79 rfl dX12_put_10 (fun h2 => ?_)
    refine zj_iastore C F zk_141 h_x0 h2 dX12_put_13 (fun c3 => ?_)
    refine zj_pipeM (fun m4 e_m4 => ?_)
    refine zj_iload_n (j := 2) (i := 2) C rfl 2 rfl dX12_put_14 ?_
    exact zrt_zc C Z dX12_put_15
noncomputable def b_X12_readSide_0 (rec : Int → zMem → Option (Int × zMem)) (v1 : Int) (mem : zMem) : Option (Int × zMem) := if v1 > 8 then (if v1 ≤ 8 then (pipe (zup mem 138 13 (w32 (v1 - 5))) fun m3 => zbind (f_X12_go m3) fun _ m4 => some (1, m4)) else (zbind (f_X12_bad 1 mem) fun y5 m6 => if y5 = 0 ∨ y5 = 1 then some (y5, m6) else none)) else (zbind (f_X12_isWord v1 mem) fun y7 m8 => if y7 = 0 then (rec (w32 (v1 + 1)) m8) else (if v1 ≤ 8 then (pipe (zup m8 138 13 (w32 (v1 - 5))) fun m11 => zbind (f_X12_go m11) fun _ m12 => some (1, m12)) else (zbind (f_X12_bad 1 m8) fun y13 m14 => if y13 = 0 ∨ y13 = 1 then some (y13, m14) else none)))
noncomputable def f_X12_readSide_0 : Nat → Int → zMem → Option (Int × zMem) := zfuel (fun _ _ => none) (b_X12_readSide_0)
set_option maxHeartbeats 4000000 in
theorem L_X12_readSide_0 (l : Launch) {Γ : zG} (F : zFull Γ) {X : zM} {q : Int × zMem} (C : zC X Γ "ShadowHeirsModel" cX12_readSide 2) (Z : zRt X l Γ 4 1 (some .boolean) q) : ∀ n : Nat, ∀ (v1 : Int) (h_v1 : ir v1) (mem : zMem), zJ X Γ 2 q (f_X12_readSide_0 n v1 mem) 2 [(0, .ref (zad Γ 138)), (1, .int (i32 v1))] [] mem := by
  intro n
  induction n with
  | zero => intros; exact zj_none
  | succ n ih =>
    intro v1 h_v1 mem
    show zJ X Γ 2 q (b_X12_readSide_0 (f_X12_readSide_0 n) v1 mem) _ _ _ _
    unfold b_X12_readSide_0
    refine zj_iload_n (j := 1) (i := 1) C rfl 1 rfl dX12_readSide_2 ?_
    refine zj_bipush C 8 rfl dX12_readSide_3 ?_
    refine zj_icmp_gt C 22 h_v1 irc_8 dX12_readSide_5 rfl (fun c1 => ?_) (fun c1 => ?_)
    · refine zj_iload_n (j := 1) (i := 1) C rfl 1 rfl dX12_readSide_22 ?_
      refine zj_bipush C 8 rfl dX12_readSide_23 ?_
      refine zj_icmp_le C 34 h_v1 irc_8 dX12_readSide_25 rfl (fun c2 => ?_) (fun c2 => ?_)
      · refine zj_aload_n (j := 0) (i := 0) C rfl 0 rfl dX12_readSide_34 ?_
        refine zj_iload_n (j := 1) (i := 1) C rfl 1 rfl dX12_readSide_35 ?_
        refine zj_iconst C 5 dX12_readSide_36 ?_
        refine zj_isub C dX12_readSide_37 ?_
        refine zj_putI C F 13 rfl zk_138 fl_X12_79 rfl fp_12_13 (ir_w _) dX12_readSide_38 ?_
        refine zj_pipeM (fun m3 e_m3 => ?_)
        refine zj_aload_n (j := 0) (i := 0) C rfl 0 rfl dX12_readSide_41 ?_
        refine zj_callVv C F Z [] [] cal_X12_go calv_X12_go ml_X12_82 zk_138 rfl rfl (by decide) (Nat.le_of_ble_eq_true rfl) rfl dX12_readSide_42 (fun q h => M_X12_go l Γ F  m3 q h) (fun _ m4 _ => ?_)
        refine zj_iconst C 1 dX12_readSide_45 ?_
        exact zrt_z C Z (Or.inr rfl) dX12_readSide_46
      · refine zj_aload_n (j := 0) (i := 0) C rfl 0 rfl dX12_readSide_28 ?_
        refine zj_iconst C 1 dX12_readSide_29 ?_
        refine zj_callVi C F Z [.int (i32 1)] [] cal_X12_bad calv_X12_bad ml_X12_72 zk_138 rfl rfl (by decide) (Nat.le_of_ble_eq_true rfl) rfl dX12_readSide_30 (fun q h => M_X12_bad l Γ F irc_1 mem q h) (fun y5 m6 h_y5 => ?_)
        exact zrt_zc C Z dX12_readSide_33
    · refine zj_aload_n (j := 0) (i := 0) C rfl 0 rfl dX12_readSide_8 ?_
      refine zj_iload_n (j := 1) (i := 1) C rfl 1 rfl dX12_readSide_9 ?_
      refine zj_callVi C F Z [.int (i32 v1)] [] cal_X12_isWord calv_X12_isWord ml_X12_174 zk_138 rfl rfl (by decide) (Nat.le_of_ble_eq_true rfl) rfl dX12_readSide_10 (fun q h => M_X12_isWord l Γ F h_v1 mem q h) (fun y7 m8 h_y7 => ?_)
      refine zj_if_ne C 22 h_y7 dX12_readSide_13 rfl (fun c9 => ?_) (fun c9 => ?_)
      · refine zj_iinc C 1 [(1, .int (i32 (w32 (v1 + 1)))), (0, .ref (zad Γ 138))] rfl dX12_readSide_16 (by decide) rfl ?_
        refine zj_goto (tgt := 2) C dX12_readSide_19 rfl ?_
        exact zj_sub [1, 0] rfl (ih (w32 (v1 + 1)) (ir_w _) m8)
      · refine zj_iload_n (j := 1) (i := 1) C rfl 1 rfl dX12_readSide_22 ?_
        refine zj_bipush C 8 rfl dX12_readSide_23 ?_
        refine zj_icmp_le C 34 h_v1 irc_8 dX12_readSide_25 rfl (fun c10 => ?_) (fun c10 => ?_)
        · refine zj_aload_n (j := 0) (i := 0) C rfl 0 rfl dX12_readSide_34 ?_
          refine zj_iload_n (j := 1) (i := 1) C rfl 1 rfl dX12_readSide_35 ?_
          refine zj_iconst C 5 dX12_readSide_36 ?_
          refine zj_isub C dX12_readSide_37 ?_
          refine zj_putI C F 13 rfl zk_138 fl_X12_79 rfl fp_12_13 (ir_w _) dX12_readSide_38 ?_
          refine zj_pipeM (fun m11 e_m11 => ?_)
          refine zj_aload_n (j := 0) (i := 0) C rfl 0 rfl dX12_readSide_41 ?_
          refine zj_callVv C F Z [] [] cal_X12_go calv_X12_go ml_X12_82 zk_138 rfl rfl (by decide) (Nat.le_of_ble_eq_true rfl) rfl dX12_readSide_42 (fun q h => M_X12_go l Γ F  m11 q h) (fun _ m12 _ => ?_)
          refine zj_iconst C 1 dX12_readSide_45 ?_
          exact zrt_z C Z (Or.inr rfl) dX12_readSide_46
        · refine zj_aload_n (j := 0) (i := 0) C rfl 0 rfl dX12_readSide_28 ?_
          refine zj_iconst C 1 dX12_readSide_29 ?_
          refine zj_callVi C F Z [.int (i32 1)] [] cal_X12_bad calv_X12_bad ml_X12_72 zk_138 rfl rfl (by decide) (Nat.le_of_ble_eq_true rfl) rfl dX12_readSide_30 (fun q h => M_X12_bad l Γ F irc_1 m8 q h) (fun y13 m14 h_y13 => ?_)
          exact zrt_zc C Z dX12_readSide_33
noncomputable def f_X12_readSide  (mem : zMem) : Option (Int × zMem) := f_X12_readSide_0 zN 5 mem
set_option maxHeartbeats 4000000 in
theorem M_X12_readSide (l : Launch) (Γ : zG) (F : zFull Γ)    (mem : zMem) (q : Int × zMem) (h : f_X12_readSide  mem = some q) : zMet l yX12_readSide cX12_readSide 2 (some .boolean) 4 Γ 1 [.ref (zad Γ 138)] mem q := by
  refine zMet_of (own := "ShadowHeirsModel") (by decide) rfl (Nat.le_of_ble_eq_true rfl) (fun X C Z => ?_)
  revert h
  show zJ X Γ 2 q (f_X12_readSide  mem) 0 [(0, .ref (zad Γ 138))] [] mem
  unfold f_X12_readSide
  refine zj_iconst C 5 dX12_readSide_0 ?_
  refine zj_istore_n (j := 1) (i := 1) C rfl [(1, .int (i32 5)), (0, .ref (zad Γ 138))] dX12_readSide_1 (by decide) rfl ?_
  exact zj_sub [1, 0] rfl ((L_X12_readSide_0 l F C Z zN) 5 irc_5 mem)
noncomputable def f_X12_readGround  (mem : zMem) : Option (Int × zMem) := if (mem 138 23) = 0 then (if (mem 138 24) = 0 then (pipe (zup mem 138 23 1) fun m5 => zbind (f_X12_go m5) fun _ m6 => zbind (f_X12_readNumber 2 8 m6) fun y7 m8 => zbind (f_X12_put 0 y7 m8) fun y9 m10 => if y9 = 0 then (some (0, m10)) else (zbind (f_X12_readNumber 2 8 m10) fun y12 m13 => zbind (f_X12_put 1 y12 m13) fun y14 m15 => if y14 = 0 then (some (0, m15)) else (some (1, m15)))) else (zbind (f_X12_bad 3 mem) fun y17 m18 => if y17 = 0 ∨ y17 = 1 then some (y17, m18) else none)) else (zbind (f_X12_bad 3 mem) fun y19 m20 => if y19 = 0 ∨ y19 = 1 then some (y19, m20) else none)
set_option maxHeartbeats 4000000 in
theorem M_X12_readGround (l : Launch) (Γ : zG) (F : zFull Γ)    (mem : zMem) (q : Int × zMem) (h : f_X12_readGround  mem = some q) : zMet l yX12_readGround cX12_readGround 1 (some .boolean) 4 Γ 1 [.ref (zad Γ 138)] mem q := by
  refine zMet_of (own := "ShadowHeirsModel") (by decide) rfl (Nat.le_of_ble_eq_true rfl) (fun X C Z => ?_)
  revert h
  show zJ X Γ 1 q (f_X12_readGround  mem) 0 [(0, .ref (zad Γ 138))] [] mem
  unfold f_X12_readGround
  refine zj_aload_n (j := 0) (i := 0) C rfl 0 rfl dX12_readGround_0 ?_
  refine zj_getI C F 23 rfl zk_138 fl_X12_177 rfl dX12_readGround_1 (fun h1 => ?_)
  refine zj_if_ne C 14 h1 dX12_readGround_4 rfl (fun c2 => ?_) (fun c2 => ?_)
  · refine zj_aload_n (j := 0) (i := 0) C rfl 0 rfl dX12_readGround_7 ?_
    refine zj_getI C F 24 rfl zk_138 fl_X12_181 rfl dX12_readGround_8 (fun h3 => ?_)
    refine zj_if_eq C 20 h3 dX12_readGround_11 rfl (fun c4 => ?_) (fun c4 => ?_)
    · refine zj_aload_n (j := 0) (i := 0) C rfl 0 rfl dX12_readGround_20 ?_
      refine zj_iconst C 1 dX12_readGround_21 ?_
      refine zj_putZ C F 23 rfl zk_138 fl_X12_177 rfl fp_12_23 (Or.inr rfl) dX12_readGround_22 ?_
      refine zj_pipeM (fun m5 e_m5 => ?_)
      refine zj_aload_n (j := 0) (i := 0) C rfl 0 rfl dX12_readGround_25 ?_
      refine zj_callVv C F Z [] [] cal_X12_go calv_X12_go ml_X12_82 zk_138 rfl rfl (by decide) (Nat.le_of_ble_eq_true rfl) rfl dX12_readGround_26 (fun q h => M_X12_go l Γ F  m5 q h) (fun _ m6 _ => ?_)
      refine zj_aload_n (j := 0) (i := 0) C rfl 0 rfl dX12_readGround_29 ?_
      refine zj_iconst C 0 dX12_readGround_30 ?_
      refine zj_aload_n (j := 0) (i := 0) C rfl 0 rfl dX12_readGround_31 ?_
      refine zj_iconst C 2 dX12_readGround_32 ?_
      refine zj_bipush C 8 rfl dX12_readGround_33 ?_
      refine zj_callVi C F Z [.int (i32 2), .int (i32 8)] [.int (i32 0), .ref (zad Γ 138)] cal_X12_readNumber calv_X12_readNumber ml_X12_184 zk_138 rfl rfl (by decide) (Nat.le_of_ble_eq_true rfl) rfl dX12_readGround_35 (fun q h => M_X12_readNumber l Γ F irc_2 irc_8 m6 q h) (fun y7 m8 h_y7 => ?_)
      refine zj_callVi C F Z [.int (i32 0), .int (i32 y7)] [] cal_X12_put calv_X12_put ml_X12_188 zk_138 rfl rfl (by decide) (Nat.le_of_ble_eq_true rfl) rfl dX12_readGround_38 (fun q h => M_X12_put l Γ F irc_0 h_y7 m8 q h) (fun y9 m10 h_y9 => ?_)
      refine zj_if_eq C 63 h_y9 dX12_readGround_41 rfl (fun c11 => ?_) (fun c11 => ?_)
      · refine zj_iconst C 0 dX12_readGround_63 ?_
        exact zrt_z C Z (Or.inl rfl) dX12_readGround_64
      · refine zj_aload_n (j := 0) (i := 0) C rfl 0 rfl dX12_readGround_44 ?_
        refine zj_iconst C 1 dX12_readGround_45 ?_
        refine zj_aload_n (j := 0) (i := 0) C rfl 0 rfl dX12_readGround_46 ?_
        refine zj_iconst C 2 dX12_readGround_47 ?_
        refine zj_bipush C 8 rfl dX12_readGround_48 ?_
        refine zj_callVi C F Z [.int (i32 2), .int (i32 8)] [.int (i32 1), .ref (zad Γ 138)] cal_X12_readNumber calv_X12_readNumber ml_X12_184 zk_138 rfl rfl (by decide) (Nat.le_of_ble_eq_true rfl) rfl dX12_readGround_50 (fun q h => M_X12_readNumber l Γ F irc_2 irc_8 m10 q h) (fun y12 m13 h_y12 => ?_)
        refine zj_callVi C F Z [.int (i32 1), .int (i32 y12)] [] cal_X12_put calv_X12_put ml_X12_188 zk_138 rfl rfl (by decide) (Nat.le_of_ble_eq_true rfl) rfl dX12_readGround_53 (fun q h => M_X12_put l Γ F irc_1 h_y12 m13 q h) (fun y14 m15 h_y14 => ?_)
        refine zj_if_eq C 63 h_y14 dX12_readGround_56 rfl (fun c16 => ?_) (fun c16 => ?_)
        · refine zj_iconst C 0 dX12_readGround_63 ?_
          exact zrt_z C Z (Or.inl rfl) dX12_readGround_64
        · refine zj_iconst C 1 dX12_readGround_59 ?_
          refine zj_goto (tgt := 64) C dX12_readGround_60 rfl ?_
          exact zrt_z C Z (Or.inr rfl) dX12_readGround_64
    · refine zj_aload_n (j := 0) (i := 0) C rfl 0 rfl dX12_readGround_14 ?_
      refine zj_iconst C 3 dX12_readGround_15 ?_
      refine zj_callVi C F Z [.int (i32 3)] [] cal_X12_bad calv_X12_bad ml_X12_72 zk_138 rfl rfl (by decide) (Nat.le_of_ble_eq_true rfl) rfl dX12_readGround_16 (fun q h => M_X12_bad l Γ F irc_3 mem q h) (fun y17 m18 h_y17 => ?_)
      exact zrt_zc C Z dX12_readGround_19
  · refine zj_aload_n (j := 0) (i := 0) C rfl 0 rfl dX12_readGround_14 ?_
    refine zj_iconst C 3 dX12_readGround_15 ?_
    refine zj_callVi C F Z [.int (i32 3)] [] cal_X12_bad calv_X12_bad ml_X12_72 zk_138 rfl rfl (by decide) (Nat.le_of_ble_eq_true rfl) rfl dX12_readGround_16 (fun q h => M_X12_bad l Γ F irc_3 mem q h) (fun y19 m20 h_y19 => ?_)
    exact zrt_zc C Z dX12_readGround_19
noncomputable def b_X12_isFilled_0 (rec : Int → Int → Int → Int → zMem → Option (Int × zMem)) (v1 : Int) (v2 : Int) (v3 : Int) (v4 : Int) (mem : zMem) : Option (Int × zMem) := if ix 141 3 then if v4 ≥ (mem 141 3) then (if v3 = 0 ∨ v3 = 1 then some (v3, mem) else none) else (if v3 = 0 then (if v2 = 0 then (if ix 141 (w32 (20 + v4)) then if (mem 141 (w32 (20 + v4))) = v1 then (rec v1 v2 1 (w32 (v4 + 1)) mem) else (rec v1 v2 0 (w32 (v4 + 1)) mem) else none) else (rec v1 v2 0 (w32 (v4 + 1)) mem)) else (rec v1 v2 1 (w32 (v4 + 1)) mem)) else none
noncomputable def f_X12_isFilled_0 : Nat → Int → Int → Int → Int → zMem → Option (Int × zMem) := zfuel (fun _ _ _ _ _ => none) (b_X12_isFilled_0)
set_option maxHeartbeats 4000000 in
theorem L_X12_isFilled_0 (l : Launch) {Γ : zG} (F : zFull Γ) {X : zM} {q : Int × zMem} (C : zC X Γ "ShadowHeirsModel" cX12_isFilled 5) (Z : zRt X l Γ 1 1 (some .boolean) q) : ∀ n : Nat, ∀ (v1 : Int) (v2 : Int) (v3 : Int) (v4 : Int) (h_v1 : ir v1) (h_v2 : ir v2) (h_v3 : ir v3) (h_v4 : ir v4) (mem : zMem), zJ X Γ 5 q (f_X12_isFilled_0 n v1 v2 v3 v4 mem) 64 [(0, .ref (zad Γ 138)), (1, .int (i32 v1)), (2, .int (i32 v2)), (3, .int (i32 v3)), (4, .int (i32 v4))] [] mem := by
  intro n
  induction n with
  | zero => intros; exact zj_none
  | succ n ih =>
    intro v1 v2 v3 v4 h_v1 h_v2 h_v3 h_v4 mem
    show zJ X Γ 5 q (b_X12_isFilled_0 (f_X12_isFilled_0 n) v1 v2 v3 v4 mem) _ _ _ _
    unfold b_X12_isFilled_0
    refine zj_iload C 4 rfl dX12_isFilled_64 ?_
    refine zj_aload_n (j := 0) (i := 0) C rfl 0 rfl dX12_isFilled_66 ?_
    refine zj_getR C F zk_138 fl_X12_101 rfl rf_138_15 dX12_isFilled_67 ?_
    refine zj_iconst C 3 dX12_isFilled_70 ?_
    refine zj_iaload C F zk_141 irc_3 dX12_isFilled_71 (fun c1 h2 => ?_)
    refine zj_icmp_ge C 109 h_v4 h2 dX12_isFilled_72 rfl (fun c3 => ?_) (fun c3 => ?_)
    · refine zj_iload_n (j := 3) (i := 3) C rfl 3 rfl dX12_isFilled_109 ?_
      exact zrt_zc C Z dX12_isFilled_110
    · refine zj_iload_n (j := 3) (i := 3) C rfl 3 rfl dX12_isFilled_75 ?_
      refine zj_if_ne C 97 h_v3 dX12_isFilled_76 rfl (fun c4 => ?_) (fun c4 => ?_)
      · refine zj_iload_n (j := 2) (i := 2) C rfl 2 rfl dX12_isFilled_79 ?_
        refine zj_if_ne C 101 h_v2 dX12_isFilled_80 rfl (fun c5 => ?_) (fun c5 => ?_)
        · refine zj_aload_n (j := 0) (i := 0) C rfl 0 rfl dX12_isFilled_83 ?_
          refine zj_getR C F zk_138 fl_X12_101 rfl rf_138_15 dX12_isFilled_84 ?_
          refine zj_bipush C 20 rfl dX12_isFilled_87 ?_
          refine zj_iload C 4 rfl dX12_isFilled_89 ?_
          refine zj_iadd C dX12_isFilled_91 ?_
          refine zj_iaload C F zk_141 (ir_w _) dX12_isFilled_92 (fun c6 h7 => ?_)
          refine zj_iload_n (j := 1) (i := 1) C rfl 1 rfl dX12_isFilled_93 ?_
          refine zj_icmp_ne C 101 h7 h_v1 dX12_isFilled_94 rfl (fun c8 => ?_) (fun c8 => ?_)
          · refine zj_iconst C 1 dX12_isFilled_97 ?_
            refine zj_goto (tgt := 102) C dX12_isFilled_98 rfl ?_
            refine zj_istore_n (j := 3) (i := 3) C rfl [(3, .int (i32 1)), (0, .ref (zad Γ 138)), (1, .int (i32 v1)), (2, .int (i32 v2)), (4, .int (i32 v4))] dX12_isFilled_102 (by decide) rfl ?_
            refine zj_iinc C 4 [(4, .int (i32 (w32 (v4 + 1)))), (3, .int (i32 1)), (0, .ref (zad Γ 138)), (1, .int (i32 v1)), (2, .int (i32 v2))] rfl dX12_isFilled_103 (by decide) rfl ?_
            refine zj_goto (tgt := 64) C dX12_isFilled_106 rfl ?_
            exact zj_sub [2, 3, 4, 1, 0] rfl (ih v1 v2 1 (w32 (v4 + 1)) h_v1 h_v2 irc_1 (ir_w _) mem)
          · refine zj_iconst C 0 dX12_isFilled_101 ?_
            refine zj_istore_n (j := 3) (i := 3) C rfl [(3, .int (i32 0)), (0, .ref (zad Γ 138)), (1, .int (i32 v1)), (2, .int (i32 v2)), (4, .int (i32 v4))] dX12_isFilled_102 (by decide) rfl ?_
            refine zj_iinc C 4 [(4, .int (i32 (w32 (v4 + 1)))), (3, .int (i32 0)), (0, .ref (zad Γ 138)), (1, .int (i32 v1)), (2, .int (i32 v2))] rfl dX12_isFilled_103 (by decide) rfl ?_
            refine zj_goto (tgt := 64) C dX12_isFilled_106 rfl ?_
            exact zj_sub [2, 3, 4, 1, 0] rfl (ih v1 v2 0 (w32 (v4 + 1)) h_v1 h_v2 irc_0 (ir_w _) mem)
        · refine zj_iconst C 0 dX12_isFilled_101 ?_
          refine zj_istore_n (j := 3) (i := 3) C rfl [(3, .int (i32 0)), (0, .ref (zad Γ 138)), (1, .int (i32 v1)), (2, .int (i32 v2)), (4, .int (i32 v4))] dX12_isFilled_102 (by decide) rfl ?_
          refine zj_iinc C 4 [(4, .int (i32 (w32 (v4 + 1)))), (3, .int (i32 0)), (0, .ref (zad Γ 138)), (1, .int (i32 v1)), (2, .int (i32 v2))] rfl dX12_isFilled_103 (by decide) rfl ?_
          refine zj_goto (tgt := 64) C dX12_isFilled_106 rfl ?_
          exact zj_sub [2, 3, 4, 1, 0] rfl (ih v1 v2 0 (w32 (v4 + 1)) h_v1 h_v2 irc_0 (ir_w _) mem)
      · refine zj_iconst C 1 dX12_isFilled_97 ?_
        refine zj_goto (tgt := 102) C dX12_isFilled_98 rfl ?_
        refine zj_istore_n (j := 3) (i := 3) C rfl [(3, .int (i32 1)), (0, .ref (zad Γ 138)), (1, .int (i32 v1)), (2, .int (i32 v2)), (4, .int (i32 v4))] dX12_isFilled_102 (by decide) rfl ?_
        refine zj_iinc C 4 [(4, .int (i32 (w32 (v4 + 1)))), (3, .int (i32 1)), (0, .ref (zad Γ 138)), (1, .int (i32 v1)), (2, .int (i32 v2))] rfl dX12_isFilled_103 (by decide) rfl ?_
        refine zj_goto (tgt := 64) C dX12_isFilled_106 rfl ?_
        exact zj_sub [2, 3, 4, 1, 0] rfl (ih v1 v2 1 (w32 (v4 + 1)) h_v1 h_v2 irc_1 (ir_w _) mem)
noncomputable def b_X12_isFilled_1 (rec : Int → Int → Int → Int → zMem → Option (Int × zMem)) (v1 : Int) (v2 : Int) (v3 : Int) (v4 : Int) (mem : zMem) : Option (Int × zMem) := if ix 141 2 then if v4 ≥ (mem 141 2) then (f_X12_isFilled_0 zN v1 v2 v3 0 mem) else (if v3 = 0 then (if ix 141 (w32 (5 + v4)) then if (mem 141 (w32 (5 + v4))) = v1 then (rec v1 v2 1 (w32 (v4 + 1)) mem) else (rec v1 v2 0 (w32 (v4 + 1)) mem) else none) else (rec v1 v2 1 (w32 (v4 + 1)) mem)) else none
noncomputable def f_X12_isFilled_1 : Nat → Int → Int → Int → Int → zMem → Option (Int × zMem) := zfuel (fun _ _ _ _ _ => none) (b_X12_isFilled_1)
set_option maxHeartbeats 4000000 in
theorem L_X12_isFilled_1 (l : Launch) {Γ : zG} (F : zFull Γ) {X : zM} {q : Int × zMem} (C : zC X Γ "ShadowHeirsModel" cX12_isFilled 5) (Z : zRt X l Γ 1 1 (some .boolean) q) : ∀ n : Nat, ∀ (v1 : Int) (v2 : Int) (v3 : Int) (v4 : Int) (h_v1 : ir v1) (h_v2 : ir v2) (h_v3 : ir v3) (h_v4 : ir v4) (mem : zMem), zJ X Γ 5 q (f_X12_isFilled_1 n v1 v2 v3 v4 mem) 21 [(0, .ref (zad Γ 138)), (1, .int (i32 v1)), (2, .int (i32 v2)), (3, .int (i32 v3)), (4, .int (i32 v4))] [] mem := by
  intro n
  induction n with
  | zero => intros; exact zj_none
  | succ n ih =>
    intro v1 v2 v3 v4 h_v1 h_v2 h_v3 h_v4 mem
    show zJ X Γ 5 q (b_X12_isFilled_1 (f_X12_isFilled_1 n) v1 v2 v3 v4 mem) _ _ _ _
    unfold b_X12_isFilled_1
    refine zj_iload C 4 rfl dX12_isFilled_21 ?_
    refine zj_aload_n (j := 0) (i := 0) C rfl 0 rfl dX12_isFilled_23 ?_
    refine zj_getR C F zk_138 fl_X12_101 rfl rf_138_15 dX12_isFilled_24 ?_
    refine zj_iconst C 2 dX12_isFilled_27 ?_
    refine zj_iaload C F zk_141 irc_2 dX12_isFilled_28 (fun c1 h2 => ?_)
    refine zj_icmp_ge C 61 h_v4 h2 dX12_isFilled_29 rfl (fun c3 => ?_) (fun c3 => ?_)
    · refine zj_iconst C 0 dX12_isFilled_61 ?_
      refine zj_istore C [(4, .int (i32 0)), (0, .ref (zad Γ 138)), (1, .int (i32 v1)), (2, .int (i32 v2)), (3, .int (i32 v3))] dX12_isFilled_62 (by decide) rfl ?_
      exact zj_sub [1, 2, 3, 4, 0] rfl ((L_X12_isFilled_0 l F C Z zN) v1 v2 v3 0 h_v1 h_v2 h_v3 irc_0 mem)
    · refine zj_iload_n (j := 3) (i := 3) C rfl 3 rfl dX12_isFilled_32 ?_
      refine zj_if_ne C 49 h_v3 dX12_isFilled_33 rfl (fun c4 => ?_) (fun c4 => ?_)
      · refine zj_aload_n (j := 0) (i := 0) C rfl 0 rfl dX12_isFilled_36 ?_
        refine zj_getR C F zk_138 fl_X12_101 rfl rf_138_15 dX12_isFilled_37 ?_
        refine zj_iconst C 5 dX12_isFilled_40 ?_
        refine zj_iload C 4 rfl dX12_isFilled_41 ?_
        refine zj_iadd C dX12_isFilled_43 ?_
        refine zj_iaload C F zk_141 (ir_w _) dX12_isFilled_44 (fun c5 h6 => ?_)
        refine zj_iload_n (j := 1) (i := 1) C rfl 1 rfl dX12_isFilled_45 ?_
        refine zj_icmp_ne C 53 h6 h_v1 dX12_isFilled_46 rfl (fun c7 => ?_) (fun c7 => ?_)
        · refine zj_iconst C 1 dX12_isFilled_49 ?_
          refine zj_goto (tgt := 54) C dX12_isFilled_50 rfl ?_
          refine zj_istore_n (j := 3) (i := 3) C rfl [(3, .int (i32 1)), (0, .ref (zad Γ 138)), (1, .int (i32 v1)), (2, .int (i32 v2)), (4, .int (i32 v4))] dX12_isFilled_54 (by decide) rfl ?_
          refine zj_iinc C 4 [(4, .int (i32 (w32 (v4 + 1)))), (3, .int (i32 1)), (0, .ref (zad Γ 138)), (1, .int (i32 v1)), (2, .int (i32 v2))] rfl dX12_isFilled_55 (by decide) rfl ?_
          refine zj_goto (tgt := 21) C dX12_isFilled_58 rfl ?_
          exact zj_sub [2, 3, 4, 1, 0] rfl (ih v1 v2 1 (w32 (v4 + 1)) h_v1 h_v2 irc_1 (ir_w _) mem)
        · refine zj_iconst C 0 dX12_isFilled_53 ?_
          refine zj_istore_n (j := 3) (i := 3) C rfl [(3, .int (i32 0)), (0, .ref (zad Γ 138)), (1, .int (i32 v1)), (2, .int (i32 v2)), (4, .int (i32 v4))] dX12_isFilled_54 (by decide) rfl ?_
          refine zj_iinc C 4 [(4, .int (i32 (w32 (v4 + 1)))), (3, .int (i32 0)), (0, .ref (zad Γ 138)), (1, .int (i32 v1)), (2, .int (i32 v2))] rfl dX12_isFilled_55 (by decide) rfl ?_
          refine zj_goto (tgt := 21) C dX12_isFilled_58 rfl ?_
          exact zj_sub [2, 3, 4, 1, 0] rfl (ih v1 v2 0 (w32 (v4 + 1)) h_v1 h_v2 irc_0 (ir_w _) mem)
      · refine zj_iconst C 1 dX12_isFilled_49 ?_
        refine zj_goto (tgt := 54) C dX12_isFilled_50 rfl ?_
        refine zj_istore_n (j := 3) (i := 3) C rfl [(3, .int (i32 1)), (0, .ref (zad Γ 138)), (1, .int (i32 v1)), (2, .int (i32 v2)), (4, .int (i32 v4))] dX12_isFilled_54 (by decide) rfl ?_
        refine zj_iinc C 4 [(4, .int (i32 (w32 (v4 + 1)))), (3, .int (i32 1)), (0, .ref (zad Γ 138)), (1, .int (i32 v1)), (2, .int (i32 v2))] rfl dX12_isFilled_55 (by decide) rfl ?_
        refine zj_goto (tgt := 21) C dX12_isFilled_58 rfl ?_
        exact zj_sub [2, 3, 4, 1, 0] rfl (ih v1 v2 1 (w32 (v4 + 1)) h_v1 h_v2 irc_1 (ir_w _) mem)
noncomputable def f_X12_isFilled (x0 : Int) (x1 : Int) (mem : zMem) : Option (Int × zMem) := if ix 141 (w32 (42 + x0)) then if (mem 141 (w32 (42 + x0))) ≤ 0 then (f_X12_isFilled_1 zN x0 x1 0 0 mem) else (f_X12_isFilled_1 zN x0 x1 1 0 mem) else none
set_option maxHeartbeats 4000000 in
theorem M_X12_isFilled (l : Launch) (Γ : zG) (F : zFull Γ)  {x0 : Int} {x1 : Int} (h_x0 : ir x0) (h_x1 : ir x1) (mem : zMem) (q : Int × zMem) (h : f_X12_isFilled x0 x1 mem = some q) : zMet l yX12_isFilled cX12_isFilled 5 (some .boolean) 1 Γ 1 [.ref (zad Γ 138), .int (i32 x0), .int (i32 x1)] mem q := by
  refine zMet_of (own := "ShadowHeirsModel") (by decide) rfl (Nat.le_of_ble_eq_true rfl) (fun X C Z => ?_)
  revert h
  show zJ X Γ 5 q (f_X12_isFilled x0 x1 mem) 0 [(0, .ref (zad Γ 138)), (1, .int (i32 x0)), (2, .int (i32 x1))] [] mem
  unfold f_X12_isFilled
  refine zj_aload_n (j := 0) (i := 0) C rfl 0 rfl dX12_isFilled_0 ?_
  refine zj_getR C F zk_138 fl_X12_101 rfl rf_138_15 dX12_isFilled_1 ?_
  refine zj_bipush C 42 rfl dX12_isFilled_4 ?_
  refine zj_iload_n (j := 1) (i := 1) C rfl 1 rfl dX12_isFilled_6 ?_
  refine zj_iadd C dX12_isFilled_7 ?_
  refine zj_iaload C F zk_141 (ir_w _) dX12_isFilled_8 (fun c1 h2 => ?_)
  refine zj_if_le C 16 h2 dX12_isFilled_9 rfl (fun c3 => ?_) (fun c3 => ?_)
  · refine zj_iconst C 0 dX12_isFilled_16 ?_
    refine zj_istore_n (j := 3) (i := 3) C rfl [(3, .int (i32 0)), (0, .ref (zad Γ 138)), (1, .int (i32 x0)), (2, .int (i32 x1))] dX12_isFilled_17 (by decide) rfl ?_
    refine zj_iconst C 0 dX12_isFilled_18 ?_
    refine zj_istore C [(4, .int (i32 0)), (3, .int (i32 0)), (0, .ref (zad Γ 138)), (1, .int (i32 x0)), (2, .int (i32 x1))] dX12_isFilled_19 (by decide) rfl ?_
    exact zj_sub [2, 3, 4, 1, 0] rfl ((L_X12_isFilled_1 l F C Z zN) x0 x1 0 0 h_x0 h_x1 irc_0 irc_0 mem)
  · refine zj_iconst C 1 dX12_isFilled_12 ?_
    refine zj_goto (tgt := 17) C dX12_isFilled_13 rfl ?_
    refine zj_istore_n (j := 3) (i := 3) C rfl [(3, .int (i32 1)), (0, .ref (zad Γ 138)), (1, .int (i32 x0)), (2, .int (i32 x1))] dX12_isFilled_17 (by decide) rfl ?_
    refine zj_iconst C 0 dX12_isFilled_18 ?_
    refine zj_istore C [(4, .int (i32 0)), (3, .int (i32 1)), (0, .ref (zad Γ 138)), (1, .int (i32 x0)), (2, .int (i32 x1))] dX12_isFilled_19 (by decide) rfl ?_
    exact zj_sub [2, 3, 4, 1, 0] rfl ((L_X12_isFilled_1 l F C Z zN) x0 x1 1 0 h_x0 h_x1 irc_1 irc_0 mem)
noncomputable def f_X12_readCell (x0 : Int) (mem : zMem) : Option (Int × zMem) := pipe (zup mem 138 24 1) fun m1 => if ix 141 0 then zbind (f_X12_readNumber 0 (w32 ((m1 141 0) - 1)) m1) fun y4 m5 => if y4 = 0 then (some (0, m5)) else (pipe (m5 138 13) fun y8 => if (m5 138 7) = 3 then (if ix 141 1 then zbind (f_X12_isIn (m5 138 8) 0 (w32 ((m5 141 1) - 1)) m5) fun y14 m15 => if y14 = 0 then (zbind (f_X12_bad 2 m15) fun y17 m18 => if y17 = 0 ∨ y17 = 1 then some (y17, m18) else none) else (pipe (zup m15 138 13 (w32 ((w32 (8 * (m15 138 8))) + y8))) fun m20 => zbind (f_X12_isFilled (m20 138 13) x0 m20) fun y22 m23 => if y22 = 0 then (zbind (f_X12_go m23) fun _ m25 => some (1, m25)) else (zbind (f_X12_bad 3 m23) fun y26 m27 => if y26 = 0 ∨ y26 = 1 then some (y26, m27) else none)) else none) else (zbind (f_X12_bad 1 m5) fun y28 m29 => if y28 = 0 ∨ y28 = 1 then some (y28, m29) else none)) else none
set_option maxHeartbeats 4000000 in
theorem M_X12_readCell (l : Launch) (Γ : zG) (F : zFull Γ)  {x0 : Int} (h_x0 : ir x0) (mem : zMem) (q : Int × zMem) (h : f_X12_readCell x0 mem = some q) : zMet l yX12_readCell cX12_readCell 3 (some .boolean) 4 Γ 1 [.ref (zad Γ 138), .int (i32 x0)] mem q := by
  refine zMet_of (own := "ShadowHeirsModel") (by decide) rfl (Nat.le_of_ble_eq_true rfl) (fun X C Z => ?_)
  revert h
  show zJ X Γ 3 q (f_X12_readCell x0 mem) 0 [(0, .ref (zad Γ 138)), (1, .int (i32 x0))] [] mem
  unfold f_X12_readCell
  refine zj_aload_n (j := 0) (i := 0) C rfl 0 rfl dX12_readCell_0 ?_
  refine zj_iconst C 1 dX12_readCell_1 ?_
  refine zj_putZ C F 24 rfl zk_138 fl_X12_181 rfl fp_12_24 (Or.inr rfl) dX12_readCell_2 ?_
  refine zj_pipeM (fun m1 e_m1 => ?_)
  refine zj_aload_n (j := 0) (i := 0) C rfl 0 rfl dX12_readCell_5 ?_
  refine zj_iconst C 0 dX12_readCell_6 ?_
  refine zj_aload_n (j := 0) (i := 0) C rfl 0 rfl dX12_readCell_7 ?_
  refine zj_getR C F zk_138 fl_X12_101 rfl rf_138_15 dX12_readCell_8 ?_
  refine zj_iconst C 0 dX12_readCell_11 ?_
  refine zj_iaload C F zk_141 irc_0 dX12_readCell_12 (fun c2 h3 => ?_)
  refine zj_iconst C 1 dX12_readCell_13 ?_
  refine zj_isub C dX12_readCell_14 ?_
  refine zj_callVi C F Z [.int (i32 0), .int (i32 (w32 ((m1 141 0) - 1)))] [] cal_X12_readNumber calv_X12_readNumber ml_X12_184 zk_138 rfl rfl (by decide) (Nat.le_of_ble_eq_true rfl) rfl dX12_readCell_15 (fun q h => M_X12_readNumber l Γ F irc_0 (ir_w _) m1 q h) (fun y4 m5 h_y4 => ?_)
  refine zj_if_ne C 23 h_y4 dX12_readCell_18 rfl (fun c6 => ?_) (fun c6 => ?_)
  · refine zj_iconst C 0 dX12_readCell_21 ?_
    exact zrt_z C Z (Or.inl rfl) dX12_readCell_22
  · refine zj_aload_n (j := 0) (i := 0) C rfl 0 rfl dX12_readCell_23 ?_
    refine zj_getI C F 13 rfl zk_138 fl_X12_79 rfl dX12_readCell_24 (fun h7 => ?_)
    refine zj_pipeI (fun y8 e_y8 => ?_)
    have h_y8 := ir_eq e_y8 h7
    refine zj_istore_n (j := 2) (i := 2) C rfl [(2, .int (i32 y8)), (0, .ref (zad Γ 138)), (1, .int (i32 x0))] dX12_readCell_27 (by decide) rfl ?_
    refine zj_aload_n (j := 0) (i := 0) C rfl 1 rfl dX12_readCell_28 ?_
    refine zj_getI C F 7 rfl zk_138 fl_X12_30 rfl dX12_readCell_29 (fun h9 => ?_)
    refine zj_iconst C 3 dX12_readCell_32 ?_
    refine zj_icmp_eq C 42 h9 irc_3 dX12_readCell_33 rfl (fun c10 => ?_) (fun c10 => ?_)
    · refine zj_aload_n (j := 0) (i := 0) C rfl 1 rfl dX12_readCell_42 ?_
      refine zj_getI C F 8 rfl zk_138 fl_X12_47 rfl dX12_readCell_43 (fun h11 => ?_)
      refine zj_iconst C 0 dX12_readCell_46 ?_
      refine zj_aload_n (j := 0) (i := 0) C rfl 1 rfl dX12_readCell_47 ?_
      refine zj_getR C F zk_138 fl_X12_101 rfl rf_138_15 dX12_readCell_48 ?_
      refine zj_iconst C 1 dX12_readCell_51 ?_
      refine zj_iaload C F zk_141 irc_1 dX12_readCell_52 (fun c12 h13 => ?_)
      refine zj_iconst C 1 dX12_readCell_53 ?_
      refine zj_isub C dX12_readCell_54 ?_
      refine zj_callSi C Z [.int (i32 (m5 138 8)), .int (i32 0), .int (i32 (w32 ((m5 141 1) - 1)))] [] cal_X12_isIn sta_X12_isIn ml_X12_75 rfl (by decide) (Nat.le_of_ble_eq_true rfl) rfl dX12_readCell_55 (fun q h => M_X12_isIn l Γ F h11 irc_0 (ir_w _) m5 q h) (fun y14 m15 h_y14 => ?_)
      refine zj_if_ne C 67 h_y14 dX12_readCell_58 rfl (fun c16 => ?_) (fun c16 => ?_)
      · refine zj_aload_n (j := 0) (i := 0) C rfl 1 rfl dX12_readCell_61 ?_
        refine zj_iconst C 2 dX12_readCell_62 ?_
        refine zj_callVi C F Z [.int (i32 2)] [] cal_X12_bad calv_X12_bad ml_X12_72 zk_138 rfl rfl (by decide) (Nat.le_of_ble_eq_true rfl) rfl dX12_readCell_63 (fun q h => M_X12_bad l Γ F irc_2 m15 q h) (fun y17 m18 h_y17 => ?_)
        exact zrt_zc C Z dX12_readCell_66
      · refine zj_aload_n (j := 0) (i := 0) C rfl 1 rfl dX12_readCell_67 ?_
        refine zj_bipush C 8 rfl dX12_readCell_68 ?_
        refine zj_aload_n (j := 0) (i := 0) C rfl 1 rfl dX12_readCell_70 ?_
        refine zj_getI C F 8 rfl zk_138 fl_X12_47 rfl dX12_readCell_71 (fun h19 => ?_)
        refine zj_imul C dX12_readCell_74 ?_
        refine zj_iload_n (j := 2) (i := 2) C rfl 0 rfl dX12_readCell_75 ?_
        refine zj_iadd C dX12_readCell_76 ?_
        refine zj_putI C F 13 rfl zk_138 fl_X12_79 rfl fp_12_13 (ir_w _) dX12_readCell_77 ?_
        refine zj_pipeM (fun m20 e_m20 => ?_)
        refine zj_aload_n (j := 0) (i := 0) C rfl 1 rfl dX12_readCell_80 ?_
        refine zj_aload_n (j := 0) (i := 0) C rfl 1 rfl dX12_readCell_81 ?_
        refine zj_getI C F 13 rfl zk_138 fl_X12_79 rfl dX12_readCell_82 (fun h21 => ?_)
        refine zj_iload_n (j := 1) (i := 1) C rfl 2 rfl dX12_readCell_85 ?_
        refine zj_callVi C F Z [.int (i32 (m20 138 13)), .int (i32 x0)] [] cal_X12_isFilled calv_X12_isFilled ml_X12_192 zk_138 rfl rfl (by decide) (Nat.le_of_ble_eq_true rfl) rfl dX12_readCell_86 (fun q h => M_X12_isFilled l Γ F h21 h_x0 m20 q h) (fun y22 m23 h_y22 => ?_)
        refine zj_if_eq C 98 h_y22 dX12_readCell_89 rfl (fun c24 => ?_) (fun c24 => ?_)
        · refine zj_aload_n (j := 0) (i := 0) C rfl 1 rfl dX12_readCell_98 ?_
          refine zj_callVv C F Z [] [] cal_X12_go calv_X12_go ml_X12_82 zk_138 rfl rfl (by decide) (Nat.le_of_ble_eq_true rfl) rfl dX12_readCell_99 (fun q h => M_X12_go l Γ F  m23 q h) (fun _ m25 _ => ?_)
          refine zj_iconst C 1 dX12_readCell_102 ?_
          exact zrt_z C Z (Or.inr rfl) dX12_readCell_103
        · refine zj_aload_n (j := 0) (i := 0) C rfl 1 rfl dX12_readCell_92 ?_
          refine zj_iconst C 3 dX12_readCell_93 ?_
          refine zj_callVi C F Z [.int (i32 3)] [] cal_X12_bad calv_X12_bad ml_X12_72 zk_138 rfl rfl (by decide) (Nat.le_of_ble_eq_true rfl) rfl dX12_readCell_94 (fun q h => M_X12_bad l Γ F irc_3 m23 q h) (fun y26 m27 h_y26 => ?_)
          exact zrt_zc C Z dX12_readCell_97
    · refine zj_aload_n (j := 0) (i := 0) C rfl 1 rfl dX12_readCell_36 ?_
      refine zj_iconst C 1 dX12_readCell_37 ?_
      refine zj_callVi C F Z [.int (i32 1)] [] cal_X12_bad calv_X12_bad ml_X12_72 zk_138 rfl rfl (by decide) (Nat.le_of_ble_eq_true rfl) rfl dX12_readCell_38 (fun q h => M_X12_bad l Γ F irc_1 m5 q h) (fun y28 m29 h_y28 => ?_)
      exact zrt_zc C Z dX12_readCell_41
noncomputable def f_X12_readStones  (mem : zMem) : Option (Int × zMem) := zbind (f_X12_go mem) fun _ m1 => zbind (f_X12_readCell 0 m1) fun y2 m3 => if y2 = 0 then (some (0, m3)) else (pipe (m3 138 13) fun y6 => zbind (f_X12_readNumber 1 9 m3) fun y7 m8 => zbind (f_X12_put (w32 (42 + y6)) y7 m8) fun y9 m10 => if y9 = 0 ∨ y9 = 1 then some (y9, m10) else none)
set_option maxHeartbeats 4000000 in
theorem M_X12_readStones (l : Launch) (Γ : zG) (F : zFull Γ)    (mem : zMem) (q : Int × zMem) (h : f_X12_readStones  mem = some q) : zMet l yX12_readStones cX12_readStones 2 (some .boolean) 5 Γ 1 [.ref (zad Γ 138)] mem q := by
  refine zMet_of (own := "ShadowHeirsModel") (by decide) rfl (Nat.le_of_ble_eq_true rfl) (fun X C Z => ?_)
  revert h
  show zJ X Γ 2 q (f_X12_readStones  mem) 0 [(0, .ref (zad Γ 138))] [] mem
  unfold f_X12_readStones
  refine zj_aload_n (j := 0) (i := 0) C rfl 0 rfl dX12_readStones_0 ?_
  refine zj_callVv C F Z [] [] cal_X12_go calv_X12_go ml_X12_82 zk_138 rfl rfl (by decide) (Nat.le_of_ble_eq_true rfl) rfl dX12_readStones_1 (fun q h => M_X12_go l Γ F  mem q h) (fun _ m1 _ => ?_)
  refine zj_aload_n (j := 0) (i := 0) C rfl 0 rfl dX12_readStones_4 ?_
  refine zj_iconst C 0 dX12_readStones_5 ?_
  refine zj_callVi C F Z [.int (i32 0)] [] cal_X12_readCell calv_X12_readCell ml_X12_195 zk_138 rfl rfl (by decide) (Nat.le_of_ble_eq_true rfl) rfl dX12_readStones_6 (fun q h => M_X12_readCell l Γ F irc_0 m1 q h) (fun y2 m3 h_y2 => ?_)
  refine zj_if_ne C 14 h_y2 dX12_readStones_9 rfl (fun c4 => ?_) (fun c4 => ?_)
  · refine zj_iconst C 0 dX12_readStones_12 ?_
    exact zrt_z C Z (Or.inl rfl) dX12_readStones_13
  · refine zj_aload_n (j := 0) (i := 0) C rfl 0 rfl dX12_readStones_14 ?_
    refine zj_getI C F 13 rfl zk_138 fl_X12_79 rfl dX12_readStones_15 (fun h5 => ?_)
    refine zj_pipeI (fun y6 e_y6 => ?_)
    have h_y6 := ir_eq e_y6 h5
    refine zj_istore_n (j := 1) (i := 1) C rfl [(1, .int (i32 y6)), (0, .ref (zad Γ 138))] dX12_readStones_18 (by decide) rfl ?_
    refine zj_aload_n (j := 0) (i := 0) C rfl 1 rfl dX12_readStones_19 ?_
    refine zj_bipush C 42 rfl dX12_readStones_20 ?_
    refine zj_iload_n (j := 1) (i := 1) C rfl 0 rfl dX12_readStones_22 ?_
    refine zj_iadd C dX12_readStones_23 ?_
    refine zj_aload_n (j := 0) (i := 0) C rfl 1 rfl dX12_readStones_24 ?_
    refine zj_iconst C 1 dX12_readStones_25 ?_
    refine zj_bipush C 9 rfl dX12_readStones_26 ?_
    refine zj_callVi C F Z [.int (i32 1), .int (i32 9)] [.int (i32 (w32 (42 + y6))), .ref (zad Γ 138)] cal_X12_readNumber calv_X12_readNumber ml_X12_184 zk_138 rfl rfl (by decide) (Nat.le_of_ble_eq_true rfl) rfl dX12_readStones_28 (fun q h => M_X12_readNumber l Γ F irc_1 irc_9 m3 q h) (fun y7 m8 h_y7 => ?_)
    refine zj_callVi C F Z [.int (i32 (w32 (42 + y6))), .int (i32 y7)] [] cal_X12_put calv_X12_put ml_X12_188 zk_138 rfl rfl (by decide) (Nat.le_of_ble_eq_true rfl) rfl dX12_readStones_31 (fun q h => M_X12_put l Γ F (ir_w _) h_y7 m8 q h) (fun y9 m10 h_y9 => ?_)
    exact zrt_zc C Z dX12_readStones_34
noncomputable def f_X12_readHouse  (mem : zMem) : Option (Int × zMem) := zbind (f_X12_readFirst 2 5 mem) fun y1 m2 => if y1 = 0 then (some (0, m2)) else (if ix 141 2 then pipe (m2 141 2) fun y6 => zbind (f_X12_readNew y6 m2) fun y7 m8 => if y7 = 0 then (some (0, m8)) else (zbind (f_X12_readCell 0 m8) fun y10 m11 => zbind (f_X12_put (w32 (5 + y6)) y10 m11) fun y12 m13 => if y12 = 0 then (some (0, m13)) else (zbind (f_X12_readNumber 1 9 m13) fun y15 m16 => zbind (f_X12_put (w32 (10 + y6)) y15 m16) fun y17 m18 => if y17 = 0 then (some (0, m18)) else (zbind (f_X12_readNumber 0 99 m18) fun y20 m21 => zbind (f_X12_put (w32 (15 + y6)) y20 m21) fun y22 m23 => if y22 = 0 then (some (0, m23)) else (if ix 141 2 then if ix 141 2 then pipe (zup m23 141 2 (w32 ((m23 141 2) + 1))) fun m28 => some (1, m28) else none else none)))) else none)
set_option maxHeartbeats 4000000 in
theorem M_X12_readHouse (l : Launch) (Γ : zG) (F : zFull Γ)    (mem : zMem) (q : Int × zMem) (h : f_X12_readHouse  mem = some q) : zMet l yX12_readHouse cX12_readHouse 2 (some .boolean) 5 Γ 1 [.ref (zad Γ 138)] mem q := by
  refine zMet_of (own := "ShadowHeirsModel") (by decide) rfl (Nat.le_of_ble_eq_true rfl) (fun X C Z => ?_)
  revert h
  show zJ X Γ 2 q (f_X12_readHouse  mem) 0 [(0, .ref (zad Γ 138))] [] mem
  unfold f_X12_readHouse
  refine zj_aload_n (j := 0) (i := 0) C rfl 0 rfl dX12_readHouse_0 ?_
  refine zj_iconst C 2 dX12_readHouse_1 ?_
  refine zj_iconst C 5 dX12_readHouse_2 ?_
  refine zj_callVi C F Z [.int (i32 2), .int (i32 5)] [] cal_X12_readFirst calv_X12_readFirst ml_X12_199 zk_138 rfl rfl (by decide) (Nat.le_of_ble_eq_true rfl) rfl dX12_readHouse_3 (fun q h => M_X12_readFirst l Γ F irc_2 irc_5 mem q h) (fun y1 m2 h_y1 => ?_)
  refine zj_if_ne C 11 h_y1 dX12_readHouse_6 rfl (fun c3 => ?_) (fun c3 => ?_)
  · refine zj_iconst C 0 dX12_readHouse_9 ?_
    exact zrt_z C Z (Or.inl rfl) dX12_readHouse_10
  · refine zj_aload_n (j := 0) (i := 0) C rfl 0 rfl dX12_readHouse_11 ?_
    refine zj_getR C F zk_138 fl_X12_101 rfl rf_138_15 dX12_readHouse_12 ?_
    refine zj_iconst C 2 dX12_readHouse_15 ?_
    refine zj_iaload C F zk_141 irc_2 dX12_readHouse_16 (fun c4 h5 => ?_)
    refine zj_pipeI (fun y6 e_y6 => ?_)
    have h_y6 := ir_eq e_y6 h5
    refine zj_istore_n (j := 1) (i := 1) C rfl [(1, .int (i32 y6)), (0, .ref (zad Γ 138))] dX12_readHouse_17 (by decide) rfl ?_
    refine zj_aload_n (j := 0) (i := 0) C rfl 1 rfl dX12_readHouse_18 ?_
    refine zj_iload_n (j := 1) (i := 1) C rfl 0 rfl dX12_readHouse_19 ?_
    refine zj_callVi C F Z [.int (i32 y6)] [] cal_X12_readNew calv_X12_readNew ml_X12_202 zk_138 rfl rfl (by decide) (Nat.le_of_ble_eq_true rfl) rfl dX12_readHouse_20 (fun q h => M_X12_readNew l Γ F h_y6 m2 q h) (fun y7 m8 h_y7 => ?_)
    refine zj_if_eq C 77 h_y7 dX12_readHouse_23 rfl (fun c9 => ?_) (fun c9 => ?_)
    · refine zj_iconst C 0 dX12_readHouse_77 ?_
      exact zrt_z C Z (Or.inl rfl) dX12_readHouse_78
    · refine zj_aload_n (j := 0) (i := 0) C rfl 1 rfl dX12_readHouse_26 ?_
      refine zj_iconst C 5 dX12_readHouse_27 ?_
      refine zj_iload_n (j := 1) (i := 1) C rfl 0 rfl dX12_readHouse_28 ?_
      refine zj_iadd C dX12_readHouse_29 ?_
      refine zj_aload_n (j := 0) (i := 0) C rfl 1 rfl dX12_readHouse_30 ?_
      refine zj_iconst C 0 dX12_readHouse_31 ?_
      refine zj_callVi C F Z [.int (i32 0)] [.int (i32 (w32 (5 + y6))), .ref (zad Γ 138)] cal_X12_readCell calv_X12_readCell ml_X12_195 zk_138 rfl rfl (by decide) (Nat.le_of_ble_eq_true rfl) rfl dX12_readHouse_32 (fun q h => M_X12_readCell l Γ F irc_0 m8 q h) (fun y10 m11 h_y10 => ?_)
      refine zj_callVi C F Z [.int (i32 (w32 (5 + y6))), .int (i32 y10)] [] cal_X12_put calv_X12_put ml_X12_188 zk_138 rfl rfl (by decide) (Nat.le_of_ble_eq_true rfl) rfl dX12_readHouse_35 (fun q h => M_X12_put l Γ F (ir_w _) h_y10 m11 q h) (fun y12 m13 h_y12 => ?_)
      refine zj_if_eq C 77 h_y12 dX12_readHouse_38 rfl (fun c14 => ?_) (fun c14 => ?_)
      · refine zj_iconst C 0 dX12_readHouse_77 ?_
        exact zrt_z C Z (Or.inl rfl) dX12_readHouse_78
      · refine zj_aload_n (j := 0) (i := 0) C rfl 1 rfl dX12_readHouse_41 ?_
        refine zj_bipush C 10 rfl dX12_readHouse_42 ?_
        refine zj_iload_n (j := 1) (i := 1) C rfl 0 rfl dX12_readHouse_44 ?_
        refine zj_iadd C dX12_readHouse_45 ?_
        refine zj_aload_n (j := 0) (i := 0) C rfl 1 rfl dX12_readHouse_46 ?_
        refine zj_iconst C 1 dX12_readHouse_47 ?_
        refine zj_bipush C 9 rfl dX12_readHouse_48 ?_
        refine zj_callVi C F Z [.int (i32 1), .int (i32 9)] [.int (i32 (w32 (10 + y6))), .ref (zad Γ 138)] cal_X12_readNumber calv_X12_readNumber ml_X12_184 zk_138 rfl rfl (by decide) (Nat.le_of_ble_eq_true rfl) rfl dX12_readHouse_50 (fun q h => M_X12_readNumber l Γ F irc_1 irc_9 m13 q h) (fun y15 m16 h_y15 => ?_)
        refine zj_callVi C F Z [.int (i32 (w32 (10 + y6))), .int (i32 y15)] [] cal_X12_put calv_X12_put ml_X12_188 zk_138 rfl rfl (by decide) (Nat.le_of_ble_eq_true rfl) rfl dX12_readHouse_53 (fun q h => M_X12_put l Γ F (ir_w _) h_y15 m16 q h) (fun y17 m18 h_y17 => ?_)
        refine zj_if_eq C 77 h_y17 dX12_readHouse_56 rfl (fun c19 => ?_) (fun c19 => ?_)
        · refine zj_iconst C 0 dX12_readHouse_77 ?_
          exact zrt_z C Z (Or.inl rfl) dX12_readHouse_78
        · refine zj_aload_n (j := 0) (i := 0) C rfl 1 rfl dX12_readHouse_59 ?_
          refine zj_bipush C 15 rfl dX12_readHouse_60 ?_
          refine zj_iload_n (j := 1) (i := 1) C rfl 0 rfl dX12_readHouse_62 ?_
          refine zj_iadd C dX12_readHouse_63 ?_
          refine zj_aload_n (j := 0) (i := 0) C rfl 1 rfl dX12_readHouse_64 ?_
          refine zj_iconst C 0 dX12_readHouse_65 ?_
          refine zj_bipush C 99 rfl dX12_readHouse_66 ?_
          refine zj_callVi C F Z [.int (i32 0), .int (i32 99)] [.int (i32 (w32 (15 + y6))), .ref (zad Γ 138)] cal_X12_readNumber calv_X12_readNumber ml_X12_184 zk_138 rfl rfl (by decide) (Nat.le_of_ble_eq_true rfl) rfl dX12_readHouse_68 (fun q h => M_X12_readNumber l Γ F irc_0 irc_99 m18 q h) (fun y20 m21 h_y20 => ?_)
          refine zj_callVi C F Z [.int (i32 (w32 (15 + y6))), .int (i32 y20)] [] cal_X12_put calv_X12_put ml_X12_188 zk_138 rfl rfl (by decide) (Nat.le_of_ble_eq_true rfl) rfl dX12_readHouse_71 (fun q h => M_X12_put l Γ F (ir_w _) h_y20 m21 q h) (fun y22 m23 h_y22 => ?_)
          refine zj_if_ne C 79 h_y22 dX12_readHouse_74 rfl (fun c24 => ?_) (fun c24 => ?_)
          · refine zj_iconst C 0 dX12_readHouse_77 ?_
            exact zrt_z C Z (Or.inl rfl) dX12_readHouse_78
          · refine zj_aload_n (j := 0) (i := 0) C rfl 1 rfl dX12_readHouse_79 ?_
            refine zj_getR C F zk_138 fl_X12_101 rfl rf_138_15 dX12_readHouse_80 ?_
            refine zj_iconst C 2 dX12_readHouse_83 ?_
            refine zj_dup2 C rfl rfl dX12_readHouse_84 ?_
            refine zj_iaload C F zk_141 irc_2 dX12_readHouse_85 (fun c25 h26 => ?_)
            refine zj_iconst C 1 dX12_readHouse_86 ?_
            refine zj_iadd C dX12_readHouse_87 ?_
            refine zj_iastore C F zk_141 irc_2 (ir_w _) dX12_readHouse_88 (fun c27 => ?_)
            refine zj_pipeM (fun m28 e_m28 => ?_)
            refine zj_iconst C 1 dX12_readHouse_89 ?_
            exact zrt_z C Z (Or.inr rfl) dX12_readHouse_90
noncomputable def f_X12_readPerson  (mem : zMem) : Option (Int × zMem) := zbind (f_X12_readFirst 3 6 mem) fun y1 m2 => if y1 = 0 then (some (0, m2)) else (if ix 141 3 then pipe (m2 141 3) fun y6 => zbind (f_X12_readNew (w32 (5 + y6)) m2) fun y7 m8 => if y7 = 0 then (some (0, m8)) else (zbind (f_X12_readCell 1 m8) fun y10 m11 => zbind (f_X12_put (w32 (20 + y6)) y10 m11) fun y12 m13 => if y12 = 0 then (some (0, m13)) else (if ix 141 3 then if ix 141 3 then pipe (zup m13 141 3 (w32 ((m13 141 3) + 1))) fun m18 => some (1, m18) else none else none)) else none)
set_option maxHeartbeats 4000000 in
theorem M_X12_readPerson (l : Launch) (Γ : zG) (F : zFull Γ)    (mem : zMem) (q : Int × zMem) (h : f_X12_readPerson  mem = some q) : zMet l yX12_readPerson cX12_readPerson 2 (some .boolean) 5 Γ 1 [.ref (zad Γ 138)] mem q := by
  refine zMet_of (own := "ShadowHeirsModel") (by decide) rfl (Nat.le_of_ble_eq_true rfl) (fun X C Z => ?_)
  revert h
  show zJ X Γ 2 q (f_X12_readPerson  mem) 0 [(0, .ref (zad Γ 138))] [] mem
  unfold f_X12_readPerson
  refine zj_aload_n (j := 0) (i := 0) C rfl 0 rfl dX12_readPerson_0 ?_
  refine zj_iconst C 3 dX12_readPerson_1 ?_
  refine zj_bipush C 6 rfl dX12_readPerson_2 ?_
  refine zj_callVi C F Z [.int (i32 3), .int (i32 6)] [] cal_X12_readFirst calv_X12_readFirst ml_X12_199 zk_138 rfl rfl (by decide) (Nat.le_of_ble_eq_true rfl) rfl dX12_readPerson_4 (fun q h => M_X12_readFirst l Γ F irc_3 irc_6 mem q h) (fun y1 m2 h_y1 => ?_)
  refine zj_if_ne C 12 h_y1 dX12_readPerson_7 rfl (fun c3 => ?_) (fun c3 => ?_)
  · refine zj_iconst C 0 dX12_readPerson_10 ?_
    exact zrt_z C Z (Or.inl rfl) dX12_readPerson_11
  · refine zj_aload_n (j := 0) (i := 0) C rfl 0 rfl dX12_readPerson_12 ?_
    refine zj_getR C F zk_138 fl_X12_101 rfl rf_138_15 dX12_readPerson_13 ?_
    refine zj_iconst C 3 dX12_readPerson_16 ?_
    refine zj_iaload C F zk_141 irc_3 dX12_readPerson_17 (fun c4 h5 => ?_)
    refine zj_pipeI (fun y6 e_y6 => ?_)
    have h_y6 := ir_eq e_y6 h5
    refine zj_istore_n (j := 1) (i := 1) C rfl [(1, .int (i32 y6)), (0, .ref (zad Γ 138))] dX12_readPerson_18 (by decide) rfl ?_
    refine zj_aload_n (j := 0) (i := 0) C rfl 1 rfl dX12_readPerson_19 ?_
    refine zj_iconst C 5 dX12_readPerson_20 ?_
    refine zj_iload_n (j := 1) (i := 1) C rfl 0 rfl dX12_readPerson_21 ?_
    refine zj_iadd C dX12_readPerson_22 ?_
    refine zj_callVi C F Z [.int (i32 (w32 (5 + y6)))] [] cal_X12_readNew calv_X12_readNew ml_X12_202 zk_138 rfl rfl (by decide) (Nat.le_of_ble_eq_true rfl) rfl dX12_readPerson_23 (fun q h => M_X12_readNew l Γ F (ir_w _) m2 q h) (fun y7 m8 h_y7 => ?_)
    refine zj_if_eq C 45 h_y7 dX12_readPerson_26 rfl (fun c9 => ?_) (fun c9 => ?_)
    · refine zj_iconst C 0 dX12_readPerson_45 ?_
      exact zrt_z C Z (Or.inl rfl) dX12_readPerson_46
    · refine zj_aload_n (j := 0) (i := 0) C rfl 1 rfl dX12_readPerson_29 ?_
      refine zj_bipush C 20 rfl dX12_readPerson_30 ?_
      refine zj_iload_n (j := 1) (i := 1) C rfl 0 rfl dX12_readPerson_32 ?_
      refine zj_iadd C dX12_readPerson_33 ?_
      refine zj_aload_n (j := 0) (i := 0) C rfl 1 rfl dX12_readPerson_34 ?_
      refine zj_iconst C 1 dX12_readPerson_35 ?_
      refine zj_callVi C F Z [.int (i32 1)] [.int (i32 (w32 (20 + y6))), .ref (zad Γ 138)] cal_X12_readCell calv_X12_readCell ml_X12_195 zk_138 rfl rfl (by decide) (Nat.le_of_ble_eq_true rfl) rfl dX12_readPerson_36 (fun q h => M_X12_readCell l Γ F irc_1 m8 q h) (fun y10 m11 h_y10 => ?_)
      refine zj_callVi C F Z [.int (i32 (w32 (20 + y6))), .int (i32 y10)] [] cal_X12_put calv_X12_put ml_X12_188 zk_138 rfl rfl (by decide) (Nat.le_of_ble_eq_true rfl) rfl dX12_readPerson_39 (fun q h => M_X12_put l Γ F (ir_w _) h_y10 m11 q h) (fun y12 m13 h_y12 => ?_)
      refine zj_if_ne C 47 h_y12 dX12_readPerson_42 rfl (fun c14 => ?_) (fun c14 => ?_)
      · refine zj_iconst C 0 dX12_readPerson_45 ?_
        exact zrt_z C Z (Or.inl rfl) dX12_readPerson_46
      · refine zj_aload_n (j := 0) (i := 0) C rfl 1 rfl dX12_readPerson_47 ?_
        refine zj_getR C F zk_138 fl_X12_101 rfl rf_138_15 dX12_readPerson_48 ?_
        refine zj_iconst C 3 dX12_readPerson_51 ?_
        refine zj_dup2 C rfl rfl dX12_readPerson_52 ?_
        refine zj_iaload C F zk_141 irc_3 dX12_readPerson_53 (fun c15 h16 => ?_)
        refine zj_iconst C 1 dX12_readPerson_54 ?_
        refine zj_iadd C dX12_readPerson_55 ?_
        refine zj_iastore C F zk_141 irc_3 (ir_w _) dX12_readPerson_56 (fun c17 => ?_)
        refine zj_pipeM (fun m18 e_m18 => ?_)
        refine zj_iconst C 1 dX12_readPerson_57 ?_
        exact zrt_z C Z (Or.inr rfl) dX12_readPerson_58
noncomputable def f_X12_readSun  (mem : zMem) : Option (Int × zMem) := zbind (f_X12_readFirst 4 8 mem) fun y1 m2 => if y1 = 0 then (some (0, m2)) else (if ix 141 4 then pipe (m2 141 4) fun y6 => zbind (f_X12_readSide m2) fun y7 m8 => zbind (f_X12_put (w32 (26 + y6)) y7 m8) fun y9 m10 => if y9 = 0 then (some (0, m10)) else (zbind (f_X12_readNumber 1 9 m10) fun y12 m13 => zbind (f_X12_put (w32 (34 + y6)) y12 m13) fun y14 m15 => if y14 = 0 then (some (0, m15)) else (if ix 141 4 then if ix 141 4 then pipe (zup m15 141 4 (w32 ((m15 141 4) + 1))) fun m20 => some (1, m20) else none else none)) else none)
set_option maxHeartbeats 4000000 in
theorem M_X12_readSun (l : Launch) (Γ : zG) (F : zFull Γ)    (mem : zMem) (q : Int × zMem) (h : f_X12_readSun  mem = some q) : zMet l yX12_readSun cX12_readSun 2 (some .boolean) 5 Γ 1 [.ref (zad Γ 138)] mem q := by
  refine zMet_of (own := "ShadowHeirsModel") (by decide) rfl (Nat.le_of_ble_eq_true rfl) (fun X C Z => ?_)
  revert h
  show zJ X Γ 2 q (f_X12_readSun  mem) 0 [(0, .ref (zad Γ 138))] [] mem
  unfold f_X12_readSun
  refine zj_aload_n (j := 0) (i := 0) C rfl 0 rfl dX12_readSun_0 ?_
  refine zj_iconst C 4 dX12_readSun_1 ?_
  refine zj_bipush C 8 rfl dX12_readSun_2 ?_
  refine zj_callVi C F Z [.int (i32 4), .int (i32 8)] [] cal_X12_readFirst calv_X12_readFirst ml_X12_199 zk_138 rfl rfl (by decide) (Nat.le_of_ble_eq_true rfl) rfl dX12_readSun_4 (fun q h => M_X12_readFirst l Γ F irc_4 irc_8 mem q h) (fun y1 m2 h_y1 => ?_)
  refine zj_if_ne C 12 h_y1 dX12_readSun_7 rfl (fun c3 => ?_) (fun c3 => ?_)
  · refine zj_iconst C 0 dX12_readSun_10 ?_
    exact zrt_z C Z (Or.inl rfl) dX12_readSun_11
  · refine zj_aload_n (j := 0) (i := 0) C rfl 0 rfl dX12_readSun_12 ?_
    refine zj_getR C F zk_138 fl_X12_101 rfl rf_138_15 dX12_readSun_13 ?_
    refine zj_iconst C 4 dX12_readSun_16 ?_
    refine zj_iaload C F zk_141 irc_4 dX12_readSun_17 (fun c4 h5 => ?_)
    refine zj_pipeI (fun y6 e_y6 => ?_)
    have h_y6 := ir_eq e_y6 h5
    refine zj_istore_n (j := 1) (i := 1) C rfl [(1, .int (i32 y6)), (0, .ref (zad Γ 138))] dX12_readSun_18 (by decide) rfl ?_
    refine zj_aload_n (j := 0) (i := 0) C rfl 1 rfl dX12_readSun_19 ?_
    refine zj_bipush C 26 rfl dX12_readSun_20 ?_
    refine zj_iload_n (j := 1) (i := 1) C rfl 0 rfl dX12_readSun_22 ?_
    refine zj_iadd C dX12_readSun_23 ?_
    refine zj_aload_n (j := 0) (i := 0) C rfl 1 rfl dX12_readSun_24 ?_
    refine zj_callVi C F Z [] [.int (i32 (w32 (26 + y6))), .ref (zad Γ 138)] cal_X12_readSide calv_X12_readSide ml_X12_205 zk_138 rfl rfl (by decide) (Nat.le_of_ble_eq_true rfl) rfl dX12_readSun_25 (fun q h => M_X12_readSide l Γ F  m2 q h) (fun y7 m8 h_y7 => ?_)
    refine zj_callVi C F Z [.int (i32 (w32 (26 + y6))), .int (i32 y7)] [] cal_X12_put calv_X12_put ml_X12_188 zk_138 rfl rfl (by decide) (Nat.le_of_ble_eq_true rfl) rfl dX12_readSun_28 (fun q h => M_X12_put l Γ F (ir_w _) h_y7 m8 q h) (fun y9 m10 h_y9 => ?_)
    refine zj_if_eq C 52 h_y9 dX12_readSun_31 rfl (fun c11 => ?_) (fun c11 => ?_)
    · refine zj_iconst C 0 dX12_readSun_52 ?_
      exact zrt_z C Z (Or.inl rfl) dX12_readSun_53
    · refine zj_aload_n (j := 0) (i := 0) C rfl 1 rfl dX12_readSun_34 ?_
      refine zj_bipush C 34 rfl dX12_readSun_35 ?_
      refine zj_iload_n (j := 1) (i := 1) C rfl 0 rfl dX12_readSun_37 ?_
      refine zj_iadd C dX12_readSun_38 ?_
      refine zj_aload_n (j := 0) (i := 0) C rfl 1 rfl dX12_readSun_39 ?_
      refine zj_iconst C 1 dX12_readSun_40 ?_
      refine zj_bipush C 9 rfl dX12_readSun_41 ?_
      refine zj_callVi C F Z [.int (i32 1), .int (i32 9)] [.int (i32 (w32 (34 + y6))), .ref (zad Γ 138)] cal_X12_readNumber calv_X12_readNumber ml_X12_184 zk_138 rfl rfl (by decide) (Nat.le_of_ble_eq_true rfl) rfl dX12_readSun_43 (fun q h => M_X12_readNumber l Γ F irc_1 irc_9 m10 q h) (fun y12 m13 h_y12 => ?_)
      refine zj_callVi C F Z [.int (i32 (w32 (34 + y6))), .int (i32 y12)] [] cal_X12_put calv_X12_put ml_X12_188 zk_138 rfl rfl (by decide) (Nat.le_of_ble_eq_true rfl) rfl dX12_readSun_46 (fun q h => M_X12_put l Γ F (ir_w _) h_y12 m13 q h) (fun y14 m15 h_y14 => ?_)
      refine zj_if_ne C 54 h_y14 dX12_readSun_49 rfl (fun c16 => ?_) (fun c16 => ?_)
      · refine zj_iconst C 0 dX12_readSun_52 ?_
        exact zrt_z C Z (Or.inl rfl) dX12_readSun_53
      · refine zj_aload_n (j := 0) (i := 0) C rfl 1 rfl dX12_readSun_54 ?_
        refine zj_getR C F zk_138 fl_X12_101 rfl rf_138_15 dX12_readSun_55 ?_
        refine zj_iconst C 4 dX12_readSun_58 ?_
        refine zj_dup2 C rfl rfl dX12_readSun_59 ?_
        refine zj_iaload C F zk_141 irc_4 dX12_readSun_60 (fun c17 h18 => ?_)
        refine zj_iconst C 1 dX12_readSun_61 ?_
        refine zj_iadd C dX12_readSun_62 ?_
        refine zj_iastore C F zk_141 irc_4 (ir_w _) dX12_readSun_63 (fun c19 => ?_)
        refine zj_pipeM (fun m20 e_m20 => ?_)
        refine zj_iconst C 1 dX12_readSun_64 ?_
        exact zrt_z C Z (Or.inr rfl) dX12_readSun_65
noncomputable def f_X12_readLine  (mem : zMem) : Option (Int × zMem) := zbind (f_X12_isWord 0 mem) fun y1 m2 => if y1 = 0 then (zbind (f_X12_isWord 1 m2) fun y4 m5 => if y4 = 0 then (zbind (f_X12_isWord 2 m5) fun y7 m8 => if y7 = 0 then (zbind (f_X12_isWord 3 m8) fun y10 m11 => if y10 = 0 then (zbind (f_X12_isWord 4 m11) fun y13 m14 => if y13 = 0 then (zbind (f_X12_bad 1 m14) fun y16 m17 => if y16 = 0 ∨ y16 = 1 then some (y16, m17) else none) else (zbind (f_X12_readSun m14) fun y18 m19 => if y18 = 0 ∨ y18 = 1 then some (y18, m19) else none)) else (zbind (f_X12_readPerson m11) fun y20 m21 => if y20 = 0 ∨ y20 = 1 then some (y20, m21) else none)) else (zbind (f_X12_readHouse m8) fun y22 m23 => if y22 = 0 ∨ y22 = 1 then some (y22, m23) else none)) else (zbind (f_X12_readStones m5) fun y24 m25 => if y24 = 0 ∨ y24 = 1 then some (y24, m25) else none)) else (zbind (f_X12_readGround m2) fun y26 m27 => if y26 = 0 ∨ y26 = 1 then some (y26, m27) else none)
set_option maxHeartbeats 4000000 in
theorem M_X12_readLine (l : Launch) (Γ : zG) (F : zFull Γ)    (mem : zMem) (q : Int × zMem) (h : f_X12_readLine  mem = some q) : zMet l yX12_readLine cX12_readLine 1 (some .boolean) 6 Γ 1 [.ref (zad Γ 138)] mem q := by
  refine zMet_of (own := "ShadowHeirsModel") (by decide) rfl (Nat.le_of_ble_eq_true rfl) (fun X C Z => ?_)
  revert h
  show zJ X Γ 1 q (f_X12_readLine  mem) 0 [(0, .ref (zad Γ 138))] [] mem
  unfold f_X12_readLine
  refine zj_aload_n (j := 0) (i := 0) C rfl 0 rfl dX12_readLine_0 ?_
  refine zj_iconst C 0 dX12_readLine_1 ?_
  refine zj_callVi C F Z [.int (i32 0)] [] cal_X12_isWord calv_X12_isWord ml_X12_174 zk_138 rfl rfl (by decide) (Nat.le_of_ble_eq_true rfl) rfl dX12_readLine_2 (fun q h => M_X12_isWord l Γ F irc_0 mem q h) (fun y1 m2 h_y1 => ?_)
  refine zj_if_eq C 13 h_y1 dX12_readLine_5 rfl (fun c3 => ?_) (fun c3 => ?_)
  · refine zj_aload_n (j := 0) (i := 0) C rfl 0 rfl dX12_readLine_13 ?_
    refine zj_iconst C 1 dX12_readLine_14 ?_
    refine zj_callVi C F Z [.int (i32 1)] [] cal_X12_isWord calv_X12_isWord ml_X12_174 zk_138 rfl rfl (by decide) (Nat.le_of_ble_eq_true rfl) rfl dX12_readLine_15 (fun q h => M_X12_isWord l Γ F irc_1 m2 q h) (fun y4 m5 h_y4 => ?_)
    refine zj_if_eq C 26 h_y4 dX12_readLine_18 rfl (fun c6 => ?_) (fun c6 => ?_)
    · refine zj_aload_n (j := 0) (i := 0) C rfl 0 rfl dX12_readLine_26 ?_
      refine zj_iconst C 2 dX12_readLine_27 ?_
      refine zj_callVi C F Z [.int (i32 2)] [] cal_X12_isWord calv_X12_isWord ml_X12_174 zk_138 rfl rfl (by decide) (Nat.le_of_ble_eq_true rfl) rfl dX12_readLine_28 (fun q h => M_X12_isWord l Γ F irc_2 m5 q h) (fun y7 m8 h_y7 => ?_)
      refine zj_if_eq C 39 h_y7 dX12_readLine_31 rfl (fun c9 => ?_) (fun c9 => ?_)
      · refine zj_aload_n (j := 0) (i := 0) C rfl 0 rfl dX12_readLine_39 ?_
        refine zj_iconst C 3 dX12_readLine_40 ?_
        refine zj_callVi C F Z [.int (i32 3)] [] cal_X12_isWord calv_X12_isWord ml_X12_174 zk_138 rfl rfl (by decide) (Nat.le_of_ble_eq_true rfl) rfl dX12_readLine_41 (fun q h => M_X12_isWord l Γ F irc_3 m8 q h) (fun y10 m11 h_y10 => ?_)
        refine zj_if_eq C 52 h_y10 dX12_readLine_44 rfl (fun c12 => ?_) (fun c12 => ?_)
        · refine zj_aload_n (j := 0) (i := 0) C rfl 0 rfl dX12_readLine_52 ?_
          refine zj_iconst C 4 dX12_readLine_53 ?_
          refine zj_callVi C F Z [.int (i32 4)] [] cal_X12_isWord calv_X12_isWord ml_X12_174 zk_138 rfl rfl (by decide) (Nat.le_of_ble_eq_true rfl) rfl dX12_readLine_54 (fun q h => M_X12_isWord l Γ F irc_4 m11 q h) (fun y13 m14 h_y13 => ?_)
          refine zj_if_eq C 67 h_y13 dX12_readLine_57 rfl (fun c15 => ?_) (fun c15 => ?_)
          · refine zj_aload_n (j := 0) (i := 0) C rfl 0 rfl dX12_readLine_67 ?_
            refine zj_iconst C 1 dX12_readLine_68 ?_
            refine zj_callVi C F Z [.int (i32 1)] [] cal_X12_bad calv_X12_bad ml_X12_72 zk_138 rfl rfl (by decide) (Nat.le_of_ble_eq_true rfl) rfl dX12_readLine_69 (fun q h => M_X12_bad l Γ F irc_1 m14 q h) (fun y16 m17 h_y16 => ?_)
            exact zrt_zc C Z dX12_readLine_72
          · refine zj_aload_n (j := 0) (i := 0) C rfl 0 rfl dX12_readLine_60 ?_
            refine zj_callVi C F Z [] [] cal_X12_readSun calv_X12_readSun ml_X12_220 zk_138 rfl rfl (by decide) (Nat.le_of_ble_eq_true rfl) rfl dX12_readLine_61 (fun q h => M_X12_readSun l Γ F  m14 q h) (fun y18 m19 h_y18 => ?_)
            refine zj_goto (tgt := 72) C dX12_readLine_64 rfl ?_
            exact zrt_zc C Z dX12_readLine_72
        · refine zj_aload_n (j := 0) (i := 0) C rfl 0 rfl dX12_readLine_47 ?_
          refine zj_callVi C F Z [] [] cal_X12_readPerson calv_X12_readPerson ml_X12_217 zk_138 rfl rfl (by decide) (Nat.le_of_ble_eq_true rfl) rfl dX12_readLine_48 (fun q h => M_X12_readPerson l Γ F  m11 q h) (fun y20 m21 h_y20 => ?_)
          exact zrt_zc C Z dX12_readLine_51
      · refine zj_aload_n (j := 0) (i := 0) C rfl 0 rfl dX12_readLine_34 ?_
        refine zj_callVi C F Z [] [] cal_X12_readHouse calv_X12_readHouse ml_X12_214 zk_138 rfl rfl (by decide) (Nat.le_of_ble_eq_true rfl) rfl dX12_readLine_35 (fun q h => M_X12_readHouse l Γ F  m8 q h) (fun y22 m23 h_y22 => ?_)
        exact zrt_zc C Z dX12_readLine_38
    · refine zj_aload_n (j := 0) (i := 0) C rfl 0 rfl dX12_readLine_21 ?_
      refine zj_callVi C F Z [] [] cal_X12_readStones calv_X12_readStones ml_X12_211 zk_138 rfl rfl (by decide) (Nat.le_of_ble_eq_true rfl) rfl dX12_readLine_22 (fun q h => M_X12_readStones l Γ F  m5 q h) (fun y24 m25 h_y24 => ?_)
      exact zrt_zc C Z dX12_readLine_25
  · refine zj_aload_n (j := 0) (i := 0) C rfl 0 rfl dX12_readLine_8 ?_
    refine zj_callVi C F Z [] [] cal_X12_readGround calv_X12_readGround ml_X12_208 zk_138 rfl rfl (by decide) (Nat.le_of_ble_eq_true rfl) rfl dX12_readLine_9 (fun q h => M_X12_readGround l Γ F  m2 q h) (fun y26 m27 h_y26 => ?_)
    exact zrt_zc C Z dX12_readLine_12
noncomputable def b_X12_island_0 (rec : Int → Int → zMem → Option (Int × zMem)) (v1 : Int) (v2 : Int) (mem : zMem) : Option (Int × zMem) := if v2 ≥ 11 then (zbind (f_X12_startSo mem) fun _ m2 => pipe (zup m2 138 25 0) fun m3 => some (v1, m3)) else (if ix 146 v2 then if ix 145 v2 then pipe (zup mem 145 v2 (mem 146 v2)) fun m7 => rec v1 (w32 (v2 + 1)) m7 else none else none)
noncomputable def f_X12_island_0 : Nat → Int → Int → zMem → Option (Int × zMem) := zfuel (fun _ _ _ => none) (b_X12_island_0)
set_option maxHeartbeats 4000000 in
theorem L_X12_island_0 (l : Launch) {Γ : zG} (F : zFull Γ) {X : zM} {q : Int × zMem} (C : zC X Γ "ShadowHeirsModel" cX12_island 3) (Z : zRt X l Γ 7 1 (some .int) q) : ∀ n : Nat, ∀ (v1 : Int) (v2 : Int) (h_v1 : ir v1) (h_v2 : ir v2) (mem : zMem), zJ X Γ 3 q (f_X12_island_0 n v1 v2 mem) 116 [(0, .ref (zad Γ 138)), (1, .int (i32 v1)), (2, .int (i32 v2))] [] mem := by
  intro n
  induction n with
  | zero => intros; exact zj_none
  | succ n ih =>
    intro v1 v2 h_v1 h_v2 mem
    show zJ X Γ 3 q (b_X12_island_0 (f_X12_island_0 n) v1 v2 mem) _ _ _ _
    unfold b_X12_island_0
    refine zj_iload_n (j := 2) (i := 2) C rfl 2 rfl dX12_island_116 ?_
    refine zj_bipush C 11 rfl dX12_island_117 ?_
    refine zj_icmp_ge C 140 h_v2 irc_11 dX12_island_119 rfl (fun c1 => ?_) (fun c1 => ?_)
    · refine zj_aload_n (j := 0) (i := 0) C rfl 0 rfl dX12_island_140 ?_
      refine zj_callVv C F Z [] [] cal_X12_startSo calv_X12_startSo ml_X12_163 zk_138 rfl rfl (by decide) (Nat.le_of_ble_eq_true rfl) rfl dX12_island_141 (fun q h => M_X12_startSo l Γ F  mem q h) (fun _ m2 _ => ?_)
      refine zj_aload_n (j := 0) (i := 0) C rfl 0 rfl dX12_island_144 ?_
      refine zj_iconst C 0 dX12_island_145 ?_
      refine zj_putI C F 25 rfl zk_138 fl_X12_232 rfl fp_12_25 irc_0 dX12_island_146 ?_
      refine zj_pipeM (fun m3 e_m3 => ?_)
      refine zj_iload_n (j := 1) (i := 1) C rfl 1 rfl dX12_island_149 ?_
      exact zrt_i C Z h_v1 dX12_island_150
    · refine zj_aload_n (j := 0) (i := 0) C rfl 0 rfl dX12_island_122 ?_
      refine zj_getR C F zk_138 fl_X12_113 rfl rf_138_19 dX12_island_123 ?_
      refine zj_iload_n (j := 2) (i := 2) C rfl 2 rfl dX12_island_126 ?_
      refine zj_aload_n (j := 0) (i := 0) C rfl 0 rfl dX12_island_127 ?_
      refine zj_getR C F zk_138 fl_X12_117 rfl rf_138_20 dX12_island_128 ?_
      refine zj_iload_n (j := 2) (i := 2) C rfl 2 rfl dX12_island_131 ?_
      refine zj_laload C F zk_146 h_v2 dX12_island_132 (fun c4 h5 => ?_)
      refine zj_lastore C F zk_145 h_v2 h5 dX12_island_133 (fun c6 => ?_)
      refine zj_pipeM (fun m7 e_m7 => ?_)
      refine zj_iinc C 2 [(2, .int (i32 (w32 (v2 + 1)))), (0, .ref (zad Γ 138)), (1, .int (i32 v1))] rfl dX12_island_134 (by decide) rfl ?_
      refine zj_goto (tgt := 116) C dX12_island_137 rfl ?_
      exact zj_sub [1, 2, 0] rfl (ih v1 (w32 (v2 + 1)) h_v1 (ir_w _) m7)
noncomputable def b_X12_island_1 (rec : Int → Int → zMem → Option (Int × zMem)) (v1 : Int) (v2 : Int) (mem : zMem) : Option (Int × zMem) := if v2 ≥ 106 then (f_X12_island_0 zN v1 0 mem) else (if ix 141 v2 then if ix 140 v2 then pipe (zup mem 140 v2 (mem 141 v2)) fun m5 => rec v1 (w32 (v2 + 1)) m5 else none else none)
noncomputable def f_X12_island_1 : Nat → Int → Int → zMem → Option (Int × zMem) := zfuel (fun _ _ _ => none) (b_X12_island_1)
set_option maxHeartbeats 4000000 in
theorem L_X12_island_1 (l : Launch) {Γ : zG} (F : zFull Γ) {X : zM} {q : Int × zMem} (C : zC X Γ "ShadowHeirsModel" cX12_island 3) (Z : zRt X l Γ 7 1 (some .int) q) : ∀ n : Nat, ∀ (v1 : Int) (v2 : Int) (h_v1 : ir v1) (h_v2 : ir v2) (mem : zMem), zJ X Γ 3 q (f_X12_island_1 n v1 v2 mem) 90 [(0, .ref (zad Γ 138)), (1, .int (i32 v1)), (2, .int (i32 v2))] [] mem := by
  intro n
  induction n with
  | zero => intros; exact zj_none
  | succ n ih =>
    intro v1 v2 h_v1 h_v2 mem
    show zJ X Γ 3 q (b_X12_island_1 (f_X12_island_1 n) v1 v2 mem) _ _ _ _
    unfold b_X12_island_1
    refine zj_iload_n (j := 2) (i := 2) C rfl 2 rfl dX12_island_90 ?_
    refine zj_bipush C 106 rfl dX12_island_91 ?_
    refine zj_icmp_ge C 114 h_v2 irc_106 dX12_island_93 rfl (fun c1 => ?_) (fun c1 => ?_)
    · refine zj_iconst C 0 dX12_island_114 ?_
      refine zj_istore_n (j := 2) (i := 2) C rfl [(2, .int (i32 0)), (0, .ref (zad Γ 138)), (1, .int (i32 v1))] dX12_island_115 (by decide) rfl ?_
      exact zj_sub [1, 2, 0] rfl ((L_X12_island_0 l F C Z zN) v1 0 h_v1 irc_0 mem)
    · refine zj_aload_n (j := 0) (i := 0) C rfl 0 rfl dX12_island_96 ?_
      refine zj_getR C F zk_138 fl_X12_98 rfl rf_138_14 dX12_island_97 ?_
      refine zj_iload_n (j := 2) (i := 2) C rfl 2 rfl dX12_island_100 ?_
      refine zj_aload_n (j := 0) (i := 0) C rfl 0 rfl dX12_island_101 ?_
      refine zj_getR C F zk_138 fl_X12_101 rfl rf_138_15 dX12_island_102 ?_
      refine zj_iload_n (j := 2) (i := 2) C rfl 2 rfl dX12_island_105 ?_
      refine zj_iaload C F zk_141 h_v2 dX12_island_106 (fun c2 h3 => ?_)
      refine zj_iastore C F zk_140 h_v2 h3 dX12_island_107 (fun c4 => ?_)
      refine zj_pipeM (fun m5 e_m5 => ?_)
      refine zj_iinc C 2 [(2, .int (i32 (w32 (v2 + 1)))), (0, .ref (zad Γ 138)), (1, .int (i32 v1))] rfl dX12_island_108 (by decide) rfl ?_
      refine zj_goto (tgt := 90) C dX12_island_111 rfl ?_
      exact zj_sub [1, 2, 0] rfl (ih v1 (w32 (v2 + 1)) h_v1 (ir_w _) m5)
noncomputable def b_X12_island_2 (rec : Int → zMem → Option (Int × zMem)) (v1 : Int) (mem : zMem) : Option (Int × zMem) := if (mem 138 7) = 0 then (f_X12_island_1 zN v1 0 mem) else (zbind (f_X12_readLine mem) fun y3 m4 => if y3 = 0 then (some ((w32 ((-1) - (m4 138 11))), m4)) else (zbind (f_X12_readEnd m4) fun y7 m8 => if y7 = 0 then (some ((w32 ((-1) - (m8 138 11))), m8)) else (rec (w32 (v1 + 1)) m8)))
noncomputable def f_X12_island_2 : Nat → Int → zMem → Option (Int × zMem) := zfuel (fun _ _ => none) (b_X12_island_2)
set_option maxHeartbeats 4000000 in
theorem L_X12_island_2 (l : Launch) {Γ : zG} (F : zFull Γ) {X : zM} {q : Int × zMem} (C : zC X Γ "ShadowHeirsModel" cX12_island 3) (Z : zRt X l Γ 7 1 (some .int) q) : ∀ n : Nat, ∀ (v1 : Int) (h_v1 : ir v1) (mem : zMem), zJ X Γ 3 q (f_X12_island_2 n v1 mem) 54 [(0, .ref (zad Γ 138)), (1, .int (i32 v1))] [] mem := by
  intro n
  induction n with
  | zero => intros; exact zj_none
  | succ n ih =>
    intro v1 h_v1 mem
    show zJ X Γ 3 q (b_X12_island_2 (f_X12_island_2 n) v1 mem) _ _ _ _
    unfold b_X12_island_2
    refine zj_aload_n (j := 0) (i := 0) C rfl 0 rfl dX12_island_54 ?_
    refine zj_getI C F 7 rfl zk_138 fl_X12_30 rfl dX12_island_55 (fun h1 => ?_)
    refine zj_if_eq C 88 h1 dX12_island_58 rfl (fun c2 => ?_) (fun c2 => ?_)
    · refine zj_iconst C 0 dX12_island_88 ?_
      refine zj_istore_n (j := 2) (i := 2) C rfl [(2, .int (i32 0)), (0, .ref (zad Γ 138)), (1, .int (i32 v1))] dX12_island_89 (by decide) rfl ?_
      exact zj_sub [1, 2, 0] rfl ((L_X12_island_1 l F C Z zN) v1 0 h_v1 irc_0 mem)
    · refine zj_aload_n (j := 0) (i := 0) C rfl 0 rfl dX12_island_61 ?_
      refine zj_callVi C F Z [] [] cal_X12_readLine calv_X12_readLine ml_X12_226 zk_138 rfl rfl (by decide) (Nat.le_of_ble_eq_true rfl) rfl dX12_island_62 (fun q h => M_X12_readLine l Γ F  mem q h) (fun y3 m4 h_y3 => ?_)
      refine zj_if_eq C 75 h_y3 dX12_island_65 rfl (fun c5 => ?_) (fun c5 => ?_)
      · refine zj_iconst C (-1) dX12_island_75 ?_
        refine zj_aload_n (j := 0) (i := 0) C rfl 0 rfl dX12_island_76 ?_
        refine zj_getI C F 11 rfl zk_138 fl_X12_69 rfl dX12_island_77 (fun h6 => ?_)
        refine zj_isub C dX12_island_80 ?_
        exact zrt_i C Z (ir_w _) dX12_island_81
      · refine zj_aload_n (j := 0) (i := 0) C rfl 0 rfl dX12_island_68 ?_
        refine zj_callVi C F Z [] [] cal_X12_readEnd calv_X12_readEnd ml_X12_229 zk_138 rfl rfl (by decide) (Nat.le_of_ble_eq_true rfl) rfl dX12_island_69 (fun q h => M_X12_readEnd l Γ F  m4 q h) (fun y7 m8 h_y7 => ?_)
        refine zj_if_ne C 82 h_y7 dX12_island_72 rfl (fun c9 => ?_) (fun c9 => ?_)
        · refine zj_iconst C (-1) dX12_island_75 ?_
          refine zj_aload_n (j := 0) (i := 0) C rfl 0 rfl dX12_island_76 ?_
          refine zj_getI C F 11 rfl zk_138 fl_X12_69 rfl dX12_island_77 (fun h10 => ?_)
          refine zj_isub C dX12_island_80 ?_
          exact zrt_i C Z (ir_w _) dX12_island_81
        · refine zj_iinc C 1 [(1, .int (i32 (w32 (v1 + 1)))), (0, .ref (zad Γ 138))] rfl dX12_island_82 (by decide) rfl ?_
          refine zj_goto (tgt := 54) C dX12_island_85 rfl ?_
          exact zj_sub [1, 0] rfl (ih (w32 (v1 + 1)) (ir_w _) m8)
noncomputable def b_X12_island_3 (rec : Int → zMem → Option (Int × zMem)) (v1 : Int) (mem : zMem) : Option (Int × zMem) := if v1 ≥ 106 then (pipe (zup mem 138 23 0) fun m2 => pipe (zup m2 138 24 0) fun m3 => if ix 141 0 then pipe (zup m3 141 0 5) fun m5 => if ix 141 1 then pipe (zup m5 141 1 5) fun m7 => f_X12_island_2 zN 0 m7 else none else none) else (if ix 141 v1 then pipe (zup mem 141 v1 0) fun m9 => rec (w32 (v1 + 1)) m9 else none)
noncomputable def f_X12_island_3 : Nat → Int → zMem → Option (Int × zMem) := zfuel (fun _ _ => none) (b_X12_island_3)
set_option maxHeartbeats 4000000 in
theorem L_X12_island_3 (l : Launch) {Γ : zG} (F : zFull Γ) {X : zM} {q : Int × zMem} (C : zC X Γ "ShadowHeirsModel" cX12_island 3) (Z : zRt X l Γ 7 1 (some .int) q) : ∀ n : Nat, ∀ (v1 : Int) (h_v1 : ir v1) (mem : zMem), zJ X Γ 3 q (f_X12_island_3 n v1 mem) 9 [(0, .ref (zad Γ 138)), (1, .int (i32 v1))] [] mem := by
  intro n
  induction n with
  | zero => intros; exact zj_none
  | succ n ih =>
    intro v1 h_v1 mem
    show zJ X Γ 3 q (b_X12_island_3 (f_X12_island_3 n) v1 mem) _ _ _ _
    unfold b_X12_island_3
    refine zj_iload_n (j := 1) (i := 1) C rfl 1 rfl dX12_island_9 ?_
    refine zj_bipush C 106 rfl dX12_island_10 ?_
    refine zj_icmp_ge C 28 h_v1 irc_106 dX12_island_12 rfl (fun c1 => ?_) (fun c1 => ?_)
    · refine zj_aload_n (j := 0) (i := 0) C rfl 0 rfl dX12_island_28 ?_
      refine zj_iconst C 0 dX12_island_29 ?_
      refine zj_putZ C F 23 rfl zk_138 fl_X12_177 rfl fp_12_23 (Or.inl rfl) dX12_island_30 ?_
      refine zj_pipeM (fun m2 e_m2 => ?_)
      refine zj_aload_n (j := 0) (i := 0) C rfl 0 rfl dX12_island_33 ?_
      refine zj_iconst C 0 dX12_island_34 ?_
      refine zj_putZ C F 24 rfl zk_138 fl_X12_181 rfl fp_12_24 (Or.inl rfl) dX12_island_35 ?_
      refine zj_pipeM (fun m3 e_m3 => ?_)
      refine zj_aload_n (j := 0) (i := 0) C rfl 0 rfl dX12_island_38 ?_
      refine zj_getR C F zk_138 fl_X12_101 rfl rf_138_15 dX12_island_39 ?_
      refine zj_iconst C 0 dX12_island_42 ?_
      refine zj_iconst C 5 dX12_island_43 ?_
      refine zj_iastore C F zk_141 irc_0 irc_5 dX12_island_44 (fun c4 => ?_)
      refine zj_pipeM (fun m5 e_m5 => ?_)
      refine zj_aload_n (j := 0) (i := 0) C rfl 0 rfl dX12_island_45 ?_
      refine zj_getR C F zk_138 fl_X12_101 rfl rf_138_15 dX12_island_46 ?_
      refine zj_iconst C 1 dX12_island_49 ?_
      refine zj_iconst C 5 dX12_island_50 ?_
      refine zj_iastore C F zk_141 irc_1 irc_5 dX12_island_51 (fun c6 => ?_)
      refine zj_pipeM (fun m7 e_m7 => ?_)
      refine zj_iconst C 0 dX12_island_52 ?_
      refine zj_istore_n (j := 1) (i := 1) C rfl [(1, .int (i32 0)), (0, .ref (zad Γ 138))] dX12_island_53 (by decide) rfl ?_
      exact zj_sub [1, 0] rfl ((L_X12_island_2 l F C Z zN) 0 irc_0 m7)
    · refine zj_aload_n (j := 0) (i := 0) C rfl 0 rfl dX12_island_15 ?_
      refine zj_getR C F zk_138 fl_X12_101 rfl rf_138_15 dX12_island_16 ?_
      refine zj_iload_n (j := 1) (i := 1) C rfl 1 rfl dX12_island_19 ?_
      refine zj_iconst C 0 dX12_island_20 ?_
      refine zj_iastore C F zk_141 h_v1 irc_0 dX12_island_21 (fun c8 => ?_)
      refine zj_pipeM (fun m9 e_m9 => ?_)
      refine zj_iinc C 1 [(1, .int (i32 (w32 (v1 + 1)))), (0, .ref (zad Γ 138))] rfl dX12_island_22 (by decide) rfl ?_
      refine zj_goto (tgt := 9) C dX12_island_25 rfl ?_
      exact zj_sub [1, 0] rfl (ih (w32 (v1 + 1)) (ir_w _) m9)
noncomputable def f_X12_island  (mem : zMem) : Option (Int × zMem) := zbind (f_X12_begin 900 mem) fun _ m1 => f_X12_island_3 zN 0 m1
set_option maxHeartbeats 4000000 in
theorem M_X12_island (l : Launch) (Γ : zG) (F : zFull Γ)    (mem : zMem) (q : Int × zMem) (h : f_X12_island  mem = some q) : zMet l yX12_island cX12_island 3 (some .int) 7 Γ 1 [.ref (zad Γ 138)] mem q := by
  refine zMet_of (own := "ShadowHeirsModel") (by decide) rfl (Nat.le_of_ble_eq_true rfl) (fun X C Z => ?_)
  revert h
  show zJ X Γ 3 q (f_X12_island  mem) 0 [(0, .ref (zad Γ 138))] [] mem
  unfold f_X12_island
  refine zj_aload_n (j := 0) (i := 0) C rfl 0 rfl dX12_island_0 ?_
  refine zj_sipush C 900 rfl dX12_island_1 ?_
  refine zj_callVv C F Z [.int (i32 900)] [] cal_X12_begin calv_X12_begin ml_X12_223 zk_138 rfl rfl (by decide) (Nat.le_of_ble_eq_true rfl) rfl dX12_island_4 (fun q h => M_X12_begin l Γ F irc_900 mem q h) (fun _ m1 _ => ?_)
  refine zj_iconst C 0 dX12_island_7 ?_
  refine zj_istore_n (j := 1) (i := 1) C rfl [(1, .int (i32 0)), (0, .ref (zad Γ 138))] dX12_island_8 (by decide) rfl ?_
  exact zj_sub [1, 0] rfl ((L_X12_island_3 l F C Z zN) 0 irc_0 m1)
noncomputable def f_X12_fault  (mem : zMem) : Option (Int × zMem) := pipe (zup mem 138 0 0) fun m1 => some ((m1 138 10), m1)
set_option maxHeartbeats 4000000 in
theorem M_X12_fault (l : Launch) (Γ : zG) (F : zFull Γ)    (mem : zMem) (q : Int × zMem) (h : f_X12_fault  mem = some q) : zMet l yX12_fault cX12_fault 1 (some .int) 1 Γ 1 [.ref (zad Γ 138)] mem q := by
  refine zMet_of (own := "ShadowHeirsModel") (by decide) rfl (Nat.le_of_ble_eq_true rfl) (fun X C Z => ?_)
  revert h
  show zJ X Γ 1 q (f_X12_fault  mem) 0 [(0, .ref (zad Γ 138))] [] mem
  unfold f_X12_fault
  refine zj_aload_n (j := 0) (i := 0) C rfl 0 rfl dX12_fault_0 ?_
  refine zj_iconst C 0 dX12_fault_1 ?_
  refine zj_putI C F 0 rfl zk_138 fl_X12_1 rfl fp_12_0 irc_0 dX12_fault_2 ?_
  refine zj_pipeM (fun m1 e_m1 => ?_)
  refine zj_aload_n (j := 0) (i := 0) C rfl 0 rfl dX12_fault_5 ?_
  refine zj_getI C F 10 rfl zk_138 fl_X12_66 rfl dX12_fault_6 (fun h2 => ?_)
  exact zrt_i C Z h2 dX12_fault_9
noncomputable def f_X12_isCell (x0 : Int) (x1 : Int) (mem : zMem) : Option (Int × zMem) := if ix 140 0 then zbind (f_X12_isIn x0 0 (w32 ((mem 140 0) - 1)) mem) fun y3 m4 => if y3 = 0 then (some (0, m4)) else (if ix 140 1 then zbind (f_X12_isIn x1 0 (w32 ((m4 140 1) - 1)) m4) fun y8 m9 => if y8 = 0 then (some (0, m9)) else (some (1, m9)) else none) else none
set_option maxHeartbeats 4000000 in
theorem M_X12_isCell (l : Launch) (Γ : zG) (F : zFull Γ)  {x0 : Int} {x1 : Int} (h_x0 : ir x0) (h_x1 : ir x1) (mem : zMem) (q : Int × zMem) (h : f_X12_isCell x0 x1 mem = some q) : zMet l yX12_isCell cX12_isCell 3 (some .boolean) 2 Γ 1 [.ref (zad Γ 138), .int (i32 x0), .int (i32 x1)] mem q := by
  refine zMet_of (own := "ShadowHeirsModel") (by decide) rfl (Nat.le_of_ble_eq_true rfl) (fun X C Z => ?_)
  revert h
  show zJ X Γ 3 q (f_X12_isCell x0 x1 mem) 0 [(0, .ref (zad Γ 138)), (1, .int (i32 x0)), (2, .int (i32 x1))] [] mem
  unfold f_X12_isCell
  refine zj_iload_n (j := 1) (i := 1) C rfl 1 rfl dX12_isCell_0 ?_
  refine zj_iconst C 0 dX12_isCell_1 ?_
  refine zj_aload_n (j := 0) (i := 0) C rfl 0 rfl dX12_isCell_2 ?_
  refine zj_getR C F zk_138 fl_X12_98 rfl rf_138_14 dX12_isCell_3 ?_
  refine zj_iconst C 0 dX12_isCell_6 ?_
  refine zj_iaload C F zk_140 irc_0 dX12_isCell_7 (fun c1 h2 => ?_)
  refine zj_iconst C 1 dX12_isCell_8 ?_
  refine zj_isub C dX12_isCell_9 ?_
  refine zj_callSi C Z [.int (i32 x0), .int (i32 0), .int (i32 (w32 ((mem 140 0) - 1)))] [] cal_X12_isIn sta_X12_isIn ml_X12_75 rfl (by decide) (Nat.le_of_ble_eq_true rfl) rfl dX12_isCell_10 (fun q h => M_X12_isIn l Γ F h_x0 irc_0 (ir_w _) mem q h) (fun y3 m4 h_y3 => ?_)
  refine zj_if_eq C 36 h_y3 dX12_isCell_13 rfl (fun c5 => ?_) (fun c5 => ?_)
  · refine zj_iconst C 0 dX12_isCell_36 ?_
    exact zrt_z C Z (Or.inl rfl) dX12_isCell_37
  · refine zj_iload_n (j := 2) (i := 2) C rfl 2 rfl dX12_isCell_16 ?_
    refine zj_iconst C 0 dX12_isCell_17 ?_
    refine zj_aload_n (j := 0) (i := 0) C rfl 0 rfl dX12_isCell_18 ?_
    refine zj_getR C F zk_138 fl_X12_98 rfl rf_138_14 dX12_isCell_19 ?_
    refine zj_iconst C 1 dX12_isCell_22 ?_
    refine zj_iaload C F zk_140 irc_1 dX12_isCell_23 (fun c6 h7 => ?_)
    refine zj_iconst C 1 dX12_isCell_24 ?_
    refine zj_isub C dX12_isCell_25 ?_
    refine zj_callSi C Z [.int (i32 x1), .int (i32 0), .int (i32 (w32 ((m4 140 1) - 1)))] [] cal_X12_isIn sta_X12_isIn ml_X12_75 rfl (by decide) (Nat.le_of_ble_eq_true rfl) rfl dX12_isCell_26 (fun q h => M_X12_isIn l Γ F h_x1 irc_0 (ir_w _) m4 q h) (fun y8 m9 h_y8 => ?_)
    refine zj_if_eq C 36 h_y8 dX12_isCell_29 rfl (fun c10 => ?_) (fun c10 => ?_)
    · refine zj_iconst C 0 dX12_isCell_36 ?_
      exact zrt_z C Z (Or.inl rfl) dX12_isCell_37
    · refine zj_iconst C 1 dX12_isCell_32 ?_
      refine zj_goto (tgt := 37) C dX12_isCell_33 rfl ?_
      exact zrt_z C Z (Or.inr rfl) dX12_isCell_37
noncomputable def f_X12_isHouse (x0 : Int) (mem : zMem) : Option (Int × zMem) := if ix 140 2 then zbind (f_X12_isIn x0 0 (w32 ((mem 140 2) - 1)) mem) fun y3 m4 => if y3 = 0 ∨ y3 = 1 then some (y3, m4) else none else none
set_option maxHeartbeats 4000000 in
theorem M_X12_isHouse (l : Launch) (Γ : zG) (F : zFull Γ)  {x0 : Int} (h_x0 : ir x0) (mem : zMem) (q : Int × zMem) (h : f_X12_isHouse x0 mem = some q) : zMet l yX12_isHouse cX12_isHouse 2 (some .boolean) 2 Γ 1 [.ref (zad Γ 138), .int (i32 x0)] mem q := by
  refine zMet_of (own := "ShadowHeirsModel") (by decide) rfl (Nat.le_of_ble_eq_true rfl) (fun X C Z => ?_)
  revert h
  show zJ X Γ 2 q (f_X12_isHouse x0 mem) 0 [(0, .ref (zad Γ 138)), (1, .int (i32 x0))] [] mem
  unfold f_X12_isHouse
  refine zj_iload_n (j := 1) (i := 1) C rfl 1 rfl dX12_isHouse_0 ?_
  refine zj_iconst C 0 dX12_isHouse_1 ?_
  refine zj_aload_n (j := 0) (i := 0) C rfl 0 rfl dX12_isHouse_2 ?_
  refine zj_getR C F zk_138 fl_X12_98 rfl rf_138_14 dX12_isHouse_3 ?_
  refine zj_iconst C 2 dX12_isHouse_6 ?_
  refine zj_iaload C F zk_140 irc_2 dX12_isHouse_7 (fun c1 h2 => ?_)
  refine zj_iconst C 1 dX12_isHouse_8 ?_
  refine zj_isub C dX12_isHouse_9 ?_
  refine zj_callSi C Z [.int (i32 x0), .int (i32 0), .int (i32 (w32 ((mem 140 2) - 1)))] [] cal_X12_isIn sta_X12_isIn ml_X12_75 rfl (by decide) (Nat.le_of_ble_eq_true rfl) rfl dX12_isHouse_10 (fun q h => M_X12_isIn l Γ F h_x0 irc_0 (ir_w _) mem q h) (fun y3 m4 h_y3 => ?_)
  exact zrt_zc C Z dX12_isHouse_13
noncomputable def f_X12_isPerson (x0 : Int) (mem : zMem) : Option (Int × zMem) := if ix 140 3 then zbind (f_X12_isIn x0 0 (w32 ((mem 140 3) - 1)) mem) fun y3 m4 => if y3 = 0 ∨ y3 = 1 then some (y3, m4) else none else none
set_option maxHeartbeats 4000000 in
theorem M_X12_isPerson (l : Launch) (Γ : zG) (F : zFull Γ)  {x0 : Int} (h_x0 : ir x0) (mem : zMem) (q : Int × zMem) (h : f_X12_isPerson x0 mem = some q) : zMet l yX12_isPerson cX12_isPerson 2 (some .boolean) 2 Γ 1 [.ref (zad Γ 138), .int (i32 x0)] mem q := by
  refine zMet_of (own := "ShadowHeirsModel") (by decide) rfl (Nat.le_of_ble_eq_true rfl) (fun X C Z => ?_)
  revert h
  show zJ X Γ 2 q (f_X12_isPerson x0 mem) 0 [(0, .ref (zad Γ 138)), (1, .int (i32 x0))] [] mem
  unfold f_X12_isPerson
  refine zj_iload_n (j := 1) (i := 1) C rfl 1 rfl dX12_isPerson_0 ?_
  refine zj_iconst C 0 dX12_isPerson_1 ?_
  refine zj_aload_n (j := 0) (i := 0) C rfl 0 rfl dX12_isPerson_2 ?_
  refine zj_getR C F zk_138 fl_X12_98 rfl rf_138_14 dX12_isPerson_3 ?_
  refine zj_iconst C 3 dX12_isPerson_6 ?_
  refine zj_iaload C F zk_140 irc_3 dX12_isPerson_7 (fun c1 h2 => ?_)
  refine zj_iconst C 1 dX12_isPerson_8 ?_
  refine zj_isub C dX12_isPerson_9 ?_
  refine zj_callSi C Z [.int (i32 x0), .int (i32 0), .int (i32 (w32 ((mem 140 3) - 1)))] [] cal_X12_isIn sta_X12_isIn ml_X12_75 rfl (by decide) (Nat.le_of_ble_eq_true rfl) rfl dX12_isPerson_10 (fun q h => M_X12_isIn l Γ F h_x0 irc_0 (ir_w _) mem q h) (fun y3 m4 h_y3 => ?_)
  exact zrt_zc C Z dX12_isPerson_13
noncomputable def f_X12_isSun (x0 : Int) (mem : zMem) : Option (Int × zMem) := if ix 140 4 then zbind (f_X12_isIn x0 0 (w32 ((mem 140 4) - 1)) mem) fun y3 m4 => if y3 = 0 ∨ y3 = 1 then some (y3, m4) else none else none
set_option maxHeartbeats 4000000 in
theorem M_X12_isSun (l : Launch) (Γ : zG) (F : zFull Γ)  {x0 : Int} (h_x0 : ir x0) (mem : zMem) (q : Int × zMem) (h : f_X12_isSun x0 mem = some q) : zMet l yX12_isSun cX12_isSun 2 (some .boolean) 2 Γ 1 [.ref (zad Γ 138), .int (i32 x0)] mem q := by
  refine zMet_of (own := "ShadowHeirsModel") (by decide) rfl (Nat.le_of_ble_eq_true rfl) (fun X C Z => ?_)
  revert h
  show zJ X Γ 2 q (f_X12_isSun x0 mem) 0 [(0, .ref (zad Γ 138)), (1, .int (i32 x0))] [] mem
  unfold f_X12_isSun
  refine zj_iload_n (j := 1) (i := 1) C rfl 1 rfl dX12_isSun_0 ?_
  refine zj_iconst C 0 dX12_isSun_1 ?_
  refine zj_aload_n (j := 0) (i := 0) C rfl 0 rfl dX12_isSun_2 ?_
  refine zj_getR C F zk_138 fl_X12_98 rfl rf_138_14 dX12_isSun_3 ?_
  refine zj_iconst C 4 dX12_isSun_6 ?_
  refine zj_iaload C F zk_140 irc_4 dX12_isSun_7 (fun c1 h2 => ?_)
  refine zj_iconst C 1 dX12_isSun_8 ?_
  refine zj_isub C dX12_isSun_9 ?_
  refine zj_callSi C Z [.int (i32 x0), .int (i32 0), .int (i32 (w32 ((mem 140 4) - 1)))] [] cal_X12_isIn sta_X12_isIn ml_X12_75 rfl (by decide) (Nat.le_of_ble_eq_true rfl) rfl dX12_isSun_10 (fun q h => M_X12_isIn l Γ F h_x0 irc_0 (ir_w _) mem q h) (fun y3 m4 h_y3 => ?_)
  exact zrt_zc C Z dX12_isSun_13
noncomputable def f_X12_isBuried (x0 : Int) (mem : zMem) : Option (Int × zMem) := if ix 140 107 then zbind (f_X12_has (mem 140 107) x0 mem) fun y3 m4 => if y3 = 0 ∨ y3 = 1 then some (y3, m4) else none else none
set_option maxHeartbeats 4000000 in
theorem M_X12_isBuried (l : Launch) (Γ : zG) (F : zFull Γ)  {x0 : Int} (h_x0 : ir x0) (mem : zMem) (q : Int × zMem) (h : f_X12_isBuried x0 mem = some q) : zMet l yX12_isBuried cX12_isBuried 2 (some .boolean) 2 Γ 1 [.ref (zad Γ 138), .int (i32 x0)] mem q := by
  refine zMet_of (own := "ShadowHeirsModel") (by decide) rfl (Nat.le_of_ble_eq_true rfl) (fun X C Z => ?_)
  revert h
  show zJ X Γ 2 q (f_X12_isBuried x0 mem) 0 [(0, .ref (zad Γ 138)), (1, .int (i32 x0))] [] mem
  unfold f_X12_isBuried
  refine zj_aload_n (j := 0) (i := 0) C rfl 0 rfl dX12_isBuried_0 ?_
  refine zj_getR C F zk_138 fl_X12_98 rfl rf_138_14 dX12_isBuried_1 ?_
  refine zj_bipush C 107 rfl dX12_isBuried_4 ?_
  refine zj_iaload C F zk_140 irc_107 dX12_isBuried_6 (fun c1 h2 => ?_)
  refine zj_iload_n (j := 1) (i := 1) C rfl 1 rfl dX12_isBuried_7 ?_
  refine zj_callSi C Z [.int (i32 (mem 140 107)), .int (i32 x0)] [] cal_X12_has sta_X12_has ml_X12_235 rfl (by decide) (Nat.le_of_ble_eq_true rfl) rfl dX12_isBuried_8 (fun q h => M_X12_has l Γ F h2 h_x0 mem q h) (fun y3 m4 h_y3 => ?_)
  exact zrt_zc C Z dX12_isBuried_11
noncomputable def b_X12_houseAt_0 (rec : Int → Int → zMem → Option (Int × zMem)) (v1 : Int) (v2 : Int) (mem : zMem) : Option (Int × zMem) := if ix 140 2 then if v2 ≥ (mem 140 2) then (some ((-1), mem)) else (if ix 140 (w32 (5 + v2)) then if (mem 140 (w32 (5 + v2))) = v1 then (some (v2, mem)) else (rec v1 (w32 (v2 + 1)) mem) else none) else none
noncomputable def f_X12_houseAt_0 : Nat → Int → Int → zMem → Option (Int × zMem) := zfuel (fun _ _ _ => none) (b_X12_houseAt_0)
set_option maxHeartbeats 4000000 in
theorem L_X12_houseAt_0 (l : Launch) {Γ : zG} (F : zFull Γ) {X : zM} {q : Int × zMem} (C : zC X Γ "ShadowHeirsModel" cX12_houseAt 3) (Z : zRt X l Γ 1 1 (some .int) q) : ∀ n : Nat, ∀ (v1 : Int) (v2 : Int) (h_v1 : ir v1) (h_v2 : ir v2) (mem : zMem), zJ X Γ 3 q (f_X12_houseAt_0 n v1 v2 mem) 2 [(0, .ref (zad Γ 138)), (1, .int (i32 v1)), (2, .int (i32 v2))] [] mem := by
  intro n
  induction n with
  | zero => intros; exact zj_none
  | succ n ih =>
    intro v1 v2 h_v1 h_v2 mem
    show zJ X Γ 3 q (b_X12_houseAt_0 (f_X12_houseAt_0 n) v1 v2 mem) _ _ _ _
    unfold b_X12_houseAt_0
    refine zj_iload_n (j := 2) (i := 2) C rfl 2 rfl dX12_houseAt_2 ?_
    refine zj_aload_n (j := 0) (i := 0) C rfl 0 rfl dX12_houseAt_3 ?_
    refine zj_getR C F zk_138 fl_X12_98 rfl rf_138_14 dX12_houseAt_4 ?_
    refine zj_iconst C 2 dX12_houseAt_7 ?_
    refine zj_iaload C F zk_140 irc_2 dX12_houseAt_8 (fun c1 h2 => ?_)
    refine zj_icmp_ge C 32 h_v2 h2 dX12_houseAt_9 rfl (fun c3 => ?_) (fun c3 => ?_)
    · refine zj_iconst C (-1) dX12_houseAt_32 ?_
      exact zrt_i C Z irc_m1 dX12_houseAt_33
    · refine zj_aload_n (j := 0) (i := 0) C rfl 0 rfl dX12_houseAt_12 ?_
      refine zj_getR C F zk_138 fl_X12_98 rfl rf_138_14 dX12_houseAt_13 ?_
      refine zj_iconst C 5 dX12_houseAt_16 ?_
      refine zj_iload_n (j := 2) (i := 2) C rfl 2 rfl dX12_houseAt_17 ?_
      refine zj_iadd C dX12_houseAt_18 ?_
      refine zj_iaload C F zk_140 (ir_w _) dX12_houseAt_19 (fun c4 h5 => ?_)
      refine zj_iload_n (j := 1) (i := 1) C rfl 1 rfl dX12_houseAt_20 ?_
      refine zj_icmp_ne C 26 h5 h_v1 dX12_houseAt_21 rfl (fun c6 => ?_) (fun c6 => ?_)
      · refine zj_iload_n (j := 2) (i := 2) C rfl 2 rfl dX12_houseAt_24 ?_
        exact zrt_i C Z h_v2 dX12_houseAt_25
      · refine zj_iinc C 2 [(2, .int (i32 (w32 (v2 + 1)))), (0, .ref (zad Γ 138)), (1, .int (i32 v1))] rfl dX12_houseAt_26 (by decide) rfl ?_
        refine zj_goto (tgt := 2) C dX12_houseAt_29 rfl ?_
        exact zj_sub [1, 2, 0] rfl (ih v1 (w32 (v2 + 1)) h_v1 (ir_w _) mem)
noncomputable def f_X12_houseAt (x0 : Int) (mem : zMem) : Option (Int × zMem) := f_X12_houseAt_0 zN x0 0 mem
set_option maxHeartbeats 4000000 in
theorem M_X12_houseAt (l : Launch) (Γ : zG) (F : zFull Γ)  {x0 : Int} (h_x0 : ir x0) (mem : zMem) (q : Int × zMem) (h : f_X12_houseAt x0 mem = some q) : zMet l yX12_houseAt cX12_houseAt 3 (some .int) 1 Γ 1 [.ref (zad Γ 138), .int (i32 x0)] mem q := by
  refine zMet_of (own := "ShadowHeirsModel") (by decide) rfl (Nat.le_of_ble_eq_true rfl) (fun X C Z => ?_)
  revert h
  show zJ X Γ 3 q (f_X12_houseAt x0 mem) 0 [(0, .ref (zad Γ 138)), (1, .int (i32 x0))] [] mem
  unfold f_X12_houseAt
  refine zj_iconst C 0 dX12_houseAt_0 ?_
  refine zj_istore_n (j := 2) (i := 2) C rfl [(2, .int (i32 0)), (0, .ref (zad Γ 138)), (1, .int (i32 x0))] dX12_houseAt_1 (by decide) rfl ?_
  exact zj_sub [1, 2, 0] rfl ((L_X12_houseAt_0 l F C Z zN) x0 0 h_x0 irc_0 mem)
noncomputable def b_X12_personsAt_0 (rec : Int → Int → Int → zMem → Option (Int × zMem)) (v1 : Int) (v2 : Int) (v3 : Int) (mem : zMem) : Option (Int × zMem) := if ix 140 3 then if v3 ≥ (mem 140 3) then (some (v2, mem)) else (if ix 140 (w32 (116 + v3)) then if (mem 140 (w32 (116 + v3))) = v1 then (pipe (zor v2 (zshl 1 v3)) fun y7 => rec v1 y7 (w32 (v3 + 1)) mem) else (rec v1 v2 (w32 (v3 + 1)) mem) else none) else none
noncomputable def f_X12_personsAt_0 : Nat → Int → Int → Int → zMem → Option (Int × zMem) := zfuel (fun _ _ _ _ => none) (b_X12_personsAt_0)
set_option maxHeartbeats 4000000 in
theorem L_X12_personsAt_0 (l : Launch) {Γ : zG} (F : zFull Γ) {X : zM} {q : Int × zMem} (C : zC X Γ "ShadowHeirsModel" cX12_personsAt 4) (Z : zRt X l Γ 1 1 (some .int) q) : ∀ n : Nat, ∀ (v1 : Int) (v2 : Int) (v3 : Int) (h_v1 : ir v1) (h_v2 : ir v2) (h_v3 : ir v3) (mem : zMem), zJ X Γ 4 q (f_X12_personsAt_0 n v1 v2 v3 mem) 4 [(0, .ref (zad Γ 138)), (1, .int (i32 v1)), (2, .int (i32 v2)), (3, .int (i32 v3))] [] mem := by
  intro n
  induction n with
  | zero => intros; exact zj_none
  | succ n ih =>
    intro v1 v2 v3 h_v1 h_v2 h_v3 mem
    show zJ X Γ 4 q (b_X12_personsAt_0 (f_X12_personsAt_0 n) v1 v2 v3 mem) _ _ _ _
    unfold b_X12_personsAt_0
    refine zj_iload_n (j := 3) (i := 3) C rfl 3 rfl dX12_personsAt_4 ?_
    refine zj_aload_n (j := 0) (i := 0) C rfl 0 rfl dX12_personsAt_5 ?_
    refine zj_getR C F zk_138 fl_X12_98 rfl rf_138_14 dX12_personsAt_6 ?_
    refine zj_iconst C 3 dX12_personsAt_9 ?_
    refine zj_iaload C F zk_140 irc_3 dX12_personsAt_10 (fun c1 h2 => ?_)
    refine zj_icmp_ge C 39 h_v3 h2 dX12_personsAt_11 rfl (fun c3 => ?_) (fun c3 => ?_)
    · refine zj_iload_n (j := 2) (i := 2) C rfl 2 rfl dX12_personsAt_39 ?_
      exact zrt_i C Z h_v2 dX12_personsAt_40
    · refine zj_aload_n (j := 0) (i := 0) C rfl 0 rfl dX12_personsAt_14 ?_
      refine zj_getR C F zk_138 fl_X12_98 rfl rf_138_14 dX12_personsAt_15 ?_
      refine zj_bipush C 116 rfl dX12_personsAt_18 ?_
      refine zj_iload_n (j := 3) (i := 3) C rfl 3 rfl dX12_personsAt_20 ?_
      refine zj_iadd C dX12_personsAt_21 ?_
      refine zj_iaload C F zk_140 (ir_w _) dX12_personsAt_22 (fun c4 h5 => ?_)
      refine zj_iload_n (j := 1) (i := 1) C rfl 1 rfl dX12_personsAt_23 ?_
      refine zj_icmp_ne C 33 h5 h_v1 dX12_personsAt_24 rfl (fun c6 => ?_) (fun c6 => ?_)
      · refine zj_iload_n (j := 2) (i := 2) C rfl 2 rfl dX12_personsAt_27 ?_
        refine zj_iconst C 1 dX12_personsAt_28 ?_
        refine zj_iload_n (j := 3) (i := 3) C rfl 3 rfl dX12_personsAt_29 ?_
        refine zj_ishl C dX12_personsAt_30 ?_
        refine zj_ior C dX12_personsAt_31 ?_
        refine zj_pipeI (fun y7 e_y7 => ?_)
        have h_y7 := ir_eq e_y7 (ir_toInt _)
        refine zj_istore_n (j := 2) (i := 2) C rfl [(2, .int (i32 y7)), (0, .ref (zad Γ 138)), (1, .int (i32 v1)), (3, .int (i32 v3))] dX12_personsAt_32 (by decide) rfl ?_
        refine zj_iinc C 3 [(3, .int (i32 (w32 (v3 + 1)))), (2, .int (i32 y7)), (0, .ref (zad Γ 138)), (1, .int (i32 v1))] rfl dX12_personsAt_33 (by decide) rfl ?_
        refine zj_goto (tgt := 4) C dX12_personsAt_36 rfl ?_
        exact zj_sub [2, 3, 1, 0] rfl (ih v1 y7 (w32 (v3 + 1)) h_v1 h_y7 (ir_w _) mem)
      · refine zj_iinc C 3 [(3, .int (i32 (w32 (v3 + 1)))), (0, .ref (zad Γ 138)), (1, .int (i32 v1)), (2, .int (i32 v2))] rfl dX12_personsAt_33 (by decide) rfl ?_
        refine zj_goto (tgt := 4) C dX12_personsAt_36 rfl ?_
        exact zj_sub [1, 2, 3, 0] rfl (ih v1 v2 (w32 (v3 + 1)) h_v1 h_v2 (ir_w _) mem)
noncomputable def f_X12_personsAt (x0 : Int) (mem : zMem) : Option (Int × zMem) := f_X12_personsAt_0 zN x0 0 0 mem
set_option maxHeartbeats 4000000 in
theorem M_X12_personsAt (l : Launch) (Γ : zG) (F : zFull Γ)  {x0 : Int} (h_x0 : ir x0) (mem : zMem) (q : Int × zMem) (h : f_X12_personsAt x0 mem = some q) : zMet l yX12_personsAt cX12_personsAt 4 (some .int) 1 Γ 1 [.ref (zad Γ 138), .int (i32 x0)] mem q := by
  refine zMet_of (own := "ShadowHeirsModel") (by decide) rfl (Nat.le_of_ble_eq_true rfl) (fun X C Z => ?_)
  revert h
  show zJ X Γ 4 q (f_X12_personsAt x0 mem) 0 [(0, .ref (zad Γ 138)), (1, .int (i32 x0))] [] mem
  unfold f_X12_personsAt
  refine zj_iconst C 0 dX12_personsAt_0 ?_
  refine zj_istore_n (j := 2) (i := 2) C rfl [(2, .int (i32 0)), (0, .ref (zad Γ 138)), (1, .int (i32 x0))] dX12_personsAt_1 (by decide) rfl ?_
  refine zj_iconst C 0 dX12_personsAt_2 ?_
  refine zj_istore_n (j := 3) (i := 3) C rfl [(3, .int (i32 0)), (2, .int (i32 0)), (0, .ref (zad Γ 138)), (1, .int (i32 x0))] dX12_personsAt_3 (by decide) rfl ?_
  exact zj_sub [2, 3, 1, 0] rfl ((L_X12_personsAt_0 l F C Z zN) x0 0 0 h_x0 irc_0 irc_0 mem)
noncomputable def f_X12_heightOf (x0 : Int) (mem : zMem) : Option (Int × zMem) := zbind (f_X12_houseAt x0 mem) fun y1 m2 => if y1 = (-1) then (if ix 140 (w32 (128 + x0)) then some ((m2 140 (w32 (128 + x0))), m2) else none) else (zbind (f_X12_houseAt x0 m2) fun y6 m7 => if ix 140 (w32 (10 + y6)) then some ((m7 140 (w32 (10 + y6))), m7) else none)
set_option maxHeartbeats 4000000 in
theorem M_X12_heightOf (l : Launch) (Γ : zG) (F : zFull Γ)  {x0 : Int} (h_x0 : ir x0) (mem : zMem) (q : Int × zMem) (h : f_X12_heightOf x0 mem = some q) : zMet l yX12_heightOf cX12_heightOf 2 (some .int) 2 Γ 1 [.ref (zad Γ 138), .int (i32 x0)] mem q := by
  refine zMet_of (own := "ShadowHeirsModel") (by decide) rfl (Nat.le_of_ble_eq_true rfl) (fun X C Z => ?_)
  revert h
  show zJ X Γ 2 q (f_X12_heightOf x0 mem) 0 [(0, .ref (zad Γ 138)), (1, .int (i32 x0))] [] mem
  unfold f_X12_heightOf
  refine zj_aload_n (j := 0) (i := 0) C rfl 0 rfl dX12_heightOf_0 ?_
  refine zj_iload_n (j := 1) (i := 1) C rfl 1 rfl dX12_heightOf_1 ?_
  refine zj_callVi C F Z [.int (i32 x0)] [] cal_X12_houseAt calv_X12_houseAt ml_X12_238 zk_138 rfl rfl (by decide) (Nat.le_of_ble_eq_true rfl) rfl dX12_heightOf_2 (fun q h => M_X12_houseAt l Γ F h_x0 mem q h) (fun y1 m2 h_y1 => ?_)
  refine zj_iconst C (-1) dX12_heightOf_5 ?_
  refine zj_icmp_ne C 22 h_y1 irc_m1 dX12_heightOf_6 rfl (fun c3 => ?_) (fun c3 => ?_)
  · refine zj_aload_n (j := 0) (i := 0) C rfl 0 rfl dX12_heightOf_9 ?_
    refine zj_getR C F zk_138 fl_X12_98 rfl rf_138_14 dX12_heightOf_10 ?_
    refine zj_sipush C 128 rfl dX12_heightOf_13 ?_
    refine zj_iload_n (j := 1) (i := 1) C rfl 1 rfl dX12_heightOf_16 ?_
    refine zj_iadd C dX12_heightOf_17 ?_
    refine zj_iaload C F zk_140 (ir_w _) dX12_heightOf_18 (fun c4 h5 => ?_)
    refine zj_goto (tgt := 35) C dX12_heightOf_19 rfl ?_
    exact zrt_i C Z h5 dX12_heightOf_35
  · refine zj_aload_n (j := 0) (i := 0) C rfl 0 rfl dX12_heightOf_22 ?_
    refine zj_getR C F zk_138 fl_X12_98 rfl rf_138_14 dX12_heightOf_23 ?_
    refine zj_bipush C 10 rfl dX12_heightOf_26 ?_
    refine zj_aload_n (j := 0) (i := 0) C rfl 0 rfl dX12_heightOf_28 ?_
    refine zj_iload_n (j := 1) (i := 1) C rfl 1 rfl dX12_heightOf_29 ?_
    refine zj_callVi C F Z [.int (i32 x0)] [.int (i32 10), .ref (zad Γ 140)] cal_X12_houseAt calv_X12_houseAt ml_X12_238 zk_138 rfl rfl (by decide) (Nat.le_of_ble_eq_true rfl) rfl dX12_heightOf_30 (fun q h => M_X12_houseAt l Γ F h_x0 m2 q h) (fun y6 m7 h_y6 => ?_)
    refine zj_iadd C dX12_heightOf_33 ?_
    refine zj_iaload C F zk_140 (ir_w _) dX12_heightOf_34 (fun c8 h9 => ?_)
    exact zrt_i C Z h9 dX12_heightOf_35
noncomputable def f_X12_isOpen (x0 : Int) (mem : zMem) : Option (Int × zMem) := zbind (f_X12_heightOf x0 mem) fun y1 m2 => if y1 = 0 then (some (1, m2)) else (some (0, m2))
set_option maxHeartbeats 4000000 in
theorem M_X12_isOpen (l : Launch) (Γ : zG) (F : zFull Γ)  {x0 : Int} (h_x0 : ir x0) (mem : zMem) (q : Int × zMem) (h : f_X12_isOpen x0 mem = some q) : zMet l yX12_isOpen cX12_isOpen 2 (some .boolean) 3 Γ 1 [.ref (zad Γ 138), .int (i32 x0)] mem q := by
  refine zMet_of (own := "ShadowHeirsModel") (by decide) rfl (Nat.le_of_ble_eq_true rfl) (fun X C Z => ?_)
  revert h
  show zJ X Γ 2 q (f_X12_isOpen x0 mem) 0 [(0, .ref (zad Γ 138)), (1, .int (i32 x0))] [] mem
  unfold f_X12_isOpen
  refine zj_aload_n (j := 0) (i := 0) C rfl 0 rfl dX12_isOpen_0 ?_
  refine zj_iload_n (j := 1) (i := 1) C rfl 1 rfl dX12_isOpen_1 ?_
  refine zj_callVi C F Z [.int (i32 x0)] [] cal_X12_heightOf calv_X12_heightOf ml_X12_241 zk_138 rfl rfl (by decide) (Nat.le_of_ble_eq_true rfl) rfl dX12_isOpen_2 (fun q h => M_X12_heightOf l Γ F h_x0 mem q h) (fun y1 m2 h_y1 => ?_)
  refine zj_if_ne C 12 h_y1 dX12_isOpen_5 rfl (fun c3 => ?_) (fun c3 => ?_)
  · refine zj_iconst C 1 dX12_isOpen_8 ?_
    refine zj_goto (tgt := 13) C dX12_isOpen_9 rfl ?_
    exact zrt_z C Z (Or.inr rfl) dX12_isOpen_13
  · refine zj_iconst C 0 dX12_isOpen_12 ?_
    exact zrt_z C Z (Or.inl rfl) dX12_isOpen_13
noncomputable def f_X12_nextTo (x0 : Int) (x1 : Int) (mem : zMem) : Option (Int × zMem) := if x1 = 0 then (pipe (w32 ((zrem x0 8) + 1)) fun y2 => if x1 = 1 then (pipe (w32 ((zdiv x0 8) + 1)) fun y4 => zbind (f_X12_isCell y2 y4 mem) fun y5 m6 => if y5 = 0 then (some ((-1), m6)) else (some ((w32 ((w32 (8 * y4)) + y2)), m6))) else (if x1 = 3 then (pipe (w32 ((zdiv x0 8) + (-1))) fun y9 => zbind (f_X12_isCell y2 y9 mem) fun y10 m11 => if y10 = 0 then (some ((-1), m11)) else (some ((w32 ((w32 (8 * y9)) + y2)), m11))) else (pipe (w32 ((zdiv x0 8) + 0)) fun y13 => zbind (f_X12_isCell y2 y13 mem) fun y14 m15 => if y14 = 0 then (some ((-1), m15)) else (some ((w32 ((w32 (8 * y13)) + y2)), m15))))) else (if x1 = 2 then (pipe (w32 ((zrem x0 8) + (-1))) fun y18 => if x1 = 1 then (pipe (w32 ((zdiv x0 8) + 1)) fun y20 => zbind (f_X12_isCell y18 y20 mem) fun y21 m22 => if y21 = 0 then (some ((-1), m22)) else (some ((w32 ((w32 (8 * y20)) + y18)), m22))) else (if x1 = 3 then (pipe (w32 ((zdiv x0 8) + (-1))) fun y25 => zbind (f_X12_isCell y18 y25 mem) fun y26 m27 => if y26 = 0 then (some ((-1), m27)) else (some ((w32 ((w32 (8 * y25)) + y18)), m27))) else (pipe (w32 ((zdiv x0 8) + 0)) fun y29 => zbind (f_X12_isCell y18 y29 mem) fun y30 m31 => if y30 = 0 then (some ((-1), m31)) else (some ((w32 ((w32 (8 * y29)) + y18)), m31))))) else (pipe (w32 ((zrem x0 8) + 0)) fun y33 => if x1 = 1 then (pipe (w32 ((zdiv x0 8) + 1)) fun y35 => zbind (f_X12_isCell y33 y35 mem) fun y36 m37 => if y36 = 0 then (some ((-1), m37)) else (some ((w32 ((w32 (8 * y35)) + y33)), m37))) else (if x1 = 3 then (pipe (w32 ((zdiv x0 8) + (-1))) fun y40 => zbind (f_X12_isCell y33 y40 mem) fun y41 m42 => if y41 = 0 then (some ((-1), m42)) else (some ((w32 ((w32 (8 * y40)) + y33)), m42))) else (pipe (w32 ((zdiv x0 8) + 0)) fun y44 => zbind (f_X12_isCell y33 y44 mem) fun y45 m46 => if y45 = 0 then (some ((-1), m46)) else (some ((w32 ((w32 (8 * y44)) + y33)), m46))))))
set_option maxHeartbeats 4000000 in
theorem M_X12_nextTo (l : Launch) (Γ : zG) (F : zFull Γ)  {x0 : Int} {x1 : Int} (h_x0 : ir x0) (h_x1 : ir x1) (mem : zMem) (q : Int × zMem) (h : f_X12_nextTo x0 x1 mem = some q) : zMet l yX12_nextTo cX12_nextTo 5 (some .int) 3 Γ 1 [.ref (zad Γ 138), .int (i32 x0), .int (i32 x1)] mem q := by
  refine zMet_of (own := "ShadowHeirsModel") (by decide) rfl (Nat.le_of_ble_eq_true rfl) (fun X C Z => ?_)
  revert h
  show zJ X Γ 5 q (f_X12_nextTo x0 x1 mem) 0 [(0, .ref (zad Γ 138)), (1, .int (i32 x0)), (2, .int (i32 x1))] [] mem
  unfold f_X12_nextTo
  refine zj_iload_n (j := 1) (i := 1) C rfl 1 rfl dX12_nextTo_0 ?_
  refine zj_bipush C 8 rfl dX12_nextTo_1 ?_
  refine zj_iremc C (by decide) dX12_nextTo_3 ?_
  refine zj_iload_n (j := 2) (i := 2) C rfl 2 rfl dX12_nextTo_4 ?_
  refine zj_if_ne C 12 h_x1 dX12_nextTo_5 rfl (fun c1 => ?_) (fun c1 => ?_)
  · refine zj_iconst C 1 dX12_nextTo_8 ?_
    refine zj_goto (tgt := 22) C dX12_nextTo_9 rfl ?_
    refine zj_iadd C dX12_nextTo_22 ?_
    refine zj_pipeI (fun y2 e_y2 => ?_)
    have h_y2 := ir_eq e_y2 (ir_w _)
    refine zj_istore_n (j := 3) (i := 3) C rfl [(3, .int (i32 y2)), (0, .ref (zad Γ 138)), (1, .int (i32 x0)), (2, .int (i32 x1))] dX12_nextTo_23 (by decide) rfl ?_
    refine zj_iload_n (j := 1) (i := 1) C rfl 2 rfl dX12_nextTo_24 ?_
    refine zj_bipush C 8 rfl dX12_nextTo_25 ?_
    refine zj_idivc C (by decide) dX12_nextTo_27 ?_
    refine zj_iload_n (j := 2) (i := 2) C rfl 3 rfl dX12_nextTo_28 ?_
    refine zj_iconst C 1 dX12_nextTo_29 ?_
    refine zj_icmp_ne C 37 h_x1 irc_1 dX12_nextTo_30 rfl (fun c3 => ?_) (fun c3 => ?_)
    · refine zj_iconst C 1 dX12_nextTo_33 ?_
      refine zj_goto (tgt := 47) C dX12_nextTo_34 rfl ?_
      refine zj_iadd C dX12_nextTo_47 ?_
      refine zj_pipeI (fun y4 e_y4 => ?_)
      have h_y4 := ir_eq e_y4 (ir_w _)
      refine zj_istore C [(4, .int (i32 y4)), (3, .int (i32 y2)), (0, .ref (zad Γ 138)), (1, .int (i32 x0)), (2, .int (i32 x1))] dX12_nextTo_48 (by decide) rfl ?_
      refine zj_aload_n (j := 0) (i := 0) C rfl 2 rfl dX12_nextTo_50 ?_
      refine zj_iload_n (j := 3) (i := 3) C rfl 1 rfl dX12_nextTo_51 ?_
      refine zj_iload C 0 rfl dX12_nextTo_52 ?_
      refine zj_callVi C F Z [.int (i32 y2), .int (i32 y4)] [] cal_X12_isCell calv_X12_isCell ml_X12_244 zk_138 rfl rfl (by decide) (Nat.le_of_ble_eq_true rfl) rfl dX12_nextTo_54 (fun q h => M_X12_isCell l Γ F h_y2 h_y4 mem q h) (fun y5 m6 h_y5 => ?_)
      refine zj_if_eq C 70 h_y5 dX12_nextTo_57 rfl (fun c7 => ?_) (fun c7 => ?_)
      · refine zj_iconst C (-1) dX12_nextTo_70 ?_
        exact zrt_i C Z irc_m1 dX12_nextTo_71
      · refine zj_bipush C 8 rfl dX12_nextTo_60 ?_
        refine zj_iload C 0 rfl dX12_nextTo_62 ?_
        refine zj_imul C dX12_nextTo_64 ?_
        refine zj_iload_n (j := 3) (i := 3) C rfl 1 rfl dX12_nextTo_65 ?_
        refine zj_iadd C dX12_nextTo_66 ?_
        refine zj_goto (tgt := 71) C dX12_nextTo_67 rfl ?_
        exact zrt_i C Z (ir_w _) dX12_nextTo_71
    · refine zj_iload_n (j := 2) (i := 2) C rfl 3 rfl dX12_nextTo_37 ?_
      refine zj_iconst C 3 dX12_nextTo_38 ?_
      refine zj_icmp_ne C 46 h_x1 irc_3 dX12_nextTo_39 rfl (fun c8 => ?_) (fun c8 => ?_)
      · refine zj_iconst C (-1) dX12_nextTo_42 ?_
        refine zj_goto (tgt := 47) C dX12_nextTo_43 rfl ?_
        refine zj_iadd C dX12_nextTo_47 ?_
        refine zj_pipeI (fun y9 e_y9 => ?_)
        have h_y9 := ir_eq e_y9 (ir_w _)
        refine zj_istore C [(4, .int (i32 y9)), (3, .int (i32 y2)), (0, .ref (zad Γ 138)), (1, .int (i32 x0)), (2, .int (i32 x1))] dX12_nextTo_48 (by decide) rfl ?_
        refine zj_aload_n (j := 0) (i := 0) C rfl 2 rfl dX12_nextTo_50 ?_
        refine zj_iload_n (j := 3) (i := 3) C rfl 1 rfl dX12_nextTo_51 ?_
        refine zj_iload C 0 rfl dX12_nextTo_52 ?_
        refine zj_callVi C F Z [.int (i32 y2), .int (i32 y9)] [] cal_X12_isCell calv_X12_isCell ml_X12_244 zk_138 rfl rfl (by decide) (Nat.le_of_ble_eq_true rfl) rfl dX12_nextTo_54 (fun q h => M_X12_isCell l Γ F h_y2 h_y9 mem q h) (fun y10 m11 h_y10 => ?_)
        refine zj_if_eq C 70 h_y10 dX12_nextTo_57 rfl (fun c12 => ?_) (fun c12 => ?_)
        · refine zj_iconst C (-1) dX12_nextTo_70 ?_
          exact zrt_i C Z irc_m1 dX12_nextTo_71
        · refine zj_bipush C 8 rfl dX12_nextTo_60 ?_
          refine zj_iload C 0 rfl dX12_nextTo_62 ?_
          refine zj_imul C dX12_nextTo_64 ?_
          refine zj_iload_n (j := 3) (i := 3) C rfl 1 rfl dX12_nextTo_65 ?_
          refine zj_iadd C dX12_nextTo_66 ?_
          refine zj_goto (tgt := 71) C dX12_nextTo_67 rfl ?_
          exact zrt_i C Z (ir_w _) dX12_nextTo_71
      · refine zj_iconst C 0 dX12_nextTo_46 ?_
        refine zj_iadd C dX12_nextTo_47 ?_
        refine zj_pipeI (fun y13 e_y13 => ?_)
        have h_y13 := ir_eq e_y13 (ir_w _)
        refine zj_istore C [(4, .int (i32 y13)), (3, .int (i32 y2)), (0, .ref (zad Γ 138)), (1, .int (i32 x0)), (2, .int (i32 x1))] dX12_nextTo_48 (by decide) rfl ?_
        refine zj_aload_n (j := 0) (i := 0) C rfl 2 rfl dX12_nextTo_50 ?_
        refine zj_iload_n (j := 3) (i := 3) C rfl 1 rfl dX12_nextTo_51 ?_
        refine zj_iload C 0 rfl dX12_nextTo_52 ?_
        refine zj_callVi C F Z [.int (i32 y2), .int (i32 y13)] [] cal_X12_isCell calv_X12_isCell ml_X12_244 zk_138 rfl rfl (by decide) (Nat.le_of_ble_eq_true rfl) rfl dX12_nextTo_54 (fun q h => M_X12_isCell l Γ F h_y2 h_y13 mem q h) (fun y14 m15 h_y14 => ?_)
        refine zj_if_eq C 70 h_y14 dX12_nextTo_57 rfl (fun c16 => ?_) (fun c16 => ?_)
        · refine zj_iconst C (-1) dX12_nextTo_70 ?_
          exact zrt_i C Z irc_m1 dX12_nextTo_71
        · refine zj_bipush C 8 rfl dX12_nextTo_60 ?_
          refine zj_iload C 0 rfl dX12_nextTo_62 ?_
          refine zj_imul C dX12_nextTo_64 ?_
          refine zj_iload_n (j := 3) (i := 3) C rfl 1 rfl dX12_nextTo_65 ?_
          refine zj_iadd C dX12_nextTo_66 ?_
          refine zj_goto (tgt := 71) C dX12_nextTo_67 rfl ?_
          exact zrt_i C Z (ir_w _) dX12_nextTo_71
  · refine zj_iload_n (j := 2) (i := 2) C rfl 2 rfl dX12_nextTo_12 ?_
    refine zj_iconst C 2 dX12_nextTo_13 ?_
    refine zj_icmp_ne C 21 h_x1 irc_2 dX12_nextTo_14 rfl (fun c17 => ?_) (fun c17 => ?_)
    · refine zj_iconst C (-1) dX12_nextTo_17 ?_
      refine zj_goto (tgt := 22) C dX12_nextTo_18 rfl ?_
      refine zj_iadd C dX12_nextTo_22 ?_
      refine zj_pipeI (fun y18 e_y18 => ?_)
      have h_y18 := ir_eq e_y18 (ir_w _)
      refine zj_istore_n (j := 3) (i := 3) C rfl [(3, .int (i32 y18)), (0, .ref (zad Γ 138)), (1, .int (i32 x0)), (2, .int (i32 x1))] dX12_nextTo_23 (by decide) rfl ?_
      refine zj_iload_n (j := 1) (i := 1) C rfl 2 rfl dX12_nextTo_24 ?_
      refine zj_bipush C 8 rfl dX12_nextTo_25 ?_
      refine zj_idivc C (by decide) dX12_nextTo_27 ?_
      refine zj_iload_n (j := 2) (i := 2) C rfl 3 rfl dX12_nextTo_28 ?_
      refine zj_iconst C 1 dX12_nextTo_29 ?_
      refine zj_icmp_ne C 37 h_x1 irc_1 dX12_nextTo_30 rfl (fun c19 => ?_) (fun c19 => ?_)
      · refine zj_iconst C 1 dX12_nextTo_33 ?_
        refine zj_goto (tgt := 47) C dX12_nextTo_34 rfl ?_
        refine zj_iadd C dX12_nextTo_47 ?_
        refine zj_pipeI (fun y20 e_y20 => ?_)
        have h_y20 := ir_eq e_y20 (ir_w _)
        refine zj_istore C [(4, .int (i32 y20)), (3, .int (i32 y18)), (0, .ref (zad Γ 138)), (1, .int (i32 x0)), (2, .int (i32 x1))] dX12_nextTo_48 (by decide) rfl ?_
        refine zj_aload_n (j := 0) (i := 0) C rfl 2 rfl dX12_nextTo_50 ?_
        refine zj_iload_n (j := 3) (i := 3) C rfl 1 rfl dX12_nextTo_51 ?_
        refine zj_iload C 0 rfl dX12_nextTo_52 ?_
        refine zj_callVi C F Z [.int (i32 y18), .int (i32 y20)] [] cal_X12_isCell calv_X12_isCell ml_X12_244 zk_138 rfl rfl (by decide) (Nat.le_of_ble_eq_true rfl) rfl dX12_nextTo_54 (fun q h => M_X12_isCell l Γ F h_y18 h_y20 mem q h) (fun y21 m22 h_y21 => ?_)
        refine zj_if_eq C 70 h_y21 dX12_nextTo_57 rfl (fun c23 => ?_) (fun c23 => ?_)
        · refine zj_iconst C (-1) dX12_nextTo_70 ?_
          exact zrt_i C Z irc_m1 dX12_nextTo_71
        · refine zj_bipush C 8 rfl dX12_nextTo_60 ?_
          refine zj_iload C 0 rfl dX12_nextTo_62 ?_
          refine zj_imul C dX12_nextTo_64 ?_
          refine zj_iload_n (j := 3) (i := 3) C rfl 1 rfl dX12_nextTo_65 ?_
          refine zj_iadd C dX12_nextTo_66 ?_
          refine zj_goto (tgt := 71) C dX12_nextTo_67 rfl ?_
          exact zrt_i C Z (ir_w _) dX12_nextTo_71
      · refine zj_iload_n (j := 2) (i := 2) C rfl 3 rfl dX12_nextTo_37 ?_
        refine zj_iconst C 3 dX12_nextTo_38 ?_
        refine zj_icmp_ne C 46 h_x1 irc_3 dX12_nextTo_39 rfl (fun c24 => ?_) (fun c24 => ?_)
        · refine zj_iconst C (-1) dX12_nextTo_42 ?_
          refine zj_goto (tgt := 47) C dX12_nextTo_43 rfl ?_
          refine zj_iadd C dX12_nextTo_47 ?_
          refine zj_pipeI (fun y25 e_y25 => ?_)
          have h_y25 := ir_eq e_y25 (ir_w _)
          refine zj_istore C [(4, .int (i32 y25)), (3, .int (i32 y18)), (0, .ref (zad Γ 138)), (1, .int (i32 x0)), (2, .int (i32 x1))] dX12_nextTo_48 (by decide) rfl ?_
          refine zj_aload_n (j := 0) (i := 0) C rfl 2 rfl dX12_nextTo_50 ?_
          refine zj_iload_n (j := 3) (i := 3) C rfl 1 rfl dX12_nextTo_51 ?_
          refine zj_iload C 0 rfl dX12_nextTo_52 ?_
          refine zj_callVi C F Z [.int (i32 y18), .int (i32 y25)] [] cal_X12_isCell calv_X12_isCell ml_X12_244 zk_138 rfl rfl (by decide) (Nat.le_of_ble_eq_true rfl) rfl dX12_nextTo_54 (fun q h => M_X12_isCell l Γ F h_y18 h_y25 mem q h) (fun y26 m27 h_y26 => ?_)
          refine zj_if_eq C 70 h_y26 dX12_nextTo_57 rfl (fun c28 => ?_) (fun c28 => ?_)
          · refine zj_iconst C (-1) dX12_nextTo_70 ?_
            exact zrt_i C Z irc_m1 dX12_nextTo_71
          · refine zj_bipush C 8 rfl dX12_nextTo_60 ?_
            refine zj_iload C 0 rfl dX12_nextTo_62 ?_
            refine zj_imul C dX12_nextTo_64 ?_
            refine zj_iload_n (j := 3) (i := 3) C rfl 1 rfl dX12_nextTo_65 ?_
            refine zj_iadd C dX12_nextTo_66 ?_
            refine zj_goto (tgt := 71) C dX12_nextTo_67 rfl ?_
            exact zrt_i C Z (ir_w _) dX12_nextTo_71
        · refine zj_iconst C 0 dX12_nextTo_46 ?_
          refine zj_iadd C dX12_nextTo_47 ?_
          refine zj_pipeI (fun y29 e_y29 => ?_)
          have h_y29 := ir_eq e_y29 (ir_w _)
          refine zj_istore C [(4, .int (i32 y29)), (3, .int (i32 y18)), (0, .ref (zad Γ 138)), (1, .int (i32 x0)), (2, .int (i32 x1))] dX12_nextTo_48 (by decide) rfl ?_
          refine zj_aload_n (j := 0) (i := 0) C rfl 2 rfl dX12_nextTo_50 ?_
          refine zj_iload_n (j := 3) (i := 3) C rfl 1 rfl dX12_nextTo_51 ?_
          refine zj_iload C 0 rfl dX12_nextTo_52 ?_
          refine zj_callVi C F Z [.int (i32 y18), .int (i32 y29)] [] cal_X12_isCell calv_X12_isCell ml_X12_244 zk_138 rfl rfl (by decide) (Nat.le_of_ble_eq_true rfl) rfl dX12_nextTo_54 (fun q h => M_X12_isCell l Γ F h_y18 h_y29 mem q h) (fun y30 m31 h_y30 => ?_)
          refine zj_if_eq C 70 h_y30 dX12_nextTo_57 rfl (fun c32 => ?_) (fun c32 => ?_)
          · refine zj_iconst C (-1) dX12_nextTo_70 ?_
            exact zrt_i C Z irc_m1 dX12_nextTo_71
          · refine zj_bipush C 8 rfl dX12_nextTo_60 ?_
            refine zj_iload C 0 rfl dX12_nextTo_62 ?_
            refine zj_imul C dX12_nextTo_64 ?_
            refine zj_iload_n (j := 3) (i := 3) C rfl 1 rfl dX12_nextTo_65 ?_
            refine zj_iadd C dX12_nextTo_66 ?_
            refine zj_goto (tgt := 71) C dX12_nextTo_67 rfl ?_
            exact zrt_i C Z (ir_w _) dX12_nextTo_71
    · refine zj_iconst C 0 dX12_nextTo_21 ?_
      refine zj_iadd C dX12_nextTo_22 ?_
      refine zj_pipeI (fun y33 e_y33 => ?_)
      have h_y33 := ir_eq e_y33 (ir_w _)
      refine zj_istore_n (j := 3) (i := 3) C rfl [(3, .int (i32 y33)), (0, .ref (zad Γ 138)), (1, .int (i32 x0)), (2, .int (i32 x1))] dX12_nextTo_23 (by decide) rfl ?_
      refine zj_iload_n (j := 1) (i := 1) C rfl 2 rfl dX12_nextTo_24 ?_
      refine zj_bipush C 8 rfl dX12_nextTo_25 ?_
      refine zj_idivc C (by decide) dX12_nextTo_27 ?_
      refine zj_iload_n (j := 2) (i := 2) C rfl 3 rfl dX12_nextTo_28 ?_
      refine zj_iconst C 1 dX12_nextTo_29 ?_
      refine zj_icmp_ne C 37 h_x1 irc_1 dX12_nextTo_30 rfl (fun c34 => ?_) (fun c34 => ?_)
      · refine zj_iconst C 1 dX12_nextTo_33 ?_
        refine zj_goto (tgt := 47) C dX12_nextTo_34 rfl ?_
        refine zj_iadd C dX12_nextTo_47 ?_
        refine zj_pipeI (fun y35 e_y35 => ?_)
        have h_y35 := ir_eq e_y35 (ir_w _)
        refine zj_istore C [(4, .int (i32 y35)), (3, .int (i32 y33)), (0, .ref (zad Γ 138)), (1, .int (i32 x0)), (2, .int (i32 x1))] dX12_nextTo_48 (by decide) rfl ?_
        refine zj_aload_n (j := 0) (i := 0) C rfl 2 rfl dX12_nextTo_50 ?_
        refine zj_iload_n (j := 3) (i := 3) C rfl 1 rfl dX12_nextTo_51 ?_
        refine zj_iload C 0 rfl dX12_nextTo_52 ?_
        refine zj_callVi C F Z [.int (i32 y33), .int (i32 y35)] [] cal_X12_isCell calv_X12_isCell ml_X12_244 zk_138 rfl rfl (by decide) (Nat.le_of_ble_eq_true rfl) rfl dX12_nextTo_54 (fun q h => M_X12_isCell l Γ F h_y33 h_y35 mem q h) (fun y36 m37 h_y36 => ?_)
        refine zj_if_eq C 70 h_y36 dX12_nextTo_57 rfl (fun c38 => ?_) (fun c38 => ?_)
        · refine zj_iconst C (-1) dX12_nextTo_70 ?_
          exact zrt_i C Z irc_m1 dX12_nextTo_71
        · refine zj_bipush C 8 rfl dX12_nextTo_60 ?_
          refine zj_iload C 0 rfl dX12_nextTo_62 ?_
          refine zj_imul C dX12_nextTo_64 ?_
          refine zj_iload_n (j := 3) (i := 3) C rfl 1 rfl dX12_nextTo_65 ?_
          refine zj_iadd C dX12_nextTo_66 ?_
          refine zj_goto (tgt := 71) C dX12_nextTo_67 rfl ?_
          exact zrt_i C Z (ir_w _) dX12_nextTo_71
      · refine zj_iload_n (j := 2) (i := 2) C rfl 3 rfl dX12_nextTo_37 ?_
        refine zj_iconst C 3 dX12_nextTo_38 ?_
        refine zj_icmp_ne C 46 h_x1 irc_3 dX12_nextTo_39 rfl (fun c39 => ?_) (fun c39 => ?_)
        · refine zj_iconst C (-1) dX12_nextTo_42 ?_
          refine zj_goto (tgt := 47) C dX12_nextTo_43 rfl ?_
          refine zj_iadd C dX12_nextTo_47 ?_
          refine zj_pipeI (fun y40 e_y40 => ?_)
          have h_y40 := ir_eq e_y40 (ir_w _)
          refine zj_istore C [(4, .int (i32 y40)), (3, .int (i32 y33)), (0, .ref (zad Γ 138)), (1, .int (i32 x0)), (2, .int (i32 x1))] dX12_nextTo_48 (by decide) rfl ?_
          refine zj_aload_n (j := 0) (i := 0) C rfl 2 rfl dX12_nextTo_50 ?_
          refine zj_iload_n (j := 3) (i := 3) C rfl 1 rfl dX12_nextTo_51 ?_
          refine zj_iload C 0 rfl dX12_nextTo_52 ?_
          refine zj_callVi C F Z [.int (i32 y33), .int (i32 y40)] [] cal_X12_isCell calv_X12_isCell ml_X12_244 zk_138 rfl rfl (by decide) (Nat.le_of_ble_eq_true rfl) rfl dX12_nextTo_54 (fun q h => M_X12_isCell l Γ F h_y33 h_y40 mem q h) (fun y41 m42 h_y41 => ?_)
          refine zj_if_eq C 70 h_y41 dX12_nextTo_57 rfl (fun c43 => ?_) (fun c43 => ?_)
          · refine zj_iconst C (-1) dX12_nextTo_70 ?_
            exact zrt_i C Z irc_m1 dX12_nextTo_71
          · refine zj_bipush C 8 rfl dX12_nextTo_60 ?_
            refine zj_iload C 0 rfl dX12_nextTo_62 ?_
            refine zj_imul C dX12_nextTo_64 ?_
            refine zj_iload_n (j := 3) (i := 3) C rfl 1 rfl dX12_nextTo_65 ?_
            refine zj_iadd C dX12_nextTo_66 ?_
            refine zj_goto (tgt := 71) C dX12_nextTo_67 rfl ?_
            exact zrt_i C Z (ir_w _) dX12_nextTo_71
        · refine zj_iconst C 0 dX12_nextTo_46 ?_
          refine zj_iadd C dX12_nextTo_47 ?_
          refine zj_pipeI (fun y44 e_y44 => ?_)
          have h_y44 := ir_eq e_y44 (ir_w _)
          refine zj_istore C [(4, .int (i32 y44)), (3, .int (i32 y33)), (0, .ref (zad Γ 138)), (1, .int (i32 x0)), (2, .int (i32 x1))] dX12_nextTo_48 (by decide) rfl ?_
          refine zj_aload_n (j := 0) (i := 0) C rfl 2 rfl dX12_nextTo_50 ?_
          refine zj_iload_n (j := 3) (i := 3) C rfl 1 rfl dX12_nextTo_51 ?_
          refine zj_iload C 0 rfl dX12_nextTo_52 ?_
          refine zj_callVi C F Z [.int (i32 y33), .int (i32 y44)] [] cal_X12_isCell calv_X12_isCell ml_X12_244 zk_138 rfl rfl (by decide) (Nat.le_of_ble_eq_true rfl) rfl dX12_nextTo_54 (fun q h => M_X12_isCell l Γ F h_y33 h_y44 mem q h) (fun y45 m46 h_y45 => ?_)
          refine zj_if_eq C 70 h_y45 dX12_nextTo_57 rfl (fun c47 => ?_) (fun c47 => ?_)
          · refine zj_iconst C (-1) dX12_nextTo_70 ?_
            exact zrt_i C Z irc_m1 dX12_nextTo_71
          · refine zj_bipush C 8 rfl dX12_nextTo_60 ?_
            refine zj_iload C 0 rfl dX12_nextTo_62 ?_
            refine zj_imul C dX12_nextTo_64 ?_
            refine zj_iload_n (j := 3) (i := 3) C rfl 1 rfl dX12_nextTo_65 ?_
            refine zj_iadd C dX12_nextTo_66 ?_
            refine zj_goto (tgt := 71) C dX12_nextTo_67 rfl ?_
            exact zrt_i C Z (ir_w _) dX12_nextTo_71
noncomputable def b_X12_shadowOf_0 (rec : Int → Int → Int → Int → zMem → Option (Int × zMem)) (v2 : Int) (w3 : Int) (v5 : Int) (v6 : Int) (mem : zMem) : Option (Int × zMem) := if ix 140 (w32 (26 + v2)) then zbind (f_X12_nextTo v5 (mem 140 (w32 (26 + v2))) mem) fun y3 m4 => if ix 140 (w32 (34 + v2)) then pipe (w32 (v6 - (m4 140 (w32 (34 + v2))))) fun y7 => if y3 = (-1) then (some (w3, m4)) else (zbind (f_X12_heightOf y3 m4) fun y9 m10 => if y7 > y9 then (pipe (zorL w3 (zshlL 1 y3)) fun y12 => rec v2 y12 y3 y7 m10) else (some (w3, m10))) else none else none
noncomputable def f_X12_shadowOf_0 : Nat → Int → Int → Int → Int → zMem → Option (Int × zMem) := zfuel (fun _ _ _ _ _ => none) (b_X12_shadowOf_0)
set_option maxHeartbeats 4000000 in
theorem L_X12_shadowOf_0 (l : Launch) {Γ : zG} (F : zFull Γ) {X : zM} {q : Int × zMem} (C : zC X Γ "ShadowHeirsModel" cX12_shadowOf 7) (Z : zRt X l Γ 4 2 (some .long) q) : ∀ n : Nat, ∀ (v2 : Int) (w3 : Int) (v5 : Int) (v6 : Int) (h_v2 : ir v2) (h_w3 : lr w3) (h_v5 : ir v5) (h_v6 : ir v6) (mem : zMem), zJ X Γ 7 q (f_X12_shadowOf_0 n v2 w3 v5 v6 mem) 23 [(0, .ref (zad Γ 138)), (2, .int (i32 v2)), (3, .long (i64 w3)), (5, .int (i32 v5)), (6, .int (i32 v6))] [] mem := by
  intro n
  induction n with
  | zero => intros; exact zj_none
  | succ n ih =>
    intro v2 w3 v5 v6 h_v2 h_w3 h_v5 h_v6 mem
    show zJ X Γ 7 q (b_X12_shadowOf_0 (f_X12_shadowOf_0 n) v2 w3 v5 v6 mem) _ _ _ _
    unfold b_X12_shadowOf_0
    refine zj_aload_n (j := 0) (i := 0) C rfl 0 rfl dX12_shadowOf_23 ?_
    refine zj_iload C 3 rfl dX12_shadowOf_24 ?_
    refine zj_aload_n (j := 0) (i := 0) C rfl 0 rfl dX12_shadowOf_26 ?_
    refine zj_getR C F zk_138 fl_X12_98 rfl rf_138_14 dX12_shadowOf_27 ?_
    refine zj_bipush C 26 rfl dX12_shadowOf_30 ?_
    refine zj_iload_n (j := 2) (i := 2) C rfl 1 rfl dX12_shadowOf_32 ?_
    refine zj_iadd C dX12_shadowOf_33 ?_
    refine zj_iaload C F zk_140 (ir_w _) dX12_shadowOf_34 (fun c1 h2 => ?_)
    refine zj_callVi C F Z [.int (i32 v5), .int (i32 (mem 140 (w32 (26 + v2))))] [] cal_X12_nextTo calv_X12_nextTo ml_X12_247 zk_138 rfl rfl (by decide) (Nat.le_of_ble_eq_true rfl) rfl dX12_shadowOf_35 (fun q h => M_X12_nextTo l Γ F h_v5 h2 mem q h) (fun y3 m4 h_y3 => ?_)
    refine zj_istore C [(5, .int (i32 y3)), (0, .ref (zad Γ 138)), (2, .int (i32 v2)), (3, .long (i64 w3)), (6, .int (i32 v6))] dX12_shadowOf_38 (by decide) rfl ?_
    refine zj_iload C 4 rfl dX12_shadowOf_40 ?_
    refine zj_aload_n (j := 0) (i := 0) C rfl 1 rfl dX12_shadowOf_42 ?_
    refine zj_getR C F zk_138 fl_X12_98 rfl rf_138_14 dX12_shadowOf_43 ?_
    refine zj_bipush C 34 rfl dX12_shadowOf_46 ?_
    refine zj_iload_n (j := 2) (i := 2) C rfl 2 rfl dX12_shadowOf_48 ?_
    refine zj_iadd C dX12_shadowOf_49 ?_
    refine zj_iaload C F zk_140 (ir_w _) dX12_shadowOf_50 (fun c5 h6 => ?_)
    refine zj_isub C dX12_shadowOf_51 ?_
    refine zj_pipeI (fun y7 e_y7 => ?_)
    have h_y7 := ir_eq e_y7 (ir_w _)
    refine zj_istore C [(6, .int (i32 y7)), (5, .int (i32 y3)), (0, .ref (zad Γ 138)), (2, .int (i32 v2)), (3, .long (i64 w3))] dX12_shadowOf_52 (by decide) rfl ?_
    refine zj_iload C 1 rfl dX12_shadowOf_54 ?_
    refine zj_iconst C (-1) dX12_shadowOf_56 ?_
    refine zj_icmp_eq C 71 h_y3 irc_m1 dX12_shadowOf_57 rfl (fun c8 => ?_) (fun c8 => ?_)
    · refine zj_lload_n (j := 3) (i := 3) C rfl 4 rfl dX12_shadowOf_71 ?_
      exact zrt_l C Z h_w3 dX12_shadowOf_72
    · refine zj_iload C 0 rfl dX12_shadowOf_60 ?_
      refine zj_aload_n (j := 0) (i := 0) C rfl 2 rfl dX12_shadowOf_62 ?_
      refine zj_iload C 1 rfl dX12_shadowOf_63 ?_
      refine zj_callVi C F Z [.int (i32 y3)] [.int (i32 y7)] cal_X12_heightOf calv_X12_heightOf ml_X12_241 zk_138 rfl rfl (by decide) (Nat.le_of_ble_eq_true rfl) rfl dX12_shadowOf_65 (fun q h => M_X12_heightOf l Γ F h_y3 m4 q h) (fun y9 m10 h_y9 => ?_)
      refine zj_icmp_gt C 73 h_y7 h_y9 dX12_shadowOf_68 rfl (fun c11 => ?_) (fun c11 => ?_)
      · refine zj_lload_n (j := 3) (i := 3) C rfl 4 rfl dX12_shadowOf_73 ?_
        refine zj_lconst (n := 1) C 1 rfl dX12_shadowOf_74 ?_
        refine zj_iload C 1 rfl dX12_shadowOf_75 ?_
        refine zj_lshl C dX12_shadowOf_77 ?_
        refine zj_lor C dX12_shadowOf_78 ?_
        refine zj_pipeL (fun y12 e_y12 => ?_)
        have h_y12 := lr_eq e_y12 (lr_toInt _)
        refine zj_lstore_n (j := 3) (i := 3) C rfl [(3, .long (i64 y12)), (6, .int (i32 y7)), (5, .int (i32 y3)), (0, .ref (zad Γ 138)), (2, .int (i32 v2))] dX12_shadowOf_79 (by decide) rfl ?_
        refine zj_goto (tgt := 23) C dX12_shadowOf_80 rfl ?_
        exact zj_sub [3, 4, 0, 2, 1] rfl (ih v2 y12 y3 y7 h_v2 h_y12 h_y3 h_y7 m10)
      · refine zj_lload_n (j := 3) (i := 3) C rfl 4 rfl dX12_shadowOf_71 ?_
        exact zrt_l C Z h_w3 dX12_shadowOf_72
noncomputable def f_X12_shadowOf (x0 : Int) (x1 : Int) (mem : zMem) : Option (Int × zMem) := if ix 140 (w32 (5 + x0)) then pipe (mem 140 (w32 (5 + x0))) fun y3 => if ix 140 (w32 (10 + x0)) then pipe (mem 140 (w32 (10 + x0))) fun y6 => f_X12_shadowOf_0 zN x1 0 y3 y6 mem else none else none
set_option maxHeartbeats 4000000 in
theorem M_X12_shadowOf (l : Launch) (Γ : zG) (F : zFull Γ)  {x0 : Int} {x1 : Int} (h_x0 : ir x0) (h_x1 : ir x1) (mem : zMem) (q : Int × zMem) (h : f_X12_shadowOf x0 x1 mem = some q) : zMet l yX12_shadowOf cX12_shadowOf 7 (some .long) 4 Γ 2 [.ref (zad Γ 138), .int (i32 x0), .int (i32 x1)] mem q := by
  refine zMet_of (own := "ShadowHeirsModel") (by decide) rfl (Nat.le_of_ble_eq_true rfl) (fun X C Z => ?_)
  revert h
  show zJ X Γ 7 q (f_X12_shadowOf x0 x1 mem) 0 [(0, .ref (zad Γ 138)), (1, .int (i32 x0)), (2, .int (i32 x1))] [] mem
  unfold f_X12_shadowOf
  refine zj_lconst (n := 0) C 0 rfl dX12_shadowOf_0 ?_
  refine zj_lstore_n (j := 3) (i := 3) C rfl [(3, .long (i64 0)), (0, .ref (zad Γ 138)), (1, .int (i32 x0)), (2, .int (i32 x1))] dX12_shadowOf_1 (by decide) rfl ?_
  refine zj_aload_n (j := 0) (i := 0) C rfl 1 rfl dX12_shadowOf_2 ?_
  refine zj_getR C F zk_138 fl_X12_98 rfl rf_138_14 dX12_shadowOf_3 ?_
  refine zj_iconst C 5 dX12_shadowOf_6 ?_
  refine zj_iload_n (j := 1) (i := 1) C rfl 2 rfl dX12_shadowOf_7 ?_
  refine zj_iadd C dX12_shadowOf_8 ?_
  refine zj_iaload C F zk_140 (ir_w _) dX12_shadowOf_9 (fun c1 h2 => ?_)
  refine zj_pipeI (fun y3 e_y3 => ?_)
  have h_y3 := ir_eq e_y3 h2
  refine zj_istore C [(5, .int (i32 y3)), (3, .long (i64 0)), (0, .ref (zad Γ 138)), (1, .int (i32 x0)), (2, .int (i32 x1))] dX12_shadowOf_10 (by decide) rfl ?_
  refine zj_aload_n (j := 0) (i := 0) C rfl 2 rfl dX12_shadowOf_12 ?_
  refine zj_getR C F zk_138 fl_X12_98 rfl rf_138_14 dX12_shadowOf_13 ?_
  refine zj_bipush C 10 rfl dX12_shadowOf_16 ?_
  refine zj_iload_n (j := 1) (i := 1) C rfl 3 rfl dX12_shadowOf_18 ?_
  refine zj_iadd C dX12_shadowOf_19 ?_
  refine zj_iaload C F zk_140 (ir_w _) dX12_shadowOf_20 (fun c4 h5 => ?_)
  refine zj_pipeI (fun y6 e_y6 => ?_)
  have h_y6 := ir_eq e_y6 h5
  refine zj_istore C [(6, .int (i32 y6)), (5, .int (i32 y3)), (3, .long (i64 0)), (0, .ref (zad Γ 138)), (1, .int (i32 x0)), (2, .int (i32 x1))] dX12_shadowOf_21 (by decide) rfl ?_
  exact zj_sub [3, 5, 2, 1, 0] rfl ((L_X12_shadowOf_0 l F C Z zN) x1 0 y3 y6 h_x1 lrc_0 h_y3 h_y6 mem)
noncomputable def f_X12_isCast (x0 : Int) (x1 : Int) (mem : zMem) : Option (Int × zMem) := if (zcmp (zandL (zshrL x0 x1) 1) 1) = 0 then (some (1, mem)) else (some (0, mem))
set_option maxHeartbeats 4000000 in
theorem M_X12_isCast (l : Launch) (Γ : zG) (F : zFull Γ)  {x0 : Int} {x1 : Int} (h_x0 : lr x0) (h_x1 : ir x1) (mem : zMem) (q : Int × zMem) (h : f_X12_isCast x0 x1 mem = some q) : zMet l yX12_isCast cX12_isCast 3 (some .boolean) 1 Γ 1 [.long (i64 x0), .int (i32 x1)] mem q := by
  refine zMet_of (own := "ShadowHeirsModel") (by decide) rfl (Nat.le_of_ble_eq_true rfl) (fun X C Z => ?_)
  revert h
  show zJ X Γ 3 q (f_X12_isCast x0 x1 mem) 0 [(0, .long (i64 x0)), (2, .int (i32 x1))] [] mem
  unfold f_X12_isCast
  refine zj_lload_n (j := 0) (i := 0) C rfl 0 rfl dX12_isCast_0 ?_
  refine zj_iload_n (j := 2) (i := 2) C rfl 1 rfl dX12_isCast_1 ?_
  refine zj_lshr C dX12_isCast_2 ?_
  refine zj_lconst (n := 1) C 1 rfl dX12_isCast_3 ?_
  refine zj_land C dX12_isCast_4 ?_
  refine zj_lconst (n := 1) C 1 rfl dX12_isCast_5 ?_
  refine zj_lcmp C (lr_toInt _) lrc_1 dX12_isCast_6 ?_
  refine zj_if_ne C 14 (ir_cmp _ _) dX12_isCast_7 rfl (fun c1 => ?_) (fun c1 => ?_)
  · refine zj_iconst C 1 dX12_isCast_10 ?_
    refine zj_goto (tgt := 15) C dX12_isCast_11 rfl ?_
    exact zrt_z C Z (Or.inr rfl) dX12_isCast_15
  · refine zj_iconst C 0 dX12_isCast_14 ?_
    exact zrt_z C Z (Or.inl rfl) dX12_isCast_15
noncomputable def f_X12_sunNow  (mem : zMem) : Option (Int × zMem) := if ix 140 4 then if (mem 140 4) = 0 then (some ((-1), mem)) else (if ix 140 106 then if ix 140 4 then if (mem 140 4) = 0 then none else some ((zrem (mem 140 106) (mem 140 4)), mem) else none else none) else none
set_option maxHeartbeats 4000000 in
theorem M_X12_sunNow (l : Launch) (Γ : zG) (F : zFull Γ)    (mem : zMem) (q : Int × zMem) (h : f_X12_sunNow  mem = some q) : zMet l yX12_sunNow cX12_sunNow 1 (some .int) 1 Γ 1 [.ref (zad Γ 138)] mem q := by
  refine zMet_of (own := "ShadowHeirsModel") (by decide) rfl (Nat.le_of_ble_eq_true rfl) (fun X C Z => ?_)
  revert h
  show zJ X Γ 1 q (f_X12_sunNow  mem) 0 [(0, .ref (zad Γ 138))] [] mem
  unfold f_X12_sunNow
  refine zj_aload_n (j := 0) (i := 0) C rfl 0 rfl dX12_sunNow_0 ?_
  refine zj_getR C F zk_138 fl_X12_98 rfl rf_138_14 dX12_sunNow_1 ?_
  refine zj_iconst C 4 dX12_sunNow_4 ?_
  refine zj_iaload C F zk_140 irc_4 dX12_sunNow_5 (fun c1 h2 => ?_)
  refine zj_if_ne C 13 h2 dX12_sunNow_6 rfl (fun c3 => ?_) (fun c3 => ?_)
  · refine zj_iconst C (-1) dX12_sunNow_9 ?_
    refine zj_goto (tgt := 27) C dX12_sunNow_10 rfl ?_
    exact zrt_i C Z irc_m1 dX12_sunNow_27
  · refine zj_aload_n (j := 0) (i := 0) C rfl 0 rfl dX12_sunNow_13 ?_
    refine zj_getR C F zk_138 fl_X12_98 rfl rf_138_14 dX12_sunNow_14 ?_
    refine zj_bipush C 106 rfl dX12_sunNow_17 ?_
    refine zj_iaload C F zk_140 irc_106 dX12_sunNow_19 (fun c4 h5 => ?_)
    refine zj_aload_n (j := 0) (i := 0) C rfl 0 rfl dX12_sunNow_20 ?_
    refine zj_getR C F zk_138 fl_X12_98 rfl rf_138_14 dX12_sunNow_21 ?_
    refine zj_iconst C 4 dX12_sunNow_24 ?_
    refine zj_iaload C F zk_140 irc_4 dX12_sunNow_25 (fun c6 h7 => ?_)
    refine zj_irem C h7 dX12_sunNow_26 (fun c8 => ?_)
    exact zrt_i C Z (ir_toInt _) dX12_sunNow_27
noncomputable def b_X12_touchedBy_0 (rec : Int → Int → Int → zMem → Option (Int × zMem)) (w3 : Int) (v5 : Int) (v6 : Int) (mem : zMem) : Option (Int × zMem) := if ix 140 3 then if v6 ≥ (mem 140 3) then (some (v5, mem)) else (if ix 140 (w32 (116 + v6)) then zbind (f_X12_isCast w3 (mem 140 (w32 (116 + v6))) mem) fun y6 m7 => if y6 = 0 then (rec w3 v5 (w32 (v6 + 1)) m7) else (pipe (zor v5 (zshl 1 v6)) fun y9 => rec w3 y9 (w32 (v6 + 1)) m7) else none) else none
noncomputable def f_X12_touchedBy_0 : Nat → Int → Int → Int → zMem → Option (Int × zMem) := zfuel (fun _ _ _ _ => none) (b_X12_touchedBy_0)
set_option maxHeartbeats 4000000 in
theorem L_X12_touchedBy_0 (l : Launch) {Γ : zG} (F : zFull Γ) {X : zM} {q : Int × zMem} (C : zC X Γ "ShadowHeirsModel" cX12_touchedBy 7) (Z : zRt X l Γ 5 1 (some .int) q) : ∀ n : Nat, ∀ (w3 : Int) (v5 : Int) (v6 : Int) (h_w3 : lr w3) (h_v5 : ir v5) (h_v6 : ir v6) (mem : zMem), zJ X Γ 7 q (f_X12_touchedBy_0 n w3 v5 v6 mem) 20 [(0, .ref (zad Γ 138)), (3, .long (i64 w3)), (5, .int (i32 v5)), (6, .int (i32 v6))] [] mem := by
  intro n
  induction n with
  | zero => intros; exact zj_none
  | succ n ih =>
    intro w3 v5 v6 h_w3 h_v5 h_v6 mem
    show zJ X Γ 7 q (b_X12_touchedBy_0 (f_X12_touchedBy_0 n) w3 v5 v6 mem) _ _ _ _
    unfold b_X12_touchedBy_0
    refine zj_iload C 3 rfl dX12_touchedBy_20 ?_
    refine zj_aload_n (j := 0) (i := 0) C rfl 0 rfl dX12_touchedBy_22 ?_
    refine zj_getR C F zk_138 fl_X12_98 rfl rf_138_14 dX12_touchedBy_23 ?_
    refine zj_iconst C 3 dX12_touchedBy_26 ?_
    refine zj_iaload C F zk_140 irc_3 dX12_touchedBy_27 (fun c1 h2 => ?_)
    refine zj_icmp_ge C 63 h_v6 h2 dX12_touchedBy_28 rfl (fun c3 => ?_) (fun c3 => ?_)
    · refine zj_iload C 2 rfl dX12_touchedBy_63 ?_
      exact zrt_i C Z h_v5 dX12_touchedBy_65
    · refine zj_lload_n (j := 3) (i := 3) C rfl 1 rfl dX12_touchedBy_31 ?_
      refine zj_aload_n (j := 0) (i := 0) C rfl 0 rfl dX12_touchedBy_32 ?_
      refine zj_getR C F zk_138 fl_X12_98 rfl rf_138_14 dX12_touchedBy_33 ?_
      refine zj_bipush C 116 rfl dX12_touchedBy_36 ?_
      refine zj_iload C 3 rfl dX12_touchedBy_38 ?_
      refine zj_iadd C dX12_touchedBy_40 ?_
      refine zj_iaload C F zk_140 (ir_w _) dX12_touchedBy_41 (fun c4 h5 => ?_)
      refine zj_callSi C Z [.long (i64 w3), .int (i32 (mem 140 (w32 (116 + v6))))] [] cal_X12_isCast sta_X12_isCast ml_X12_255 rfl (by decide) (Nat.le_of_ble_eq_true rfl) rfl dX12_touchedBy_42 (fun q h => M_X12_isCast l Γ F h_w3 h5 mem q h) (fun y6 m7 h_y6 => ?_)
      refine zj_if_eq C 57 h_y6 dX12_touchedBy_45 rfl (fun c8 => ?_) (fun c8 => ?_)
      · refine zj_iinc C 3 [(6, .int (i32 (w32 (v6 + 1)))), (0, .ref (zad Γ 138)), (3, .long (i64 w3)), (5, .int (i32 v5))] rfl dX12_touchedBy_57 (by decide) rfl ?_
        refine zj_goto (tgt := 20) C dX12_touchedBy_60 rfl ?_
        exact zj_sub [1, 2, 3, 0] rfl (ih w3 v5 (w32 (v6 + 1)) h_w3 h_v5 (ir_w _) m7)
      · refine zj_iload C 2 rfl dX12_touchedBy_48 ?_
        refine zj_iconst C 1 dX12_touchedBy_50 ?_
        refine zj_iload C 3 rfl dX12_touchedBy_51 ?_
        refine zj_ishl C dX12_touchedBy_53 ?_
        refine zj_ior C dX12_touchedBy_54 ?_
        refine zj_pipeI (fun y9 e_y9 => ?_)
        have h_y9 := ir_eq e_y9 (ir_toInt _)
        refine zj_istore C [(5, .int (i32 y9)), (0, .ref (zad Γ 138)), (3, .long (i64 w3)), (6, .int (i32 v6))] dX12_touchedBy_55 (by decide) rfl ?_
        refine zj_iinc C 3 [(6, .int (i32 (w32 (v6 + 1)))), (5, .int (i32 y9)), (0, .ref (zad Γ 138)), (3, .long (i64 w3))] rfl dX12_touchedBy_57 (by decide) rfl ?_
        refine zj_goto (tgt := 20) C dX12_touchedBy_60 rfl ?_
        exact zj_sub [2, 3, 1, 0] rfl (ih w3 y9 (w32 (v6 + 1)) h_w3 h_y9 (ir_w _) m7)
noncomputable def f_X12_touchedBy (x0 : Int) (x1 : Int) (mem : zMem) : Option (Int × zMem) := if x1 = (-1) then (some (0, mem)) else (zbind (f_X12_shadowOf x0 x1 mem) fun y2 m3 => f_X12_touchedBy_0 zN y2 0 0 m3)
set_option maxHeartbeats 4000000 in
theorem M_X12_touchedBy (l : Launch) (Γ : zG) (F : zFull Γ)  {x0 : Int} {x1 : Int} (h_x0 : ir x0) (h_x1 : ir x1) (mem : zMem) (q : Int × zMem) (h : f_X12_touchedBy x0 x1 mem = some q) : zMet l yX12_touchedBy cX12_touchedBy 7 (some .int) 5 Γ 1 [.ref (zad Γ 138), .int (i32 x0), .int (i32 x1)] mem q := by
  refine zMet_of (own := "ShadowHeirsModel") (by decide) rfl (Nat.le_of_ble_eq_true rfl) (fun X C Z => ?_)
  revert h
  show zJ X Γ 7 q (f_X12_touchedBy x0 x1 mem) 0 [(0, .ref (zad Γ 138)), (1, .int (i32 x0)), (2, .int (i32 x1))] [] mem
  unfold f_X12_touchedBy
  refine zj_iload_n (j := 2) (i := 2) C rfl 2 rfl dX12_touchedBy_0 ?_
  refine zj_iconst C (-1) dX12_touchedBy_1 ?_
  refine zj_icmp_ne C 7 h_x1 irc_m1 dX12_touchedBy_2 rfl (fun c1 => ?_) (fun c1 => ?_)
  · refine zj_iconst C 0 dX12_touchedBy_5 ?_
    exact zrt_i C Z irc_0 dX12_touchedBy_6
  · refine zj_aload_n (j := 0) (i := 0) C rfl 0 rfl dX12_touchedBy_7 ?_
    refine zj_iload_n (j := 1) (i := 1) C rfl 1 rfl dX12_touchedBy_8 ?_
    refine zj_iload_n (j := 2) (i := 2) C rfl 2 rfl dX12_touchedBy_9 ?_
    refine zj_callVl C F Z [.int (i32 x0), .int (i32 x1)] [] cal_X12_shadowOf calv_X12_shadowOf ml_X12_251 zk_138 rfl rfl (by decide) (Nat.le_of_ble_eq_true rfl) rfl dX12_touchedBy_10 (fun q h => M_X12_shadowOf l Γ F h_x0 h_x1 mem q h) (fun y2 m3 h_y2 => ?_)
    refine zj_lstore_n (j := 3) (i := 3) C rfl [(3, .long (i64 y2)), (0, .ref (zad Γ 138)), (1, .int (i32 x0)), (2, .int (i32 x1))] dX12_touchedBy_13 (by decide) rfl ?_
    refine zj_iconst C 0 dX12_touchedBy_14 ?_
    refine zj_istore C [(5, .int (i32 0)), (3, .long (i64 y2)), (0, .ref (zad Γ 138)), (1, .int (i32 x0)), (2, .int (i32 x1))] dX12_touchedBy_15 (by decide) rfl ?_
    refine zj_iconst C 0 dX12_touchedBy_17 ?_
    refine zj_istore C [(6, .int (i32 0)), (5, .int (i32 0)), (3, .long (i64 y2)), (0, .ref (zad Γ 138)), (1, .int (i32 x0)), (2, .int (i32 x1))] dX12_touchedBy_18 (by decide) rfl ?_
    exact zj_sub [3, 2, 1, 0] rfl ((L_X12_touchedBy_0 l F C Z zN) y2 0 0 h_y2 irc_0 irc_0 m3)
noncomputable def b_X12_shadowsOn_0 (rec : Int → Int → Int → zMem → Option (Int × zMem)) (v1 : Int) (v2 : Int) (v3 : Int) (mem : zMem) : Option (Int × zMem) := if ix 140 2 then if v3 ≥ (mem 140 2) then (some (v2, mem)) else (zbind (f_X12_sunNow mem) fun y4 m5 => if y4 = (-1) then (rec v1 v2 (w32 (v3 + 1)) m5) else (zbind (f_X12_sunNow m5) fun y7 m8 => zbind (f_X12_shadowOf v3 y7 m8) fun y9 m10 => zbind (f_X12_isCast y9 v1 m10) fun y11 m12 => if y11 = 0 then (rec v1 v2 (w32 (v3 + 1)) m12) else (pipe (zor v2 (zshl 1 v3)) fun y14 => rec v1 y14 (w32 (v3 + 1)) m12))) else none
noncomputable def f_X12_shadowsOn_0 : Nat → Int → Int → Int → zMem → Option (Int × zMem) := zfuel (fun _ _ _ _ => none) (b_X12_shadowsOn_0)
set_option maxHeartbeats 4000000 in
theorem L_X12_shadowsOn_0 (l : Launch) {Γ : zG} (F : zFull Γ) {X : zM} {q : Int × zMem} (C : zC X Γ "ShadowHeirsModel" cX12_shadowsOn 4) (Z : zRt X l Γ 5 1 (some .int) q) : ∀ n : Nat, ∀ (v1 : Int) (v2 : Int) (v3 : Int) (h_v1 : ir v1) (h_v2 : ir v2) (h_v3 : ir v3) (mem : zMem), zJ X Γ 4 q (f_X12_shadowsOn_0 n v1 v2 v3 mem) 4 [(0, .ref (zad Γ 138)), (1, .int (i32 v1)), (2, .int (i32 v2)), (3, .int (i32 v3))] [] mem := by
  intro n
  induction n with
  | zero => intros; exact zj_none
  | succ n ih =>
    intro v1 v2 v3 h_v1 h_v2 h_v3 mem
    show zJ X Γ 4 q (b_X12_shadowsOn_0 (f_X12_shadowsOn_0 n) v1 v2 v3 mem) _ _ _ _
    unfold b_X12_shadowsOn_0
    refine zj_iload_n (j := 3) (i := 3) C rfl 3 rfl dX12_shadowsOn_4 ?_
    refine zj_aload_n (j := 0) (i := 0) C rfl 0 rfl dX12_shadowsOn_5 ?_
    refine zj_getR C F zk_138 fl_X12_98 rfl rf_138_14 dX12_shadowsOn_6 ?_
    refine zj_iconst C 2 dX12_shadowsOn_9 ?_
    refine zj_iaload C F zk_140 irc_2 dX12_shadowsOn_10 (fun c1 h2 => ?_)
    refine zj_icmp_ge C 50 h_v3 h2 dX12_shadowsOn_11 rfl (fun c3 => ?_) (fun c3 => ?_)
    · refine zj_iload_n (j := 2) (i := 2) C rfl 2 rfl dX12_shadowsOn_50 ?_
      exact zrt_i C Z h_v2 dX12_shadowsOn_51
    · refine zj_aload_n (j := 0) (i := 0) C rfl 0 rfl dX12_shadowsOn_14 ?_
      refine zj_callVi C F Z [] [] cal_X12_sunNow calv_X12_sunNow ml_X12_259 zk_138 rfl rfl (by decide) (Nat.le_of_ble_eq_true rfl) rfl dX12_shadowsOn_15 (fun q h => M_X12_sunNow l Γ F  mem q h) (fun y4 m5 h_y4 => ?_)
      refine zj_iconst C (-1) dX12_shadowsOn_18 ?_
      refine zj_icmp_eq C 44 h_y4 irc_m1 dX12_shadowsOn_19 rfl (fun c6 => ?_) (fun c6 => ?_)
      · refine zj_iinc C 3 [(3, .int (i32 (w32 (v3 + 1)))), (0, .ref (zad Γ 138)), (1, .int (i32 v1)), (2, .int (i32 v2))] rfl dX12_shadowsOn_44 (by decide) rfl ?_
        refine zj_goto (tgt := 4) C dX12_shadowsOn_47 rfl ?_
        exact zj_sub [1, 2, 3, 0] rfl (ih v1 v2 (w32 (v3 + 1)) h_v1 h_v2 (ir_w _) m5)
      · refine zj_aload_n (j := 0) (i := 0) C rfl 0 rfl dX12_shadowsOn_22 ?_
        refine zj_iload_n (j := 3) (i := 3) C rfl 3 rfl dX12_shadowsOn_23 ?_
        refine zj_aload_n (j := 0) (i := 0) C rfl 0 rfl dX12_shadowsOn_24 ?_
        refine zj_callVi C F Z [] [.int (i32 v3), .ref (zad Γ 138)] cal_X12_sunNow calv_X12_sunNow ml_X12_259 zk_138 rfl rfl (by decide) (Nat.le_of_ble_eq_true rfl) rfl dX12_shadowsOn_25 (fun q h => M_X12_sunNow l Γ F  m5 q h) (fun y7 m8 h_y7 => ?_)
        refine zj_callVl C F Z [.int (i32 v3), .int (i32 y7)] [] cal_X12_shadowOf calv_X12_shadowOf ml_X12_251 zk_138 rfl rfl (by decide) (Nat.le_of_ble_eq_true rfl) rfl dX12_shadowsOn_28 (fun q h => M_X12_shadowOf l Γ F h_v3 h_y7 m8 q h) (fun y9 m10 h_y9 => ?_)
        refine zj_iload_n (j := 1) (i := 1) C rfl 1 rfl dX12_shadowsOn_31 ?_
        refine zj_callSi C Z [.long (i64 y9), .int (i32 v1)] [] cal_X12_isCast sta_X12_isCast ml_X12_255 rfl (by decide) (Nat.le_of_ble_eq_true rfl) rfl dX12_shadowsOn_32 (fun q h => M_X12_isCast l Γ F h_y9 h_v1 m10 q h) (fun y11 m12 h_y11 => ?_)
        refine zj_if_eq C 44 h_y11 dX12_shadowsOn_35 rfl (fun c13 => ?_) (fun c13 => ?_)
        · refine zj_iinc C 3 [(3, .int (i32 (w32 (v3 + 1)))), (0, .ref (zad Γ 138)), (1, .int (i32 v1)), (2, .int (i32 v2))] rfl dX12_shadowsOn_44 (by decide) rfl ?_
          refine zj_goto (tgt := 4) C dX12_shadowsOn_47 rfl ?_
          exact zj_sub [1, 2, 3, 0] rfl (ih v1 v2 (w32 (v3 + 1)) h_v1 h_v2 (ir_w _) m12)
        · refine zj_iload_n (j := 2) (i := 2) C rfl 2 rfl dX12_shadowsOn_38 ?_
          refine zj_iconst C 1 dX12_shadowsOn_39 ?_
          refine zj_iload_n (j := 3) (i := 3) C rfl 3 rfl dX12_shadowsOn_40 ?_
          refine zj_ishl C dX12_shadowsOn_41 ?_
          refine zj_ior C dX12_shadowsOn_42 ?_
          refine zj_pipeI (fun y14 e_y14 => ?_)
          have h_y14 := ir_eq e_y14 (ir_toInt _)
          refine zj_istore_n (j := 2) (i := 2) C rfl [(2, .int (i32 y14)), (0, .ref (zad Γ 138)), (1, .int (i32 v1)), (3, .int (i32 v3))] dX12_shadowsOn_43 (by decide) rfl ?_
          refine zj_iinc C 3 [(3, .int (i32 (w32 (v3 + 1)))), (2, .int (i32 y14)), (0, .ref (zad Γ 138)), (1, .int (i32 v1))] rfl dX12_shadowsOn_44 (by decide) rfl ?_
          refine zj_goto (tgt := 4) C dX12_shadowsOn_47 rfl ?_
          exact zj_sub [2, 3, 1, 0] rfl (ih v1 y14 (w32 (v3 + 1)) h_v1 h_y14 (ir_w _) m12)
noncomputable def f_X12_shadowsOn (x0 : Int) (mem : zMem) : Option (Int × zMem) := f_X12_shadowsOn_0 zN x0 0 0 mem
set_option maxHeartbeats 4000000 in
theorem M_X12_shadowsOn (l : Launch) (Γ : zG) (F : zFull Γ)  {x0 : Int} (h_x0 : ir x0) (mem : zMem) (q : Int × zMem) (h : f_X12_shadowsOn x0 mem = some q) : zMet l yX12_shadowsOn cX12_shadowsOn 4 (some .int) 5 Γ 1 [.ref (zad Γ 138), .int (i32 x0)] mem q := by
  refine zMet_of (own := "ShadowHeirsModel") (by decide) rfl (Nat.le_of_ble_eq_true rfl) (fun X C Z => ?_)
  revert h
  show zJ X Γ 4 q (f_X12_shadowsOn x0 mem) 0 [(0, .ref (zad Γ 138)), (1, .int (i32 x0))] [] mem
  unfold f_X12_shadowsOn
  refine zj_iconst C 0 dX12_shadowsOn_0 ?_
  refine zj_istore_n (j := 2) (i := 2) C rfl [(2, .int (i32 0)), (0, .ref (zad Γ 138)), (1, .int (i32 x0))] dX12_shadowsOn_1 (by decide) rfl ?_
  refine zj_iconst C 0 dX12_shadowsOn_2 ?_
  refine zj_istore_n (j := 3) (i := 3) C rfl [(3, .int (i32 0)), (2, .int (i32 0)), (0, .ref (zad Γ 138)), (1, .int (i32 x0))] dX12_shadowsOn_3 (by decide) rfl ?_
  exact zj_sub [2, 3, 1, 0] rfl ((L_X12_shadowsOn_0 l F C Z zN) x0 0 0 h_x0 irc_0 irc_0 mem)
noncomputable def f_X12_cell (x0 : Int) (x1 : Int) (x2 : Int) (mem : zMem) : Option (Int × zMem) := pipe (zup mem 138 0 0) fun m1 => zbind (f_X12_isCell x0 x1 m1) fun y2 m3 => if y2 = 0 then (some ((-1), m3)) else (pipe (w32 ((w32 (8 * x1)) + x0)) fun y5 => if x2 = 0 then (zbind (f_X12_heightOf y5 m3) fun y7 m8 => some (y7, m8)) else (if x2 = 1 then (zbind (f_X12_houseAt y5 m3) fun y10 m11 => some (y10, m11)) else (if x2 = 2 then (zbind (f_X12_personsAt y5 m3) fun y13 m14 => some (y13, m14)) else (if x2 = 3 then (zbind (f_X12_shadowsOn y5 m3) fun y16 m17 => some (y16, m17)) else (some ((-1), m3))))))
set_option maxHeartbeats 4000000 in
theorem M_X12_cell (l : Launch) (Γ : zG) (F : zFull Γ)  {x0 : Int} {x1 : Int} {x2 : Int} (h_x0 : ir x0) (h_x1 : ir x1) (h_x2 : ir x2) (mem : zMem) (q : Int × zMem) (h : f_X12_cell x0 x1 x2 mem = some q) : zMet l yX12_cell cX12_cell 5 (some .int) 6 Γ 1 [.ref (zad Γ 138), .int (i32 x0), .int (i32 x1), .int (i32 x2)] mem q := by
  refine zMet_of (own := "ShadowHeirsModel") (by decide) rfl (Nat.le_of_ble_eq_true rfl) (fun X C Z => ?_)
  revert h
  show zJ X Γ 5 q (f_X12_cell x0 x1 x2 mem) 0 [(0, .ref (zad Γ 138)), (1, .int (i32 x0)), (2, .int (i32 x1)), (3, .int (i32 x2))] [] mem
  unfold f_X12_cell
  refine zj_aload_n (j := 0) (i := 0) C rfl 0 rfl dX12_cell_0 ?_
  refine zj_iconst C 0 dX12_cell_1 ?_
  refine zj_putI C F 0 rfl zk_138 fl_X12_1 rfl fp_12_0 irc_0 dX12_cell_2 ?_
  refine zj_pipeM (fun m1 e_m1 => ?_)
  refine zj_aload_n (j := 0) (i := 0) C rfl 0 rfl dX12_cell_5 ?_
  refine zj_iload_n (j := 1) (i := 1) C rfl 1 rfl dX12_cell_6 ?_
  refine zj_iload_n (j := 2) (i := 2) C rfl 2 rfl dX12_cell_7 ?_
  refine zj_callVi C F Z [.int (i32 x0), .int (i32 x1)] [] cal_X12_isCell calv_X12_isCell ml_X12_244 zk_138 rfl rfl (by decide) (Nat.le_of_ble_eq_true rfl) rfl dX12_cell_8 (fun q h => M_X12_isCell l Γ F h_x0 h_x1 m1 q h) (fun y2 m3 h_y2 => ?_)
  refine zj_if_ne C 16 h_y2 dX12_cell_11 rfl (fun c4 => ?_) (fun c4 => ?_)
  · refine zj_iconst C (-1) dX12_cell_14 ?_
    exact zrt_i C Z irc_m1 dX12_cell_15
  · refine zj_bipush C 8 rfl dX12_cell_16 ?_
    refine zj_iload_n (j := 2) (i := 2) C rfl 2 rfl dX12_cell_18 ?_
    refine zj_imul C dX12_cell_19 ?_
    refine zj_iload_n (j := 1) (i := 1) C rfl 1 rfl dX12_cell_20 ?_
    refine zj_iadd C dX12_cell_21 ?_
    refine zj_pipeI (fun y5 e_y5 => ?_)
    have h_y5 := ir_eq e_y5 (ir_w _)
    refine zj_istore C [(4, .int (i32 y5)), (0, .ref (zad Γ 138)), (1, .int (i32 x0)), (2, .int (i32 x1)), (3, .int (i32 x2))] dX12_cell_22 (by decide) rfl ?_
    refine zj_iload_n (j := 3) (i := 3) C rfl 4 rfl dX12_cell_24 ?_
    refine zj_split (fun c6 => ?_) (fun c6 => ?_)
    · refine zj_tableIn (off := 31) C 0 56 h_x2 c6 dX12_cell_25 rfl rfl ?_
      refine zj_aload_n (j := 0) (i := 0) C rfl 1 rfl dX12_cell_56 ?_
      refine zj_iload C 0 rfl dX12_cell_57 ?_
      refine zj_callVi C F Z [.int (i32 y5)] [] cal_X12_heightOf calv_X12_heightOf ml_X12_241 zk_138 rfl rfl (by decide) (Nat.le_of_ble_eq_true rfl) rfl dX12_cell_59 (fun q h => M_X12_heightOf l Γ F h_y5 m3 q h) (fun y7 m8 h_y7 => ?_)
      exact zrt_i C Z h_y7 dX12_cell_62
    · refine zj_split (fun c9 => ?_) (fun c9 => ?_)
      · refine zj_tableIn (off := 38) C 1 63 h_x2 c9 dX12_cell_25 rfl rfl ?_
        refine zj_aload_n (j := 0) (i := 0) C rfl 1 rfl dX12_cell_63 ?_
        refine zj_iload C 0 rfl dX12_cell_64 ?_
        refine zj_callVi C F Z [.int (i32 y5)] [] cal_X12_houseAt calv_X12_houseAt ml_X12_238 zk_138 rfl rfl (by decide) (Nat.le_of_ble_eq_true rfl) rfl dX12_cell_66 (fun q h => M_X12_houseAt l Γ F h_y5 m3 q h) (fun y10 m11 h_y10 => ?_)
        exact zrt_i C Z h_y10 dX12_cell_69
      · refine zj_split (fun c12 => ?_) (fun c12 => ?_)
        · refine zj_tableIn (off := 45) C 2 70 h_x2 c12 dX12_cell_25 rfl rfl ?_
          refine zj_aload_n (j := 0) (i := 0) C rfl 1 rfl dX12_cell_70 ?_
          refine zj_iload C 0 rfl dX12_cell_71 ?_
          refine zj_callVi C F Z [.int (i32 y5)] [] cal_X12_personsAt calv_X12_personsAt ml_X12_262 zk_138 rfl rfl (by decide) (Nat.le_of_ble_eq_true rfl) rfl dX12_cell_73 (fun q h => M_X12_personsAt l Γ F h_y5 m3 q h) (fun y13 m14 h_y13 => ?_)
          exact zrt_i C Z h_y13 dX12_cell_76
        · refine zj_split (fun c15 => ?_) (fun c15 => ?_)
          · refine zj_tableIn (off := 52) C 3 77 h_x2 c15 dX12_cell_25 rfl rfl ?_
            refine zj_aload_n (j := 0) (i := 0) C rfl 1 rfl dX12_cell_77 ?_
            refine zj_iload C 0 rfl dX12_cell_78 ?_
            refine zj_callVi C F Z [.int (i32 y5)] [] cal_X12_shadowsOn calv_X12_shadowsOn ml_X12_265 zk_138 rfl rfl (by decide) (Nat.le_of_ble_eq_true rfl) rfl dX12_cell_80 (fun q h => M_X12_shadowsOn l Γ F h_y5 m3 q h) (fun y16 m17 h_y16 => ?_)
            exact zrt_i C Z h_y16 dX12_cell_83
          · refine zj_tableOut C 84 h_x2 dX12_cell_25 (by omega) rfl ?_
            refine zj_iconst C (-1) dX12_cell_84 ?_
            exact zrt_i C Z irc_m1 dX12_cell_85
noncomputable def f_X12_house (x0 : Int) (x1 : Int) (mem : zMem) : Option (Int × zMem) := pipe (zup mem 138 0 0) fun m1 => zbind (f_X12_isHouse x0 m1) fun y2 m3 => if y2 = 0 then (zbind (f_X12_refuse m3) fun y5 m6 => some (y5, m6)) else (if x1 = 0 then (if ix 140 (w32 (5 + x0)) then some ((zrem (m3 140 (w32 (5 + x0))) 8), m3) else none) else (if x1 = 1 then (if ix 140 (w32 (5 + x0)) then some ((zdiv (m3 140 (w32 (5 + x0))) 8), m3) else none) else (if x1 = 2 then (if ix 140 (w32 (10 + x0)) then some ((m3 140 (w32 (10 + x0))), m3) else none) else (if x1 = 3 then (if ix 140 (w32 (111 + x0)) then some ((m3 140 (w32 (111 + x0))), m3) else none) else (if x1 = 4 then (zbind (f_X12_isBuried x0 m3) fun y20 m21 => if y20 = 0 then (some (0, m21)) else (some (1, m21))) else (if x1 = 5 then (zbind (f_X12_sunNow m3) fun y24 m25 => zbind (f_X12_touchedBy x0 y24 m25) fun y26 m27 => some (y26, m27)) else (zbind (f_X12_refuse m3) fun y28 m29 => some (y28, m29))))))))
set_option maxHeartbeats 4000000 in
theorem M_X12_house (l : Launch) (Γ : zG) (F : zFull Γ)  {x0 : Int} {x1 : Int} (h_x0 : ir x0) (h_x1 : ir x1) (mem : zMem) (q : Int × zMem) (h : f_X12_house x0 x1 mem = some q) : zMet l yX12_house cX12_house 3 (some .int) 6 Γ 1 [.ref (zad Γ 138), .int (i32 x0), .int (i32 x1)] mem q := by
  refine zMet_of (own := "ShadowHeirsModel") (by decide) rfl (Nat.le_of_ble_eq_true rfl) (fun X C Z => ?_)
  revert h
  show zJ X Γ 3 q (f_X12_house x0 x1 mem) 0 [(0, .ref (zad Γ 138)), (1, .int (i32 x0)), (2, .int (i32 x1))] [] mem
  unfold f_X12_house
  refine zj_aload_n (j := 0) (i := 0) C rfl 0 rfl dX12_house_0 ?_
  refine zj_iconst C 0 dX12_house_1 ?_
  refine zj_putI C F 0 rfl zk_138 fl_X12_1 rfl fp_12_0 irc_0 dX12_house_2 ?_
  refine zj_pipeM (fun m1 e_m1 => ?_)
  refine zj_aload_n (j := 0) (i := 0) C rfl 0 rfl dX12_house_5 ?_
  refine zj_iload_n (j := 1) (i := 1) C rfl 1 rfl dX12_house_6 ?_
  refine zj_callVi C F Z [.int (i32 x0)] [] cal_X12_isHouse calv_X12_isHouse ml_X12_268 zk_138 rfl rfl (by decide) (Nat.le_of_ble_eq_true rfl) rfl dX12_house_7 (fun q h => M_X12_isHouse l Γ F h_x0 m1 q h) (fun y2 m3 h_y2 => ?_)
  refine zj_if_ne C 18 h_y2 dX12_house_10 rfl (fun c4 => ?_) (fun c4 => ?_)
  · refine zj_aload_n (j := 0) (i := 0) C rfl 0 rfl dX12_house_13 ?_
    refine zj_callVi C F Z [] [] cal_X12_refuse calv_X12_refuse ml_X12_271 zk_138 rfl rfl (by decide) (Nat.le_of_ble_eq_true rfl) rfl dX12_house_14 (fun q h => M_X12_refuse l Γ F  m3 q h) (fun y5 m6 h_y5 => ?_)
    exact zrt_i C Z h_y5 dX12_house_17
  · refine zj_iload_n (j := 2) (i := 2) C rfl 2 rfl dX12_house_18 ?_
    refine zj_split (fun c7 => ?_) (fun c7 => ?_)
    · refine zj_tableIn (off := 37) C 0 56 h_x1 c7 dX12_house_19 rfl rfl ?_
      refine zj_aload_n (j := 0) (i := 0) C rfl 0 rfl dX12_house_56 ?_
      refine zj_getR C F zk_138 fl_X12_98 rfl rf_138_14 dX12_house_57 ?_
      refine zj_iconst C 5 dX12_house_60 ?_
      refine zj_iload_n (j := 1) (i := 1) C rfl 1 rfl dX12_house_61 ?_
      refine zj_iadd C dX12_house_62 ?_
      refine zj_iaload C F zk_140 (ir_w _) dX12_house_63 (fun c8 h9 => ?_)
      refine zj_bipush C 8 rfl dX12_house_64 ?_
      refine zj_iremc C (by decide) dX12_house_66 ?_
      exact zrt_i C Z (ir_toInt _) dX12_house_67
    · refine zj_split (fun c10 => ?_) (fun c10 => ?_)
      · refine zj_tableIn (off := 49) C 1 68 h_x1 c10 dX12_house_19 rfl rfl ?_
        refine zj_aload_n (j := 0) (i := 0) C rfl 0 rfl dX12_house_68 ?_
        refine zj_getR C F zk_138 fl_X12_98 rfl rf_138_14 dX12_house_69 ?_
        refine zj_iconst C 5 dX12_house_72 ?_
        refine zj_iload_n (j := 1) (i := 1) C rfl 1 rfl dX12_house_73 ?_
        refine zj_iadd C dX12_house_74 ?_
        refine zj_iaload C F zk_140 (ir_w _) dX12_house_75 (fun c11 h12 => ?_)
        refine zj_bipush C 8 rfl dX12_house_76 ?_
        refine zj_idivc C (by decide) dX12_house_78 ?_
        exact zrt_i C Z (ir_toInt _) dX12_house_79
      · refine zj_split (fun c13 => ?_) (fun c13 => ?_)
        · refine zj_tableIn (off := 61) C 2 80 h_x1 c13 dX12_house_19 rfl rfl ?_
          refine zj_aload_n (j := 0) (i := 0) C rfl 0 rfl dX12_house_80 ?_
          refine zj_getR C F zk_138 fl_X12_98 rfl rf_138_14 dX12_house_81 ?_
          refine zj_bipush C 10 rfl dX12_house_84 ?_
          refine zj_iload_n (j := 1) (i := 1) C rfl 1 rfl dX12_house_86 ?_
          refine zj_iadd C dX12_house_87 ?_
          refine zj_iaload C F zk_140 (ir_w _) dX12_house_88 (fun c14 h15 => ?_)
          exact zrt_i C Z h15 dX12_house_89
        · refine zj_split (fun c16 => ?_) (fun c16 => ?_)
          · refine zj_tableIn (off := 71) C 3 90 h_x1 c16 dX12_house_19 rfl rfl ?_
            refine zj_aload_n (j := 0) (i := 0) C rfl 0 rfl dX12_house_90 ?_
            refine zj_getR C F zk_138 fl_X12_98 rfl rf_138_14 dX12_house_91 ?_
            refine zj_bipush C 111 rfl dX12_house_94 ?_
            refine zj_iload_n (j := 1) (i := 1) C rfl 1 rfl dX12_house_96 ?_
            refine zj_iadd C dX12_house_97 ?_
            refine zj_iaload C F zk_140 (ir_w _) dX12_house_98 (fun c17 h18 => ?_)
            exact zrt_i C Z h18 dX12_house_99
          · refine zj_split (fun c19 => ?_) (fun c19 => ?_)
            · refine zj_tableIn (off := 81) C 4 100 h_x1 c19 dX12_house_19 rfl rfl ?_
              refine zj_aload_n (j := 0) (i := 0) C rfl 0 rfl dX12_house_100 ?_
              refine zj_iload_n (j := 1) (i := 1) C rfl 1 rfl dX12_house_101 ?_
              refine zj_callVi C F Z [.int (i32 x0)] [] cal_X12_isBuried calv_X12_isBuried ml_X12_274 zk_138 rfl rfl (by decide) (Nat.le_of_ble_eq_true rfl) rfl dX12_house_102 (fun q h => M_X12_isBuried l Γ F h_x0 m3 q h) (fun y20 m21 h_y20 => ?_)
              refine zj_if_eq C 112 h_y20 dX12_house_105 rfl (fun c22 => ?_) (fun c22 => ?_)
              · refine zj_iconst C 0 dX12_house_112 ?_
                exact zrt_i C Z irc_0 dX12_house_113
              · refine zj_iconst C 1 dX12_house_108 ?_
                refine zj_goto (tgt := 113) C dX12_house_109 rfl ?_
                exact zrt_i C Z irc_1 dX12_house_113
            · refine zj_split (fun c23 => ?_) (fun c23 => ?_)
              · refine zj_tableIn (off := 95) C 5 114 h_x1 c23 dX12_house_19 rfl rfl ?_
                refine zj_aload_n (j := 0) (i := 0) C rfl 0 rfl dX12_house_114 ?_
                refine zj_iload_n (j := 1) (i := 1) C rfl 1 rfl dX12_house_115 ?_
                refine zj_aload_n (j := 0) (i := 0) C rfl 0 rfl dX12_house_116 ?_
                refine zj_callVi C F Z [] [.int (i32 x0), .ref (zad Γ 138)] cal_X12_sunNow calv_X12_sunNow ml_X12_259 zk_138 rfl rfl (by decide) (Nat.le_of_ble_eq_true rfl) rfl dX12_house_117 (fun q h => M_X12_sunNow l Γ F  m3 q h) (fun y24 m25 h_y24 => ?_)
                refine zj_callVi C F Z [.int (i32 x0), .int (i32 y24)] [] cal_X12_touchedBy calv_X12_touchedBy ml_X12_277 zk_138 rfl rfl (by decide) (Nat.le_of_ble_eq_true rfl) rfl dX12_house_120 (fun q h => M_X12_touchedBy l Γ F h_x0 h_y24 m25 q h) (fun y26 m27 h_y26 => ?_)
                exact zrt_i C Z h_y26 dX12_house_123
              · refine zj_tableOut C 124 h_x1 dX12_house_19 (by omega) rfl ?_
                refine zj_aload_n (j := 0) (i := 0) C rfl 0 rfl dX12_house_124 ?_
                refine zj_callVi C F Z [] [] cal_X12_refuse calv_X12_refuse ml_X12_271 zk_138 rfl rfl (by decide) (Nat.le_of_ble_eq_true rfl) rfl dX12_house_125 (fun q h => M_X12_refuse l Γ F  m3 q h) (fun y28 m29 h_y28 => ?_)
                exact zrt_i C Z h_y28 dX12_house_128
noncomputable def b_X12_sum_0 (rec : Int → Int → Int → Int → zMem → Option (Int × zMem)) (v1 : Int) (v2 : Int) (v3 : Int) (v4 : Int) (mem : zMem) : Option (Int × zMem) := if v4 ≥ v2 then (some (v3, mem)) else (if ix 140 (w32 (v1 + v4)) then pipe (w32 (v3 + (mem 140 (w32 (v1 + v4))))) fun y4 => rec v1 v2 y4 (w32 (v4 + 1)) mem else none)
noncomputable def f_X12_sum_0 : Nat → Int → Int → Int → Int → zMem → Option (Int × zMem) := zfuel (fun _ _ _ _ _ => none) (b_X12_sum_0)
set_option maxHeartbeats 4000000 in
theorem L_X12_sum_0 (l : Launch) {Γ : zG} (F : zFull Γ) {X : zM} {q : Int × zMem} (C : zC X Γ "ShadowHeirsModel" cX12_sum 5) (Z : zRt X l Γ 1 1 (some .int) q) : ∀ n : Nat, ∀ (v1 : Int) (v2 : Int) (v3 : Int) (v4 : Int) (h_v1 : ir v1) (h_v2 : ir v2) (h_v3 : ir v3) (h_v4 : ir v4) (mem : zMem), zJ X Γ 5 q (f_X12_sum_0 n v1 v2 v3 v4 mem) 5 [(0, .ref (zad Γ 138)), (1, .int (i32 v1)), (2, .int (i32 v2)), (3, .int (i32 v3)), (4, .int (i32 v4))] [] mem := by
  intro n
  induction n with
  | zero => intros; exact zj_none
  | succ n ih =>
    intro v1 v2 v3 v4 h_v1 h_v2 h_v3 h_v4 mem
    show zJ X Γ 5 q (b_X12_sum_0 (f_X12_sum_0 n) v1 v2 v3 v4 mem) _ _ _ _
    unfold b_X12_sum_0
    refine zj_iload C 4 rfl dX12_sum_5 ?_
    refine zj_iload_n (j := 2) (i := 2) C rfl 2 rfl dX12_sum_7 ?_
    refine zj_icmp_ge C 29 h_v4 h_v2 dX12_sum_8 rfl (fun c1 => ?_) (fun c1 => ?_)
    · refine zj_iload_n (j := 3) (i := 3) C rfl 3 rfl dX12_sum_29 ?_
      exact zrt_i C Z h_v3 dX12_sum_30
    · refine zj_iload_n (j := 3) (i := 3) C rfl 3 rfl dX12_sum_11 ?_
      refine zj_aload_n (j := 0) (i := 0) C rfl 0 rfl dX12_sum_12 ?_
      refine zj_getR C F zk_138 fl_X12_98 rfl rf_138_14 dX12_sum_13 ?_
      refine zj_iload_n (j := 1) (i := 1) C rfl 1 rfl dX12_sum_16 ?_
      refine zj_iload C 4 rfl dX12_sum_17 ?_
      refine zj_iadd C dX12_sum_19 ?_
      refine zj_iaload C F zk_140 (ir_w _) dX12_sum_20 (fun c2 h3 => ?_)
      refine zj_iadd C dX12_sum_21 ?_
      refine zj_pipeI (fun y4 e_y4 => ?_)
      have h_y4 := ir_eq e_y4 (ir_w _)
      refine zj_istore_n (j := 3) (i := 3) C rfl [(3, .int (i32 y4)), (0, .ref (zad Γ 138)), (1, .int (i32 v1)), (2, .int (i32 v2)), (4, .int (i32 v4))] dX12_sum_22 (by decide) rfl ?_
      refine zj_iinc C 4 [(4, .int (i32 (w32 (v4 + 1)))), (3, .int (i32 y4)), (0, .ref (zad Γ 138)), (1, .int (i32 v1)), (2, .int (i32 v2))] rfl dX12_sum_23 (by decide) rfl ?_
      refine zj_goto (tgt := 5) C dX12_sum_26 rfl ?_
      exact zj_sub [2, 3, 4, 1, 0] rfl (ih v1 v2 y4 (w32 (v4 + 1)) h_v1 h_v2 h_y4 (ir_w _) mem)
noncomputable def f_X12_sum (x0 : Int) (x1 : Int) (mem : zMem) : Option (Int × zMem) := f_X12_sum_0 zN x0 x1 0 0 mem
set_option maxHeartbeats 4000000 in
theorem M_X12_sum (l : Launch) (Γ : zG) (F : zFull Γ)  {x0 : Int} {x1 : Int} (h_x0 : ir x0) (h_x1 : ir x1) (mem : zMem) (q : Int × zMem) (h : f_X12_sum x0 x1 mem = some q) : zMet l yX12_sum cX12_sum 5 (some .int) 1 Γ 1 [.ref (zad Γ 138), .int (i32 x0), .int (i32 x1)] mem q := by
  refine zMet_of (own := "ShadowHeirsModel") (by decide) rfl (Nat.le_of_ble_eq_true rfl) (fun X C Z => ?_)
  revert h
  show zJ X Γ 5 q (f_X12_sum x0 x1 mem) 0 [(0, .ref (zad Γ 138)), (1, .int (i32 x0)), (2, .int (i32 x1))] [] mem
  unfold f_X12_sum
  refine zj_iconst C 0 dX12_sum_0 ?_
  refine zj_istore_n (j := 3) (i := 3) C rfl [(3, .int (i32 0)), (0, .ref (zad Γ 138)), (1, .int (i32 x0)), (2, .int (i32 x1))] dX12_sum_1 (by decide) rfl ?_
  refine zj_iconst C 0 dX12_sum_2 ?_
  refine zj_istore C [(4, .int (i32 0)), (3, .int (i32 0)), (0, .ref (zad Γ 138)), (1, .int (i32 x0)), (2, .int (i32 x1))] dX12_sum_3 (by decide) rfl ?_
  exact zj_sub [2, 3, 4, 1, 0] rfl ((L_X12_sum_0 l F C Z zN) x0 x1 0 0 h_x0 h_x1 irc_0 irc_0 mem)
noncomputable def f_X12_now (x0 : Int) (mem : zMem) : Option (Int × zMem) := pipe (zup mem 138 0 0) fun m1 => if x0 = 0 then (if ix 140 106 then some ((m1 140 106), m1) else none) else (if x0 = 1 then (zbind (f_X12_sunNow m1) fun y6 m7 => some (y6, m7)) else (if x0 = 2 then (if ix 140 107 then some ((m1 140 107), m1) else none) else (if x0 = 3 then (zbind (f_X12_sum 128 64 m1) fun y12 m13 => some (y12, m13)) else (if x0 = 4 then (zbind (f_X12_sum 122 6 m1) fun y15 m16 => some (y15, m16)) else (if x0 = 5 then (if ix 140 108 then some ((m1 140 108), m1) else none) else (if x0 = 6 then (if ix 140 109 then some ((m1 140 109), m1) else none) else (if x0 = 7 then (if ix 140 110 then some ((m1 140 110), m1) else none) else (some ((-1), m1)))))))))
set_option maxHeartbeats 4000000 in
theorem M_X12_now (l : Launch) (Γ : zG) (F : zFull Γ)  {x0 : Int} (h_x0 : ir x0) (mem : zMem) (q : Int × zMem) (h : f_X12_now x0 mem = some q) : zMet l yX12_now cX12_now 2 (some .int) 2 Γ 1 [.ref (zad Γ 138), .int (i32 x0)] mem q := by
  refine zMet_of (own := "ShadowHeirsModel") (by decide) rfl (Nat.le_of_ble_eq_true rfl) (fun X C Z => ?_)
  revert h
  show zJ X Γ 2 q (f_X12_now x0 mem) 0 [(0, .ref (zad Γ 138)), (1, .int (i32 x0))] [] mem
  unfold f_X12_now
  refine zj_aload_n (j := 0) (i := 0) C rfl 0 rfl dX12_now_0 ?_
  refine zj_iconst C 0 dX12_now_1 ?_
  refine zj_putI C F 0 rfl zk_138 fl_X12_1 rfl fp_12_0 irc_0 dX12_now_2 ?_
  refine zj_pipeM (fun m1 e_m1 => ?_)
  refine zj_iload_n (j := 1) (i := 1) C rfl 1 rfl dX12_now_5 ?_
  refine zj_split (fun c2 => ?_) (fun c2 => ?_)
  · refine zj_tableIn (off := 46) C 0 52 h_x0 c2 dX12_now_6 rfl rfl ?_
    refine zj_aload_n (j := 0) (i := 0) C rfl 0 rfl dX12_now_52 ?_
    refine zj_getR C F zk_138 fl_X12_98 rfl rf_138_14 dX12_now_53 ?_
    refine zj_bipush C 106 rfl dX12_now_56 ?_
    refine zj_iaload C F zk_140 irc_106 dX12_now_58 (fun c3 h4 => ?_)
    exact zrt_i C Z h4 dX12_now_59
  · refine zj_split (fun c5 => ?_) (fun c5 => ?_)
    · refine zj_tableIn (off := 54) C 1 60 h_x0 c5 dX12_now_6 rfl rfl ?_
      refine zj_aload_n (j := 0) (i := 0) C rfl 0 rfl dX12_now_60 ?_
      refine zj_callVi C F Z [] [] cal_X12_sunNow calv_X12_sunNow ml_X12_259 zk_138 rfl rfl (by decide) (Nat.le_of_ble_eq_true rfl) rfl dX12_now_61 (fun q h => M_X12_sunNow l Γ F  m1 q h) (fun y6 m7 h_y6 => ?_)
      exact zrt_i C Z h_y6 dX12_now_64
    · refine zj_split (fun c8 => ?_) (fun c8 => ?_)
      · refine zj_tableIn (off := 59) C 2 65 h_x0 c8 dX12_now_6 rfl rfl ?_
        refine zj_aload_n (j := 0) (i := 0) C rfl 0 rfl dX12_now_65 ?_
        refine zj_getR C F zk_138 fl_X12_98 rfl rf_138_14 dX12_now_66 ?_
        refine zj_bipush C 107 rfl dX12_now_69 ?_
        refine zj_iaload C F zk_140 irc_107 dX12_now_71 (fun c9 h10 => ?_)
        exact zrt_i C Z h10 dX12_now_72
      · refine zj_split (fun c11 => ?_) (fun c11 => ?_)
        · refine zj_tableIn (off := 67) C 3 73 h_x0 c11 dX12_now_6 rfl rfl ?_
          refine zj_aload_n (j := 0) (i := 0) C rfl 0 rfl dX12_now_73 ?_
          refine zj_sipush C 128 rfl dX12_now_74 ?_
          refine zj_bipush C 64 rfl dX12_now_77 ?_
          refine zj_callVi C F Z [.int (i32 128), .int (i32 64)] [] cal_X12_sum calv_X12_sum ml_X12_286 zk_138 rfl rfl (by decide) (Nat.le_of_ble_eq_true rfl) rfl dX12_now_79 (fun q h => M_X12_sum l Γ F irc_128 irc_64 m1 q h) (fun y12 m13 h_y12 => ?_)
          exact zrt_i C Z h_y12 dX12_now_82
        · refine zj_split (fun c14 => ?_) (fun c14 => ?_)
          · refine zj_tableIn (off := 77) C 4 83 h_x0 c14 dX12_now_6 rfl rfl ?_
            refine zj_aload_n (j := 0) (i := 0) C rfl 0 rfl dX12_now_83 ?_
            refine zj_bipush C 122 rfl dX12_now_84 ?_
            refine zj_bipush C 6 rfl dX12_now_86 ?_
            refine zj_callVi C F Z [.int (i32 122), .int (i32 6)] [] cal_X12_sum calv_X12_sum ml_X12_286 zk_138 rfl rfl (by decide) (Nat.le_of_ble_eq_true rfl) rfl dX12_now_88 (fun q h => M_X12_sum l Γ F irc_122 irc_6 m1 q h) (fun y15 m16 h_y15 => ?_)
            exact zrt_i C Z h_y15 dX12_now_91
          · refine zj_split (fun c17 => ?_) (fun c17 => ?_)
            · refine zj_tableIn (off := 86) C 5 92 h_x0 c17 dX12_now_6 rfl rfl ?_
              refine zj_aload_n (j := 0) (i := 0) C rfl 0 rfl dX12_now_92 ?_
              refine zj_getR C F zk_138 fl_X12_98 rfl rf_138_14 dX12_now_93 ?_
              refine zj_bipush C 108 rfl dX12_now_96 ?_
              refine zj_iaload C F zk_140 irc_108 dX12_now_98 (fun c18 h19 => ?_)
              exact zrt_i C Z h19 dX12_now_99
            · refine zj_split (fun c20 => ?_) (fun c20 => ?_)
              · refine zj_tableIn (off := 94) C 6 100 h_x0 c20 dX12_now_6 rfl rfl ?_
                refine zj_aload_n (j := 0) (i := 0) C rfl 0 rfl dX12_now_100 ?_
                refine zj_getR C F zk_138 fl_X12_98 rfl rf_138_14 dX12_now_101 ?_
                refine zj_bipush C 109 rfl dX12_now_104 ?_
                refine zj_iaload C F zk_140 irc_109 dX12_now_106 (fun c21 h22 => ?_)
                exact zrt_i C Z h22 dX12_now_107
              · refine zj_split (fun c23 => ?_) (fun c23 => ?_)
                · refine zj_tableIn (off := 102) C 7 108 h_x0 c23 dX12_now_6 rfl rfl ?_
                  refine zj_aload_n (j := 0) (i := 0) C rfl 0 rfl dX12_now_108 ?_
                  refine zj_getR C F zk_138 fl_X12_98 rfl rf_138_14 dX12_now_109 ?_
                  refine zj_bipush C 110 rfl dX12_now_112 ?_
                  refine zj_iaload C F zk_140 irc_110 dX12_now_114 (fun c24 h25 => ?_)
                  exact zrt_i C Z h25 dX12_now_115
                · refine zj_tableOut C 116 h_x0 dX12_now_6 (by omega) rfl ?_
                  refine zj_iconst C (-1) dX12_now_116 ?_
                  exact zrt_i C Z irc_m1 dX12_now_117
noncomputable def b_X12_snap_0 (rec : Int → zMem → Option (Int × zMem)) (v1 : Int) (mem : zMem) : Option (Int × zMem) := if v1 ≥ 86 then (pipe (zup mem 138 25 (w32 ((mem 138 25) + 1))) fun m3 => some (0, m3)) else (if ix 140 (w32 (106 + v1)) then if ix 143 (w32 ((w32 (86 * (mem 138 25))) + v1)) then pipe (zup mem 143 (w32 ((w32 (86 * (mem 138 25))) + v1)) (mem 140 (w32 (106 + v1)))) fun m8 => rec (w32 (v1 + 1)) m8 else none else none)
noncomputable def f_X12_snap_0 : Nat → Int → zMem → Option (Int × zMem) := zfuel (fun _ _ => none) (b_X12_snap_0)
set_option maxHeartbeats 4000000 in
theorem L_X12_snap_0 (l : Launch) {Γ : zG} (F : zFull Γ) {X : zM} {q : Int × zMem} (C : zC X Γ "ShadowHeirsModel" cX12_snap 2) (Z : zRt X l Γ 1 0 none q) : ∀ n : Nat, ∀ (v1 : Int) (h_v1 : ir v1) (mem : zMem), zJ X Γ 2 q (f_X12_snap_0 n v1 mem) 51 [(0, .ref (zad Γ 138)), (1, .int (i32 v1))] [] mem := by
  intro n
  induction n with
  | zero => intros; exact zj_none
  | succ n ih =>
    intro v1 h_v1 mem
    show zJ X Γ 2 q (b_X12_snap_0 (f_X12_snap_0 n) v1 mem) _ _ _ _
    unfold b_X12_snap_0
    refine zj_iload_n (j := 1) (i := 1) C rfl 1 rfl dX12_snap_51 ?_
    refine zj_bipush C 86 rfl dX12_snap_52 ?_
    refine zj_icmp_ge C 86 h_v1 irc_86 dX12_snap_54 rfl (fun c1 => ?_) (fun c1 => ?_)
    · refine zj_aload_n (j := 0) (i := 0) C rfl 0 rfl dX12_snap_86 ?_
      refine zj_dup C rfl dX12_snap_87 ?_
      refine zj_getI C F 25 rfl zk_138 fl_X12_232 rfl dX12_snap_88 (fun h2 => ?_)
      refine zj_iconst C 1 dX12_snap_91 ?_
      refine zj_iadd C dX12_snap_92 ?_
      refine zj_putI C F 25 rfl zk_138 fl_X12_232 rfl fp_12_25 (ir_w _) dX12_snap_93 ?_
      refine zj_pipeM (fun m3 e_m3 => ?_)
      exact zrt_v C Z dX12_snap_96
    · refine zj_aload_n (j := 0) (i := 0) C rfl 0 rfl dX12_snap_57 ?_
      refine zj_getR C F zk_138 fl_X12_107 rfl rf_138_17 dX12_snap_58 ?_
      refine zj_bipush C 86 rfl dX12_snap_61 ?_
      refine zj_aload_n (j := 0) (i := 0) C rfl 0 rfl dX12_snap_63 ?_
      refine zj_getI C F 25 rfl zk_138 fl_X12_232 rfl dX12_snap_64 (fun h4 => ?_)
      refine zj_imul C dX12_snap_67 ?_
      refine zj_iload_n (j := 1) (i := 1) C rfl 1 rfl dX12_snap_68 ?_
      refine zj_iadd C dX12_snap_69 ?_
      refine zj_aload_n (j := 0) (i := 0) C rfl 0 rfl dX12_snap_70 ?_
      refine zj_getR C F zk_138 fl_X12_98 rfl rf_138_14 dX12_snap_71 ?_
      refine zj_bipush C 106 rfl dX12_snap_74 ?_
      refine zj_iload_n (j := 1) (i := 1) C rfl 1 rfl dX12_snap_76 ?_
      refine zj_iadd C dX12_snap_77 ?_
      refine zj_iaload C F zk_140 (ir_w _) dX12_snap_78 (fun c5 h6 => ?_)
      refine zj_iastore C F zk_143 (ir_w _) h6 dX12_snap_79 (fun c7 => ?_)
      refine zj_pipeM (fun m8 e_m8 => ?_)
      refine zj_iinc C 1 [(1, .int (i32 (w32 (v1 + 1)))), (0, .ref (zad Γ 138))] rfl dX12_snap_80 (by decide) rfl ?_
      refine zj_goto (tgt := 51) C dX12_snap_83 rfl ?_
      exact zj_sub [1, 0] rfl (ih (w32 (v1 + 1)) (ir_w _) m8)
noncomputable def b_X12_snap_1 (rec : Int → zMem → Option (Int × zMem)) (v1 : Int) (mem : zMem) : Option (Int × zMem) := if v1 ≥ 602 then (pipe (zup mem 138 25 (w32 ((mem 138 25) - 1))) fun m3 => f_X12_snap_0 zN 0 m3) else (if ix 143 (w32 (v1 + 86)) then if ix 143 v1 then pipe (zup mem 143 v1 (mem 143 (w32 (v1 + 86)))) fun m7 => rec (w32 (v1 + 1)) m7 else none else none)
noncomputable def f_X12_snap_1 : Nat → Int → zMem → Option (Int × zMem) := zfuel (fun _ _ => none) (b_X12_snap_1)
set_option maxHeartbeats 4000000 in
theorem L_X12_snap_1 (l : Launch) {Γ : zG} (F : zFull Γ) {X : zM} {q : Int × zMem} (C : zC X Γ "ShadowHeirsModel" cX12_snap 2) (Z : zRt X l Γ 1 0 none q) : ∀ n : Nat, ∀ (v1 : Int) (h_v1 : ir v1) (mem : zMem), zJ X Γ 2 q (f_X12_snap_1 n v1 mem) 11 [(0, .ref (zad Γ 138)), (1, .int (i32 v1))] [] mem := by
  intro n
  induction n with
  | zero => intros; exact zj_none
  | succ n ih =>
    intro v1 h_v1 mem
    show zJ X Γ 2 q (b_X12_snap_1 (f_X12_snap_1 n) v1 mem) _ _ _ _
    unfold b_X12_snap_1
    refine zj_iload_n (j := 1) (i := 1) C rfl 1 rfl dX12_snap_11 ?_
    refine zj_sipush C 602 rfl dX12_snap_12 ?_
    refine zj_icmp_ge C 39 h_v1 irc_602 dX12_snap_15 rfl (fun c1 => ?_) (fun c1 => ?_)
    · refine zj_aload_n (j := 0) (i := 0) C rfl 0 rfl dX12_snap_39 ?_
      refine zj_dup C rfl dX12_snap_40 ?_
      refine zj_getI C F 25 rfl zk_138 fl_X12_232 rfl dX12_snap_41 (fun h2 => ?_)
      refine zj_iconst C 1 dX12_snap_44 ?_
      refine zj_isub C dX12_snap_45 ?_
      refine zj_putI C F 25 rfl zk_138 fl_X12_232 rfl fp_12_25 (ir_w _) dX12_snap_46 ?_
      refine zj_pipeM (fun m3 e_m3 => ?_)
      refine zj_iconst C 0 dX12_snap_49 ?_
      refine zj_istore_n (j := 1) (i := 1) C rfl [(1, .int (i32 0)), (0, .ref (zad Γ 138))] dX12_snap_50 (by decide) rfl ?_
      exact zj_sub [1, 0] rfl ((L_X12_snap_0 l F C Z zN) 0 irc_0 m3)
    · refine zj_aload_n (j := 0) (i := 0) C rfl 0 rfl dX12_snap_18 ?_
      refine zj_getR C F zk_138 fl_X12_107 rfl rf_138_17 dX12_snap_19 ?_
      refine zj_iload_n (j := 1) (i := 1) C rfl 1 rfl dX12_snap_22 ?_
      refine zj_aload_n (j := 0) (i := 0) C rfl 0 rfl dX12_snap_23 ?_
      refine zj_getR C F zk_138 fl_X12_107 rfl rf_138_17 dX12_snap_24 ?_
      refine zj_iload_n (j := 1) (i := 1) C rfl 1 rfl dX12_snap_27 ?_
      refine zj_bipush C 86 rfl dX12_snap_28 ?_
      refine zj_iadd C dX12_snap_30 ?_
      refine zj_iaload C F zk_143 (ir_w _) dX12_snap_31 (fun c4 h5 => ?_)
      refine zj_iastore C F zk_143 h_v1 h5 dX12_snap_32 (fun c6 => ?_)
      refine zj_pipeM (fun m7 e_m7 => ?_)
      refine zj_iinc C 1 [(1, .int (i32 (w32 (v1 + 1)))), (0, .ref (zad Γ 138))] rfl dX12_snap_33 (by decide) rfl ?_
      refine zj_goto (tgt := 11) C dX12_snap_36 rfl ?_
      exact zj_sub [1, 0] rfl (ih (w32 (v1 + 1)) (ir_w _) m7)
noncomputable def f_X12_snap  (mem : zMem) : Option (Int × zMem) := if (mem 138 25) = 8 then (f_X12_snap_1 zN 0 mem) else (f_X12_snap_0 zN 0 mem)
set_option maxHeartbeats 4000000 in
theorem M_X12_snap (l : Launch) (Γ : zG) (F : zFull Γ)    (mem : zMem) (q : Int × zMem) (h : f_X12_snap  mem = some q) : zMet l yX12_snap cX12_snap 2 none 1 Γ 0 [.ref (zad Γ 138)] mem q := by
  refine zMet_of (own := "ShadowHeirsModel") (by decide) rfl (Nat.le_of_ble_eq_true rfl) (fun X C Z => ?_)
  revert h
  show zJ X Γ 2 q (f_X12_snap  mem) 0 [(0, .ref (zad Γ 138))] [] mem
  unfold f_X12_snap
  refine zj_aload_n (j := 0) (i := 0) C rfl 0 rfl dX12_snap_0 ?_
  refine zj_getI C F 25 rfl zk_138 fl_X12_232 rfl dX12_snap_1 (fun h1 => ?_)
  refine zj_bipush C 8 rfl dX12_snap_4 ?_
  refine zj_icmp_ne C 49 h1 irc_8 dX12_snap_6 rfl (fun c2 => ?_) (fun c2 => ?_)
  · refine zj_iconst C 0 dX12_snap_9 ?_
    refine zj_istore_n (j := 1) (i := 1) C rfl [(1, .int (i32 0)), (0, .ref (zad Γ 138))] dX12_snap_10 (by decide) rfl ?_
    exact zj_sub [1, 0] rfl ((L_X12_snap_1 l F C Z zN) 0 irc_0 mem)
  · refine zj_iconst C 0 dX12_snap_49 ?_
    refine zj_istore_n (j := 1) (i := 1) C rfl [(1, .int (i32 0)), (0, .ref (zad Γ 138))] dX12_snap_50 (by decide) rfl ?_
    exact zj_sub [1, 0] rfl ((L_X12_snap_0 l F C Z zN) 0 irc_0 mem)
