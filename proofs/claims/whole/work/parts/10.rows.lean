noncomputable def f_X11_end (x0 : Int) (mem : zMem) : Option (Int × zMem) := if x0 < 0 then (some (0, mem)) else (if x0 ≤ (mem 1 2) then (pipe (zup mem 1 2 x0) fun m4 => some (1, m4)) else (some (0, mem)))
set_option maxHeartbeats 4000000 in
theorem M_X11_end (l : Launch) (Γ : zG) (F : zFull Γ)  {x0 : Int} (h_x0 : ir x0) (mem : zMem) (q : Int × zMem) (h : f_X11_end x0 mem = some q) : zMet l yX11_end cX11_end 2 (some .boolean) 1 Γ 1 [.ref (zad Γ 0), .int (i32 x0)] mem q := by
  refine zMet_of (own := "ShadowHeirs") (by decide) rfl (Nat.le_of_ble_eq_true rfl) (fun X C Z => ?_)
  revert h
  show zJ X Γ 2 q (f_X11_end x0 mem) 0 [(0, .ref (zad Γ 0)), (1, .int (i32 x0))] [] mem
  unfold f_X11_end
  refine zj_iload_n (j := 1) (i := 1) C rfl 1 rfl dX11_end_0 ?_
  refine zj_if_lt C 15 h_x0 dX11_end_1 rfl (fun c1 => ?_) (fun c1 => ?_)
  · refine zj_iconst C 0 dX11_end_15 ?_
    exact zrt_z C Z (Or.inl rfl) dX11_end_16
  · refine zj_iload_n (j := 1) (i := 1) C rfl 1 rfl dX11_end_4 ?_
    refine zj_aload_n (j := 0) (i := 0) C rfl 0 rfl dX11_end_5 ?_
    refine zj_getR C F zk_0 fl_X11_10 rfl rf_0_0 dX11_end_6 ?_
    refine zj_getI C F 2 rfl zk_1 fl_X11_130 rfl dX11_end_9 (fun h2 => ?_)
    refine zj_icmp_le C 17 h_x0 h2 dX11_end_12 rfl (fun c3 => ?_) (fun c3 => ?_)
    · refine zj_aload_n (j := 0) (i := 0) C rfl 0 rfl dX11_end_17 ?_
      refine zj_getR C F zk_0 fl_X11_10 rfl rf_0_0 dX11_end_18 ?_
      refine zj_iload_n (j := 1) (i := 1) C rfl 1 rfl dX11_end_21 ?_
      refine zj_putI C F 2 rfl zk_1 fl_X11_130 rfl fp_6_2 h_x0 dX11_end_22 ?_
      refine zj_pipeM (fun m4 e_m4 => ?_)
      refine zj_iconst C 1 dX11_end_25 ?_
      exact zrt_z C Z (Or.inr rfl) dX11_end_26
    · refine zj_iconst C 0 dX11_end_15 ?_
      exact zrt_z C Z (Or.inl rfl) dX11_end_16
noncomputable def f_X11_fault  (mem : zMem) : Option (Int × zMem) := some ((mem 0 15), mem)
set_option maxHeartbeats 4000000 in
theorem M_X11_fault (l : Launch) (Γ : zG) (F : zFull Γ)    (mem : zMem) (q : Int × zMem) (h : f_X11_fault  mem = some q) : zMet l yX11_fault cX11_fault 1 (some .int) 1 Γ 1 [.ref (zad Γ 0)] mem q := by
  refine zMet_of (own := "ShadowHeirs") (by decide) rfl (Nat.le_of_ble_eq_true rfl) (fun X C Z => ?_)
  revert h
  show zJ X Γ 1 q (f_X11_fault  mem) 0 [(0, .ref (zad Γ 0))] [] mem
  unfold f_X11_fault
  refine zj_aload_n (j := 0) (i := 0) C rfl 0 rfl dX11_fault_0 ?_
  refine zj_getI C F 15 rfl zk_0 fl_X11_106 rfl dX11_fault_1 (fun h1 => ?_)
  exact zrt_i C Z h1 dX11_fault_4
noncomputable def f_X11_spareAt  (mem : zMem) : Option (Int × zMem) := some ((mem 0 16), mem)
set_option maxHeartbeats 4000000 in
theorem M_X11_spareAt (l : Launch) (Γ : zG) (F : zFull Γ)    (mem : zMem) (q : Int × zMem) (h : f_X11_spareAt  mem = some q) : zMet l yX11_spareAt cX11_spareAt 1 (some .int) 1 Γ 1 [.ref (zad Γ 0)] mem q := by
  refine zMet_of (own := "ShadowHeirs") (by decide) rfl (Nat.le_of_ble_eq_true rfl) (fun X C Z => ?_)
  revert h
  show zJ X Γ 1 q (f_X11_spareAt  mem) 0 [(0, .ref (zad Γ 0))] [] mem
  unfold f_X11_spareAt
  refine zj_aload_n (j := 0) (i := 0) C rfl 0 rfl dX11_spareAt_0 ?_
  refine zj_getI C F 16 rfl zk_0 fl_X11_110 rfl dX11_spareAt_1 (fun h1 => ?_)
  exact zrt_i C Z h1 dX11_spareAt_4
noncomputable def f_X11_ask  (mem : zMem) : Option (Int × zMem) := some ((mem 0 17), mem)
set_option maxHeartbeats 4000000 in
theorem M_X11_ask (l : Launch) (Γ : zG) (F : zFull Γ)    (mem : zMem) (q : Int × zMem) (h : f_X11_ask  mem = some q) : zMet l yX11_ask cX11_ask 1 (some .int) 1 Γ 1 [.ref (zad Γ 0)] mem q := by
  refine zMet_of (own := "ShadowHeirs") (by decide) rfl (Nat.le_of_ble_eq_true rfl) (fun X C Z => ?_)
  revert h
  show zJ X Γ 1 q (f_X11_ask  mem) 0 [(0, .ref (zad Γ 0))] [] mem
  unfold f_X11_ask
  refine zj_aload_n (j := 0) (i := 0) C rfl 0 rfl dX11_ask_0 ?_
  refine zj_getI C F 17 rfl zk_0 fl_X11_113 rfl dX11_ask_1 (fun h1 => ?_)
  exact zrt_i C Z h1 dX11_ask_4
noncomputable def f_X11_longestAt (x0 : Int) (mem : zMem) : Option (Int × zMem) := if x0 = 0 then (some ((mem 0 18), mem)) else (if x0 = 1 then (some ((mem 0 19), mem)) else (some ((-1), mem)))
set_option maxHeartbeats 4000000 in
theorem M_X11_longestAt (l : Launch) (Γ : zG) (F : zFull Γ)  {x0 : Int} (h_x0 : ir x0) (mem : zMem) (q : Int × zMem) (h : f_X11_longestAt x0 mem = some q) : zMet l yX11_longestAt cX11_longestAt 2 (some .int) 1 Γ 1 [.ref (zad Γ 0), .int (i32 x0)] mem q := by
  refine zMet_of (own := "ShadowHeirs") (by decide) rfl (Nat.le_of_ble_eq_true rfl) (fun X C Z => ?_)
  revert h
  show zJ X Γ 2 q (f_X11_longestAt x0 mem) 0 [(0, .ref (zad Γ 0)), (1, .int (i32 x0))] [] mem
  unfold f_X11_longestAt
  refine zj_iload_n (j := 1) (i := 1) C rfl 1 rfl dX11_longestAt_0 ?_
  refine zj_if_ne C 9 h_x0 dX11_longestAt_1 rfl (fun c1 => ?_) (fun c1 => ?_)
  · refine zj_aload_n (j := 0) (i := 0) C rfl 0 rfl dX11_longestAt_4 ?_
    refine zj_getI C F 18 rfl zk_0 fl_X11_116 rfl dX11_longestAt_5 (fun h2 => ?_)
    exact zrt_i C Z h2 dX11_longestAt_8
  · refine zj_iload_n (j := 1) (i := 1) C rfl 1 rfl dX11_longestAt_9 ?_
    refine zj_iconst C 1 dX11_longestAt_10 ?_
    refine zj_icmp_ne C 21 h_x0 irc_1 dX11_longestAt_11 rfl (fun c3 => ?_) (fun c3 => ?_)
    · refine zj_aload_n (j := 0) (i := 0) C rfl 0 rfl dX11_longestAt_14 ?_
      refine zj_getI C F 19 rfl zk_0 fl_X11_119 rfl dX11_longestAt_15 (fun h4 => ?_)
      refine zj_goto (tgt := 22) C dX11_longestAt_18 rfl ?_
      exact zrt_i C Z h4 dX11_longestAt_22
    · refine zj_iconst C (-1) dX11_longestAt_21 ?_
      exact zrt_i C Z irc_m1 dX11_longestAt_22
noncomputable def f_X11_told (x0 : Int) (mem : zMem) : Option (Int × zMem) := if (mem 45 5) = 0 then (some ((-1), mem)) else (if x0 = 0 then (some ((mem 45 6), mem)) else (if x0 = 1 then (some ((mem 45 7), mem)) else (if x0 = 2 then (some ((mem 45 8), mem)) else (if x0 = 3 then (some ((mem 45 9), mem)) else (some ((-1), mem))))))
set_option maxHeartbeats 4000000 in
theorem M_X11_told (l : Launch) (Γ : zG) (F : zFull Γ)  {x0 : Int} (h_x0 : ir x0) (mem : zMem) (q : Int × zMem) (h : f_X11_told x0 mem = some q) : zMet l yX11_told cX11_told 2 (some .int) 1 Γ 1 [.ref (zad Γ 0), .int (i32 x0)] mem q := by
  refine zMet_of (own := "ShadowHeirs") (by decide) rfl (Nat.le_of_ble_eq_true rfl) (fun X C Z => ?_)
  revert h
  show zJ X Γ 2 q (f_X11_told x0 mem) 0 [(0, .ref (zad Γ 0)), (1, .int (i32 x0))] [] mem
  unfold f_X11_told
  refine zj_aload_n (j := 0) (i := 0) C rfl 0 rfl dX11_told_0 ?_
  refine zj_getR C F zk_0 fl_X11_61 rfl rf_0_7 dX11_told_1 ?_
  refine zj_getI C F 5 rfl zk_45 fl_X11_341 rfl dX11_told_4 (fun h1 => ?_)
  refine zj_if_ne C 12 h1 dX11_told_7 rfl (fun c2 => ?_) (fun c2 => ?_)
  · refine zj_iconst C (-1) dX11_told_10 ?_
    exact zrt_i C Z irc_m1 dX11_told_11
  · refine zj_iload_n (j := 1) (i := 1) C rfl 1 rfl dX11_told_12 ?_
    refine zj_split (fun c3 => ?_) (fun c3 => ?_)
    · refine zj_tableIn (off := 31) C 0 44 h_x0 c3 dX11_told_13 rfl rfl ?_
      refine zj_aload_n (j := 0) (i := 0) C rfl 0 rfl dX11_told_44 ?_
      refine zj_getR C F zk_0 fl_X11_61 rfl rf_0_7 dX11_told_45 ?_
      refine zj_getI C F 6 rfl zk_45 fl_X11_338 rfl dX11_told_48 (fun h4 => ?_)
      exact zrt_i C Z h4 dX11_told_51
    · refine zj_split (fun c5 => ?_) (fun c5 => ?_)
      · refine zj_tableIn (off := 39) C 1 52 h_x0 c5 dX11_told_13 rfl rfl ?_
        refine zj_aload_n (j := 0) (i := 0) C rfl 0 rfl dX11_told_52 ?_
        refine zj_getR C F zk_0 fl_X11_61 rfl rf_0_7 dX11_told_53 ?_
        refine zj_getI C F 7 rfl zk_45 fl_X11_335 rfl dX11_told_56 (fun h6 => ?_)
        exact zrt_i C Z h6 dX11_told_59
      · refine zj_split (fun c7 => ?_) (fun c7 => ?_)
        · refine zj_tableIn (off := 47) C 2 60 h_x0 c7 dX11_told_13 rfl rfl ?_
          refine zj_aload_n (j := 0) (i := 0) C rfl 0 rfl dX11_told_60 ?_
          refine zj_getR C F zk_0 fl_X11_61 rfl rf_0_7 dX11_told_61 ?_
          refine zj_getI C F 8 rfl zk_45 fl_X11_345 rfl dX11_told_64 (fun h8 => ?_)
          exact zrt_i C Z h8 dX11_told_67
        · refine zj_split (fun c9 => ?_) (fun c9 => ?_)
          · refine zj_tableIn (off := 55) C 3 68 h_x0 c9 dX11_told_13 rfl rfl ?_
            refine zj_aload_n (j := 0) (i := 0) C rfl 0 rfl dX11_told_68 ?_
            refine zj_getR C F zk_0 fl_X11_61 rfl rf_0_7 dX11_told_69 ?_
            refine zj_getI C F 9 rfl zk_45 fl_X11_348 rfl dX11_told_72 (fun h10 => ?_)
            exact zrt_i C Z h10 dX11_told_75
          · refine zj_tableOut C 76 h_x0 dX11_told_13 (by omega) rfl ?_
            refine zj_iconst C (-1) dX11_told_76 ?_
            exact zrt_i C Z irc_m1 dX11_told_77
noncomputable def f_X11_count (x0 : Int) (mem : zMem) : Option (Int × zMem) := if x0 = 0 then (some ((mem 4 0), mem)) else (if x0 = 1 then (some ((mem 4 1), mem)) else (if x0 = 2 then (some ((mem 4 2), mem)) else (if x0 = 3 then (some ((mem 4 3), mem)) else (if x0 = 4 then (some ((mem 4 4), mem)) else (if x0 = 5 then (some ((mem 1 2), mem)) else (some ((-1), mem)))))))
set_option maxHeartbeats 4000000 in
theorem M_X11_count (l : Launch) (Γ : zG) (F : zFull Γ)  {x0 : Int} (h_x0 : ir x0) (mem : zMem) (q : Int × zMem) (h : f_X11_count x0 mem = some q) : zMet l yX11_count cX11_count 2 (some .int) 1 Γ 1 [.ref (zad Γ 0), .int (i32 x0)] mem q := by
  refine zMet_of (own := "ShadowHeirs") (by decide) rfl (Nat.le_of_ble_eq_true rfl) (fun X C Z => ?_)
  revert h
  show zJ X Γ 2 q (f_X11_count x0 mem) 0 [(0, .ref (zad Γ 0)), (1, .int (i32 x0))] [] mem
  unfold f_X11_count
  refine zj_iload_n (j := 1) (i := 1) C rfl 1 rfl dX11_count_0 ?_
  refine zj_split (fun c1 => ?_) (fun c1 => ?_)
  · refine zj_tableIn (off := 39) C 0 40 h_x0 c1 dX11_count_1 rfl rfl ?_
    refine zj_aload_n (j := 0) (i := 0) C rfl 0 rfl dX11_count_40 ?_
    refine zj_getR C F zk_0 fl_X11_19 rfl rf_0_1 dX11_count_41 ?_
    refine zj_getI C F 0 rfl zk_4 fl_X11_373 rfl dX11_count_44 (fun h2 => ?_)
    exact zrt_i C Z h2 dX11_count_47
  · refine zj_split (fun c3 => ?_) (fun c3 => ?_)
    · refine zj_tableIn (off := 47) C 1 48 h_x0 c3 dX11_count_1 rfl rfl ?_
      refine zj_aload_n (j := 0) (i := 0) C rfl 0 rfl dX11_count_48 ?_
      refine zj_getR C F zk_0 fl_X11_19 rfl rf_0_1 dX11_count_49 ?_
      refine zj_getI C F 1 rfl zk_4 fl_X11_376 rfl dX11_count_52 (fun h4 => ?_)
      exact zrt_i C Z h4 dX11_count_55
    · refine zj_split (fun c5 => ?_) (fun c5 => ?_)
      · refine zj_tableIn (off := 55) C 2 56 h_x0 c5 dX11_count_1 rfl rfl ?_
        refine zj_aload_n (j := 0) (i := 0) C rfl 0 rfl dX11_count_56 ?_
        refine zj_getR C F zk_0 fl_X11_19 rfl rf_0_1 dX11_count_57 ?_
        refine zj_getI C F 2 rfl zk_4 fl_X11_313 rfl dX11_count_60 (fun h6 => ?_)
        exact zrt_i C Z h6 dX11_count_63
      · refine zj_split (fun c7 => ?_) (fun c7 => ?_)
        · refine zj_tableIn (off := 63) C 3 64 h_x0 c7 dX11_count_1 rfl rfl ?_
          refine zj_aload_n (j := 0) (i := 0) C rfl 0 rfl dX11_count_64 ?_
          refine zj_getR C F zk_0 fl_X11_19 rfl rf_0_1 dX11_count_65 ?_
          refine zj_getI C F 3 rfl zk_4 fl_X11_379 rfl dX11_count_68 (fun h8 => ?_)
          exact zrt_i C Z h8 dX11_count_71
        · refine zj_split (fun c9 => ?_) (fun c9 => ?_)
          · refine zj_tableIn (off := 71) C 4 72 h_x0 c9 dX11_count_1 rfl rfl ?_
            refine zj_aload_n (j := 0) (i := 0) C rfl 0 rfl dX11_count_72 ?_
            refine zj_getR C F zk_0 fl_X11_19 rfl rf_0_1 dX11_count_73 ?_
            refine zj_getI C F 4 rfl zk_4 fl_X11_286 rfl dX11_count_76 (fun h10 => ?_)
            exact zrt_i C Z h10 dX11_count_79
          · refine zj_split (fun c11 => ?_) (fun c11 => ?_)
            · refine zj_tableIn (off := 79) C 5 80 h_x0 c11 dX11_count_1 rfl rfl ?_
              refine zj_aload_n (j := 0) (i := 0) C rfl 0 rfl dX11_count_80 ?_
              refine zj_getR C F zk_0 fl_X11_10 rfl rf_0_0 dX11_count_81 ?_
              refine zj_getI C F 2 rfl zk_1 fl_X11_130 rfl dX11_count_84 (fun h12 => ?_)
              exact zrt_i C Z h12 dX11_count_87
            · refine zj_tableOut C 88 h_x0 dX11_count_1 (by omega) rfl ?_
              refine zj_iconst C (-1) dX11_count_88 ?_
              exact zrt_i C Z irc_m1 dX11_count_89
noncomputable def f_X11_closeTape  (mem : zMem) : Option (Int × zMem) := pipe (zup mem 1 2 0) fun m1 => pipe (zup m1 0 15 (m1 1 9)) fun m3 => if (m3 0 15) = 0 then (some (0, m3)) else (some (1, m3))
set_option maxHeartbeats 4000000 in
theorem M_X11_closeTape (l : Launch) (Γ : zG) (F : zFull Γ)    (mem : zMem) (q : Int × zMem) (h : f_X11_closeTape  mem = some q) : zMet l yX11_closeTape cX11_closeTape 1 (some .boolean) 1 Γ 1 [.ref (zad Γ 0)] mem q := by
  refine zMet_of (own := "ShadowHeirs") (by decide) rfl (Nat.le_of_ble_eq_true rfl) (fun X C Z => ?_)
  revert h
  show zJ X Γ 1 q (f_X11_closeTape  mem) 0 [(0, .ref (zad Γ 0))] [] mem
  unfold f_X11_closeTape
  refine zj_aload_n (j := 0) (i := 0) C rfl 0 rfl dX11_closeTape_0 ?_
  refine zj_getR C F zk_0 fl_X11_10 rfl rf_0_0 dX11_closeTape_1 ?_
  refine zj_iconst C 0 dX11_closeTape_4 ?_
  refine zj_putI C F 2 rfl zk_1 fl_X11_130 rfl fp_6_2 irc_0 dX11_closeTape_5 ?_
  refine zj_pipeM (fun m1 e_m1 => ?_)
  refine zj_aload_n (j := 0) (i := 0) C rfl 0 rfl dX11_closeTape_8 ?_
  refine zj_aload_n (j := 0) (i := 0) C rfl 0 rfl dX11_closeTape_9 ?_
  refine zj_getR C F zk_0 fl_X11_10 rfl rf_0_0 dX11_closeTape_10 ?_
  refine zj_getI C F 9 rfl zk_1 fl_X11_382 rfl dX11_closeTape_13 (fun h2 => ?_)
  refine zj_putI C F 15 rfl zk_0 fl_X11_106 rfl fp_11_15 h2 dX11_closeTape_16 ?_
  refine zj_pipeM (fun m3 e_m3 => ?_)
  refine zj_aload_n (j := 0) (i := 0) C rfl 0 rfl dX11_closeTape_19 ?_
  refine zj_getI C F 15 rfl zk_0 fl_X11_106 rfl dX11_closeTape_20 (fun h4 => ?_)
  refine zj_if_eq C 30 h4 dX11_closeTape_23 rfl (fun c5 => ?_) (fun c5 => ?_)
  · refine zj_iconst C 0 dX11_closeTape_30 ?_
    exact zrt_z C Z (Or.inl rfl) dX11_closeTape_31
  · refine zj_iconst C 1 dX11_closeTape_26 ?_
    refine zj_goto (tgt := 31) C dX11_closeTape_27 rfl ?_
    exact zrt_z C Z (Or.inr rfl) dX11_closeTape_31
noncomputable def b_X11_placeOfBit_0 (rec : Int → Int → Int → Int → zMem → Option (Int × zMem)) (v0 : Int) (v1 : Int) (v2 : Int) (v3 : Int) (mem : zMem) : Option (Int × zMem) := if v3 ≥ 6 then (some ((-1), mem)) else (if (zand (zshr v0 v3) 1) = 1 then (if v2 = v1 then (some (v3, mem)) else (rec v0 v1 (w32 (v2 + 1)) (w32 (v3 + 1)) mem)) else (rec v0 v1 v2 (w32 (v3 + 1)) mem))
noncomputable def f_X11_placeOfBit_0 : Nat → Int → Int → Int → Int → zMem → Option (Int × zMem) := zfuel (fun _ _ _ _ _ => none) (b_X11_placeOfBit_0)
set_option maxHeartbeats 4000000 in
theorem L_X11_placeOfBit_0 (l : Launch) {Γ : zG} (F : zFull Γ) {X : zM} {q : Int × zMem} (C : zC X Γ "ShadowHeirs" cX11_placeOfBit 4) (Z : zRt X l Γ 1 1 (some .int) q) : ∀ n : Nat, ∀ (v0 : Int) (v1 : Int) (v2 : Int) (v3 : Int) (h_v0 : ir v0) (h_v1 : ir v1) (h_v2 : ir v2) (h_v3 : ir v3) (mem : zMem), zJ X Γ 4 q (f_X11_placeOfBit_0 n v0 v1 v2 v3 mem) 4 [(0, .int (i32 v0)), (1, .int (i32 v1)), (2, .int (i32 v2)), (3, .int (i32 v3))] [] mem := by
  intro n
  induction n with
  | zero => intros; exact zj_none
  | succ n ih =>
    intro v0 v1 v2 v3 h_v0 h_v1 h_v2 h_v3 mem
    show zJ X Γ 4 q (b_X11_placeOfBit_0 (f_X11_placeOfBit_0 n) v0 v1 v2 v3 mem) _ _ _ _
    unfold b_X11_placeOfBit_0
    refine zj_iload_n (j := 3) (i := 3) C rfl 3 rfl dX11_placeOfBit_4 ?_
    refine zj_bipush C 6 rfl dX11_placeOfBit_5 ?_
    refine zj_icmp_ge C 35 h_v3 irc_6 dX11_placeOfBit_7 rfl (fun c1 => ?_) (fun c1 => ?_)
    · refine zj_iconst C (-1) dX11_placeOfBit_35 ?_
      exact zrt_i C Z irc_m1 dX11_placeOfBit_36
    · refine zj_iload_n (j := 0) (i := 0) C rfl 0 rfl dX11_placeOfBit_10 ?_
      refine zj_iload_n (j := 3) (i := 3) C rfl 3 rfl dX11_placeOfBit_11 ?_
      refine zj_ishr C dX11_placeOfBit_12 ?_
      refine zj_iconst C 1 dX11_placeOfBit_13 ?_
      refine zj_iand C dX11_placeOfBit_14 ?_
      refine zj_iconst C 1 dX11_placeOfBit_15 ?_
      refine zj_icmp_ne C 29 (ir_toInt _) irc_1 dX11_placeOfBit_16 rfl (fun c2 => ?_) (fun c2 => ?_)
      · refine zj_iload_n (j := 2) (i := 2) C rfl 2 rfl dX11_placeOfBit_19 ?_
        refine zj_iload_n (j := 1) (i := 1) C rfl 1 rfl dX11_placeOfBit_20 ?_
        refine zj_icmp_ne C 26 h_v2 h_v1 dX11_placeOfBit_21 rfl (fun c3 => ?_) (fun c3 => ?_)
        · refine zj_iload_n (j := 3) (i := 3) C rfl 3 rfl dX11_placeOfBit_24 ?_
          exact zrt_i C Z h_v3 dX11_placeOfBit_25
        · refine zj_iinc C 2 [(2, .int (i32 (w32 (v2 + 1)))), (0, .int (i32 v0)), (1, .int (i32 v1)), (3, .int (i32 v3))] rfl dX11_placeOfBit_26 (by decide) rfl ?_
          refine zj_iinc C 3 [(3, .int (i32 (w32 (v3 + 1)))), (2, .int (i32 (w32 (v2 + 1)))), (0, .int (i32 v0)), (1, .int (i32 v1))] rfl dX11_placeOfBit_29 (by decide) rfl ?_
          refine zj_goto (tgt := 4) C dX11_placeOfBit_32 rfl ?_
          exact zj_sub [2, 3, 1, 0] rfl (ih v0 v1 (w32 (v2 + 1)) (w32 (v3 + 1)) h_v0 h_v1 (ir_w _) (ir_w _) mem)
      · refine zj_iinc C 3 [(3, .int (i32 (w32 (v3 + 1)))), (0, .int (i32 v0)), (1, .int (i32 v1)), (2, .int (i32 v2))] rfl dX11_placeOfBit_29 (by decide) rfl ?_
        refine zj_goto (tgt := 4) C dX11_placeOfBit_32 rfl ?_
        exact zj_sub [1, 2, 3, 0] rfl (ih v0 v1 v2 (w32 (v3 + 1)) h_v0 h_v1 h_v2 (ir_w _) mem)
noncomputable def f_X11_placeOfBit (x0 : Int) (x1 : Int) (mem : zMem) : Option (Int × zMem) := f_X11_placeOfBit_0 zN x0 x1 0 0 mem
set_option maxHeartbeats 4000000 in
theorem M_X11_placeOfBit (l : Launch) (Γ : zG) (F : zFull Γ)  {x0 : Int} {x1 : Int} (h_x0 : ir x0) (h_x1 : ir x1) (mem : zMem) (q : Int × zMem) (h : f_X11_placeOfBit x0 x1 mem = some q) : zMet l yX11_placeOfBit cX11_placeOfBit 4 (some .int) 1 Γ 1 [.int (i32 x0), .int (i32 x1)] mem q := by
  refine zMet_of (own := "ShadowHeirs") (by decide) rfl (Nat.le_of_ble_eq_true rfl) (fun X C Z => ?_)
  revert h
  show zJ X Γ 4 q (f_X11_placeOfBit x0 x1 mem) 0 [(0, .int (i32 x0)), (1, .int (i32 x1))] [] mem
  unfold f_X11_placeOfBit
  refine zj_iconst C 0 dX11_placeOfBit_0 ?_
  refine zj_istore_n (j := 2) (i := 2) C rfl [(2, .int (i32 0)), (0, .int (i32 x0)), (1, .int (i32 x1))] dX11_placeOfBit_1 (by decide) rfl ?_
  refine zj_iconst C 0 dX11_placeOfBit_2 ?_
  refine zj_istore_n (j := 3) (i := 3) C rfl [(3, .int (i32 0)), (2, .int (i32 0)), (0, .int (i32 x0)), (1, .int (i32 x1))] dX11_placeOfBit_3 (by decide) rfl ?_
  exact zj_sub [2, 3, 1, 0] rfl ((L_X11_placeOfBit_0 l F C Z zN) x0 x1 0 0 h_x0 h_x1 irc_0 irc_0 mem)
noncomputable def f_X11_copyRow (t0 : Nat) (t1 : Nat) (mem : zMem) : Option (Int × zMem) := if 0 ≤ (zmin ((sLen t0 : Nat) : Int) ((sLen t1 : Nat) : Int)) ∧ (zmin ((sLen t0 : Nat) : Int) ((sLen t1 : Nat) : Int)) ≤ (sLen t0 : Int) ∧ (zmin ((sLen t0 : Nat) : Int) ((sLen t1 : Nat) : Int)) ≤ (sLen t1 : Int) then pipe (zcpy mem t0 t1 (zmin ((sLen t0 : Nat) : Int) ((sLen t1 : Nat) : Int))) fun m1 => some (0, m1) else none
set_option maxHeartbeats 4000000 in
theorem M_X11_copyRow (l : Launch) (Γ : zG) (F : zFull Γ)  {t0 : Nat} {t1 : Nat} (h_t0 : zk t0 13) (h_t1 : zk t1 13) (mem : zMem) (q : Int × zMem) (h : f_X11_copyRow t0 t1 mem = some q) : zMet l yX11_copyRow cX11_copyRow 2 none 2 Γ 0 [.ref (zad Γ t0), .ref (zad Γ t1)] mem q := by
  refine zMet_of (own := "ShadowHeirs") (by decide) rfl (Nat.le_of_ble_eq_true rfl) (fun X C Z => ?_)
  revert h
  show zJ X Γ 2 q (f_X11_copyRow t0 t1 mem) 0 [(0, .ref (zad Γ t0)), (1, .ref (zad Γ t1))] [] mem
  unfold f_X11_copyRow
  refine zj_aload_n (j := 0) (i := 0) C rfl 0 rfl dX11_copyRow_0 ?_
  refine zj_iconst C 0 dX11_copyRow_1 ?_
  refine zj_aload_n (j := 1) (i := 1) C rfl 1 rfl dX11_copyRow_2 ?_
  refine zj_iconst C 0 dX11_copyRow_3 ?_
  refine zj_aload_n (j := 0) (i := 0) C rfl 0 rfl dX11_copyRow_4 ?_
  refine zj_alen C F ((sLen t0 : Nat) : Int) h_t0 (Or.inl rfl) rfl dX11_copyRow_5 ?_
  refine zj_aload_n (j := 1) (i := 1) C rfl 1 rfl dX11_copyRow_6 ?_
  refine zj_alen C F ((sLen t1 : Nat) : Int) h_t1 (Or.inl rfl) rfl dX11_copyRow_7 ?_
  refine zj_mmin C Z (by decide) (ir_len _) (ir_len _) (Nat.le_of_ble_eq_true rfl) mm_l_X11_264 mm_s_min mm_i mm_c_min dX11_copyRow_8 ?_
  refine zj_acopyI C F Z (by decide) h_t0 h_t1 (ir_min (ir_len _) (ir_len _)) ac_l_X11_394 ac_n ac_s ac_i dX11_copyRow_11 ?_
  refine zj_pipeM (fun m1 e_m1 => ?_)
  exact zrt_v C Z dX11_copyRow_14
noncomputable def f_X11_copyNames (t0 : Nat) (t1 : Nat) (mem : zMem) : Option (Int × zMem) := if 0 ≤ (zmin ((sLen t0 : Nat) : Int) ((sLen t1 : Nat) : Int)) ∧ (zmin ((sLen t0 : Nat) : Int) ((sLen t1 : Nat) : Int)) ≤ (sLen t0 : Int) ∧ (zmin ((sLen t0 : Nat) : Int) ((sLen t1 : Nat) : Int)) ≤ (sLen t1 : Int) then pipe (zcpy mem t0 t1 (zmin ((sLen t0 : Nat) : Int) ((sLen t1 : Nat) : Int))) fun m1 => some (0, m1) else none
set_option maxHeartbeats 4000000 in
theorem M_X11_copyNames (l : Launch) (Γ : zG) (F : zFull Γ)  {t0 : Nat} {t1 : Nat} (h_t0 : zk t0 14) (h_t1 : zk t1 14) (mem : zMem) (q : Int × zMem) (h : f_X11_copyNames t0 t1 mem = some q) : zMet l yX11_copyNames cX11_copyNames 2 none 2 Γ 0 [.ref (zad Γ t0), .ref (zad Γ t1)] mem q := by
  refine zMet_of (own := "ShadowHeirs") (by decide) rfl (Nat.le_of_ble_eq_true rfl) (fun X C Z => ?_)
  revert h
  show zJ X Γ 2 q (f_X11_copyNames t0 t1 mem) 0 [(0, .ref (zad Γ t0)), (1, .ref (zad Γ t1))] [] mem
  unfold f_X11_copyNames
  refine zj_aload_n (j := 0) (i := 0) C rfl 0 rfl dX11_copyNames_0 ?_
  refine zj_iconst C 0 dX11_copyNames_1 ?_
  refine zj_aload_n (j := 1) (i := 1) C rfl 1 rfl dX11_copyNames_2 ?_
  refine zj_iconst C 0 dX11_copyNames_3 ?_
  refine zj_aload_n (j := 0) (i := 0) C rfl 0 rfl dX11_copyNames_4 ?_
  refine zj_alen C F ((sLen t0 : Nat) : Int) h_t0 (Or.inr (Or.inl rfl)) rfl dX11_copyNames_5 ?_
  refine zj_aload_n (j := 1) (i := 1) C rfl 1 rfl dX11_copyNames_6 ?_
  refine zj_alen C F ((sLen t1 : Nat) : Int) h_t1 (Or.inr (Or.inl rfl)) rfl dX11_copyNames_7 ?_
  refine zj_mmin C Z (by decide) (ir_len _) (ir_len _) (Nat.le_of_ble_eq_true rfl) mm_l_X11_264 mm_s_min mm_i mm_c_min dX11_copyNames_8 ?_
  refine zj_acopyL C F Z (by decide) h_t0 h_t1 (ir_min (ir_len _) (ir_len _)) ac_l_X11_394 ac_n ac_s ac_i dX11_copyNames_11 ?_
  refine zj_pipeM (fun m1 e_m1 => ?_)
  exact zrt_v C Z dX11_copyNames_14
noncomputable def f_X12_thrown  (mem : zMem) : Option (Int × zMem) := some ((mem 138 0), mem)
set_option maxHeartbeats 4000000 in
theorem M_X12_thrown (l : Launch) (Γ : zG) (F : zFull Γ)    (mem : zMem) (q : Int × zMem) (h : f_X12_thrown  mem = some q) : zMet l yX12_thrown cX12_thrown 1 (some .int) 1 Γ 1 [.ref (zad Γ 138)] mem q := by
  refine zMet_of (own := "ShadowHeirsModel") (by decide) rfl (Nat.le_of_ble_eq_true rfl) (fun X C Z => ?_)
  revert h
  show zJ X Γ 1 q (f_X12_thrown  mem) 0 [(0, .ref (zad Γ 138))] [] mem
  unfold f_X12_thrown
  refine zj_aload_n (j := 0) (i := 0) C rfl 0 rfl dX12_thrown_0 ?_
  refine zj_getI C F 0 rfl zk_138 fl_X12_1 rfl dX12_thrown_1 (fun h1 => ?_)
  exact zrt_i C Z h1 dX12_thrown_4
noncomputable def f_X12_refuse  (mem : zMem) : Option (Int × zMem) := pipe (zup mem 138 0 1) fun m1 => some (0, m1)
set_option maxHeartbeats 4000000 in
theorem M_X12_refuse (l : Launch) (Γ : zG) (F : zFull Γ)    (mem : zMem) (q : Int × zMem) (h : f_X12_refuse  mem = some q) : zMet l yX12_refuse cX12_refuse 1 (some .int) 1 Γ 1 [.ref (zad Γ 138)] mem q := by
  refine zMet_of (own := "ShadowHeirsModel") (by decide) rfl (Nat.le_of_ble_eq_true rfl) (fun X C Z => ?_)
  revert h
  show zJ X Γ 1 q (f_X12_refuse  mem) 0 [(0, .ref (zad Γ 138))] [] mem
  unfold f_X12_refuse
  refine zj_aload_n (j := 0) (i := 0) C rfl 0 rfl dX12_refuse_0 ?_
  refine zj_iconst C 1 dX12_refuse_1 ?_
  refine zj_putI C F 0 rfl zk_138 fl_X12_1 rfl fp_12_0 irc_1 dX12_refuse_2 ?_
  refine zj_pipeM (fun m1 e_m1 => ?_)
  refine zj_iconst C 0 dX12_refuse_5 ?_
  exact zrt_i C Z irc_0 dX12_refuse_6
noncomputable def b_X12_come_0 (rec : Int → Int → zMem → Option (Int × zMem)) (v1 : Int) (v2 : Int) (mem : zMem) : Option (Int × zMem) := if v2 < 0 then (some (0, mem)) else (if ix 139 (mem 138 2) then pipe (zup mem 139 (mem 138 2) (zand (zush v1 v2) 255)) fun m4 => pipe (zup m4 138 2 (w32 ((m4 138 2) + 1))) fun m6 => rec v1 (w32 (v2 + (-8))) m6 else none)
noncomputable def f_X12_come_0 : Nat → Int → Int → zMem → Option (Int × zMem) := zfuel (fun _ _ _ => none) (b_X12_come_0)
set_option maxHeartbeats 4000000 in
theorem L_X12_come_0 (l : Launch) {Γ : zG} (F : zFull Γ) {X : zM} {q : Int × zMem} (C : zC X Γ "ShadowHeirsModel" cX12_come 3) (Z : zRt X l Γ 1 0 none q) : ∀ n : Nat, ∀ (v1 : Int) (v2 : Int) (h_v1 : ir v1) (h_v2 : ir v2) (mem : zMem), zJ X Γ 3 q (f_X12_come_0 n v1 v2 mem) 3 [(0, .ref (zad Γ 138)), (1, .int (i32 v1)), (2, .int (i32 v2))] [] mem := by
  intro n
  induction n with
  | zero => intros; exact zj_none
  | succ n ih =>
    intro v1 v2 h_v1 h_v2 mem
    show zJ X Γ 3 q (b_X12_come_0 (f_X12_come_0 n) v1 v2 mem) _ _ _ _
    unfold b_X12_come_0
    refine zj_iload_n (j := 2) (i := 2) C rfl 2 rfl dX12_come_3 ?_
    refine zj_if_lt C 39 h_v2 dX12_come_4 rfl (fun c1 => ?_) (fun c1 => ?_)
    · exact zrt_v C Z dX12_come_39
    · refine zj_aload_n (j := 0) (i := 0) C rfl 0 rfl dX12_come_7 ?_
      refine zj_getR C F zk_138 fl_X12_7 rfl rf_138_1 dX12_come_8 ?_
      refine zj_aload_n (j := 0) (i := 0) C rfl 0 rfl dX12_come_11 ?_
      refine zj_getI C F 2 rfl zk_138 fl_X12_11 rfl dX12_come_12 (fun h2 => ?_)
      refine zj_iload_n (j := 1) (i := 1) C rfl 1 rfl dX12_come_15 ?_
      refine zj_iload_n (j := 2) (i := 2) C rfl 2 rfl dX12_come_16 ?_
      refine zj_iushr C dX12_come_17 ?_
      refine zj_sipush C 255 rfl dX12_come_18 ?_
      refine zj_iand C dX12_come_21 ?_
      refine zj_iastore C F zk_139 h2 (ir_toInt _) dX12_come_22 (fun c3 => ?_)
      refine zj_pipeM (fun m4 e_m4 => ?_)
      refine zj_aload_n (j := 0) (i := 0) C rfl 0 rfl dX12_come_23 ?_
      refine zj_dup C rfl dX12_come_24 ?_
      refine zj_getI C F 2 rfl zk_138 fl_X12_11 rfl dX12_come_25 (fun h5 => ?_)
      refine zj_iconst C 1 dX12_come_28 ?_
      refine zj_iadd C dX12_come_29 ?_
      refine zj_putI C F 2 rfl zk_138 fl_X12_11 rfl fp_12_2 (ir_w _) dX12_come_30 ?_
      refine zj_pipeM (fun m6 e_m6 => ?_)
      refine zj_iinc C 2 [(2, .int (i32 (w32 (v2 + (-8))))), (0, .ref (zad Γ 138)), (1, .int (i32 v1))] rfl dX12_come_33 (by decide) rfl ?_
      refine zj_goto (tgt := 3) C dX12_come_36 rfl ?_
      exact zj_sub [1, 2, 0] rfl (ih v1 (w32 (v2 + (-8))) h_v1 (ir_w _) m6)
noncomputable def f_X12_come (x0 : Int) (mem : zMem) : Option (Int × zMem) := f_X12_come_0 zN x0 24 mem
set_option maxHeartbeats 4000000 in
theorem M_X12_come (l : Launch) (Γ : zG) (F : zFull Γ)  {x0 : Int} (h_x0 : ir x0) (mem : zMem) (q : Int × zMem) (h : f_X12_come x0 mem = some q) : zMet l yX12_come cX12_come 3 none 1 Γ 0 [.ref (zad Γ 138), .int (i32 x0)] mem q := by
  refine zMet_of (own := "ShadowHeirsModel") (by decide) rfl (Nat.le_of_ble_eq_true rfl) (fun X C Z => ?_)
  revert h
  show zJ X Γ 3 q (f_X12_come x0 mem) 0 [(0, .ref (zad Γ 138)), (1, .int (i32 x0))] [] mem
  unfold f_X12_come
  refine zj_bipush C 24 rfl dX12_come_0 ?_
  refine zj_istore_n (j := 2) (i := 2) C rfl [(2, .int (i32 24)), (0, .ref (zad Γ 138)), (1, .int (i32 x0))] dX12_come_2 (by decide) rfl ?_
  exact zj_sub [1, 2, 0] rfl ((L_X12_come_0 l F C Z zN) x0 24 h_x0 irc_24 mem)
noncomputable def f_X12_feed (x0 : Int) (x1 : Int) (x2 : Int) (x3 : Int) (x4 : Int) (mem : zMem) : Option (Int × zMem) := pipe (zup mem 138 0 0) fun m1 => if (w32 ((m1 138 2) + 20)) ≤ 940 then (zbind (f_X12_come x0 m1) fun _ m4 => zbind (f_X12_come x1 m4) fun _ m5 => zbind (f_X12_come x2 m5) fun _ m6 => zbind (f_X12_come x3 m6) fun _ m7 => zbind (f_X12_come x4 m7) fun _ m8 => some ((m8 138 2), m8)) else (some ((-1), m1))
set_option maxHeartbeats 4000000 in
theorem M_X12_feed (l : Launch) (Γ : zG) (F : zFull Γ)  {x0 : Int} {x1 : Int} {x2 : Int} {x3 : Int} {x4 : Int} (h_x0 : ir x0) (h_x1 : ir x1) (h_x2 : ir x2) (h_x3 : ir x3) (h_x4 : ir x4) (mem : zMem) (q : Int × zMem) (h : f_X12_feed x0 x1 x2 x3 x4 mem = some q) : zMet l yX12_feed cX12_feed 6 (some .int) 2 Γ 1 [.ref (zad Γ 138), .int (i32 x0), .int (i32 x1), .int (i32 x2), .int (i32 x3), .int (i32 x4)] mem q := by
  refine zMet_of (own := "ShadowHeirsModel") (by decide) rfl (Nat.le_of_ble_eq_true rfl) (fun X C Z => ?_)
  revert h
  show zJ X Γ 6 q (f_X12_feed x0 x1 x2 x3 x4 mem) 0 [(0, .ref (zad Γ 138)), (1, .int (i32 x0)), (2, .int (i32 x1)), (3, .int (i32 x2)), (4, .int (i32 x3)), (5, .int (i32 x4))] [] mem
  unfold f_X12_feed
  refine zj_aload_n (j := 0) (i := 0) C rfl 0 rfl dX12_feed_0 ?_
  refine zj_iconst C 0 dX12_feed_1 ?_
  refine zj_putI C F 0 rfl zk_138 fl_X12_1 rfl fp_12_0 irc_0 dX12_feed_2 ?_
  refine zj_pipeM (fun m1 e_m1 => ?_)
  refine zj_aload_n (j := 0) (i := 0) C rfl 0 rfl dX12_feed_5 ?_
  refine zj_getI C F 2 rfl zk_138 fl_X12_11 rfl dX12_feed_6 (fun h2 => ?_)
  refine zj_bipush C 20 rfl dX12_feed_9 ?_
  refine zj_iadd C dX12_feed_11 ?_
  refine zj_sipush C 940 rfl dX12_feed_12 ?_
  refine zj_icmp_le C 20 (ir_w _) irc_940 dX12_feed_15 rfl (fun c3 => ?_) (fun c3 => ?_)
  · refine zj_aload_n (j := 0) (i := 0) C rfl 0 rfl dX12_feed_20 ?_
    refine zj_iload_n (j := 1) (i := 1) C rfl 1 rfl dX12_feed_21 ?_
    refine zj_callVv C F Z [.int (i32 x0)] [] cal_X12_come calv_X12_come ml_X12_14 zk_138 rfl rfl (by decide) (Nat.le_of_ble_eq_true rfl) rfl dX12_feed_22 (fun q h => M_X12_come l Γ F h_x0 m1 q h) (fun _ m4 _ => ?_)
    refine zj_aload_n (j := 0) (i := 0) C rfl 0 rfl dX12_feed_25 ?_
    refine zj_iload_n (j := 2) (i := 2) C rfl 2 rfl dX12_feed_26 ?_
    refine zj_callVv C F Z [.int (i32 x1)] [] cal_X12_come calv_X12_come ml_X12_14 zk_138 rfl rfl (by decide) (Nat.le_of_ble_eq_true rfl) rfl dX12_feed_27 (fun q h => M_X12_come l Γ F h_x1 m4 q h) (fun _ m5 _ => ?_)
    refine zj_aload_n (j := 0) (i := 0) C rfl 0 rfl dX12_feed_30 ?_
    refine zj_iload_n (j := 3) (i := 3) C rfl 3 rfl dX12_feed_31 ?_
    refine zj_callVv C F Z [.int (i32 x2)] [] cal_X12_come calv_X12_come ml_X12_14 zk_138 rfl rfl (by decide) (Nat.le_of_ble_eq_true rfl) rfl dX12_feed_32 (fun q h => M_X12_come l Γ F h_x2 m5 q h) (fun _ m6 _ => ?_)
    refine zj_aload_n (j := 0) (i := 0) C rfl 0 rfl dX12_feed_35 ?_
    refine zj_iload C 4 rfl dX12_feed_36 ?_
    refine zj_callVv C F Z [.int (i32 x3)] [] cal_X12_come calv_X12_come ml_X12_14 zk_138 rfl rfl (by decide) (Nat.le_of_ble_eq_true rfl) rfl dX12_feed_38 (fun q h => M_X12_come l Γ F h_x3 m6 q h) (fun _ m7 _ => ?_)
    refine zj_aload_n (j := 0) (i := 0) C rfl 0 rfl dX12_feed_41 ?_
    refine zj_iload C 5 rfl dX12_feed_42 ?_
    refine zj_callVv C F Z [.int (i32 x4)] [] cal_X12_come calv_X12_come ml_X12_14 zk_138 rfl rfl (by decide) (Nat.le_of_ble_eq_true rfl) rfl dX12_feed_44 (fun q h => M_X12_come l Γ F h_x4 m7 q h) (fun _ m8 _ => ?_)
    refine zj_aload_n (j := 0) (i := 0) C rfl 0 rfl dX12_feed_47 ?_
    refine zj_getI C F 2 rfl zk_138 fl_X12_11 rfl dX12_feed_48 (fun h9 => ?_)
    exact zrt_i C Z h9 dX12_feed_51
  · refine zj_iconst C (-1) dX12_feed_18 ?_
    exact zrt_i C Z irc_m1 dX12_feed_19
noncomputable def f_X12_end (x0 : Int) (mem : zMem) : Option (Int × zMem) := pipe (zup mem 138 0 0) fun m1 => if x0 < 0 then (some (0, m1)) else (if x0 ≤ (m1 138 2) then (pipe (zup m1 138 2 x0) fun m5 => some (1, m5)) else (some (0, m1)))
set_option maxHeartbeats 4000000 in
theorem M_X12_end (l : Launch) (Γ : zG) (F : zFull Γ)  {x0 : Int} (h_x0 : ir x0) (mem : zMem) (q : Int × zMem) (h : f_X12_end x0 mem = some q) : zMet l yX12_end cX12_end 2 (some .boolean) 1 Γ 1 [.ref (zad Γ 138), .int (i32 x0)] mem q := by
  refine zMet_of (own := "ShadowHeirsModel") (by decide) rfl (Nat.le_of_ble_eq_true rfl) (fun X C Z => ?_)
  revert h
  show zJ X Γ 2 q (f_X12_end x0 mem) 0 [(0, .ref (zad Γ 138)), (1, .int (i32 x0))] [] mem
  unfold f_X12_end
  refine zj_aload_n (j := 0) (i := 0) C rfl 0 rfl dX12_end_0 ?_
  refine zj_iconst C 0 dX12_end_1 ?_
  refine zj_putI C F 0 rfl zk_138 fl_X12_1 rfl fp_12_0 irc_0 dX12_end_2 ?_
  refine zj_pipeM (fun m1 e_m1 => ?_)
  refine zj_iload_n (j := 1) (i := 1) C rfl 1 rfl dX12_end_5 ?_
  refine zj_if_lt C 17 h_x0 dX12_end_6 rfl (fun c2 => ?_) (fun c2 => ?_)
  · refine zj_iconst C 0 dX12_end_17 ?_
    exact zrt_z C Z (Or.inl rfl) dX12_end_18
  · refine zj_iload_n (j := 1) (i := 1) C rfl 1 rfl dX12_end_9 ?_
    refine zj_aload_n (j := 0) (i := 0) C rfl 0 rfl dX12_end_10 ?_
    refine zj_getI C F 2 rfl zk_138 fl_X12_11 rfl dX12_end_11 (fun h3 => ?_)
    refine zj_icmp_le C 19 h_x0 h3 dX12_end_14 rfl (fun c4 => ?_) (fun c4 => ?_)
    · refine zj_aload_n (j := 0) (i := 0) C rfl 0 rfl dX12_end_19 ?_
      refine zj_iload_n (j := 1) (i := 1) C rfl 1 rfl dX12_end_20 ?_
      refine zj_putI C F 2 rfl zk_138 fl_X12_11 rfl fp_12_2 h_x0 dX12_end_21 ?_
      refine zj_pipeM (fun m5 e_m5 => ?_)
      refine zj_iconst C 1 dX12_end_24 ?_
      exact zrt_z C Z (Or.inr rfl) dX12_end_25
    · refine zj_iconst C 0 dX12_end_17 ?_
      exact zrt_z C Z (Or.inl rfl) dX12_end_18
noncomputable def f_X12_take  (mem : zMem) : Option (Int × zMem) := pipe (mem 138 2) fun y2 => pipe (zup mem 138 2 0) fun m3 => some (y2, m3)
set_option maxHeartbeats 4000000 in
theorem M_X12_take (l : Launch) (Γ : zG) (F : zFull Γ)    (mem : zMem) (q : Int × zMem) (h : f_X12_take  mem = some q) : zMet l yX12_take cX12_take 2 (some .int) 1 Γ 1 [.ref (zad Γ 138)] mem q := by
  refine zMet_of (own := "ShadowHeirsModel") (by decide) rfl (Nat.le_of_ble_eq_true rfl) (fun X C Z => ?_)
  revert h
  show zJ X Γ 2 q (f_X12_take  mem) 0 [(0, .ref (zad Γ 138))] [] mem
  unfold f_X12_take
  refine zj_aload_n (j := 0) (i := 0) C rfl 0 rfl dX12_take_0 ?_
  refine zj_getI C F 2 rfl zk_138 fl_X12_11 rfl dX12_take_1 (fun h1 => ?_)
  refine zj_pipeI (fun y2 e_y2 => ?_)
  have h_y2 := ir_eq e_y2 h1
  refine zj_istore_n (j := 1) (i := 1) C rfl [(1, .int (i32 y2)), (0, .ref (zad Γ 138))] dX12_take_4 (by decide) rfl ?_
  refine zj_aload_n (j := 0) (i := 0) C rfl 1 rfl dX12_take_5 ?_
  refine zj_iconst C 0 dX12_take_6 ?_
  refine zj_putI C F 2 rfl zk_138 fl_X12_11 rfl fp_12_2 irc_0 dX12_take_7 ?_
  refine zj_pipeM (fun m3 e_m3 => ?_)
  refine zj_iload_n (j := 1) (i := 1) C rfl 0 rfl dX12_take_10 ?_
  exact zrt_i C Z h_y2 dX12_take_11
noncomputable def f_X12_isIn (x0 : Int) (x1 : Int) (x2 : Int) (mem : zMem) : Option (Int × zMem) := if x0 < x1 then (some (0, mem)) else (if x0 > x2 then (some (0, mem)) else (some (1, mem)))
set_option maxHeartbeats 4000000 in
theorem M_X12_isIn (l : Launch) (Γ : zG) (F : zFull Γ)  {x0 : Int} {x1 : Int} {x2 : Int} (h_x0 : ir x0) (h_x1 : ir x1) (h_x2 : ir x2) (mem : zMem) (q : Int × zMem) (h : f_X12_isIn x0 x1 x2 mem = some q) : zMet l yX12_isIn cX12_isIn 3 (some .boolean) 1 Γ 1 [.int (i32 x0), .int (i32 x1), .int (i32 x2)] mem q := by
  refine zMet_of (own := "ShadowHeirsModel") (by decide) rfl (Nat.le_of_ble_eq_true rfl) (fun X C Z => ?_)
  revert h
  show zJ X Γ 3 q (f_X12_isIn x0 x1 x2 mem) 0 [(0, .int (i32 x0)), (1, .int (i32 x1)), (2, .int (i32 x2))] [] mem
  unfold f_X12_isIn
  refine zj_iload_n (j := 0) (i := 0) C rfl 0 rfl dX12_isIn_0 ?_
  refine zj_iload_n (j := 1) (i := 1) C rfl 1 rfl dX12_isIn_1 ?_
  refine zj_icmp_lt C 14 h_x0 h_x1 dX12_isIn_2 rfl (fun c1 => ?_) (fun c1 => ?_)
  · refine zj_iconst C 0 dX12_isIn_14 ?_
    exact zrt_z C Z (Or.inl rfl) dX12_isIn_15
  · refine zj_iload_n (j := 0) (i := 0) C rfl 0 rfl dX12_isIn_5 ?_
    refine zj_iload_n (j := 2) (i := 2) C rfl 2 rfl dX12_isIn_6 ?_
    refine zj_icmp_gt C 14 h_x0 h_x2 dX12_isIn_7 rfl (fun c2 => ?_) (fun c2 => ?_)
    · refine zj_iconst C 0 dX12_isIn_14 ?_
      exact zrt_z C Z (Or.inl rfl) dX12_isIn_15
    · refine zj_iconst C 1 dX12_isIn_10 ?_
      refine zj_goto (tgt := 15) C dX12_isIn_11 rfl ?_
      exact zrt_z C Z (Or.inr rfl) dX12_isIn_15
noncomputable def f_X12_has (x0 : Int) (x1 : Int) (mem : zMem) : Option (Int × zMem) := if (zand (zshr x0 x1) 1) = 1 then (some (1, mem)) else (some (0, mem))
set_option maxHeartbeats 4000000 in
theorem M_X12_has (l : Launch) (Γ : zG) (F : zFull Γ)  {x0 : Int} {x1 : Int} (h_x0 : ir x0) (h_x1 : ir x1) (mem : zMem) (q : Int × zMem) (h : f_X12_has x0 x1 mem = some q) : zMet l yX12_has cX12_has 2 (some .boolean) 1 Γ 1 [.int (i32 x0), .int (i32 x1)] mem q := by
  refine zMet_of (own := "ShadowHeirsModel") (by decide) rfl (Nat.le_of_ble_eq_true rfl) (fun X C Z => ?_)
  revert h
  show zJ X Γ 2 q (f_X12_has x0 x1 mem) 0 [(0, .int (i32 x0)), (1, .int (i32 x1))] [] mem
  unfold f_X12_has
  refine zj_iload_n (j := 0) (i := 0) C rfl 0 rfl dX12_has_0 ?_
  refine zj_iload_n (j := 1) (i := 1) C rfl 1 rfl dX12_has_1 ?_
  refine zj_ishr C dX12_has_2 ?_
  refine zj_iconst C 1 dX12_has_3 ?_
  refine zj_iand C dX12_has_4 ?_
  refine zj_iconst C 1 dX12_has_5 ?_
  refine zj_icmp_ne C 13 (ir_toInt _) irc_1 dX12_has_6 rfl (fun c1 => ?_) (fun c1 => ?_)
  · refine zj_iconst C 1 dX12_has_9 ?_
    refine zj_goto (tgt := 14) C dX12_has_10 rfl ?_
    exact zrt_z C Z (Or.inr rfl) dX12_has_14
  · refine zj_iconst C 0 dX12_has_13 ?_
    exact zrt_z C Z (Or.inl rfl) dX12_has_14
noncomputable def b_X12_bits_0 (rec : Int → Int → zMem → Option (Int × zMem)) (v1 : Int) (v2 : Int) (mem : zMem) : Option (Int × zMem) := if v2 = 0 then (some (v1, mem)) else (pipe (zand v2 (w32 (v2 - 1))) fun y2 => rec (w32 (v1 + 1)) y2 mem)
noncomputable def f_X12_bits_0 : Nat → Int → Int → zMem → Option (Int × zMem) := zfuel (fun _ _ _ => none) (b_X12_bits_0)
set_option maxHeartbeats 4000000 in
theorem L_X12_bits_0 (l : Launch) {Γ : zG} (F : zFull Γ) {X : zM} {q : Int × zMem} (C : zC X Γ "ShadowHeirsModel" cX12_bits 3) (Z : zRt X l Γ 1 1 (some .int) q) : ∀ n : Nat, ∀ (v1 : Int) (v2 : Int) (h_v1 : ir v1) (h_v2 : ir v2) (mem : zMem), zJ X Γ 3 q (f_X12_bits_0 n v1 v2 mem) 4 [(1, .int (i32 v1)), (2, .int (i32 v2))] [] mem := by
  intro n
  induction n with
  | zero => intros; exact zj_none
  | succ n ih =>
    intro v1 v2 h_v1 h_v2 mem
    show zJ X Γ 3 q (b_X12_bits_0 (f_X12_bits_0 n) v1 v2 mem) _ _ _ _
    unfold b_X12_bits_0
    refine zj_iload_n (j := 2) (i := 2) C rfl 1 rfl dX12_bits_4 ?_
    refine zj_if_eq C 20 h_v2 dX12_bits_5 rfl (fun c1 => ?_) (fun c1 => ?_)
    · refine zj_iload_n (j := 1) (i := 1) C rfl 0 rfl dX12_bits_20 ?_
      exact zrt_i C Z h_v1 dX12_bits_21
    · refine zj_iinc C 0 [(1, .int (i32 (w32 (v1 + 1)))), (2, .int (i32 v2))] rfl dX12_bits_8 (by decide) rfl ?_
      refine zj_iload_n (j := 2) (i := 2) C rfl 1 rfl dX12_bits_11 ?_
      refine zj_iload_n (j := 2) (i := 2) C rfl 1 rfl dX12_bits_12 ?_
      refine zj_iconst C 1 dX12_bits_13 ?_
      refine zj_isub C dX12_bits_14 ?_
      refine zj_iand C dX12_bits_15 ?_
      refine zj_pipeI (fun y2 e_y2 => ?_)
      have h_y2 := ir_eq e_y2 (ir_toInt _)
      refine zj_istore_n (j := 2) (i := 2) C rfl [(2, .int (i32 y2)), (1, .int (i32 (w32 (v1 + 1))))] dX12_bits_16 (by decide) rfl ?_
      refine zj_goto (tgt := 4) C dX12_bits_17 rfl ?_
      exact zj_sub [1, 0] rfl (ih (w32 (v1 + 1)) y2 (ir_w _) h_y2 mem)
noncomputable def f_X12_bits (x0 : Int) (mem : zMem) : Option (Int × zMem) := f_X12_bits_0 zN 0 x0 mem
set_option maxHeartbeats 4000000 in
theorem M_X12_bits (l : Launch) (Γ : zG) (F : zFull Γ)  {x0 : Int} (h_x0 : ir x0) (mem : zMem) (q : Int × zMem) (h : f_X12_bits x0 mem = some q) : zMet l yX12_bits cX12_bits 3 (some .int) 1 Γ 1 [.int (i32 x0)] mem q := by
  refine zMet_of (own := "ShadowHeirsModel") (by decide) rfl (Nat.le_of_ble_eq_true rfl) (fun X C Z => ?_)
  revert h
  show zJ X Γ 3 q (f_X12_bits x0 mem) 0 [(0, .int (i32 x0))] [] mem
  unfold f_X12_bits
  refine zj_iconst C 0 dX12_bits_0 ?_
  refine zj_istore_n (j := 1) (i := 1) C rfl [(1, .int (i32 0)), (0, .int (i32 x0))] dX12_bits_1 (by decide) rfl ?_
  refine zj_iload_n (j := 0) (i := 0) C rfl 1 rfl dX12_bits_2 ?_
  refine zj_istore_n (j := 2) (i := 2) C rfl [(2, .int (i32 x0)), (1, .int (i32 0)), (0, .int (i32 x0))] dX12_bits_3 (by decide) rfl ?_
  exact zj_sub [1, 0] rfl ((L_X12_bits_0 l F C Z zN) 0 x0 irc_0 h_x0 mem)
noncomputable def f_X12_least (x0 : Int) (x1 : Int) (mem : zMem) : Option (Int × zMem) := if x0 ≥ x1 then (some (x1, mem)) else (some (x0, mem))
set_option maxHeartbeats 4000000 in
theorem M_X12_least (l : Launch) (Γ : zG) (F : zFull Γ)  {x0 : Int} {x1 : Int} (h_x0 : ir x0) (h_x1 : ir x1) (mem : zMem) (q : Int × zMem) (h : f_X12_least x0 x1 mem = some q) : zMet l yX12_least cX12_least 2 (some .int) 1 Γ 1 [.int (i32 x0), .int (i32 x1)] mem q := by
  refine zMet_of (own := "ShadowHeirsModel") (by decide) rfl (Nat.le_of_ble_eq_true rfl) (fun X C Z => ?_)
  revert h
  show zJ X Γ 2 q (f_X12_least x0 x1 mem) 0 [(0, .int (i32 x0)), (1, .int (i32 x1))] [] mem
  unfold f_X12_least
  refine zj_iload_n (j := 0) (i := 0) C rfl 0 rfl dX12_least_0 ?_
  refine zj_iload_n (j := 1) (i := 1) C rfl 1 rfl dX12_least_1 ?_
  refine zj_icmp_ge C 9 h_x0 h_x1 dX12_least_2 rfl (fun c1 => ?_) (fun c1 => ?_)
  · refine zj_iload_n (j := 1) (i := 1) C rfl 1 rfl dX12_least_9 ?_
    exact zrt_i C Z h_x1 dX12_least_10
  · refine zj_iload_n (j := 0) (i := 0) C rfl 0 rfl dX12_least_5 ?_
    refine zj_goto (tgt := 10) C dX12_least_6 rfl ?_
    exact zrt_i C Z h_x0 dX12_least_10
noncomputable def f_X12_tapeAt (x0 : Int) (mem : zMem) : Option (Int × zMem) := if x0 ≥ (mem 138 3) then (some (0, mem)) else (if ix 139 x0 then some ((mem 139 x0), mem) else none)
set_option maxHeartbeats 4000000 in
theorem M_X12_tapeAt (l : Launch) (Γ : zG) (F : zFull Γ)  {x0 : Int} (h_x0 : ir x0) (mem : zMem) (q : Int × zMem) (h : f_X12_tapeAt x0 mem = some q) : zMet l yX12_tapeAt cX12_tapeAt 2 (some .int) 1 Γ 1 [.ref (zad Γ 138), .int (i32 x0)] mem q := by
  refine zMet_of (own := "ShadowHeirsModel") (by decide) rfl (Nat.le_of_ble_eq_true rfl) (fun X C Z => ?_)
  revert h
  show zJ X Γ 2 q (f_X12_tapeAt x0 mem) 0 [(0, .ref (zad Γ 138)), (1, .int (i32 x0))] [] mem
  unfold f_X12_tapeAt
  refine zj_iload_n (j := 1) (i := 1) C rfl 1 rfl dX12_tapeAt_0 ?_
  refine zj_aload_n (j := 0) (i := 0) C rfl 0 rfl dX12_tapeAt_1 ?_
  refine zj_getI C F 3 rfl zk_138 fl_X12_18 rfl dX12_tapeAt_2 (fun h1 => ?_)
  refine zj_icmp_ge C 17 h_x0 h1 dX12_tapeAt_5 rfl (fun c2 => ?_) (fun c2 => ?_)
  · refine zj_iconst C 0 dX12_tapeAt_17 ?_
    exact zrt_i C Z irc_0 dX12_tapeAt_18
  · refine zj_aload_n (j := 0) (i := 0) C rfl 0 rfl dX12_tapeAt_8 ?_
    refine zj_getR C F zk_138 fl_X12_7 rfl rf_138_1 dX12_tapeAt_9 ?_
    refine zj_iload_n (j := 1) (i := 1) C rfl 1 rfl dX12_tapeAt_12 ?_
    refine zj_iaload C F zk_139 h_x0 dX12_tapeAt_13 (fun c3 h4 => ?_)
    refine zj_goto (tgt := 18) C dX12_tapeAt_14 rfl ?_
    exact zrt_i C Z h4 dX12_tapeAt_18
noncomputable def f_X12_isDigit (x0 : Int) (mem : zMem) : Option (Int × zMem) := if x0 < 48 then (some (0, mem)) else (if x0 > 57 then (some (0, mem)) else (some (1, mem)))
set_option maxHeartbeats 4000000 in
theorem M_X12_isDigit (l : Launch) (Γ : zG) (F : zFull Γ)  {x0 : Int} (h_x0 : ir x0) (mem : zMem) (q : Int × zMem) (h : f_X12_isDigit x0 mem = some q) : zMet l yX12_isDigit cX12_isDigit 1 (some .boolean) 1 Γ 1 [.int (i32 x0)] mem q := by
  refine zMet_of (own := "ShadowHeirsModel") (by decide) rfl (Nat.le_of_ble_eq_true rfl) (fun X C Z => ?_)
  revert h
  show zJ X Γ 1 q (f_X12_isDigit x0 mem) 0 [(0, .int (i32 x0))] [] mem
  unfold f_X12_isDigit
  refine zj_iload_n (j := 0) (i := 0) C rfl 0 rfl dX12_isDigit_0 ?_
  refine zj_bipush C 48 rfl dX12_isDigit_1 ?_
  refine zj_icmp_lt C 16 h_x0 irc_48 dX12_isDigit_3 rfl (fun c1 => ?_) (fun c1 => ?_)
  · refine zj_iconst C 0 dX12_isDigit_16 ?_
    exact zrt_z C Z (Or.inl rfl) dX12_isDigit_17
  · refine zj_iload_n (j := 0) (i := 0) C rfl 0 rfl dX12_isDigit_6 ?_
    refine zj_bipush C 57 rfl dX12_isDigit_7 ?_
    refine zj_icmp_gt C 16 h_x0 irc_57 dX12_isDigit_9 rfl (fun c2 => ?_) (fun c2 => ?_)
    · refine zj_iconst C 0 dX12_isDigit_16 ?_
      exact zrt_z C Z (Or.inl rfl) dX12_isDigit_17
    · refine zj_iconst C 1 dX12_isDigit_12 ?_
      refine zj_goto (tgt := 17) C dX12_isDigit_13 rfl ?_
      exact zrt_z C Z (Or.inr rfl) dX12_isDigit_17
noncomputable def f_X12_isLetter (x0 : Int) (mem : zMem) : Option (Int × zMem) := if x0 < 97 then (some (0, mem)) else (if x0 > 122 then (some (0, mem)) else (some (1, mem)))
set_option maxHeartbeats 4000000 in
theorem M_X12_isLetter (l : Launch) (Γ : zG) (F : zFull Γ)  {x0 : Int} (h_x0 : ir x0) (mem : zMem) (q : Int × zMem) (h : f_X12_isLetter x0 mem = some q) : zMet l yX12_isLetter cX12_isLetter 1 (some .boolean) 1 Γ 1 [.int (i32 x0)] mem q := by
  refine zMet_of (own := "ShadowHeirsModel") (by decide) rfl (Nat.le_of_ble_eq_true rfl) (fun X C Z => ?_)
  revert h
  show zJ X Γ 1 q (f_X12_isLetter x0 mem) 0 [(0, .int (i32 x0))] [] mem
  unfold f_X12_isLetter
  refine zj_iload_n (j := 0) (i := 0) C rfl 0 rfl dX12_isLetter_0 ?_
  refine zj_bipush C 97 rfl dX12_isLetter_1 ?_
  refine zj_icmp_lt C 16 h_x0 irc_97 dX12_isLetter_3 rfl (fun c1 => ?_) (fun c1 => ?_)
  · refine zj_iconst C 0 dX12_isLetter_16 ?_
    exact zrt_z C Z (Or.inl rfl) dX12_isLetter_17
  · refine zj_iload_n (j := 0) (i := 0) C rfl 0 rfl dX12_isLetter_6 ?_
    refine zj_bipush C 122 rfl dX12_isLetter_7 ?_
    refine zj_icmp_gt C 16 h_x0 irc_122 dX12_isLetter_9 rfl (fun c2 => ?_) (fun c2 => ?_)
    · refine zj_iconst C 0 dX12_isLetter_16 ?_
      exact zrt_z C Z (Or.inl rfl) dX12_isLetter_17
    · refine zj_iconst C 1 dX12_isLetter_12 ?_
      refine zj_goto (tgt := 17) C dX12_isLetter_13 rfl ?_
      exact zrt_z C Z (Or.inr rfl) dX12_isLetter_17
noncomputable def b_X12_go_0 (rec : Nat → Int → Int → Int → zMem → Option (Int × zMem)) (tag : Nat) (v2 : Int) (v3 : Int) (v4 : Int) (mem : zMem) : Option (Int × zMem) := match tag with
  | 0 => zbind (f_X12_tapeAt (mem 138 5) mem) fun y2 m3 => zbind (f_X12_isLetter y2 m3) fun y4 m5 => if y4 = 0 then (zbind (f_X12_tapeAt (m5 138 5) m5) fun y8 m9 => zbind (f_X12_isDigit y8 m9) fun y10 m11 => if y10 = 0 then (if v3 = 0 then (pipe (zup m11 138 7 1) fun m14 => some (0, m14)) else (if v2 = 0 then (if (w32 ((m11 138 5) - (m11 138 6))) ≤ 3 then (if v2 = 0 then (pipe (zup m11 138 7 3) fun m20 => some (0, m20)) else (pipe (zup m11 138 7 2) fun m21 => some (0, m21))) else (pipe (zup m11 138 7 1) fun m22 => some (0, m22))) else (if (w32 ((m11 138 5) - (m11 138 6))) ≤ 7 then (if v2 = 0 then (pipe (zup m11 138 7 3) fun m25 => some (0, m25)) else (pipe (zup m11 138 7 2) fun m26 => some (0, m26))) else (pipe (zup m11 138 7 1) fun m27 => some (0, m27))))) else (rec 1 v2 v3 0 m11)) else (rec 1 v2 v3 0 m5)
  | 1 => if ix 139 (mem 138 5) then pipe (mem 139 (mem 138 5)) fun y1004 => if v3 = 0 then (if (w32 ((mem 138 5) - (mem 138 6))) ≥ 7 then (rec 2 v2 0 y1004 mem) else (pipe (zup mem 138 12 (w64 ((w64 ((w64 (27 * (mem 138 12))) + y1004)) - 96))) fun m1010 => rec 2 v2 0 y1004 m1010)) else (zbind (f_X12_isLetter y1004 mem) fun y1011 m1012 => if y1011 = v2 then (if (w32 ((m1012 138 5) - (m1012 138 6))) ≥ 7 then (rec 2 v2 1 y1004 m1012) else (pipe (zup m1012 138 12 (w64 ((w64 ((w64 (27 * (m1012 138 12))) + y1004)) - 96))) fun m1018 => rec 2 v2 1 y1004 m1018)) else (if (w32 ((m1012 138 5) - (m1012 138 6))) ≥ 7 then (rec 2 v2 0 y1004 m1012) else (pipe (zup m1012 138 12 (w64 ((w64 ((w64 (27 * (m1012 138 12))) + y1004)) - 96))) fun m1023 => rec 2 v2 0 y1004 m1023))) else none
  | _ => if (w32 ((mem 138 5) - (mem 138 6))) ≥ 3 then (pipe (zup mem 138 5 (w32 ((mem 138 5) + 1))) fun m2005 => rec 0 v2 v3 0 m2005) else (pipe (zup mem 138 8 (w32 ((w32 ((w32 (10 * (mem 138 8))) + v4)) - 48))) fun m2007 => pipe (zup m2007 138 5 (w32 ((m2007 138 5) + 1))) fun m2009 => rec 0 v2 v3 0 m2009)
noncomputable def f_X12_go_0 : Nat → Nat → Int → Int → Int → zMem → Option (Int × zMem) := zfuel (fun _ _ _ _ _ => none) (b_X12_go_0)
set_option maxHeartbeats 4000000 in
theorem L_X12_go_0 (l : Launch) {Γ : zG} (F : zFull Γ) {X : zM} {q : Int × zMem} (C : zC X Γ "ShadowHeirsModel" cX12_go 5) (Z : zRt X l Γ 2 0 none q) : ∀ n : Nat, (∀ (v2 : Int) (v3 : Int) (v4 : Int) (h_v2 : ir v2) (h_v3 : ir v3) (mem : zMem), zJ X Γ 5 q (f_X12_go_0 n 0 v2 v3 v4 mem) 215 [(0, .ref (zad Γ 138)), (2, .int (i32 v2)), (3, .int (i32 v3))] [] mem) ∧ (∀ (v2 : Int) (v3 : Int) (v4 : Int) (h_v2 : ir v2) (h_v3 : ir v3) (mem : zMem), zJ X Γ 5 q (f_X12_go_0 n 1 v2 v3 v4 mem) 243 [(0, .ref (zad Γ 138)), (2, .int (i32 v2)), (3, .int (i32 v3))] [] mem) ∧ (∀ (v2 : Int) (v3 : Int) (v4 : Int) (h_v2 : ir v2) (h_v3 : ir v3) (h_v4 : ir v4) (mem : zMem), zJ X Γ 5 q (f_X12_go_0 n 2 v2 v3 v4 mem) 307 [(0, .ref (zad Γ 138)), (2, .int (i32 v2)), (3, .int (i32 v3)), (4, .int (i32 v4))] [] mem) := by
  intro n
  induction n with
  | zero => exact ⟨(by intros; exact zj_none), (by intros; exact zj_none), (by intros; exact zj_none)⟩
  | succ n ih =>
    refine ⟨?_, ?_, ?_⟩
    · intro v2 v3 v4 h_v2 h_v3 mem
      show zJ X Γ 5 q (b_X12_go_0 (f_X12_go_0 n) 0 v2 v3 v4 mem) _ _ _ _
      unfold b_X12_go_0
      refine zj_aload_n (j := 0) (i := 0) C rfl 0 rfl dX12_go_215 ?_
      refine zj_aload_n (j := 0) (i := 0) C rfl 0 rfl dX12_go_216 ?_
      refine zj_getI C F 5 rfl zk_138 fl_X12_21 rfl dX12_go_217 (fun h1 => ?_)
      refine zj_callVi C F Z [.int (i32 (mem 138 5))] [] cal_X12_tapeAt calv_X12_tapeAt ml_X12_50 zk_138 rfl rfl (by decide) (Nat.le_of_ble_eq_true rfl) rfl dX12_go_220 (fun q h => M_X12_tapeAt l Γ F h1 mem q h) (fun y2 m3 h_y2 => ?_)
      refine zj_callSi C Z [.int (i32 y2)] [] cal_X12_isLetter sta_X12_isLetter ml_X12_33 rfl (by decide) (Nat.le_of_ble_eq_true rfl) rfl dX12_go_223 (fun q h => M_X12_isLetter l Γ F h_y2 m3 q h) (fun y4 m5 h_y4 => ?_)
      refine zj_if_ne C 243 h_y4 dX12_go_226 rfl (fun c6 => ?_) (fun c6 => ?_)
      · refine zj_aload_n (j := 0) (i := 0) C rfl 0 rfl dX12_go_229 ?_
        refine zj_aload_n (j := 0) (i := 0) C rfl 0 rfl dX12_go_230 ?_
        refine zj_getI C F 5 rfl zk_138 fl_X12_21 rfl dX12_go_231 (fun h7 => ?_)
        refine zj_callVi C F Z [.int (i32 (m5 138 5))] [] cal_X12_tapeAt calv_X12_tapeAt ml_X12_50 zk_138 rfl rfl (by decide) (Nat.le_of_ble_eq_true rfl) rfl dX12_go_234 (fun q h => M_X12_tapeAt l Γ F h7 m5 q h) (fun y8 m9 h_y8 => ?_)
        refine zj_callSi C Z [.int (i32 y8)] [] cal_X12_isDigit sta_X12_isDigit ml_X12_37 rfl (by decide) (Nat.le_of_ble_eq_true rfl) rfl dX12_go_237 (fun q h => M_X12_isDigit l Γ F h_y8 m9 q h) (fun y10 m11 h_y10 => ?_)
        refine zj_if_eq C 350 h_y10 dX12_go_240 rfl (fun c12 => ?_) (fun c12 => ?_)
        · refine zj_aload_n (j := 0) (i := 0) C rfl 0 rfl dX12_go_350 ?_
          refine zj_iload_n (j := 3) (i := 3) C rfl 2 rfl dX12_go_351 ?_
          refine zj_if_eq C 377 h_v3 dX12_go_352 rfl (fun c13 => ?_) (fun c13 => ?_)
          · refine zj_iconst C 1 dX12_go_377 ?_
            refine zj_goto (tgt := 390) C dX12_go_378 rfl ?_
            refine zj_putI C F 7 rfl zk_138 fl_X12_30 rfl fp_12_7 irc_1 dX12_go_390 ?_
            refine zj_pipeM (fun m14 e_m14 => ?_)
            exact zrt_v C Z dX12_go_393
          · refine zj_aload_n (j := 0) (i := 0) C rfl 0 rfl dX12_go_355 ?_
            refine zj_getI C F 5 rfl zk_138 fl_X12_21 rfl dX12_go_356 (fun h15 => ?_)
            refine zj_aload_n (j := 0) (i := 0) C rfl 0 rfl dX12_go_359 ?_
            refine zj_getI C F 6 rfl zk_138 fl_X12_24 rfl dX12_go_360 (fun h16 => ?_)
            refine zj_isub C dX12_go_363 ?_
            refine zj_iload_n (j := 2) (i := 2) C rfl 1 rfl dX12_go_364 ?_
            refine zj_if_eq C 373 h_v2 dX12_go_365 rfl (fun c17 => ?_) (fun c17 => ?_)
            · refine zj_iconst C 3 dX12_go_373 ?_
              refine zj_icmp_le C 381 (ir_w _) irc_3 dX12_go_374 rfl (fun c18 => ?_) (fun c18 => ?_)
              · refine zj_iload_n (j := 2) (i := 2) C rfl 1 rfl dX12_go_381 ?_
                refine zj_if_eq C 389 h_v2 dX12_go_382 rfl (fun c19 => ?_) (fun c19 => ?_)
                · refine zj_iconst C 3 dX12_go_389 ?_
                  refine zj_putI C F 7 rfl zk_138 fl_X12_30 rfl fp_12_7 irc_3 dX12_go_390 ?_
                  refine zj_pipeM (fun m20 e_m20 => ?_)
                  exact zrt_v C Z dX12_go_393
                · refine zj_iconst C 2 dX12_go_385 ?_
                  refine zj_goto (tgt := 390) C dX12_go_386 rfl ?_
                  refine zj_putI C F 7 rfl zk_138 fl_X12_30 rfl fp_12_7 irc_2 dX12_go_390 ?_
                  refine zj_pipeM (fun m21 e_m21 => ?_)
                  exact zrt_v C Z dX12_go_393
              · refine zj_iconst C 1 dX12_go_377 ?_
                refine zj_goto (tgt := 390) C dX12_go_378 rfl ?_
                refine zj_putI C F 7 rfl zk_138 fl_X12_30 rfl fp_12_7 irc_1 dX12_go_390 ?_
                refine zj_pipeM (fun m22 e_m22 => ?_)
                exact zrt_v C Z dX12_go_393
            · refine zj_bipush C 7 rfl dX12_go_368 ?_
              refine zj_goto (tgt := 374) C dX12_go_370 rfl ?_
              refine zj_icmp_le C 381 (ir_w _) irc_7 dX12_go_374 rfl (fun c23 => ?_) (fun c23 => ?_)
              · refine zj_iload_n (j := 2) (i := 2) C rfl 1 rfl dX12_go_381 ?_
                refine zj_if_eq C 389 h_v2 dX12_go_382 rfl (fun c24 => ?_) (fun c24 => ?_)
                · refine zj_iconst C 3 dX12_go_389 ?_
                  refine zj_putI C F 7 rfl zk_138 fl_X12_30 rfl fp_12_7 irc_3 dX12_go_390 ?_
                  refine zj_pipeM (fun m25 e_m25 => ?_)
                  exact zrt_v C Z dX12_go_393
                · refine zj_iconst C 2 dX12_go_385 ?_
                  refine zj_goto (tgt := 390) C dX12_go_386 rfl ?_
                  refine zj_putI C F 7 rfl zk_138 fl_X12_30 rfl fp_12_7 irc_2 dX12_go_390 ?_
                  refine zj_pipeM (fun m26 e_m26 => ?_)
                  exact zrt_v C Z dX12_go_393
              · refine zj_iconst C 1 dX12_go_377 ?_
                refine zj_goto (tgt := 390) C dX12_go_378 rfl ?_
                refine zj_putI C F 7 rfl zk_138 fl_X12_30 rfl fp_12_7 irc_1 dX12_go_390 ?_
                refine zj_pipeM (fun m27 e_m27 => ?_)
                exact zrt_v C Z dX12_go_393
        · exact zj_sub [0, 1, 2] rfl (ih.2.1 v2 v3 0 h_v2 h_v3 m11)
      · exact zj_sub [0, 1, 2] rfl (ih.2.1 v2 v3 0 h_v2 h_v3 m5)
    · intro v2 v3 v4 h_v2 h_v3 mem
      show zJ X Γ 5 q (b_X12_go_0 (f_X12_go_0 n) 1 v2 v3 v4 mem) _ _ _ _
      unfold b_X12_go_0
      refine zj_aload_n (j := 0) (i := 0) C rfl 0 rfl dX12_go_243 ?_
      refine zj_getR C F zk_138 fl_X12_7 rfl rf_138_1 dX12_go_244 ?_
      refine zj_aload_n (j := 0) (i := 0) C rfl 0 rfl dX12_go_247 ?_
      refine zj_getI C F 5 rfl zk_138 fl_X12_21 rfl dX12_go_248 (fun h1001 => ?_)
      refine zj_iaload C F zk_139 h1001 dX12_go_251 (fun c1002 h1003 => ?_)
      refine zj_pipeI (fun y1004 e_y1004 => ?_)
      have h_y1004 := ir_eq e_y1004 h1003
      refine zj_istore C [(4, .int (i32 y1004)), (0, .ref (zad Γ 138)), (2, .int (i32 v2)), (3, .int (i32 v3))] dX12_go_252 (by decide) rfl ?_
      refine zj_iload_n (j := 3) (i := 3) C rfl 3 rfl dX12_go_254 ?_
      refine zj_if_eq C 271 h_v3 dX12_go_255 rfl (fun c1005 => ?_) (fun c1005 => ?_)
      · refine zj_iconst C 0 dX12_go_271 ?_
        refine zj_istore_n (j := 3) (i := 3) C rfl [(3, .int (i32 0)), (4, .int (i32 y1004)), (0, .ref (zad Γ 138)), (2, .int (i32 v2))] dX12_go_272 (by decide) rfl ?_
        refine zj_aload_n (j := 0) (i := 0) C rfl 2 rfl dX12_go_273 ?_
        refine zj_getI C F 5 rfl zk_138 fl_X12_21 rfl dX12_go_274 (fun h1006 => ?_)
        refine zj_aload_n (j := 0) (i := 0) C rfl 2 rfl dX12_go_277 ?_
        refine zj_getI C F 6 rfl zk_138 fl_X12_24 rfl dX12_go_278 (fun h1007 => ?_)
        refine zj_isub C dX12_go_281 ?_
        refine zj_bipush C 7 rfl dX12_go_282 ?_
        refine zj_icmp_ge C 307 (ir_w _) irc_7 dX12_go_284 rfl (fun c1008 => ?_) (fun c1008 => ?_)
        · exact zj_sub [2, 3, 0, 1] rfl (ih.2.2 v2 0 y1004 h_v2 irc_0 h_y1004 mem)
        · refine zj_aload_n (j := 0) (i := 0) C rfl 2 rfl dX12_go_287 ?_
          refine zj_ldc2 C 27 kc_X12_54 dX12_go_288 ?_
          refine zj_aload_n (j := 0) (i := 0) C rfl 2 rfl dX12_go_291 ?_
          refine zj_getL C F 12 rfl zk_138 fl_X12_43 rfl dX12_go_292 (fun h1009 => ?_)
          refine zj_lmul C dX12_go_295 ?_
          refine zj_iload C 1 rfl dX12_go_296 ?_
          refine zj_i2l C h_y1004 dX12_go_298 ?_
          refine zj_ladd C dX12_go_299 ?_
          refine zj_ldc2 C 96 kc_X12_56 dX12_go_300 ?_
          refine zj_lsub C dX12_go_303 ?_
          refine zj_putL C F 12 rfl zk_138 fl_X12_43 rfl fp_12_12 (lr_w _) dX12_go_304 ?_
          refine zj_pipeM (fun m1010 e_m1010 => ?_)
          exact zj_sub [2, 3, 0, 1] rfl (ih.2.2 v2 0 y1004 h_v2 irc_0 h_y1004 m1010)
      · refine zj_iload C 0 rfl dX12_go_258 ?_
        refine zj_callSi C Z [.int (i32 y1004)] [] cal_X12_isLetter sta_X12_isLetter ml_X12_33 rfl (by decide) (Nat.le_of_ble_eq_true rfl) rfl dX12_go_260 (fun q h => M_X12_isLetter l Γ F h_y1004 mem q h) (fun y1011 m1012 h_y1011 => ?_)
        refine zj_iload_n (j := 2) (i := 2) C rfl 2 rfl dX12_go_263 ?_
        refine zj_icmp_ne C 271 h_y1011 h_v2 dX12_go_264 rfl (fun c1013 => ?_) (fun c1013 => ?_)
        · refine zj_iconst C 1 dX12_go_267 ?_
          refine zj_goto (tgt := 272) C dX12_go_268 rfl ?_
          refine zj_istore_n (j := 3) (i := 3) C rfl [(3, .int (i32 1)), (4, .int (i32 y1004)), (0, .ref (zad Γ 138)), (2, .int (i32 v2))] dX12_go_272 (by decide) rfl ?_
          refine zj_aload_n (j := 0) (i := 0) C rfl 2 rfl dX12_go_273 ?_
          refine zj_getI C F 5 rfl zk_138 fl_X12_21 rfl dX12_go_274 (fun h1014 => ?_)
          refine zj_aload_n (j := 0) (i := 0) C rfl 2 rfl dX12_go_277 ?_
          refine zj_getI C F 6 rfl zk_138 fl_X12_24 rfl dX12_go_278 (fun h1015 => ?_)
          refine zj_isub C dX12_go_281 ?_
          refine zj_bipush C 7 rfl dX12_go_282 ?_
          refine zj_icmp_ge C 307 (ir_w _) irc_7 dX12_go_284 rfl (fun c1016 => ?_) (fun c1016 => ?_)
          · exact zj_sub [2, 3, 0, 1] rfl (ih.2.2 v2 1 y1004 h_v2 irc_1 h_y1004 m1012)
          · refine zj_aload_n (j := 0) (i := 0) C rfl 2 rfl dX12_go_287 ?_
            refine zj_ldc2 C 27 kc_X12_54 dX12_go_288 ?_
            refine zj_aload_n (j := 0) (i := 0) C rfl 2 rfl dX12_go_291 ?_
            refine zj_getL C F 12 rfl zk_138 fl_X12_43 rfl dX12_go_292 (fun h1017 => ?_)
            refine zj_lmul C dX12_go_295 ?_
            refine zj_iload C 1 rfl dX12_go_296 ?_
            refine zj_i2l C h_y1004 dX12_go_298 ?_
            refine zj_ladd C dX12_go_299 ?_
            refine zj_ldc2 C 96 kc_X12_56 dX12_go_300 ?_
            refine zj_lsub C dX12_go_303 ?_
            refine zj_putL C F 12 rfl zk_138 fl_X12_43 rfl fp_12_12 (lr_w _) dX12_go_304 ?_
            refine zj_pipeM (fun m1018 e_m1018 => ?_)
            exact zj_sub [2, 3, 0, 1] rfl (ih.2.2 v2 1 y1004 h_v2 irc_1 h_y1004 m1018)
        · refine zj_iconst C 0 dX12_go_271 ?_
          refine zj_istore_n (j := 3) (i := 3) C rfl [(3, .int (i32 0)), (4, .int (i32 y1004)), (0, .ref (zad Γ 138)), (2, .int (i32 v2))] dX12_go_272 (by decide) rfl ?_
          refine zj_aload_n (j := 0) (i := 0) C rfl 2 rfl dX12_go_273 ?_
          refine zj_getI C F 5 rfl zk_138 fl_X12_21 rfl dX12_go_274 (fun h1019 => ?_)
          refine zj_aload_n (j := 0) (i := 0) C rfl 2 rfl dX12_go_277 ?_
          refine zj_getI C F 6 rfl zk_138 fl_X12_24 rfl dX12_go_278 (fun h1020 => ?_)
          refine zj_isub C dX12_go_281 ?_
          refine zj_bipush C 7 rfl dX12_go_282 ?_
          refine zj_icmp_ge C 307 (ir_w _) irc_7 dX12_go_284 rfl (fun c1021 => ?_) (fun c1021 => ?_)
          · exact zj_sub [2, 3, 0, 1] rfl (ih.2.2 v2 0 y1004 h_v2 irc_0 h_y1004 m1012)
          · refine zj_aload_n (j := 0) (i := 0) C rfl 2 rfl dX12_go_287 ?_
            refine zj_ldc2 C 27 kc_X12_54 dX12_go_288 ?_
            refine zj_aload_n (j := 0) (i := 0) C rfl 2 rfl dX12_go_291 ?_
            refine zj_getL C F 12 rfl zk_138 fl_X12_43 rfl dX12_go_292 (fun h1022 => ?_)
            refine zj_lmul C dX12_go_295 ?_
            refine zj_iload C 1 rfl dX12_go_296 ?_
            refine zj_i2l C h_y1004 dX12_go_298 ?_
            refine zj_ladd C dX12_go_299 ?_
            refine zj_ldc2 C 96 kc_X12_56 dX12_go_300 ?_
            refine zj_lsub C dX12_go_303 ?_
            refine zj_putL C F 12 rfl zk_138 fl_X12_43 rfl fp_12_12 (lr_w _) dX12_go_304 ?_
            refine zj_pipeM (fun m1023 e_m1023 => ?_)
            exact zj_sub [2, 3, 0, 1] rfl (ih.2.2 v2 0 y1004 h_v2 irc_0 h_y1004 m1023)
    · intro v2 v3 v4 h_v2 h_v3 h_v4 mem
      show zJ X Γ 5 q (b_X12_go_0 (f_X12_go_0 n) 2 v2 v3 v4 mem) _ _ _ _
      unfold b_X12_go_0
      refine zj_aload_n (j := 0) (i := 0) C rfl 0 rfl dX12_go_307 ?_
      refine zj_getI C F 5 rfl zk_138 fl_X12_21 rfl dX12_go_308 (fun h2001 => ?_)
      refine zj_aload_n (j := 0) (i := 0) C rfl 0 rfl dX12_go_311 ?_
      refine zj_getI C F 6 rfl zk_138 fl_X12_24 rfl dX12_go_312 (fun h2002 => ?_)
      refine zj_isub C dX12_go_315 ?_
      refine zj_iconst C 3 dX12_go_316 ?_
      refine zj_icmp_ge C 337 (ir_w _) irc_3 dX12_go_317 rfl (fun c2003 => ?_) (fun c2003 => ?_)
      · refine zj_aload_n (j := 0) (i := 0) C rfl 0 rfl dX12_go_337 ?_
        refine zj_dup C rfl dX12_go_338 ?_
        refine zj_getI C F 5 rfl zk_138 fl_X12_21 rfl dX12_go_339 (fun h2004 => ?_)
        refine zj_iconst C 1 dX12_go_342 ?_
        refine zj_iadd C dX12_go_343 ?_
        refine zj_putI C F 5 rfl zk_138 fl_X12_21 rfl fp_12_5 (ir_w _) dX12_go_344 ?_
        refine zj_pipeM (fun m2005 e_m2005 => ?_)
        refine zj_goto (tgt := 215) C dX12_go_347 rfl ?_
        exact zj_sub [0, 1, 2] rfl (ih.1 v2 v3 0 h_v2 h_v3 m2005)
      · refine zj_aload_n (j := 0) (i := 0) C rfl 0 rfl dX12_go_320 ?_
        refine zj_bipush C 10 rfl dX12_go_321 ?_
        refine zj_aload_n (j := 0) (i := 0) C rfl 0 rfl dX12_go_323 ?_
        refine zj_getI C F 8 rfl zk_138 fl_X12_47 rfl dX12_go_324 (fun h2006 => ?_)
        refine zj_imul C dX12_go_327 ?_
        refine zj_iload C 3 rfl dX12_go_328 ?_
        refine zj_iadd C dX12_go_330 ?_
        refine zj_bipush C 48 rfl dX12_go_331 ?_
        refine zj_isub C dX12_go_333 ?_
        refine zj_putI C F 8 rfl zk_138 fl_X12_47 rfl fp_12_8 (ir_w _) dX12_go_334 ?_
        refine zj_pipeM (fun m2007 e_m2007 => ?_)
        refine zj_aload_n (j := 0) (i := 0) C rfl 0 rfl dX12_go_337 ?_
        refine zj_dup C rfl dX12_go_338 ?_
        refine zj_getI C F 5 rfl zk_138 fl_X12_21 rfl dX12_go_339 (fun h2008 => ?_)
        refine zj_iconst C 1 dX12_go_342 ?_
        refine zj_iadd C dX12_go_343 ?_
        refine zj_putI C F 5 rfl zk_138 fl_X12_21 rfl fp_12_5 (ir_w _) dX12_go_344 ?_
        refine zj_pipeM (fun m2009 e_m2009 => ?_)
        refine zj_goto (tgt := 215) C dX12_go_347 rfl ?_
        exact zj_sub [0, 1, 2] rfl (ih.1 v2 v3 0 h_v2 h_v3 m2009)
noncomputable def f_X12_go_j96  (mem : zMem) : Option (Int × zMem) := if (mem 138 5) < (mem 138 3) then (if ix 139 (mem 138 5) then pipe (mem 139 (mem 138 5)) fun y7 => zbind (f_X12_isLetter y7 mem) fun y8 m9 => if y8 = 0 then (zbind (f_X12_isDigit y7 m9) fun y11 m12 => if y11 = 0 then (if y7 = 59 then (pipe (zup m12 138 7 4) fun m15 => pipe (zup m15 138 9 y7) fun m16 => pipe (zup m16 138 5 (w32 ((m16 138 5) + 1))) fun m18 => some (0, m18)) else (if y7 = 60 then (pipe (zup m12 138 7 4) fun m20 => pipe (zup m20 138 9 y7) fun m21 => pipe (zup m21 138 5 (w32 ((m21 138 5) + 1))) fun m23 => some (0, m23)) else (if y7 = 61 then (pipe (zup m12 138 7 4) fun m25 => pipe (zup m25 138 9 y7) fun m26 => pipe (zup m26 138 5 (w32 ((m26 138 5) + 1))) fun m28 => some (0, m28)) else (if y7 = 62 then (pipe (zup m12 138 7 4) fun m30 => pipe (zup m30 138 9 y7) fun m31 => pipe (zup m31 138 5 (w32 ((m31 138 5) + 1))) fun m33 => some (0, m33)) else (if y7 = 40 then (pipe (zup m12 138 7 4) fun m35 => pipe (zup m35 138 9 y7) fun m36 => pipe (zup m36 138 5 (w32 ((m36 138 5) + 1))) fun m38 => some (0, m38)) else (if y7 = 41 then (pipe (zup m12 138 7 4) fun m40 => pipe (zup m40 138 9 y7) fun m41 => pipe (zup m41 138 5 (w32 ((m41 138 5) + 1))) fun m43 => some (0, m43)) else (pipe (zup m12 138 7 1) fun m44 => pipe (zup m44 138 9 y7) fun m45 => pipe (zup m45 138 5 (w32 ((m45 138 5) + 1))) fun m47 => some (0, m47)))))))) else (zbind (f_X12_isLetter y7 m12) fun y48 m49 => pipe (zup m49 138 12 0) fun m50 => pipe (zup m50 138 8 0) fun m51 => f_X12_go_0 zN 0 y48 1 0 m51)) else (zbind (f_X12_isLetter y7 m9) fun y52 m53 => pipe (zup m53 138 12 0) fun m54 => pipe (zup m54 138 8 0) fun m55 => f_X12_go_0 zN 0 y52 1 0 m55) else none) else (pipe (zup mem 138 7 0) fun m56 => some (0, m56))
set_option maxHeartbeats 4000000 in
theorem J_X12_go_j96 (l : Launch) {Γ : zG} (F : zFull Γ) {X : zM} {q : Int × zMem} (C : zC X Γ "ShadowHeirsModel" cX12_go 5) (Z : zRt X l Γ 2 0 none q)   (mem : zMem) : zJ X Γ 5 q (f_X12_go_j96  mem) 96 [(0, .ref (zad Γ 138))] [] mem := by
  unfold f_X12_go_j96
  refine zj_aload_n (j := 0) (i := 0) C rfl 0 rfl dX12_go_96 ?_
  refine zj_getI C F 5 rfl zk_138 fl_X12_21 rfl dX12_go_97 (fun h1 => ?_)
  refine zj_aload_n (j := 0) (i := 0) C rfl 0 rfl dX12_go_100 ?_
  refine zj_getI C F 3 rfl zk_138 fl_X12_18 rfl dX12_go_101 (fun h2 => ?_)
  refine zj_icmp_lt C 113 h1 h2 dX12_go_104 rfl (fun c3 => ?_) (fun c3 => ?_)
  · refine zj_aload_n (j := 0) (i := 0) C rfl 0 rfl dX12_go_113 ?_
    refine zj_getR C F zk_138 fl_X12_7 rfl rf_138_1 dX12_go_114 ?_
    refine zj_aload_n (j := 0) (i := 0) C rfl 0 rfl dX12_go_117 ?_
    refine zj_getI C F 5 rfl zk_138 fl_X12_21 rfl dX12_go_118 (fun h4 => ?_)
    refine zj_iaload C F zk_139 h4 dX12_go_121 (fun c5 h6 => ?_)
    refine zj_pipeI (fun y7 e_y7 => ?_)
    have h_y7 := ir_eq e_y7 h6
    refine zj_istore_n (j := 1) (i := 1) C rfl [(1, .int (i32 y7)), (0, .ref (zad Γ 138))] dX12_go_122 (by decide) rfl ?_
    refine zj_iload_n (j := 1) (i := 1) C rfl 0 rfl dX12_go_123 ?_
    refine zj_callSi C Z [.int (i32 y7)] [] cal_X12_isLetter sta_X12_isLetter ml_X12_33 rfl (by decide) (Nat.le_of_ble_eq_true rfl) rfl dX12_go_124 (fun q h => M_X12_isLetter l Γ F h_y7 mem q h) (fun y8 m9 h_y8 => ?_)
    refine zj_if_ne C 198 h_y8 dX12_go_127 rfl (fun c10 => ?_) (fun c10 => ?_)
    · refine zj_iload_n (j := 1) (i := 1) C rfl 0 rfl dX12_go_130 ?_
      refine zj_callSi C Z [.int (i32 y7)] [] cal_X12_isDigit sta_X12_isDigit ml_X12_37 rfl (by decide) (Nat.le_of_ble_eq_true rfl) rfl dX12_go_131 (fun q h => M_X12_isDigit l Γ F h_y7 m9 q h) (fun y11 m12 h_y11 => ?_)
      refine zj_if_ne C 198 h_y11 dX12_go_134 rfl (fun c13 => ?_) (fun c13 => ?_)
      · refine zj_aload_n (j := 0) (i := 0) C rfl 1 rfl dX12_go_137 ?_
        refine zj_iload_n (j := 1) (i := 1) C rfl 0 rfl dX12_go_138 ?_
        refine zj_bipush C 59 rfl dX12_go_139 ?_
        refine zj_icmp_eq C 174 h_y7 irc_59 dX12_go_141 rfl (fun c14 => ?_) (fun c14 => ?_)
        · refine zj_iconst C 4 dX12_go_174 ?_
          refine zj_goto (tgt := 179) C dX12_go_175 rfl ?_
          refine zj_putI C F 7 rfl zk_138 fl_X12_30 rfl fp_12_7 irc_4 dX12_go_179 ?_
          refine zj_pipeM (fun m15 e_m15 => ?_)
          refine zj_aload_n (j := 0) (i := 0) C rfl 1 rfl dX12_go_182 ?_
          refine zj_iload_n (j := 1) (i := 1) C rfl 0 rfl dX12_go_183 ?_
          refine zj_putI C F 9 rfl zk_138 fl_X12_40 rfl fp_12_9 h_y7 dX12_go_184 ?_
          refine zj_pipeM (fun m16 e_m16 => ?_)
          refine zj_aload_n (j := 0) (i := 0) C rfl 1 rfl dX12_go_187 ?_
          refine zj_dup C rfl dX12_go_188 ?_
          refine zj_getI C F 5 rfl zk_138 fl_X12_21 rfl dX12_go_189 (fun h17 => ?_)
          refine zj_iconst C 1 dX12_go_192 ?_
          refine zj_iadd C dX12_go_193 ?_
          refine zj_putI C F 5 rfl zk_138 fl_X12_21 rfl fp_12_5 (ir_w _) dX12_go_194 ?_
          refine zj_pipeM (fun m18 e_m18 => ?_)
          exact zrt_v C Z dX12_go_197
        · refine zj_iload_n (j := 1) (i := 1) C rfl 0 rfl dX12_go_144 ?_
          refine zj_bipush C 60 rfl dX12_go_145 ?_
          refine zj_icmp_eq C 174 h_y7 irc_60 dX12_go_147 rfl (fun c19 => ?_) (fun c19 => ?_)
          · refine zj_iconst C 4 dX12_go_174 ?_
            refine zj_goto (tgt := 179) C dX12_go_175 rfl ?_
            refine zj_putI C F 7 rfl zk_138 fl_X12_30 rfl fp_12_7 irc_4 dX12_go_179 ?_
            refine zj_pipeM (fun m20 e_m20 => ?_)
            refine zj_aload_n (j := 0) (i := 0) C rfl 1 rfl dX12_go_182 ?_
            refine zj_iload_n (j := 1) (i := 1) C rfl 0 rfl dX12_go_183 ?_
            refine zj_putI C F 9 rfl zk_138 fl_X12_40 rfl fp_12_9 h_y7 dX12_go_184 ?_
            refine zj_pipeM (fun m21 e_m21 => ?_)
            refine zj_aload_n (j := 0) (i := 0) C rfl 1 rfl dX12_go_187 ?_
            refine zj_dup C rfl dX12_go_188 ?_
            refine zj_getI C F 5 rfl zk_138 fl_X12_21 rfl dX12_go_189 (fun h22 => ?_)
            refine zj_iconst C 1 dX12_go_192 ?_
            refine zj_iadd C dX12_go_193 ?_
            refine zj_putI C F 5 rfl zk_138 fl_X12_21 rfl fp_12_5 (ir_w _) dX12_go_194 ?_
            refine zj_pipeM (fun m23 e_m23 => ?_)
            exact zrt_v C Z dX12_go_197
          · refine zj_iload_n (j := 1) (i := 1) C rfl 0 rfl dX12_go_150 ?_
            refine zj_bipush C 61 rfl dX12_go_151 ?_
            refine zj_icmp_eq C 174 h_y7 irc_61 dX12_go_153 rfl (fun c24 => ?_) (fun c24 => ?_)
            · refine zj_iconst C 4 dX12_go_174 ?_
              refine zj_goto (tgt := 179) C dX12_go_175 rfl ?_
              refine zj_putI C F 7 rfl zk_138 fl_X12_30 rfl fp_12_7 irc_4 dX12_go_179 ?_
              refine zj_pipeM (fun m25 e_m25 => ?_)
              refine zj_aload_n (j := 0) (i := 0) C rfl 1 rfl dX12_go_182 ?_
              refine zj_iload_n (j := 1) (i := 1) C rfl 0 rfl dX12_go_183 ?_
              refine zj_putI C F 9 rfl zk_138 fl_X12_40 rfl fp_12_9 h_y7 dX12_go_184 ?_
              refine zj_pipeM (fun m26 e_m26 => ?_)
              refine zj_aload_n (j := 0) (i := 0) C rfl 1 rfl dX12_go_187 ?_
              refine zj_dup C rfl dX12_go_188 ?_
              refine zj_getI C F 5 rfl zk_138 fl_X12_21 rfl dX12_go_189 (fun h27 => ?_)
              refine zj_iconst C 1 dX12_go_192 ?_
              refine zj_iadd C dX12_go_193 ?_
              refine zj_putI C F 5 rfl zk_138 fl_X12_21 rfl fp_12_5 (ir_w _) dX12_go_194 ?_
              refine zj_pipeM (fun m28 e_m28 => ?_)
              exact zrt_v C Z dX12_go_197
            · refine zj_iload_n (j := 1) (i := 1) C rfl 0 rfl dX12_go_156 ?_
              refine zj_bipush C 62 rfl dX12_go_157 ?_
              refine zj_icmp_eq C 174 h_y7 irc_62 dX12_go_159 rfl (fun c29 => ?_) (fun c29 => ?_)
              · refine zj_iconst C 4 dX12_go_174 ?_
                refine zj_goto (tgt := 179) C dX12_go_175 rfl ?_
                refine zj_putI C F 7 rfl zk_138 fl_X12_30 rfl fp_12_7 irc_4 dX12_go_179 ?_
                refine zj_pipeM (fun m30 e_m30 => ?_)
                refine zj_aload_n (j := 0) (i := 0) C rfl 1 rfl dX12_go_182 ?_
                refine zj_iload_n (j := 1) (i := 1) C rfl 0 rfl dX12_go_183 ?_
                refine zj_putI C F 9 rfl zk_138 fl_X12_40 rfl fp_12_9 h_y7 dX12_go_184 ?_
                refine zj_pipeM (fun m31 e_m31 => ?_)
                refine zj_aload_n (j := 0) (i := 0) C rfl 1 rfl dX12_go_187 ?_
                refine zj_dup C rfl dX12_go_188 ?_
                refine zj_getI C F 5 rfl zk_138 fl_X12_21 rfl dX12_go_189 (fun h32 => ?_)
                refine zj_iconst C 1 dX12_go_192 ?_
                refine zj_iadd C dX12_go_193 ?_
                refine zj_putI C F 5 rfl zk_138 fl_X12_21 rfl fp_12_5 (ir_w _) dX12_go_194 ?_
                refine zj_pipeM (fun m33 e_m33 => ?_)
                exact zrt_v C Z dX12_go_197
              · refine zj_iload_n (j := 1) (i := 1) C rfl 0 rfl dX12_go_162 ?_
                refine zj_bipush C 40 rfl dX12_go_163 ?_
                refine zj_icmp_eq C 174 h_y7 irc_40 dX12_go_165 rfl (fun c34 => ?_) (fun c34 => ?_)
                · refine zj_iconst C 4 dX12_go_174 ?_
                  refine zj_goto (tgt := 179) C dX12_go_175 rfl ?_
                  refine zj_putI C F 7 rfl zk_138 fl_X12_30 rfl fp_12_7 irc_4 dX12_go_179 ?_
                  refine zj_pipeM (fun m35 e_m35 => ?_)
                  refine zj_aload_n (j := 0) (i := 0) C rfl 1 rfl dX12_go_182 ?_
                  refine zj_iload_n (j := 1) (i := 1) C rfl 0 rfl dX12_go_183 ?_
                  refine zj_putI C F 9 rfl zk_138 fl_X12_40 rfl fp_12_9 h_y7 dX12_go_184 ?_
                  refine zj_pipeM (fun m36 e_m36 => ?_)
                  refine zj_aload_n (j := 0) (i := 0) C rfl 1 rfl dX12_go_187 ?_
                  refine zj_dup C rfl dX12_go_188 ?_
                  refine zj_getI C F 5 rfl zk_138 fl_X12_21 rfl dX12_go_189 (fun h37 => ?_)
                  refine zj_iconst C 1 dX12_go_192 ?_
                  refine zj_iadd C dX12_go_193 ?_
                  refine zj_putI C F 5 rfl zk_138 fl_X12_21 rfl fp_12_5 (ir_w _) dX12_go_194 ?_
                  refine zj_pipeM (fun m38 e_m38 => ?_)
                  exact zrt_v C Z dX12_go_197
                · refine zj_iload_n (j := 1) (i := 1) C rfl 0 rfl dX12_go_168 ?_
                  refine zj_bipush C 41 rfl dX12_go_169 ?_
                  refine zj_icmp_ne C 178 h_y7 irc_41 dX12_go_171 rfl (fun c39 => ?_) (fun c39 => ?_)
                  · refine zj_iconst C 4 dX12_go_174 ?_
                    refine zj_goto (tgt := 179) C dX12_go_175 rfl ?_
                    refine zj_putI C F 7 rfl zk_138 fl_X12_30 rfl fp_12_7 irc_4 dX12_go_179 ?_
                    refine zj_pipeM (fun m40 e_m40 => ?_)
                    refine zj_aload_n (j := 0) (i := 0) C rfl 1 rfl dX12_go_182 ?_
                    refine zj_iload_n (j := 1) (i := 1) C rfl 0 rfl dX12_go_183 ?_
                    refine zj_putI C F 9 rfl zk_138 fl_X12_40 rfl fp_12_9 h_y7 dX12_go_184 ?_
                    refine zj_pipeM (fun m41 e_m41 => ?_)
                    refine zj_aload_n (j := 0) (i := 0) C rfl 1 rfl dX12_go_187 ?_
                    refine zj_dup C rfl dX12_go_188 ?_
                    refine zj_getI C F 5 rfl zk_138 fl_X12_21 rfl dX12_go_189 (fun h42 => ?_)
                    refine zj_iconst C 1 dX12_go_192 ?_
                    refine zj_iadd C dX12_go_193 ?_
                    refine zj_putI C F 5 rfl zk_138 fl_X12_21 rfl fp_12_5 (ir_w _) dX12_go_194 ?_
                    refine zj_pipeM (fun m43 e_m43 => ?_)
                    exact zrt_v C Z dX12_go_197
                  · refine zj_iconst C 1 dX12_go_178 ?_
                    refine zj_putI C F 7 rfl zk_138 fl_X12_30 rfl fp_12_7 irc_1 dX12_go_179 ?_
                    refine zj_pipeM (fun m44 e_m44 => ?_)
                    refine zj_aload_n (j := 0) (i := 0) C rfl 1 rfl dX12_go_182 ?_
                    refine zj_iload_n (j := 1) (i := 1) C rfl 0 rfl dX12_go_183 ?_
                    refine zj_putI C F 9 rfl zk_138 fl_X12_40 rfl fp_12_9 h_y7 dX12_go_184 ?_
                    refine zj_pipeM (fun m45 e_m45 => ?_)
                    refine zj_aload_n (j := 0) (i := 0) C rfl 1 rfl dX12_go_187 ?_
                    refine zj_dup C rfl dX12_go_188 ?_
                    refine zj_getI C F 5 rfl zk_138 fl_X12_21 rfl dX12_go_189 (fun h46 => ?_)
                    refine zj_iconst C 1 dX12_go_192 ?_
                    refine zj_iadd C dX12_go_193 ?_
                    refine zj_putI C F 5 rfl zk_138 fl_X12_21 rfl fp_12_5 (ir_w _) dX12_go_194 ?_
                    refine zj_pipeM (fun m47 e_m47 => ?_)
                    exact zrt_v C Z dX12_go_197
      · refine zj_iload_n (j := 1) (i := 1) C rfl 0 rfl dX12_go_198 ?_
        refine zj_callSi C Z [.int (i32 y7)] [] cal_X12_isLetter sta_X12_isLetter ml_X12_33 rfl (by decide) (Nat.le_of_ble_eq_true rfl) rfl dX12_go_199 (fun q h => M_X12_isLetter l Γ F h_y7 m12 q h) (fun y48 m49 h_y48 => ?_)
        refine zj_istore_n (j := 2) (i := 2) C rfl [(2, .int (i32 y48)), (1, .int (i32 y7)), (0, .ref (zad Γ 138))] dX12_go_202 (by decide) rfl ?_
        refine zj_iconst C 1 dX12_go_203 ?_
        refine zj_istore_n (j := 3) (i := 3) C rfl [(3, .int (i32 1)), (2, .int (i32 y48)), (1, .int (i32 y7)), (0, .ref (zad Γ 138))] dX12_go_204 (by decide) rfl ?_
        refine zj_aload_n (j := 0) (i := 0) C rfl 3 rfl dX12_go_205 ?_
        refine zj_lconst (n := 0) C 0 rfl dX12_go_206 ?_
        refine zj_putL C F 12 rfl zk_138 fl_X12_43 rfl fp_12_12 lrc_0 dX12_go_207 ?_
        refine zj_pipeM (fun m50 e_m50 => ?_)
        refine zj_aload_n (j := 0) (i := 0) C rfl 3 rfl dX12_go_210 ?_
        refine zj_iconst C 0 dX12_go_211 ?_
        refine zj_putI C F 8 rfl zk_138 fl_X12_47 rfl fp_12_8 irc_0 dX12_go_212 ?_
        refine zj_pipeM (fun m51 e_m51 => ?_)
        exact zj_sub [3, 1, 0] rfl ((L_X12_go_0 l F C Z zN).1 y48 1 0 h_y48 irc_1 m51)
    · refine zj_iload_n (j := 1) (i := 1) C rfl 0 rfl dX12_go_198 ?_
      refine zj_callSi C Z [.int (i32 y7)] [] cal_X12_isLetter sta_X12_isLetter ml_X12_33 rfl (by decide) (Nat.le_of_ble_eq_true rfl) rfl dX12_go_199 (fun q h => M_X12_isLetter l Γ F h_y7 m9 q h) (fun y52 m53 h_y52 => ?_)
      refine zj_istore_n (j := 2) (i := 2) C rfl [(2, .int (i32 y52)), (1, .int (i32 y7)), (0, .ref (zad Γ 138))] dX12_go_202 (by decide) rfl ?_
      refine zj_iconst C 1 dX12_go_203 ?_
      refine zj_istore_n (j := 3) (i := 3) C rfl [(3, .int (i32 1)), (2, .int (i32 y52)), (1, .int (i32 y7)), (0, .ref (zad Γ 138))] dX12_go_204 (by decide) rfl ?_
      refine zj_aload_n (j := 0) (i := 0) C rfl 3 rfl dX12_go_205 ?_
      refine zj_lconst (n := 0) C 0 rfl dX12_go_206 ?_
      refine zj_putL C F 12 rfl zk_138 fl_X12_43 rfl fp_12_12 lrc_0 dX12_go_207 ?_
      refine zj_pipeM (fun m54 e_m54 => ?_)
      refine zj_aload_n (j := 0) (i := 0) C rfl 3 rfl dX12_go_210 ?_
      refine zj_iconst C 0 dX12_go_211 ?_
      refine zj_putI C F 8 rfl zk_138 fl_X12_47 rfl fp_12_8 irc_0 dX12_go_212 ?_
      refine zj_pipeM (fun m55 e_m55 => ?_)
      exact zj_sub [3, 1, 0] rfl ((L_X12_go_0 l F C Z zN).1 y52 1 0 h_y52 irc_1 m55)
  · refine zj_aload_n (j := 0) (i := 0) C rfl 0 rfl dX12_go_107 ?_
    refine zj_iconst C 0 dX12_go_108 ?_
    refine zj_putI C F 7 rfl zk_138 fl_X12_30 rfl fp_12_7 irc_0 dX12_go_109 ?_
    refine zj_pipeM (fun m56 e_m56 => ?_)
    exact zrt_v C Z dX12_go_112
noncomputable def b_X12_go_2 (rec : zMem → Option (Int × zMem))  (mem : zMem) : Option (Int × zMem) := if (mem 138 5) ≥ (mem 138 3) then (pipe (zup mem 138 6 (mem 138 5)) fun m5 => if (m5 138 3) ≤ (m5 138 4) then (f_X12_go_j96 m5) else (if (m5 138 6) < (m5 138 4) then (f_X12_go_j96 m5) else (pipe (zup m5 138 6 (m5 138 4)) fun m13 => pipe (zup m13 138 7 1) fun m14 => some (0, m14)))) else (if ix 139 (mem 138 5) then if (mem 139 (mem 138 5)) = 32 then (pipe (zup mem 138 5 (w32 ((mem 138 5) + 1))) fun m20 => rec m20) else (if ix 139 (mem 138 5) then if (mem 139 (mem 138 5)) = 10 then (pipe (zup mem 138 5 (w32 ((mem 138 5) + 1))) fun m26 => rec m26) else (pipe (zup mem 138 6 (mem 138 5)) fun m28 => if (m28 138 3) ≤ (m28 138 4) then (f_X12_go_j96 m28) else (if (m28 138 6) < (m28 138 4) then (f_X12_go_j96 m28) else (pipe (zup m28 138 6 (m28 138 4)) fun m36 => pipe (zup m36 138 7 1) fun m37 => some (0, m37)))) else none) else none)
noncomputable def f_X12_go_2 : Nat → zMem → Option (Int × zMem) := zfuel (fun _ => none) (b_X12_go_2)
set_option maxHeartbeats 4000000 in
theorem L_X12_go_2 (l : Launch) {Γ : zG} (F : zFull Γ) {X : zM} {q : Int × zMem} (C : zC X Γ "ShadowHeirsModel" cX12_go 5) (Z : zRt X l Γ 2 0 none q) : ∀ n : Nat, ∀  (mem : zMem), zJ X Γ 5 q (f_X12_go_2 n  mem) 0 [(0, .ref (zad Γ 138))] [] mem := by
  intro n
  induction n with
  | zero => intros; exact zj_none
  | succ n ih =>
    intro  mem
    show zJ X Γ 5 q (b_X12_go_2 (f_X12_go_2 n)  mem) _ _ _ _
    unfold b_X12_go_2
    refine zj_aload_n (j := 0) (i := 0) C rfl 0 rfl dX12_go_0 ?_
    refine zj_getI C F 5 rfl zk_138 fl_X12_21 rfl dX12_go_1 (fun h1 => ?_)
    refine zj_aload_n (j := 0) (i := 0) C rfl 0 rfl dX12_go_4 ?_
    refine zj_getI C F 3 rfl zk_138 fl_X12_18 rfl dX12_go_5 (fun h2 => ?_)
    refine zj_icmp_ge C 52 h1 h2 dX12_go_8 rfl (fun c3 => ?_) (fun c3 => ?_)
    · refine zj_aload_n (j := 0) (i := 0) C rfl 0 rfl dX12_go_52 ?_
      refine zj_aload_n (j := 0) (i := 0) C rfl 0 rfl dX12_go_53 ?_
      refine zj_getI C F 5 rfl zk_138 fl_X12_21 rfl dX12_go_54 (fun h4 => ?_)
      refine zj_putI C F 6 rfl zk_138 fl_X12_24 rfl fp_12_6 h4 dX12_go_57 ?_
      refine zj_pipeM (fun m5 e_m5 => ?_)
      refine zj_aload_n (j := 0) (i := 0) C rfl 0 rfl dX12_go_60 ?_
      refine zj_getI C F 3 rfl zk_138 fl_X12_18 rfl dX12_go_61 (fun h6 => ?_)
      refine zj_aload_n (j := 0) (i := 0) C rfl 0 rfl dX12_go_64 ?_
      refine zj_getI C F 4 rfl zk_138 fl_X12_27 rfl dX12_go_65 (fun h7 => ?_)
      refine zj_icmp_le C 96 h6 h7 dX12_go_68 rfl (fun c8 => ?_) (fun c8 => ?_)
      · exact zj_sub [0] rfl (J_X12_go_j96 l F C Z m5)
      · refine zj_aload_n (j := 0) (i := 0) C rfl 0 rfl dX12_go_71 ?_
        refine zj_getI C F 6 rfl zk_138 fl_X12_24 rfl dX12_go_72 (fun h9 => ?_)
        refine zj_aload_n (j := 0) (i := 0) C rfl 0 rfl dX12_go_75 ?_
        refine zj_getI C F 4 rfl zk_138 fl_X12_27 rfl dX12_go_76 (fun h10 => ?_)
        refine zj_icmp_lt C 96 h9 h10 dX12_go_79 rfl (fun c11 => ?_) (fun c11 => ?_)
        · exact zj_sub [0] rfl (J_X12_go_j96 l F C Z m5)
        · refine zj_aload_n (j := 0) (i := 0) C rfl 0 rfl dX12_go_82 ?_
          refine zj_aload_n (j := 0) (i := 0) C rfl 0 rfl dX12_go_83 ?_
          refine zj_getI C F 4 rfl zk_138 fl_X12_27 rfl dX12_go_84 (fun h12 => ?_)
          refine zj_putI C F 6 rfl zk_138 fl_X12_24 rfl fp_12_6 h12 dX12_go_87 ?_
          refine zj_pipeM (fun m13 e_m13 => ?_)
          refine zj_aload_n (j := 0) (i := 0) C rfl 0 rfl dX12_go_90 ?_
          refine zj_iconst C 1 dX12_go_91 ?_
          refine zj_putI C F 7 rfl zk_138 fl_X12_30 rfl fp_12_7 irc_1 dX12_go_92 ?_
          refine zj_pipeM (fun m14 e_m14 => ?_)
          exact zrt_v C Z dX12_go_95
    · refine zj_aload_n (j := 0) (i := 0) C rfl 0 rfl dX12_go_11 ?_
      refine zj_getR C F zk_138 fl_X12_7 rfl rf_138_1 dX12_go_12 ?_
      refine zj_aload_n (j := 0) (i := 0) C rfl 0 rfl dX12_go_15 ?_
      refine zj_getI C F 5 rfl zk_138 fl_X12_21 rfl dX12_go_16 (fun h15 => ?_)
      refine zj_iaload C F zk_139 h15 dX12_go_19 (fun c16 h17 => ?_)
      refine zj_bipush C 32 rfl dX12_go_20 ?_
      refine zj_icmp_eq C 39 h17 irc_32 dX12_go_22 rfl (fun c18 => ?_) (fun c18 => ?_)
      · refine zj_aload_n (j := 0) (i := 0) C rfl 0 rfl dX12_go_39 ?_
        refine zj_dup C rfl dX12_go_40 ?_
        refine zj_getI C F 5 rfl zk_138 fl_X12_21 rfl dX12_go_41 (fun h19 => ?_)
        refine zj_iconst C 1 dX12_go_44 ?_
        refine zj_iadd C dX12_go_45 ?_
        refine zj_putI C F 5 rfl zk_138 fl_X12_21 rfl fp_12_5 (ir_w _) dX12_go_46 ?_
        refine zj_pipeM (fun m20 e_m20 => ?_)
        refine zj_goto (tgt := 0) C dX12_go_49 rfl ?_
        exact zj_sub [0] rfl (ih m20)
      · refine zj_aload_n (j := 0) (i := 0) C rfl 0 rfl dX12_go_25 ?_
        refine zj_getR C F zk_138 fl_X12_7 rfl rf_138_1 dX12_go_26 ?_
        refine zj_aload_n (j := 0) (i := 0) C rfl 0 rfl dX12_go_29 ?_
        refine zj_getI C F 5 rfl zk_138 fl_X12_21 rfl dX12_go_30 (fun h21 => ?_)
        refine zj_iaload C F zk_139 h21 dX12_go_33 (fun c22 h23 => ?_)
        refine zj_bipush C 10 rfl dX12_go_34 ?_
        refine zj_icmp_ne C 52 h23 irc_10 dX12_go_36 rfl (fun c24 => ?_) (fun c24 => ?_)
        · refine zj_aload_n (j := 0) (i := 0) C rfl 0 rfl dX12_go_39 ?_
          refine zj_dup C rfl dX12_go_40 ?_
          refine zj_getI C F 5 rfl zk_138 fl_X12_21 rfl dX12_go_41 (fun h25 => ?_)
          refine zj_iconst C 1 dX12_go_44 ?_
          refine zj_iadd C dX12_go_45 ?_
          refine zj_putI C F 5 rfl zk_138 fl_X12_21 rfl fp_12_5 (ir_w _) dX12_go_46 ?_
          refine zj_pipeM (fun m26 e_m26 => ?_)
          refine zj_goto (tgt := 0) C dX12_go_49 rfl ?_
          exact zj_sub [0] rfl (ih m26)
        · refine zj_aload_n (j := 0) (i := 0) C rfl 0 rfl dX12_go_52 ?_
          refine zj_aload_n (j := 0) (i := 0) C rfl 0 rfl dX12_go_53 ?_
          refine zj_getI C F 5 rfl zk_138 fl_X12_21 rfl dX12_go_54 (fun h27 => ?_)
          refine zj_putI C F 6 rfl zk_138 fl_X12_24 rfl fp_12_6 h27 dX12_go_57 ?_
          refine zj_pipeM (fun m28 e_m28 => ?_)
          refine zj_aload_n (j := 0) (i := 0) C rfl 0 rfl dX12_go_60 ?_
          refine zj_getI C F 3 rfl zk_138 fl_X12_18 rfl dX12_go_61 (fun h29 => ?_)
          refine zj_aload_n (j := 0) (i := 0) C rfl 0 rfl dX12_go_64 ?_
          refine zj_getI C F 4 rfl zk_138 fl_X12_27 rfl dX12_go_65 (fun h30 => ?_)
          refine zj_icmp_le C 96 h29 h30 dX12_go_68 rfl (fun c31 => ?_) (fun c31 => ?_)
          · exact zj_sub [0] rfl (J_X12_go_j96 l F C Z m28)
          · refine zj_aload_n (j := 0) (i := 0) C rfl 0 rfl dX12_go_71 ?_
            refine zj_getI C F 6 rfl zk_138 fl_X12_24 rfl dX12_go_72 (fun h32 => ?_)
            refine zj_aload_n (j := 0) (i := 0) C rfl 0 rfl dX12_go_75 ?_
            refine zj_getI C F 4 rfl zk_138 fl_X12_27 rfl dX12_go_76 (fun h33 => ?_)
            refine zj_icmp_lt C 96 h32 h33 dX12_go_79 rfl (fun c34 => ?_) (fun c34 => ?_)
            · exact zj_sub [0] rfl (J_X12_go_j96 l F C Z m28)
            · refine zj_aload_n (j := 0) (i := 0) C rfl 0 rfl dX12_go_82 ?_
              refine zj_aload_n (j := 0) (i := 0) C rfl 0 rfl dX12_go_83 ?_
              refine zj_getI C F 4 rfl zk_138 fl_X12_27 rfl dX12_go_84 (fun h35 => ?_)
              refine zj_putI C F 6 rfl zk_138 fl_X12_24 rfl fp_12_6 h35 dX12_go_87 ?_
              refine zj_pipeM (fun m36 e_m36 => ?_)
              refine zj_aload_n (j := 0) (i := 0) C rfl 0 rfl dX12_go_90 ?_
              refine zj_iconst C 1 dX12_go_91 ?_
              refine zj_putI C F 7 rfl zk_138 fl_X12_30 rfl fp_12_7 irc_1 dX12_go_92 ?_
              refine zj_pipeM (fun m37 e_m37 => ?_)
              exact zrt_v C Z dX12_go_95
noncomputable def f_X12_go  (mem : zMem) : Option (Int × zMem) := f_X12_go_2 zN mem
set_option maxHeartbeats 4000000 in
theorem M_X12_go (l : Launch) (Γ : zG) (F : zFull Γ)    (mem : zMem) (q : Int × zMem) (h : f_X12_go  mem = some q) : zMet l yX12_go cX12_go 5 none 2 Γ 0 [.ref (zad Γ 138)] mem q := by
  refine zMet_of (own := "ShadowHeirsModel") (by decide) rfl (Nat.le_of_ble_eq_true rfl) (fun X C Z => ?_)
  revert h
  show zJ X Γ 5 q (f_X12_go  mem) 0 [(0, .ref (zad Γ 138))] [] mem
  unfold f_X12_go
  exact zj_sub [0] rfl ((L_X12_go_2 l F C Z zN) mem)
noncomputable def f_X12_spelt_j65 (v4 : Int) (v5 : Int) (w6 : Int) (mem : zMem) : Option (Int × zMem) := if v4 ≤ 0 then (if v5 ≤ 0 then (some (w6, mem)) else (pipe (w64 ((w64 ((w64 (27 * w6)) + v5)) - 96)) fun y3 => some (y3, mem))) else (pipe (w64 ((w64 ((w64 (27 * w6)) + v4)) - 96)) fun y4 => if v5 ≤ 0 then (some (y4, mem)) else (pipe (w64 ((w64 ((w64 (27 * y4)) + v5)) - 96)) fun y6 => some (y6, mem)))
set_option maxHeartbeats 4000000 in
theorem J_X12_spelt_j65 (l : Launch) {Γ : zG} (F : zFull Γ) {X : zM} {q : Int × zMem} (C : zC X Γ "ShadowHeirsModel" cX12_spelt 8) (Z : zRt X l Γ 1 2 (some .long) q) {v4 : Int} {v5 : Int} {w6 : Int} (h_v4 : ir v4) (h_v5 : ir v5) (h_w6 : lr w6) (mem : zMem) : zJ X Γ 8 q (f_X12_spelt_j65 v4 v5 w6 mem) 65 [(4, .int (i32 v4)), (5, .int (i32 v5)), (6, .long (i64 w6))] [] mem := by
  unfold f_X12_spelt_j65
  refine zj_iload C 0 rfl dX12_spelt_65 ?_
  refine zj_if_le C 86 h_v4 dX12_spelt_67 rfl (fun c1 => ?_) (fun c1 => ?_)
  · refine zj_iload C 1 rfl dX12_spelt_86 ?_
    refine zj_if_le C 107 h_v5 dX12_spelt_88 rfl (fun c2 => ?_) (fun c2 => ?_)
    · refine zj_lload C 2 rfl dX12_spelt_107 ?_
      exact zrt_l C Z h_w6 dX12_spelt_109
    · refine zj_ldc2 C 27 kc_X12_54 dX12_spelt_91 ?_
      refine zj_lload C 2 rfl dX12_spelt_94 ?_
      refine zj_lmul C dX12_spelt_96 ?_
      refine zj_iload C 1 rfl dX12_spelt_97 ?_
      refine zj_i2l C h_v5 dX12_spelt_99 ?_
      refine zj_ladd C dX12_spelt_100 ?_
      refine zj_ldc2 C 96 kc_X12_56 dX12_spelt_101 ?_
      refine zj_lsub C dX12_spelt_104 ?_
      refine zj_pipeL (fun y3 e_y3 => ?_)
      have h_y3 := lr_eq e_y3 (lr_w _)
      refine zj_lstore C [(6, .long (i64 y3)), (4, .int (i32 v4)), (5, .int (i32 v5))] dX12_spelt_105 (by decide) rfl ?_
      refine zj_lload C 0 rfl dX12_spelt_107 ?_
      exact zrt_l C Z h_y3 dX12_spelt_109
  · refine zj_ldc2 C 27 kc_X12_54 dX12_spelt_70 ?_
    refine zj_lload C 2 rfl dX12_spelt_73 ?_
    refine zj_lmul C dX12_spelt_75 ?_
    refine zj_iload C 0 rfl dX12_spelt_76 ?_
    refine zj_i2l C h_v4 dX12_spelt_78 ?_
    refine zj_ladd C dX12_spelt_79 ?_
    refine zj_ldc2 C 96 kc_X12_56 dX12_spelt_80 ?_
    refine zj_lsub C dX12_spelt_83 ?_
    refine zj_pipeL (fun y4 e_y4 => ?_)
    have h_y4 := lr_eq e_y4 (lr_w _)
    refine zj_lstore C [(6, .long (i64 y4)), (4, .int (i32 v4)), (5, .int (i32 v5))] dX12_spelt_84 (by decide) rfl ?_
    refine zj_iload C 2 rfl dX12_spelt_86 ?_
    refine zj_if_le C 107 h_v5 dX12_spelt_88 rfl (fun c5 => ?_) (fun c5 => ?_)
    · refine zj_lload C 0 rfl dX12_spelt_107 ?_
      exact zrt_l C Z h_y4 dX12_spelt_109
    · refine zj_ldc2 C 27 kc_X12_54 dX12_spelt_91 ?_
      refine zj_lload C 0 rfl dX12_spelt_94 ?_
      refine zj_lmul C dX12_spelt_96 ?_
      refine zj_iload C 2 rfl dX12_spelt_97 ?_
      refine zj_i2l C h_v5 dX12_spelt_99 ?_
      refine zj_ladd C dX12_spelt_100 ?_
      refine zj_ldc2 C 96 kc_X12_56 dX12_spelt_101 ?_
      refine zj_lsub C dX12_spelt_104 ?_
      refine zj_pipeL (fun y6 e_y6 => ?_)
      have h_y6 := lr_eq e_y6 (lr_w _)
      refine zj_lstore C [(6, .long (i64 y6)), (4, .int (i32 v4)), (5, .int (i32 v5))] dX12_spelt_105 (by decide) rfl ?_
      refine zj_lload C 0 rfl dX12_spelt_107 ?_
      exact zrt_l C Z h_y6 dX12_spelt_109
noncomputable def f_X12_spelt (x0 : Int) (x1 : Int) (x2 : Int) (x3 : Int) (x4 : Int) (x5 : Int) (mem : zMem) : Option (Int × zMem) := pipe (w64 (x0 - 96)) fun y1 => if x1 ≤ 0 then (if x2 ≤ 0 then (if x3 ≤ 0 then (f_X12_spelt_j65 x4 x5 y1 mem) else (pipe (w64 ((w64 ((w64 (27 * y1)) + x3)) - 96)) fun y5 => f_X12_spelt_j65 x4 x5 y5 mem)) else (pipe (w64 ((w64 ((w64 (27 * y1)) + x2)) - 96)) fun y6 => if x3 ≤ 0 then (f_X12_spelt_j65 x4 x5 y6 mem) else (pipe (w64 ((w64 ((w64 (27 * y6)) + x3)) - 96)) fun y8 => f_X12_spelt_j65 x4 x5 y8 mem))) else (pipe (w64 ((w64 ((w64 (27 * y1)) + x1)) - 96)) fun y9 => if x2 ≤ 0 then (if x3 ≤ 0 then (f_X12_spelt_j65 x4 x5 y9 mem) else (pipe (w64 ((w64 ((w64 (27 * y9)) + x3)) - 96)) fun y12 => f_X12_spelt_j65 x4 x5 y12 mem)) else (pipe (w64 ((w64 ((w64 (27 * y9)) + x2)) - 96)) fun y13 => if x3 ≤ 0 then (f_X12_spelt_j65 x4 x5 y13 mem) else (pipe (w64 ((w64 ((w64 (27 * y13)) + x3)) - 96)) fun y15 => f_X12_spelt_j65 x4 x5 y15 mem)))
set_option maxHeartbeats 4000000 in
theorem M_X12_spelt (l : Launch) (Γ : zG) (F : zFull Γ)  {x0 : Int} {x1 : Int} {x2 : Int} {x3 : Int} {x4 : Int} {x5 : Int} (h_x0 : ir x0) (h_x1 : ir x1) (h_x2 : ir x2) (h_x3 : ir x3) (h_x4 : ir x4) (h_x5 : ir x5) (mem : zMem) (q : Int × zMem) (h : f_X12_spelt x0 x1 x2 x3 x4 x5 mem = some q) : zMet l yX12_spelt cX12_spelt 8 (some .long) 1 Γ 2 [.int (i32 x0), .int (i32 x1), .int (i32 x2), .int (i32 x3), .int (i32 x4), .int (i32 x5)] mem q := by
  refine zMet_of (own := "ShadowHeirsModel") (by decide) rfl (Nat.le_of_ble_eq_true rfl) (fun X C Z => ?_)
  revert h
  show zJ X Γ 8 q (f_X12_spelt x0 x1 x2 x3 x4 x5 mem) 0 [(0, .int (i32 x0)), (1, .int (i32 x1)), (2, .int (i32 x2)), (3, .int (i32 x3)), (4, .int (i32 x4)), (5, .int (i32 x5))] [] mem
  unfold f_X12_spelt
  refine zj_iload_n (j := 0) (i := 0) C rfl 0 rfl dX12_spelt_0 ?_
  refine zj_i2l C h_x0 dX12_spelt_1 ?_
  refine zj_ldc2 C 96 kc_X12_56 dX12_spelt_2 ?_
  refine zj_lsub C dX12_spelt_5 ?_
  refine zj_pipeL (fun y1 e_y1 => ?_)
  have h_y1 := lr_eq e_y1 (lr_w _)
  refine zj_lstore C [(6, .long (i64 y1)), (0, .int (i32 x0)), (1, .int (i32 x1)), (2, .int (i32 x2)), (3, .int (i32 x3)), (4, .int (i32 x4)), (5, .int (i32 x5))] dX12_spelt_6 (by decide) rfl ?_
  refine zj_iload_n (j := 1) (i := 1) C rfl 2 rfl dX12_spelt_8 ?_
  refine zj_if_le C 27 h_x1 dX12_spelt_9 rfl (fun c2 => ?_) (fun c2 => ?_)
  · refine zj_iload_n (j := 2) (i := 2) C rfl 3 rfl dX12_spelt_27 ?_
    refine zj_if_le C 46 h_x2 dX12_spelt_28 rfl (fun c3 => ?_) (fun c3 => ?_)
    · refine zj_iload_n (j := 3) (i := 3) C rfl 4 rfl dX12_spelt_46 ?_
      refine zj_if_le C 65 h_x3 dX12_spelt_47 rfl (fun c4 => ?_) (fun c4 => ?_)
      · exact zj_sub [5, 6, 0] rfl (J_X12_spelt_j65 l F C Z h_x4 h_x5 h_y1 mem)
      · refine zj_ldc2 C 27 kc_X12_54 dX12_spelt_50 ?_
        refine zj_lload C 0 rfl dX12_spelt_53 ?_
        refine zj_lmul C dX12_spelt_55 ?_
        refine zj_iload_n (j := 3) (i := 3) C rfl 4 rfl dX12_spelt_56 ?_
        refine zj_i2l C h_x3 dX12_spelt_57 ?_
        refine zj_ladd C dX12_spelt_58 ?_
        refine zj_ldc2 C 96 kc_X12_56 dX12_spelt_59 ?_
        refine zj_lsub C dX12_spelt_62 ?_
        refine zj_pipeL (fun y5 e_y5 => ?_)
        have h_y5 := lr_eq e_y5 (lr_w _)
        refine zj_lstore C [(6, .long (i64 y5)), (0, .int (i32 x0)), (1, .int (i32 x1)), (2, .int (i32 x2)), (3, .int (i32 x3)), (4, .int (i32 x4)), (5, .int (i32 x5))] dX12_spelt_63 (by decide) rfl ?_
        exact zj_sub [5, 6, 0] rfl (J_X12_spelt_j65 l F C Z h_x4 h_x5 h_y5 mem)
    · refine zj_ldc2 C 27 kc_X12_54 dX12_spelt_31 ?_
      refine zj_lload C 0 rfl dX12_spelt_34 ?_
      refine zj_lmul C dX12_spelt_36 ?_
      refine zj_iload_n (j := 2) (i := 2) C rfl 3 rfl dX12_spelt_37 ?_
      refine zj_i2l C h_x2 dX12_spelt_38 ?_
      refine zj_ladd C dX12_spelt_39 ?_
      refine zj_ldc2 C 96 kc_X12_56 dX12_spelt_40 ?_
      refine zj_lsub C dX12_spelt_43 ?_
      refine zj_pipeL (fun y6 e_y6 => ?_)
      have h_y6 := lr_eq e_y6 (lr_w _)
      refine zj_lstore C [(6, .long (i64 y6)), (0, .int (i32 x0)), (1, .int (i32 x1)), (2, .int (i32 x2)), (3, .int (i32 x3)), (4, .int (i32 x4)), (5, .int (i32 x5))] dX12_spelt_44 (by decide) rfl ?_
      refine zj_iload_n (j := 3) (i := 3) C rfl 4 rfl dX12_spelt_46 ?_
      refine zj_if_le C 65 h_x3 dX12_spelt_47 rfl (fun c7 => ?_) (fun c7 => ?_)
      · exact zj_sub [5, 6, 0] rfl (J_X12_spelt_j65 l F C Z h_x4 h_x5 h_y6 mem)
      · refine zj_ldc2 C 27 kc_X12_54 dX12_spelt_50 ?_
        refine zj_lload C 0 rfl dX12_spelt_53 ?_
        refine zj_lmul C dX12_spelt_55 ?_
        refine zj_iload_n (j := 3) (i := 3) C rfl 4 rfl dX12_spelt_56 ?_
        refine zj_i2l C h_x3 dX12_spelt_57 ?_
        refine zj_ladd C dX12_spelt_58 ?_
        refine zj_ldc2 C 96 kc_X12_56 dX12_spelt_59 ?_
        refine zj_lsub C dX12_spelt_62 ?_
        refine zj_pipeL (fun y8 e_y8 => ?_)
        have h_y8 := lr_eq e_y8 (lr_w _)
        refine zj_lstore C [(6, .long (i64 y8)), (0, .int (i32 x0)), (1, .int (i32 x1)), (2, .int (i32 x2)), (3, .int (i32 x3)), (4, .int (i32 x4)), (5, .int (i32 x5))] dX12_spelt_63 (by decide) rfl ?_
        exact zj_sub [5, 6, 0] rfl (J_X12_spelt_j65 l F C Z h_x4 h_x5 h_y8 mem)
  · refine zj_ldc2 C 27 kc_X12_54 dX12_spelt_12 ?_
    refine zj_lload C 0 rfl dX12_spelt_15 ?_
    refine zj_lmul C dX12_spelt_17 ?_
    refine zj_iload_n (j := 1) (i := 1) C rfl 2 rfl dX12_spelt_18 ?_
    refine zj_i2l C h_x1 dX12_spelt_19 ?_
    refine zj_ladd C dX12_spelt_20 ?_
    refine zj_ldc2 C 96 kc_X12_56 dX12_spelt_21 ?_
    refine zj_lsub C dX12_spelt_24 ?_
    refine zj_pipeL (fun y9 e_y9 => ?_)
    have h_y9 := lr_eq e_y9 (lr_w _)
    refine zj_lstore C [(6, .long (i64 y9)), (0, .int (i32 x0)), (1, .int (i32 x1)), (2, .int (i32 x2)), (3, .int (i32 x3)), (4, .int (i32 x4)), (5, .int (i32 x5))] dX12_spelt_25 (by decide) rfl ?_
    refine zj_iload_n (j := 2) (i := 2) C rfl 3 rfl dX12_spelt_27 ?_
    refine zj_if_le C 46 h_x2 dX12_spelt_28 rfl (fun c10 => ?_) (fun c10 => ?_)
    · refine zj_iload_n (j := 3) (i := 3) C rfl 4 rfl dX12_spelt_46 ?_
      refine zj_if_le C 65 h_x3 dX12_spelt_47 rfl (fun c11 => ?_) (fun c11 => ?_)
      · exact zj_sub [5, 6, 0] rfl (J_X12_spelt_j65 l F C Z h_x4 h_x5 h_y9 mem)
      · refine zj_ldc2 C 27 kc_X12_54 dX12_spelt_50 ?_
        refine zj_lload C 0 rfl dX12_spelt_53 ?_
        refine zj_lmul C dX12_spelt_55 ?_
        refine zj_iload_n (j := 3) (i := 3) C rfl 4 rfl dX12_spelt_56 ?_
        refine zj_i2l C h_x3 dX12_spelt_57 ?_
        refine zj_ladd C dX12_spelt_58 ?_
        refine zj_ldc2 C 96 kc_X12_56 dX12_spelt_59 ?_
        refine zj_lsub C dX12_spelt_62 ?_
        refine zj_pipeL (fun y12 e_y12 => ?_)
        have h_y12 := lr_eq e_y12 (lr_w _)
        refine zj_lstore C [(6, .long (i64 y12)), (0, .int (i32 x0)), (1, .int (i32 x1)), (2, .int (i32 x2)), (3, .int (i32 x3)), (4, .int (i32 x4)), (5, .int (i32 x5))] dX12_spelt_63 (by decide) rfl ?_
        exact zj_sub [5, 6, 0] rfl (J_X12_spelt_j65 l F C Z h_x4 h_x5 h_y12 mem)
    · refine zj_ldc2 C 27 kc_X12_54 dX12_spelt_31 ?_
      refine zj_lload C 0 rfl dX12_spelt_34 ?_
      refine zj_lmul C dX12_spelt_36 ?_
      refine zj_iload_n (j := 2) (i := 2) C rfl 3 rfl dX12_spelt_37 ?_
      refine zj_i2l C h_x2 dX12_spelt_38 ?_
      refine zj_ladd C dX12_spelt_39 ?_
      refine zj_ldc2 C 96 kc_X12_56 dX12_spelt_40 ?_
      refine zj_lsub C dX12_spelt_43 ?_
      refine zj_pipeL (fun y13 e_y13 => ?_)
      have h_y13 := lr_eq e_y13 (lr_w _)
      refine zj_lstore C [(6, .long (i64 y13)), (0, .int (i32 x0)), (1, .int (i32 x1)), (2, .int (i32 x2)), (3, .int (i32 x3)), (4, .int (i32 x4)), (5, .int (i32 x5))] dX12_spelt_44 (by decide) rfl ?_
      refine zj_iload_n (j := 3) (i := 3) C rfl 4 rfl dX12_spelt_46 ?_
      refine zj_if_le C 65 h_x3 dX12_spelt_47 rfl (fun c14 => ?_) (fun c14 => ?_)
      · exact zj_sub [5, 6, 0] rfl (J_X12_spelt_j65 l F C Z h_x4 h_x5 h_y13 mem)
      · refine zj_ldc2 C 27 kc_X12_54 dX12_spelt_50 ?_
        refine zj_lload C 0 rfl dX12_spelt_53 ?_
        refine zj_lmul C dX12_spelt_55 ?_
        refine zj_iload_n (j := 3) (i := 3) C rfl 4 rfl dX12_spelt_56 ?_
        refine zj_i2l C h_x3 dX12_spelt_57 ?_
        refine zj_ladd C dX12_spelt_58 ?_
        refine zj_ldc2 C 96 kc_X12_56 dX12_spelt_59 ?_
        refine zj_lsub C dX12_spelt_62 ?_
        refine zj_pipeL (fun y15 e_y15 => ?_)
        have h_y15 := lr_eq e_y15 (lr_w _)
        refine zj_lstore C [(6, .long (i64 y15)), (0, .int (i32 x0)), (1, .int (i32 x1)), (2, .int (i32 x2)), (3, .int (i32 x3)), (4, .int (i32 x4)), (5, .int (i32 x5))] dX12_spelt_63 (by decide) rfl ?_
        exact zj_sub [5, 6, 0] rfl (J_X12_spelt_j65 l F C Z h_x4 h_x5 h_y15 mem)
noncomputable def f_X12_wordOf (x0 : Int) (mem : zMem) : Option (Int × zMem) := if x0 = 0 then (zbind (f_X12_spelt 103 114 111 117 110 100 mem) fun y2 m3 => some (y2, m3)) else (if x0 = 1 then (zbind (f_X12_spelt 115 116 111 110 101 115 mem) fun y5 m6 => some (y5, m6)) else (if x0 = 2 then (zbind (f_X12_spelt 104 111 117 115 101 0 mem) fun y8 m9 => some (y8, m9)) else (if x0 = 3 then (zbind (f_X12_spelt 112 101 114 115 111 110 mem) fun y11 m12 => some (y11, m12)) else (if x0 = 4 then (zbind (f_X12_spelt 115 117 110 0 0 0 mem) fun y14 m15 => some (y14, m15)) else (if x0 = 5 then (zbind (f_X12_spelt 101 97 115 116 0 0 mem) fun y17 m18 => some (y17, m18)) else (if x0 = 6 then (zbind (f_X12_spelt 115 111 117 116 104 0 mem) fun y20 m21 => some (y20, m21)) else (if x0 = 7 then (zbind (f_X12_spelt 119 101 115 116 0 0 mem) fun y23 m24 => some (y23, m24)) else (if x0 = 8 then (zbind (f_X12_spelt 110 111 114 116 104 0 mem) fun y26 m27 => some (y26, m27)) else (if x0 = 9 then (zbind (f_X12_spelt 108 97 121 0 0 0 mem) fun y29 m30 => some (y29, m30)) else (if x0 = 10 then (zbind (f_X12_spelt 116 101 97 114 0 0 mem) fun y32 m33 => some (y32, m33)) else (if x0 = 11 then (zbind (f_X12_spelt 98 117 114 121 0 0 mem) fun y35 m36 => some (y35, m36)) else (if x0 = 12 then (zbind (f_X12_spelt 104 111 117 114 0 0 mem) fun y38 m39 => some (y38, m39)) else (if x0 = 13 then (zbind (f_X12_spelt 111 114 0 0 0 0 mem) fun y41 m42 => some (y41, m42)) else (if x0 = 14 then (zbind (f_X12_spelt 97 110 100 0 0 0 mem) fun y44 m45 => some (y44, m45)) else (if x0 = 15 then (zbind (f_X12_spelt 110 111 116 0 0 0 mem) fun y47 m48 => some (y47, m48)) else (if x0 = 16 then (zbind (f_X12_spelt 115 104 97 100 101 100 mem) fun y50 m51 => some (y50, m51)) else (if x0 = 17 then (zbind (f_X12_spelt 112 111 111 114 0 0 mem) fun y53 m54 => some (y53, m54)) else (if x0 = 18 then (zbind (f_X12_spelt 104 101 105 114 0 0 mem) fun y56 m57 => some (y56, m57)) else (if x0 = 19 then (zbind (f_X12_spelt 111 102 0 0 0 0 mem) fun y59 m60 => some (y59, m60)) else (if x0 = 20 then (zbind (f_X12_spelt 119 101 97 108 116 104 mem) fun y62 m63 => some (y62, m63)) else (if x0 = 21 then (zbind (f_X12_spelt 120 0 0 0 0 0 mem) fun y65 m66 => some (y65, m66)) else (if x0 = 22 then (zbind (f_X12_spelt 121 0 0 0 0 0 mem) fun y68 m69 => some (y68, m69)) else (zbind (f_X12_spelt 110 117 109 98 101 114 mem) fun y70 m71 => some (y70, m71))))))))))))))))))))))))
set_option maxHeartbeats 4000000 in
theorem M_X12_wordOf (l : Launch) (Γ : zG) (F : zFull Γ)  {x0 : Int} (h_x0 : ir x0) (mem : zMem) (q : Int × zMem) (h : f_X12_wordOf x0 mem = some q) : zMet l yX12_wordOf cX12_wordOf 1 (some .long) 2 Γ 2 [.int (i32 x0)] mem q := by
  refine zMet_of (own := "ShadowHeirsModel") (by decide) rfl (Nat.le_of_ble_eq_true rfl) (fun X C Z => ?_)
  revert h
  show zJ X Γ 1 q (f_X12_wordOf x0 mem) 0 [(0, .int (i32 x0))] [] mem
  unfold f_X12_wordOf
  refine zj_iload_n (j := 0) (i := 0) C rfl 0 rfl dX12_wordOf_0 ?_
  refine zj_split (fun c1 => ?_) (fun c1 => ?_)
  · refine zj_tableIn (off := 107) C 0 108 h_x0 c1 dX12_wordOf_1 rfl rfl ?_
    refine zj_bipush C 103 rfl dX12_wordOf_108 ?_
    refine zj_bipush C 114 rfl dX12_wordOf_110 ?_
    refine zj_bipush C 111 rfl dX12_wordOf_112 ?_
    refine zj_bipush C 117 rfl dX12_wordOf_114 ?_
    refine zj_bipush C 110 rfl dX12_wordOf_116 ?_
    refine zj_bipush C 100 rfl dX12_wordOf_118 ?_
    refine zj_callSl C Z [.int (i32 103), .int (i32 114), .int (i32 111), .int (i32 117), .int (i32 110), .int (i32 100)] [] cal_X12_spelt sta_X12_spelt ml_X12_58 rfl (by decide) (Nat.le_of_ble_eq_true rfl) rfl dX12_wordOf_120 (fun q h => M_X12_spelt l Γ F irc_103 irc_114 irc_111 irc_117 irc_110 irc_100 mem q h) (fun y2 m3 h_y2 => ?_)
    exact zrt_l C Z h_y2 dX12_wordOf_123
  · refine zj_split (fun c4 => ?_) (fun c4 => ?_)
    · refine zj_tableIn (off := 123) C 1 124 h_x0 c4 dX12_wordOf_1 rfl rfl ?_
      refine zj_bipush C 115 rfl dX12_wordOf_124 ?_
      refine zj_bipush C 116 rfl dX12_wordOf_126 ?_
      refine zj_bipush C 111 rfl dX12_wordOf_128 ?_
      refine zj_bipush C 110 rfl dX12_wordOf_130 ?_
      refine zj_bipush C 101 rfl dX12_wordOf_132 ?_
      refine zj_bipush C 115 rfl dX12_wordOf_134 ?_
      refine zj_callSl C Z [.int (i32 115), .int (i32 116), .int (i32 111), .int (i32 110), .int (i32 101), .int (i32 115)] [] cal_X12_spelt sta_X12_spelt ml_X12_58 rfl (by decide) (Nat.le_of_ble_eq_true rfl) rfl dX12_wordOf_136 (fun q h => M_X12_spelt l Γ F irc_115 irc_116 irc_111 irc_110 irc_101 irc_115 mem q h) (fun y5 m6 h_y5 => ?_)
      exact zrt_l C Z h_y5 dX12_wordOf_139
    · refine zj_split (fun c7 => ?_) (fun c7 => ?_)
      · refine zj_tableIn (off := 139) C 2 140 h_x0 c7 dX12_wordOf_1 rfl rfl ?_
        refine zj_bipush C 104 rfl dX12_wordOf_140 ?_
        refine zj_bipush C 111 rfl dX12_wordOf_142 ?_
        refine zj_bipush C 117 rfl dX12_wordOf_144 ?_
        refine zj_bipush C 115 rfl dX12_wordOf_146 ?_
        refine zj_bipush C 101 rfl dX12_wordOf_148 ?_
        refine zj_iconst C 0 dX12_wordOf_150 ?_
        refine zj_callSl C Z [.int (i32 104), .int (i32 111), .int (i32 117), .int (i32 115), .int (i32 101), .int (i32 0)] [] cal_X12_spelt sta_X12_spelt ml_X12_58 rfl (by decide) (Nat.le_of_ble_eq_true rfl) rfl dX12_wordOf_151 (fun q h => M_X12_spelt l Γ F irc_104 irc_111 irc_117 irc_115 irc_101 irc_0 mem q h) (fun y8 m9 h_y8 => ?_)
        exact zrt_l C Z h_y8 dX12_wordOf_154
      · refine zj_split (fun c10 => ?_) (fun c10 => ?_)
        · refine zj_tableIn (off := 154) C 3 155 h_x0 c10 dX12_wordOf_1 rfl rfl ?_
          refine zj_bipush C 112 rfl dX12_wordOf_155 ?_
          refine zj_bipush C 101 rfl dX12_wordOf_157 ?_
          refine zj_bipush C 114 rfl dX12_wordOf_159 ?_
          refine zj_bipush C 115 rfl dX12_wordOf_161 ?_
          refine zj_bipush C 111 rfl dX12_wordOf_163 ?_
          refine zj_bipush C 110 rfl dX12_wordOf_165 ?_
          refine zj_callSl C Z [.int (i32 112), .int (i32 101), .int (i32 114), .int (i32 115), .int (i32 111), .int (i32 110)] [] cal_X12_spelt sta_X12_spelt ml_X12_58 rfl (by decide) (Nat.le_of_ble_eq_true rfl) rfl dX12_wordOf_167 (fun q h => M_X12_spelt l Γ F irc_112 irc_101 irc_114 irc_115 irc_111 irc_110 mem q h) (fun y11 m12 h_y11 => ?_)
          exact zrt_l C Z h_y11 dX12_wordOf_170
        · refine zj_split (fun c13 => ?_) (fun c13 => ?_)
          · refine zj_tableIn (off := 170) C 4 171 h_x0 c13 dX12_wordOf_1 rfl rfl ?_
            refine zj_bipush C 115 rfl dX12_wordOf_171 ?_
            refine zj_bipush C 117 rfl dX12_wordOf_173 ?_
            refine zj_bipush C 110 rfl dX12_wordOf_175 ?_
            refine zj_iconst C 0 dX12_wordOf_177 ?_
            refine zj_iconst C 0 dX12_wordOf_178 ?_
            refine zj_iconst C 0 dX12_wordOf_179 ?_
            refine zj_callSl C Z [.int (i32 115), .int (i32 117), .int (i32 110), .int (i32 0), .int (i32 0), .int (i32 0)] [] cal_X12_spelt sta_X12_spelt ml_X12_58 rfl (by decide) (Nat.le_of_ble_eq_true rfl) rfl dX12_wordOf_180 (fun q h => M_X12_spelt l Γ F irc_115 irc_117 irc_110 irc_0 irc_0 irc_0 mem q h) (fun y14 m15 h_y14 => ?_)
            exact zrt_l C Z h_y14 dX12_wordOf_183
          · refine zj_split (fun c16 => ?_) (fun c16 => ?_)
            · refine zj_tableIn (off := 183) C 5 184 h_x0 c16 dX12_wordOf_1 rfl rfl ?_
              refine zj_bipush C 101 rfl dX12_wordOf_184 ?_
              refine zj_bipush C 97 rfl dX12_wordOf_186 ?_
              refine zj_bipush C 115 rfl dX12_wordOf_188 ?_
              refine zj_bipush C 116 rfl dX12_wordOf_190 ?_
              refine zj_iconst C 0 dX12_wordOf_192 ?_
              refine zj_iconst C 0 dX12_wordOf_193 ?_
              refine zj_callSl C Z [.int (i32 101), .int (i32 97), .int (i32 115), .int (i32 116), .int (i32 0), .int (i32 0)] [] cal_X12_spelt sta_X12_spelt ml_X12_58 rfl (by decide) (Nat.le_of_ble_eq_true rfl) rfl dX12_wordOf_194 (fun q h => M_X12_spelt l Γ F irc_101 irc_97 irc_115 irc_116 irc_0 irc_0 mem q h) (fun y17 m18 h_y17 => ?_)
              exact zrt_l C Z h_y17 dX12_wordOf_197
            · refine zj_split (fun c19 => ?_) (fun c19 => ?_)
              · refine zj_tableIn (off := 197) C 6 198 h_x0 c19 dX12_wordOf_1 rfl rfl ?_
                refine zj_bipush C 115 rfl dX12_wordOf_198 ?_
                refine zj_bipush C 111 rfl dX12_wordOf_200 ?_
                refine zj_bipush C 117 rfl dX12_wordOf_202 ?_
                refine zj_bipush C 116 rfl dX12_wordOf_204 ?_
                refine zj_bipush C 104 rfl dX12_wordOf_206 ?_
                refine zj_iconst C 0 dX12_wordOf_208 ?_
                refine zj_callSl C Z [.int (i32 115), .int (i32 111), .int (i32 117), .int (i32 116), .int (i32 104), .int (i32 0)] [] cal_X12_spelt sta_X12_spelt ml_X12_58 rfl (by decide) (Nat.le_of_ble_eq_true rfl) rfl dX12_wordOf_209 (fun q h => M_X12_spelt l Γ F irc_115 irc_111 irc_117 irc_116 irc_104 irc_0 mem q h) (fun y20 m21 h_y20 => ?_)
                exact zrt_l C Z h_y20 dX12_wordOf_212
              · refine zj_split (fun c22 => ?_) (fun c22 => ?_)
                · refine zj_tableIn (off := 212) C 7 213 h_x0 c22 dX12_wordOf_1 rfl rfl ?_
                  refine zj_bipush C 119 rfl dX12_wordOf_213 ?_
                  refine zj_bipush C 101 rfl dX12_wordOf_215 ?_
                  refine zj_bipush C 115 rfl dX12_wordOf_217 ?_
                  refine zj_bipush C 116 rfl dX12_wordOf_219 ?_
                  refine zj_iconst C 0 dX12_wordOf_221 ?_
                  refine zj_iconst C 0 dX12_wordOf_222 ?_
                  refine zj_callSl C Z [.int (i32 119), .int (i32 101), .int (i32 115), .int (i32 116), .int (i32 0), .int (i32 0)] [] cal_X12_spelt sta_X12_spelt ml_X12_58 rfl (by decide) (Nat.le_of_ble_eq_true rfl) rfl dX12_wordOf_223 (fun q h => M_X12_spelt l Γ F irc_119 irc_101 irc_115 irc_116 irc_0 irc_0 mem q h) (fun y23 m24 h_y23 => ?_)
                  exact zrt_l C Z h_y23 dX12_wordOf_226
                · refine zj_split (fun c25 => ?_) (fun c25 => ?_)
                  · refine zj_tableIn (off := 226) C 8 227 h_x0 c25 dX12_wordOf_1 rfl rfl ?_
                    refine zj_bipush C 110 rfl dX12_wordOf_227 ?_
                    refine zj_bipush C 111 rfl dX12_wordOf_229 ?_
                    refine zj_bipush C 114 rfl dX12_wordOf_231 ?_
                    refine zj_bipush C 116 rfl dX12_wordOf_233 ?_
                    refine zj_bipush C 104 rfl dX12_wordOf_235 ?_
                    refine zj_iconst C 0 dX12_wordOf_237 ?_
                    refine zj_callSl C Z [.int (i32 110), .int (i32 111), .int (i32 114), .int (i32 116), .int (i32 104), .int (i32 0)] [] cal_X12_spelt sta_X12_spelt ml_X12_58 rfl (by decide) (Nat.le_of_ble_eq_true rfl) rfl dX12_wordOf_238 (fun q h => M_X12_spelt l Γ F irc_110 irc_111 irc_114 irc_116 irc_104 irc_0 mem q h) (fun y26 m27 h_y26 => ?_)
                    exact zrt_l C Z h_y26 dX12_wordOf_241
                  · refine zj_split (fun c28 => ?_) (fun c28 => ?_)
                    · refine zj_tableIn (off := 241) C 9 242 h_x0 c28 dX12_wordOf_1 rfl rfl ?_
                      refine zj_bipush C 108 rfl dX12_wordOf_242 ?_
                      refine zj_bipush C 97 rfl dX12_wordOf_244 ?_
                      refine zj_bipush C 121 rfl dX12_wordOf_246 ?_
                      refine zj_iconst C 0 dX12_wordOf_248 ?_
                      refine zj_iconst C 0 dX12_wordOf_249 ?_
                      refine zj_iconst C 0 dX12_wordOf_250 ?_
                      refine zj_callSl C Z [.int (i32 108), .int (i32 97), .int (i32 121), .int (i32 0), .int (i32 0), .int (i32 0)] [] cal_X12_spelt sta_X12_spelt ml_X12_58 rfl (by decide) (Nat.le_of_ble_eq_true rfl) rfl dX12_wordOf_251 (fun q h => M_X12_spelt l Γ F irc_108 irc_97 irc_121 irc_0 irc_0 irc_0 mem q h) (fun y29 m30 h_y29 => ?_)
                      exact zrt_l C Z h_y29 dX12_wordOf_254
                    · refine zj_split (fun c31 => ?_) (fun c31 => ?_)
                      · refine zj_tableIn (off := 254) C 10 255 h_x0 c31 dX12_wordOf_1 rfl rfl ?_
                        refine zj_bipush C 116 rfl dX12_wordOf_255 ?_
                        refine zj_bipush C 101 rfl dX12_wordOf_257 ?_
                        refine zj_bipush C 97 rfl dX12_wordOf_259 ?_
                        refine zj_bipush C 114 rfl dX12_wordOf_261 ?_
                        refine zj_iconst C 0 dX12_wordOf_263 ?_
                        refine zj_iconst C 0 dX12_wordOf_264 ?_
                        refine zj_callSl C Z [.int (i32 116), .int (i32 101), .int (i32 97), .int (i32 114), .int (i32 0), .int (i32 0)] [] cal_X12_spelt sta_X12_spelt ml_X12_58 rfl (by decide) (Nat.le_of_ble_eq_true rfl) rfl dX12_wordOf_265 (fun q h => M_X12_spelt l Γ F irc_116 irc_101 irc_97 irc_114 irc_0 irc_0 mem q h) (fun y32 m33 h_y32 => ?_)
                        exact zrt_l C Z h_y32 dX12_wordOf_268
                      · refine zj_split (fun c34 => ?_) (fun c34 => ?_)
                        · refine zj_tableIn (off := 268) C 11 269 h_x0 c34 dX12_wordOf_1 rfl rfl ?_
                          refine zj_bipush C 98 rfl dX12_wordOf_269 ?_
                          refine zj_bipush C 117 rfl dX12_wordOf_271 ?_
                          refine zj_bipush C 114 rfl dX12_wordOf_273 ?_
                          refine zj_bipush C 121 rfl dX12_wordOf_275 ?_
                          refine zj_iconst C 0 dX12_wordOf_277 ?_
                          refine zj_iconst C 0 dX12_wordOf_278 ?_
                          refine zj_callSl C Z [.int (i32 98), .int (i32 117), .int (i32 114), .int (i32 121), .int (i32 0), .int (i32 0)] [] cal_X12_spelt sta_X12_spelt ml_X12_58 rfl (by decide) (Nat.le_of_ble_eq_true rfl) rfl dX12_wordOf_279 (fun q h => M_X12_spelt l Γ F irc_98 irc_117 irc_114 irc_121 irc_0 irc_0 mem q h) (fun y35 m36 h_y35 => ?_)
                          exact zrt_l C Z h_y35 dX12_wordOf_282
                        · refine zj_split (fun c37 => ?_) (fun c37 => ?_)
                          · refine zj_tableIn (off := 282) C 12 283 h_x0 c37 dX12_wordOf_1 rfl rfl ?_
                            refine zj_bipush C 104 rfl dX12_wordOf_283 ?_
                            refine zj_bipush C 111 rfl dX12_wordOf_285 ?_
                            refine zj_bipush C 117 rfl dX12_wordOf_287 ?_
                            refine zj_bipush C 114 rfl dX12_wordOf_289 ?_
                            refine zj_iconst C 0 dX12_wordOf_291 ?_
                            refine zj_iconst C 0 dX12_wordOf_292 ?_
                            refine zj_callSl C Z [.int (i32 104), .int (i32 111), .int (i32 117), .int (i32 114), .int (i32 0), .int (i32 0)] [] cal_X12_spelt sta_X12_spelt ml_X12_58 rfl (by decide) (Nat.le_of_ble_eq_true rfl) rfl dX12_wordOf_293 (fun q h => M_X12_spelt l Γ F irc_104 irc_111 irc_117 irc_114 irc_0 irc_0 mem q h) (fun y38 m39 h_y38 => ?_)
                            exact zrt_l C Z h_y38 dX12_wordOf_296
                          · refine zj_split (fun c40 => ?_) (fun c40 => ?_)
                            · refine zj_tableIn (off := 296) C 13 297 h_x0 c40 dX12_wordOf_1 rfl rfl ?_
                              refine zj_bipush C 111 rfl dX12_wordOf_297 ?_
                              refine zj_bipush C 114 rfl dX12_wordOf_299 ?_
                              refine zj_iconst C 0 dX12_wordOf_301 ?_
                              refine zj_iconst C 0 dX12_wordOf_302 ?_
                              refine zj_iconst C 0 dX12_wordOf_303 ?_
                              refine zj_iconst C 0 dX12_wordOf_304 ?_
                              refine zj_callSl C Z [.int (i32 111), .int (i32 114), .int (i32 0), .int (i32 0), .int (i32 0), .int (i32 0)] [] cal_X12_spelt sta_X12_spelt ml_X12_58 rfl (by decide) (Nat.le_of_ble_eq_true rfl) rfl dX12_wordOf_305 (fun q h => M_X12_spelt l Γ F irc_111 irc_114 irc_0 irc_0 irc_0 irc_0 mem q h) (fun y41 m42 h_y41 => ?_)
                              exact zrt_l C Z h_y41 dX12_wordOf_308
                            · refine zj_split (fun c43 => ?_) (fun c43 => ?_)
                              · refine zj_tableIn (off := 308) C 14 309 h_x0 c43 dX12_wordOf_1 rfl rfl ?_
                                refine zj_bipush C 97 rfl dX12_wordOf_309 ?_
                                refine zj_bipush C 110 rfl dX12_wordOf_311 ?_
                                refine zj_bipush C 100 rfl dX12_wordOf_313 ?_
                                refine zj_iconst C 0 dX12_wordOf_315 ?_
                                refine zj_iconst C 0 dX12_wordOf_316 ?_
                                refine zj_iconst C 0 dX12_wordOf_317 ?_
                                refine zj_callSl C Z [.int (i32 97), .int (i32 110), .int (i32 100), .int (i32 0), .int (i32 0), .int (i32 0)] [] cal_X12_spelt sta_X12_spelt ml_X12_58 rfl (by decide) (Nat.le_of_ble_eq_true rfl) rfl dX12_wordOf_318 (fun q h => M_X12_spelt l Γ F irc_97 irc_110 irc_100 irc_0 irc_0 irc_0 mem q h) (fun y44 m45 h_y44 => ?_)
                                exact zrt_l C Z h_y44 dX12_wordOf_321
                              · refine zj_split (fun c46 => ?_) (fun c46 => ?_)
                                · refine zj_tableIn (off := 321) C 15 322 h_x0 c46 dX12_wordOf_1 rfl rfl ?_
                                  refine zj_bipush C 110 rfl dX12_wordOf_322 ?_
                                  refine zj_bipush C 111 rfl dX12_wordOf_324 ?_
                                  refine zj_bipush C 116 rfl dX12_wordOf_326 ?_
                                  refine zj_iconst C 0 dX12_wordOf_328 ?_
                                  refine zj_iconst C 0 dX12_wordOf_329 ?_
                                  refine zj_iconst C 0 dX12_wordOf_330 ?_
                                  refine zj_callSl C Z [.int (i32 110), .int (i32 111), .int (i32 116), .int (i32 0), .int (i32 0), .int (i32 0)] [] cal_X12_spelt sta_X12_spelt ml_X12_58 rfl (by decide) (Nat.le_of_ble_eq_true rfl) rfl dX12_wordOf_331 (fun q h => M_X12_spelt l Γ F irc_110 irc_111 irc_116 irc_0 irc_0 irc_0 mem q h) (fun y47 m48 h_y47 => ?_)
                                  exact zrt_l C Z h_y47 dX12_wordOf_334
                                · refine zj_split (fun c49 => ?_) (fun c49 => ?_)
                                  · refine zj_tableIn (off := 334) C 16 335 h_x0 c49 dX12_wordOf_1 rfl rfl ?_
                                    refine zj_bipush C 115 rfl dX12_wordOf_335 ?_
                                    refine zj_bipush C 104 rfl dX12_wordOf_337 ?_
                                    refine zj_bipush C 97 rfl dX12_wordOf_339 ?_
                                    refine zj_bipush C 100 rfl dX12_wordOf_341 ?_
                                    refine zj_bipush C 101 rfl dX12_wordOf_343 ?_
                                    refine zj_bipush C 100 rfl dX12_wordOf_345 ?_
                                    refine zj_callSl C Z [.int (i32 115), .int (i32 104), .int (i32 97), .int (i32 100), .int (i32 101), .int (i32 100)] [] cal_X12_spelt sta_X12_spelt ml_X12_58 rfl (by decide) (Nat.le_of_ble_eq_true rfl) rfl dX12_wordOf_347 (fun q h => M_X12_spelt l Γ F irc_115 irc_104 irc_97 irc_100 irc_101 irc_100 mem q h) (fun y50 m51 h_y50 => ?_)
                                    exact zrt_l C Z h_y50 dX12_wordOf_350
                                  · refine zj_split (fun c52 => ?_) (fun c52 => ?_)
                                    · refine zj_tableIn (off := 350) C 17 351 h_x0 c52 dX12_wordOf_1 rfl rfl ?_
                                      refine zj_bipush C 112 rfl dX12_wordOf_351 ?_
                                      refine zj_bipush C 111 rfl dX12_wordOf_353 ?_
                                      refine zj_bipush C 111 rfl dX12_wordOf_355 ?_
                                      refine zj_bipush C 114 rfl dX12_wordOf_357 ?_
                                      refine zj_iconst C 0 dX12_wordOf_359 ?_
                                      refine zj_iconst C 0 dX12_wordOf_360 ?_
                                      refine zj_callSl C Z [.int (i32 112), .int (i32 111), .int (i32 111), .int (i32 114), .int (i32 0), .int (i32 0)] [] cal_X12_spelt sta_X12_spelt ml_X12_58 rfl (by decide) (Nat.le_of_ble_eq_true rfl) rfl dX12_wordOf_361 (fun q h => M_X12_spelt l Γ F irc_112 irc_111 irc_111 irc_114 irc_0 irc_0 mem q h) (fun y53 m54 h_y53 => ?_)
                                      exact zrt_l C Z h_y53 dX12_wordOf_364
                                    · refine zj_split (fun c55 => ?_) (fun c55 => ?_)
                                      · refine zj_tableIn (off := 364) C 18 365 h_x0 c55 dX12_wordOf_1 rfl rfl ?_
                                        refine zj_bipush C 104 rfl dX12_wordOf_365 ?_
                                        refine zj_bipush C 101 rfl dX12_wordOf_367 ?_
                                        refine zj_bipush C 105 rfl dX12_wordOf_369 ?_
                                        refine zj_bipush C 114 rfl dX12_wordOf_371 ?_
                                        refine zj_iconst C 0 dX12_wordOf_373 ?_
                                        refine zj_iconst C 0 dX12_wordOf_374 ?_
                                        refine zj_callSl C Z [.int (i32 104), .int (i32 101), .int (i32 105), .int (i32 114), .int (i32 0), .int (i32 0)] [] cal_X12_spelt sta_X12_spelt ml_X12_58 rfl (by decide) (Nat.le_of_ble_eq_true rfl) rfl dX12_wordOf_375 (fun q h => M_X12_spelt l Γ F irc_104 irc_101 irc_105 irc_114 irc_0 irc_0 mem q h) (fun y56 m57 h_y56 => ?_)
                                        exact zrt_l C Z h_y56 dX12_wordOf_378
                                      · refine zj_split (fun c58 => ?_) (fun c58 => ?_)
                                        · refine zj_tableIn (off := 378) C 19 379 h_x0 c58 dX12_wordOf_1 rfl rfl ?_
                                          refine zj_bipush C 111 rfl dX12_wordOf_379 ?_
                                          refine zj_bipush C 102 rfl dX12_wordOf_381 ?_
                                          refine zj_iconst C 0 dX12_wordOf_383 ?_
                                          refine zj_iconst C 0 dX12_wordOf_384 ?_
                                          refine zj_iconst C 0 dX12_wordOf_385 ?_
                                          refine zj_iconst C 0 dX12_wordOf_386 ?_
                                          refine zj_callSl C Z [.int (i32 111), .int (i32 102), .int (i32 0), .int (i32 0), .int (i32 0), .int (i32 0)] [] cal_X12_spelt sta_X12_spelt ml_X12_58 rfl (by decide) (Nat.le_of_ble_eq_true rfl) rfl dX12_wordOf_387 (fun q h => M_X12_spelt l Γ F irc_111 irc_102 irc_0 irc_0 irc_0 irc_0 mem q h) (fun y59 m60 h_y59 => ?_)
                                          exact zrt_l C Z h_y59 dX12_wordOf_390
                                        · refine zj_split (fun c61 => ?_) (fun c61 => ?_)
                                          · refine zj_tableIn (off := 390) C 20 391 h_x0 c61 dX12_wordOf_1 rfl rfl ?_
                                            refine zj_bipush C 119 rfl dX12_wordOf_391 ?_
                                            refine zj_bipush C 101 rfl dX12_wordOf_393 ?_
                                            refine zj_bipush C 97 rfl dX12_wordOf_395 ?_
                                            refine zj_bipush C 108 rfl dX12_wordOf_397 ?_
                                            refine zj_bipush C 116 rfl dX12_wordOf_399 ?_
                                            refine zj_bipush C 104 rfl dX12_wordOf_401 ?_
                                            refine zj_callSl C Z [.int (i32 119), .int (i32 101), .int (i32 97), .int (i32 108), .int (i32 116), .int (i32 104)] [] cal_X12_spelt sta_X12_spelt ml_X12_58 rfl (by decide) (Nat.le_of_ble_eq_true rfl) rfl dX12_wordOf_403 (fun q h => M_X12_spelt l Γ F irc_119 irc_101 irc_97 irc_108 irc_116 irc_104 mem q h) (fun y62 m63 h_y62 => ?_)
                                            exact zrt_l C Z h_y62 dX12_wordOf_406
                                          · refine zj_split (fun c64 => ?_) (fun c64 => ?_)
                                            · refine zj_tableIn (off := 406) C 21 407 h_x0 c64 dX12_wordOf_1 rfl rfl ?_
                                              refine zj_bipush C 120 rfl dX12_wordOf_407 ?_
                                              refine zj_iconst C 0 dX12_wordOf_409 ?_
                                              refine zj_iconst C 0 dX12_wordOf_410 ?_
                                              refine zj_iconst C 0 dX12_wordOf_411 ?_
                                              refine zj_iconst C 0 dX12_wordOf_412 ?_
                                              refine zj_iconst C 0 dX12_wordOf_413 ?_
                                              refine zj_callSl C Z [.int (i32 120), .int (i32 0), .int (i32 0), .int (i32 0), .int (i32 0), .int (i32 0)] [] cal_X12_spelt sta_X12_spelt ml_X12_58 rfl (by decide) (Nat.le_of_ble_eq_true rfl) rfl dX12_wordOf_414 (fun q h => M_X12_spelt l Γ F irc_120 irc_0 irc_0 irc_0 irc_0 irc_0 mem q h) (fun y65 m66 h_y65 => ?_)
                                              exact zrt_l C Z h_y65 dX12_wordOf_417
                                            · refine zj_split (fun c67 => ?_) (fun c67 => ?_)
                                              · refine zj_tableIn (off := 417) C 22 418 h_x0 c67 dX12_wordOf_1 rfl rfl ?_
                                                refine zj_bipush C 121 rfl dX12_wordOf_418 ?_
                                                refine zj_iconst C 0 dX12_wordOf_420 ?_
                                                refine zj_iconst C 0 dX12_wordOf_421 ?_
                                                refine zj_iconst C 0 dX12_wordOf_422 ?_
                                                refine zj_iconst C 0 dX12_wordOf_423 ?_
                                                refine zj_iconst C 0 dX12_wordOf_424 ?_
                                                refine zj_callSl C Z [.int (i32 121), .int (i32 0), .int (i32 0), .int (i32 0), .int (i32 0), .int (i32 0)] [] cal_X12_spelt sta_X12_spelt ml_X12_58 rfl (by decide) (Nat.le_of_ble_eq_true rfl) rfl dX12_wordOf_425 (fun q h => M_X12_spelt l Γ F irc_121 irc_0 irc_0 irc_0 irc_0 irc_0 mem q h) (fun y68 m69 h_y68 => ?_)
                                                exact zrt_l C Z h_y68 dX12_wordOf_428
                                              · refine zj_tableOut C 429 h_x0 dX12_wordOf_1 (by omega) rfl ?_
                                                refine zj_bipush C 110 rfl dX12_wordOf_429 ?_
                                                refine zj_bipush C 117 rfl dX12_wordOf_431 ?_
                                                refine zj_bipush C 109 rfl dX12_wordOf_433 ?_
                                                refine zj_bipush C 98 rfl dX12_wordOf_435 ?_
                                                refine zj_bipush C 101 rfl dX12_wordOf_437 ?_
                                                refine zj_bipush C 114 rfl dX12_wordOf_439 ?_
                                                refine zj_callSl C Z [.int (i32 110), .int (i32 117), .int (i32 109), .int (i32 98), .int (i32 101), .int (i32 114)] [] cal_X12_spelt sta_X12_spelt ml_X12_58 rfl (by decide) (Nat.le_of_ble_eq_true rfl) rfl dX12_wordOf_441 (fun q h => M_X12_spelt l Γ F irc_110 irc_117 irc_109 irc_98 irc_101 irc_114 mem q h) (fun y70 m71 h_y70 => ?_)
                                                exact zrt_l C Z h_y70 dX12_wordOf_444
noncomputable def f_X12_isWord (x0 : Int) (mem : zMem) : Option (Int × zMem) := if (mem 138 7) = 2 then (zbind (f_X12_wordOf x0 mem) fun y4 m5 => if (zcmp (mem 138 12) y4) = 0 then (some (1, m5)) else (some (0, m5))) else (some (0, mem))
set_option maxHeartbeats 4000000 in
theorem M_X12_isWord (l : Launch) (Γ : zG) (F : zFull Γ)  {x0 : Int} (h_x0 : ir x0) (mem : zMem) (q : Int × zMem) (h : f_X12_isWord x0 mem = some q) : zMet l yX12_isWord cX12_isWord 2 (some .boolean) 3 Γ 1 [.ref (zad Γ 138), .int (i32 x0)] mem q := by
  refine zMet_of (own := "ShadowHeirsModel") (by decide) rfl (Nat.le_of_ble_eq_true rfl) (fun X C Z => ?_)
  revert h
  show zJ X Γ 2 q (f_X12_isWord x0 mem) 0 [(0, .ref (zad Γ 138)), (1, .int (i32 x0))] [] mem
  unfold f_X12_isWord
  refine zj_aload_n (j := 0) (i := 0) C rfl 0 rfl dX12_isWord_0 ?_
  refine zj_getI C F 7 rfl zk_138 fl_X12_30 rfl dX12_isWord_1 (fun h1 => ?_)
  refine zj_iconst C 2 dX12_isWord_4 ?_
  refine zj_icmp_ne C 24 h1 irc_2 dX12_isWord_5 rfl (fun c2 => ?_) (fun c2 => ?_)
  · refine zj_aload_n (j := 0) (i := 0) C rfl 0 rfl dX12_isWord_8 ?_
    refine zj_getL C F 12 rfl zk_138 fl_X12_43 rfl dX12_isWord_9 (fun h3 => ?_)
    refine zj_iload_n (j := 1) (i := 1) C rfl 1 rfl dX12_isWord_12 ?_
    refine zj_callSl C Z [.int (i32 x0)] [.long (i64 (mem 138 12))] cal_X12_wordOf sta_X12_wordOf ml_X12_62 rfl (by decide) (Nat.le_of_ble_eq_true rfl) rfl dX12_isWord_13 (fun q h => M_X12_wordOf l Γ F h_x0 mem q h) (fun y4 m5 h_y4 => ?_)
    refine zj_lcmp C h3 h_y4 dX12_isWord_16 ?_
    refine zj_if_ne C 24 (ir_cmp _ _) dX12_isWord_17 rfl (fun c6 => ?_) (fun c6 => ?_)
    · refine zj_iconst C 1 dX12_isWord_20 ?_
      refine zj_goto (tgt := 25) C dX12_isWord_21 rfl ?_
      exact zrt_z C Z (Or.inr rfl) dX12_isWord_25
    · refine zj_iconst C 0 dX12_isWord_24 ?_
      exact zrt_z C Z (Or.inl rfl) dX12_isWord_25
  · refine zj_iconst C 0 dX12_isWord_24 ?_
    exact zrt_z C Z (Or.inl rfl) dX12_isWord_25
noncomputable def f_X12_isSign (x0 : Int) (mem : zMem) : Option (Int × zMem) := if (mem 138 7) = 4 then (if (mem 138 9) = x0 then (some (1, mem)) else (some (0, mem))) else (some (0, mem))
set_option maxHeartbeats 4000000 in
theorem M_X12_isSign (l : Launch) (Γ : zG) (F : zFull Γ)  {x0 : Int} (h_x0 : ir x0) (mem : zMem) (q : Int × zMem) (h : f_X12_isSign x0 mem = some q) : zMet l yX12_isSign cX12_isSign 2 (some .boolean) 1 Γ 1 [.ref (zad Γ 138), .int (i32 x0)] mem q := by
  refine zMet_of (own := "ShadowHeirsModel") (by decide) rfl (Nat.le_of_ble_eq_true rfl) (fun X C Z => ?_)
  revert h
  show zJ X Γ 2 q (f_X12_isSign x0 mem) 0 [(0, .ref (zad Γ 138)), (1, .int (i32 x0))] [] mem
  unfold f_X12_isSign
  refine zj_aload_n (j := 0) (i := 0) C rfl 0 rfl dX12_isSign_0 ?_
  refine zj_getI C F 7 rfl zk_138 fl_X12_30 rfl dX12_isSign_1 (fun h1 => ?_)
  refine zj_iconst C 4 dX12_isSign_4 ?_
  refine zj_icmp_ne C 20 h1 irc_4 dX12_isSign_5 rfl (fun c2 => ?_) (fun c2 => ?_)
  · refine zj_aload_n (j := 0) (i := 0) C rfl 0 rfl dX12_isSign_8 ?_
    refine zj_getI C F 9 rfl zk_138 fl_X12_40 rfl dX12_isSign_9 (fun h3 => ?_)
    refine zj_iload_n (j := 1) (i := 1) C rfl 1 rfl dX12_isSign_12 ?_
    refine zj_icmp_ne C 20 h3 h_x0 dX12_isSign_13 rfl (fun c4 => ?_) (fun c4 => ?_)
    · refine zj_iconst C 1 dX12_isSign_16 ?_
      refine zj_goto (tgt := 21) C dX12_isSign_17 rfl ?_
      exact zrt_z C Z (Or.inr rfl) dX12_isSign_21
    · refine zj_iconst C 0 dX12_isSign_20 ?_
      exact zrt_z C Z (Or.inl rfl) dX12_isSign_21
  · refine zj_iconst C 0 dX12_isSign_20 ?_
    exact zrt_z C Z (Or.inl rfl) dX12_isSign_21
noncomputable def b_X12_isName_0 (rec : Int → zMem → Option (Int × zMem)) (v1 : Int) (mem : zMem) : Option (Int × zMem) := if v1 > 23 then (some (1, mem)) else (zbind (f_X12_wordOf v1 mem) fun y3 m4 => if (zcmp (mem 138 12) y3) = 0 then (some (0, m4)) else (rec (w32 (v1 + 1)) m4))
noncomputable def f_X12_isName_0 : Nat → Int → zMem → Option (Int × zMem) := zfuel (fun _ _ => none) (b_X12_isName_0)
set_option maxHeartbeats 4000000 in
theorem L_X12_isName_0 (l : Launch) {Γ : zG} (F : zFull Γ) {X : zM} {q : Int × zMem} (C : zC X Γ "ShadowHeirsModel" cX12_isName 2) (Z : zRt X l Γ 3 1 (some .boolean) q) : ∀ n : Nat, ∀ (v1 : Int) (h_v1 : ir v1) (mem : zMem), zJ X Γ 2 q (f_X12_isName_0 n v1 mem) 12 [(0, .ref (zad Γ 138)), (1, .int (i32 v1))] [] mem := by
  intro n
  induction n with
  | zero => intros; exact zj_none
  | succ n ih =>
    intro v1 h_v1 mem
    show zJ X Γ 2 q (b_X12_isName_0 (f_X12_isName_0 n) v1 mem) _ _ _ _
    unfold b_X12_isName_0
    refine zj_iload_n (j := 1) (i := 1) C rfl 1 rfl dX12_isName_12 ?_
    refine zj_bipush C 23 rfl dX12_isName_13 ?_
    refine zj_icmp_gt C 38 h_v1 irc_23 dX12_isName_15 rfl (fun c1 => ?_) (fun c1 => ?_)
    · refine zj_iconst C 1 dX12_isName_38 ?_
      exact zrt_z C Z (Or.inr rfl) dX12_isName_39
    · refine zj_aload_n (j := 0) (i := 0) C rfl 0 rfl dX12_isName_18 ?_
      refine zj_getL C F 12 rfl zk_138 fl_X12_43 rfl dX12_isName_19 (fun h2 => ?_)
      refine zj_iload_n (j := 1) (i := 1) C rfl 1 rfl dX12_isName_22 ?_
      refine zj_callSl C Z [.int (i32 v1)] [.long (i64 (mem 138 12))] cal_X12_wordOf sta_X12_wordOf ml_X12_62 rfl (by decide) (Nat.le_of_ble_eq_true rfl) rfl dX12_isName_23 (fun q h => M_X12_wordOf l Γ F h_v1 mem q h) (fun y3 m4 h_y3 => ?_)
      refine zj_lcmp C h2 h_y3 dX12_isName_26 ?_
      refine zj_if_ne C 32 (ir_cmp _ _) dX12_isName_27 rfl (fun c5 => ?_) (fun c5 => ?_)
      · refine zj_iconst C 0 dX12_isName_30 ?_
        exact zrt_z C Z (Or.inl rfl) dX12_isName_31
      · refine zj_iinc C 1 [(1, .int (i32 (w32 (v1 + 1)))), (0, .ref (zad Γ 138))] rfl dX12_isName_32 (by decide) rfl ?_
        refine zj_goto (tgt := 12) C dX12_isName_35 rfl ?_
        exact zj_sub [1, 0] rfl (ih (w32 (v1 + 1)) (ir_w _) m4)
noncomputable def f_X12_isName  (mem : zMem) : Option (Int × zMem) := if (mem 138 7) = 2 then (f_X12_isName_0 zN 0 mem) else (some (0, mem))
set_option maxHeartbeats 4000000 in
theorem M_X12_isName (l : Launch) (Γ : zG) (F : zFull Γ)    (mem : zMem) (q : Int × zMem) (h : f_X12_isName  mem = some q) : zMet l yX12_isName cX12_isName 2 (some .boolean) 3 Γ 1 [.ref (zad Γ 138)] mem q := by
  refine zMet_of (own := "ShadowHeirsModel") (by decide) rfl (Nat.le_of_ble_eq_true rfl) (fun X C Z => ?_)
  revert h
  show zJ X Γ 2 q (f_X12_isName  mem) 0 [(0, .ref (zad Γ 138))] [] mem
  unfold f_X12_isName
  refine zj_aload_n (j := 0) (i := 0) C rfl 0 rfl dX12_isName_0 ?_
  refine zj_getI C F 7 rfl zk_138 fl_X12_30 rfl dX12_isName_1 (fun h1 => ?_)
  refine zj_iconst C 2 dX12_isName_4 ?_
  refine zj_icmp_eq C 10 h1 irc_2 dX12_isName_5 rfl (fun c2 => ?_) (fun c2 => ?_)
  · refine zj_iconst C 0 dX12_isName_10 ?_
    refine zj_istore_n (j := 1) (i := 1) C rfl [(1, .int (i32 0)), (0, .ref (zad Γ 138))] dX12_isName_11 (by decide) rfl ?_
    exact zj_sub [1, 0] rfl ((L_X12_isName_0 l F C Z zN) 0 irc_0 mem)
  · refine zj_iconst C 0 dX12_isName_8 ?_
    exact zrt_z C Z (Or.inl rfl) dX12_isName_9
noncomputable def f_X12_bad (x0 : Int) (mem : zMem) : Option (Int × zMem) := if (mem 138 7) = 1 then (pipe (zup mem 138 10 1) fun m3 => pipe (zup m3 138 11 (m3 138 6)) fun m5 => some (0, m5)) else (pipe (zup mem 138 10 x0) fun m6 => pipe (zup m6 138 11 (m6 138 6)) fun m8 => some (0, m8))
set_option maxHeartbeats 4000000 in
theorem M_X12_bad (l : Launch) (Γ : zG) (F : zFull Γ)  {x0 : Int} (h_x0 : ir x0) (mem : zMem) (q : Int × zMem) (h : f_X12_bad x0 mem = some q) : zMet l yX12_bad cX12_bad 2 (some .boolean) 1 Γ 1 [.ref (zad Γ 138), .int (i32 x0)] mem q := by
  refine zMet_of (own := "ShadowHeirsModel") (by decide) rfl (Nat.le_of_ble_eq_true rfl) (fun X C Z => ?_)
  revert h
  show zJ X Γ 2 q (f_X12_bad x0 mem) 0 [(0, .ref (zad Γ 138)), (1, .int (i32 x0))] [] mem
  unfold f_X12_bad
  refine zj_aload_n (j := 0) (i := 0) C rfl 0 rfl dX12_bad_0 ?_
  refine zj_aload_n (j := 0) (i := 0) C rfl 0 rfl dX12_bad_1 ?_
  refine zj_getI C F 7 rfl zk_138 fl_X12_30 rfl dX12_bad_2 (fun h1 => ?_)
  refine zj_iconst C 1 dX12_bad_5 ?_
  refine zj_icmp_ne C 13 h1 irc_1 dX12_bad_6 rfl (fun c2 => ?_) (fun c2 => ?_)
  · refine zj_iconst C 1 dX12_bad_9 ?_
    refine zj_goto (tgt := 14) C dX12_bad_10 rfl ?_
    refine zj_putI C F 10 rfl zk_138 fl_X12_66 rfl fp_12_10 irc_1 dX12_bad_14 ?_
    refine zj_pipeM (fun m3 e_m3 => ?_)
    refine zj_aload_n (j := 0) (i := 0) C rfl 0 rfl dX12_bad_17 ?_
    refine zj_aload_n (j := 0) (i := 0) C rfl 0 rfl dX12_bad_18 ?_
    refine zj_getI C F 6 rfl zk_138 fl_X12_24 rfl dX12_bad_19 (fun h4 => ?_)
    refine zj_putI C F 11 rfl zk_138 fl_X12_69 rfl fp_12_11 h4 dX12_bad_22 ?_
    refine zj_pipeM (fun m5 e_m5 => ?_)
    refine zj_iconst C 0 dX12_bad_25 ?_
    exact zrt_z C Z (Or.inl rfl) dX12_bad_26
  · refine zj_iload_n (j := 1) (i := 1) C rfl 1 rfl dX12_bad_13 ?_
    refine zj_putI C F 10 rfl zk_138 fl_X12_66 rfl fp_12_10 h_x0 dX12_bad_14 ?_
    refine zj_pipeM (fun m6 e_m6 => ?_)
    refine zj_aload_n (j := 0) (i := 0) C rfl 0 rfl dX12_bad_17 ?_
    refine zj_aload_n (j := 0) (i := 0) C rfl 0 rfl dX12_bad_18 ?_
    refine zj_getI C F 6 rfl zk_138 fl_X12_24 rfl dX12_bad_19 (fun h7 => ?_)
    refine zj_putI C F 11 rfl zk_138 fl_X12_69 rfl fp_12_11 h7 dX12_bad_22 ?_
    refine zj_pipeM (fun m8 e_m8 => ?_)
    refine zj_iconst C 0 dX12_bad_25 ?_
    exact zrt_z C Z (Or.inl rfl) dX12_bad_26
noncomputable def f_X12_readNumber (x0 : Int) (x1 : Int) (mem : zMem) : Option (Int × zMem) := if (mem 138 7) = 3 then (zbind (f_X12_isIn (mem 138 8) x0 x1 mem) fun y4 m5 => if y4 = 0 then (zbind (f_X12_bad 2 m5) fun y7 m8 => if y7 = 0 ∨ y7 = 1 then some (y7, m8) else none) else (pipe (zup m5 138 13 (m5 138 8)) fun m10 => zbind (f_X12_go m10) fun _ m11 => some (1, m11))) else (zbind (f_X12_bad 1 mem) fun y12 m13 => if y12 = 0 ∨ y12 = 1 then some (y12, m13) else none)
set_option maxHeartbeats 4000000 in
theorem M_X12_readNumber (l : Launch) (Γ : zG) (F : zFull Γ)  {x0 : Int} {x1 : Int} (h_x0 : ir x0) (h_x1 : ir x1) (mem : zMem) (q : Int × zMem) (h : f_X12_readNumber x0 x1 mem = some q) : zMet l yX12_readNumber cX12_readNumber 3 (some .boolean) 3 Γ 1 [.ref (zad Γ 138), .int (i32 x0), .int (i32 x1)] mem q := by
  refine zMet_of (own := "ShadowHeirsModel") (by decide) rfl (Nat.le_of_ble_eq_true rfl) (fun X C Z => ?_)
  revert h
  show zJ X Γ 3 q (f_X12_readNumber x0 x1 mem) 0 [(0, .ref (zad Γ 138)), (1, .int (i32 x0)), (2, .int (i32 x1))] [] mem
  unfold f_X12_readNumber
  refine zj_aload_n (j := 0) (i := 0) C rfl 0 rfl dX12_readNumber_0 ?_
  refine zj_getI C F 7 rfl zk_138 fl_X12_30 rfl dX12_readNumber_1 (fun h1 => ?_)
  refine zj_iconst C 3 dX12_readNumber_4 ?_
  refine zj_icmp_eq C 14 h1 irc_3 dX12_readNumber_5 rfl (fun c2 => ?_) (fun c2 => ?_)
  · refine zj_aload_n (j := 0) (i := 0) C rfl 0 rfl dX12_readNumber_14 ?_
    refine zj_getI C F 8 rfl zk_138 fl_X12_47 rfl dX12_readNumber_15 (fun h3 => ?_)
    refine zj_iload_n (j := 1) (i := 1) C rfl 1 rfl dX12_readNumber_18 ?_
    refine zj_iload_n (j := 2) (i := 2) C rfl 2 rfl dX12_readNumber_19 ?_
    refine zj_callSi C Z [.int (i32 (mem 138 8)), .int (i32 x0), .int (i32 x1)] [] cal_X12_isIn sta_X12_isIn ml_X12_75 rfl (by decide) (Nat.le_of_ble_eq_true rfl) rfl dX12_readNumber_20 (fun q h => M_X12_isIn l Γ F h3 h_x0 h_x1 mem q h) (fun y4 m5 h_y4 => ?_)
    refine zj_if_ne C 32 h_y4 dX12_readNumber_23 rfl (fun c6 => ?_) (fun c6 => ?_)
    · refine zj_aload_n (j := 0) (i := 0) C rfl 0 rfl dX12_readNumber_26 ?_
      refine zj_iconst C 2 dX12_readNumber_27 ?_
      refine zj_callVi C F Z [.int (i32 2)] [] cal_X12_bad calv_X12_bad ml_X12_72 zk_138 rfl rfl (by decide) (Nat.le_of_ble_eq_true rfl) rfl dX12_readNumber_28 (fun q h => M_X12_bad l Γ F irc_2 m5 q h) (fun y7 m8 h_y7 => ?_)
      exact zrt_zc C Z dX12_readNumber_31
    · refine zj_aload_n (j := 0) (i := 0) C rfl 0 rfl dX12_readNumber_32 ?_
      refine zj_aload_n (j := 0) (i := 0) C rfl 0 rfl dX12_readNumber_33 ?_
      refine zj_getI C F 8 rfl zk_138 fl_X12_47 rfl dX12_readNumber_34 (fun h9 => ?_)
      refine zj_putI C F 13 rfl zk_138 fl_X12_79 rfl fp_12_13 h9 dX12_readNumber_37 ?_
      refine zj_pipeM (fun m10 e_m10 => ?_)
      refine zj_aload_n (j := 0) (i := 0) C rfl 0 rfl dX12_readNumber_40 ?_
      refine zj_callVv C F Z [] [] cal_X12_go calv_X12_go ml_X12_82 zk_138 rfl rfl (by decide) (Nat.le_of_ble_eq_true rfl) rfl dX12_readNumber_41 (fun q h => M_X12_go l Γ F  m10 q h) (fun _ m11 _ => ?_)
      refine zj_iconst C 1 dX12_readNumber_44 ?_
      exact zrt_z C Z (Or.inr rfl) dX12_readNumber_45
  · refine zj_aload_n (j := 0) (i := 0) C rfl 0 rfl dX12_readNumber_8 ?_
    refine zj_iconst C 1 dX12_readNumber_9 ?_
    refine zj_callVi C F Z [.int (i32 1)] [] cal_X12_bad calv_X12_bad ml_X12_72 zk_138 rfl rfl (by decide) (Nat.le_of_ble_eq_true rfl) rfl dX12_readNumber_10 (fun q h => M_X12_bad l Γ F irc_1 mem q h) (fun y12 m13 h_y12 => ?_)
    exact zrt_zc C Z dX12_readNumber_13
noncomputable def f_X12_readEnd  (mem : zMem) : Option (Int × zMem) := zbind (f_X12_isSign 59 mem) fun y1 m2 => if y1 = 0 then (zbind (f_X12_bad 1 m2) fun y4 m5 => if y4 = 0 ∨ y4 = 1 then some (y4, m5) else none) else (zbind (f_X12_go m2) fun _ m6 => some (1, m6))
set_option maxHeartbeats 4000000 in
theorem M_X12_readEnd (l : Launch) (Γ : zG) (F : zFull Γ)    (mem : zMem) (q : Int × zMem) (h : f_X12_readEnd  mem = some q) : zMet l yX12_readEnd cX12_readEnd 1 (some .boolean) 3 Γ 1 [.ref (zad Γ 138)] mem q := by
  refine zMet_of (own := "ShadowHeirsModel") (by decide) rfl (Nat.le_of_ble_eq_true rfl) (fun X C Z => ?_)
  revert h
  show zJ X Γ 1 q (f_X12_readEnd  mem) 0 [(0, .ref (zad Γ 138))] [] mem
  unfold f_X12_readEnd
  refine zj_aload_n (j := 0) (i := 0) C rfl 0 rfl dX12_readEnd_0 ?_
  refine zj_bipush C 59 rfl dX12_readEnd_1 ?_
  refine zj_callVi C F Z [.int (i32 59)] [] cal_X12_isSign calv_X12_isSign ml_X12_86 zk_138 rfl rfl (by decide) (Nat.le_of_ble_eq_true rfl) rfl dX12_readEnd_3 (fun q h => M_X12_isSign l Γ F irc_59 mem q h) (fun y1 m2 h_y1 => ?_)
  refine zj_if_ne C 15 h_y1 dX12_readEnd_6 rfl (fun c3 => ?_) (fun c3 => ?_)
  · refine zj_aload_n (j := 0) (i := 0) C rfl 0 rfl dX12_readEnd_9 ?_
    refine zj_iconst C 1 dX12_readEnd_10 ?_
    refine zj_callVi C F Z [.int (i32 1)] [] cal_X12_bad calv_X12_bad ml_X12_72 zk_138 rfl rfl (by decide) (Nat.le_of_ble_eq_true rfl) rfl dX12_readEnd_11 (fun q h => M_X12_bad l Γ F irc_1 m2 q h) (fun y4 m5 h_y4 => ?_)
    exact zrt_zc C Z dX12_readEnd_14
  · refine zj_aload_n (j := 0) (i := 0) C rfl 0 rfl dX12_readEnd_15 ?_
    refine zj_callVv C F Z [] [] cal_X12_go calv_X12_go ml_X12_82 zk_138 rfl rfl (by decide) (Nat.le_of_ble_eq_true rfl) rfl dX12_readEnd_16 (fun q h => M_X12_go l Γ F  m2 q h) (fun _ m6 _ => ?_)
    refine zj_iconst C 1 dX12_readEnd_19 ?_
    exact zrt_z C Z (Or.inr rfl) dX12_readEnd_20
noncomputable def f_X12_begin (x0 : Int) (mem : zMem) : Option (Int × zMem) := pipe (zup mem 138 0 0) fun m1 => zbind (f_X12_take m1) fun y2 m3 => pipe (zup m3 138 3 y2) fun m4 => pipe (zup m4 138 4 x0) fun m5 => pipe (zup m5 138 10 0) fun m6 => pipe (zup m6 138 5 0) fun m7 => zbind (f_X12_go m7) fun _ m8 => some (0, m8)
set_option maxHeartbeats 4000000 in
theorem M_X12_begin (l : Launch) (Γ : zG) (F : zFull Γ)  {x0 : Int} (h_x0 : ir x0) (mem : zMem) (q : Int × zMem) (h : f_X12_begin x0 mem = some q) : zMet l yX12_begin cX12_begin 2 none 3 Γ 0 [.ref (zad Γ 138), .int (i32 x0)] mem q := by
  refine zMet_of (own := "ShadowHeirsModel") (by decide) rfl (Nat.le_of_ble_eq_true rfl) (fun X C Z => ?_)
  revert h
  show zJ X Γ 2 q (f_X12_begin x0 mem) 0 [(0, .ref (zad Γ 138)), (1, .int (i32 x0))] [] mem
  unfold f_X12_begin
  refine zj_aload_n (j := 0) (i := 0) C rfl 0 rfl dX12_begin_0 ?_
  refine zj_iconst C 0 dX12_begin_1 ?_
  refine zj_putI C F 0 rfl zk_138 fl_X12_1 rfl fp_12_0 irc_0 dX12_begin_2 ?_
  refine zj_pipeM (fun m1 e_m1 => ?_)
  refine zj_aload_n (j := 0) (i := 0) C rfl 0 rfl dX12_begin_5 ?_
  refine zj_aload_n (j := 0) (i := 0) C rfl 0 rfl dX12_begin_6 ?_
  refine zj_callVi C F Z [] [.ref (zad Γ 138)] cal_X12_take calv_X12_take ml_X12_89 zk_138 rfl rfl (by decide) (Nat.le_of_ble_eq_true rfl) rfl dX12_begin_7 (fun q h => M_X12_take l Γ F  m1 q h) (fun y2 m3 h_y2 => ?_)
  refine zj_putI C F 3 rfl zk_138 fl_X12_18 rfl fp_12_3 h_y2 dX12_begin_10 ?_
  refine zj_pipeM (fun m4 e_m4 => ?_)
  refine zj_aload_n (j := 0) (i := 0) C rfl 0 rfl dX12_begin_13 ?_
  refine zj_iload_n (j := 1) (i := 1) C rfl 1 rfl dX12_begin_14 ?_
  refine zj_putI C F 4 rfl zk_138 fl_X12_27 rfl fp_12_4 h_x0 dX12_begin_15 ?_
  refine zj_pipeM (fun m5 e_m5 => ?_)
  refine zj_aload_n (j := 0) (i := 0) C rfl 0 rfl dX12_begin_18 ?_
  refine zj_iconst C 0 dX12_begin_19 ?_
  refine zj_putI C F 10 rfl zk_138 fl_X12_66 rfl fp_12_10 irc_0 dX12_begin_20 ?_
  refine zj_pipeM (fun m6 e_m6 => ?_)
  refine zj_aload_n (j := 0) (i := 0) C rfl 0 rfl dX12_begin_23 ?_
  refine zj_iconst C 0 dX12_begin_24 ?_
  refine zj_putI C F 5 rfl zk_138 fl_X12_21 rfl fp_12_5 irc_0 dX12_begin_25 ?_
  refine zj_pipeM (fun m7 e_m7 => ?_)
  refine zj_aload_n (j := 0) (i := 0) C rfl 0 rfl dX12_begin_28 ?_
  refine zj_callVv C F Z [] [] cal_X12_go calv_X12_go ml_X12_82 zk_138 rfl rfl (by decide) (Nat.le_of_ble_eq_true rfl) rfl dX12_begin_29 (fun q h => M_X12_go l Γ F  m7 q h) (fun _ m8 _ => ?_)
  exact zrt_v C Z dX12_begin_32
noncomputable def b_X12_startSo_0 (rec : Int → zMem → Option (Int × zMem)) (v1 : Int) (mem : zMem) : Option (Int × zMem) := if v1 ≥ 64 then (some (0, mem)) else (if ix 140 (w32 (42 + v1)) then if ix 140 (w32 (128 + v1)) then pipe (zup mem 140 (w32 (128 + v1)) (mem 140 (w32 (42 + v1)))) fun m5 => rec (w32 (v1 + 1)) m5 else none else none)
noncomputable def f_X12_startSo_0 : Nat → Int → zMem → Option (Int × zMem) := zfuel (fun _ _ => none) (b_X12_startSo_0)
set_option maxHeartbeats 4000000 in
theorem L_X12_startSo_0 (l : Launch) {Γ : zG} (F : zFull Γ) {X : zM} {q : Int × zMem} (C : zC X Γ "ShadowHeirsModel" cX12_startSo 2) (Z : zRt X l Γ 1 0 none q) : ∀ n : Nat, ∀ (v1 : Int) (h_v1 : ir v1) (mem : zMem), zJ X Γ 2 q (f_X12_startSo_0 n v1 mem) 88 [(0, .ref (zad Γ 138)), (1, .int (i32 v1))] [] mem := by
  intro n
  induction n with
  | zero => intros; exact zj_none
  | succ n ih =>
    intro v1 h_v1 mem
    show zJ X Γ 2 q (b_X12_startSo_0 (f_X12_startSo_0 n) v1 mem) _ _ _ _
    unfold b_X12_startSo_0
    refine zj_iload_n (j := 1) (i := 1) C rfl 1 rfl dX12_startSo_88 ?_
    refine zj_bipush C 64 rfl dX12_startSo_89 ?_
    refine zj_icmp_ge C 119 h_v1 irc_64 dX12_startSo_91 rfl (fun c1 => ?_) (fun c1 => ?_)
    · exact zrt_v C Z dX12_startSo_119
    · refine zj_aload_n (j := 0) (i := 0) C rfl 0 rfl dX12_startSo_94 ?_
      refine zj_getR C F zk_138 fl_X12_98 rfl rf_138_14 dX12_startSo_95 ?_
      refine zj_sipush C 128 rfl dX12_startSo_98 ?_
      refine zj_iload_n (j := 1) (i := 1) C rfl 1 rfl dX12_startSo_101 ?_
      refine zj_iadd C dX12_startSo_102 ?_
      refine zj_aload_n (j := 0) (i := 0) C rfl 0 rfl dX12_startSo_103 ?_
      refine zj_getR C F zk_138 fl_X12_98 rfl rf_138_14 dX12_startSo_104 ?_
      refine zj_bipush C 42 rfl dX12_startSo_107 ?_
      refine zj_iload_n (j := 1) (i := 1) C rfl 1 rfl dX12_startSo_109 ?_
      refine zj_iadd C dX12_startSo_110 ?_
      refine zj_iaload C F zk_140 (ir_w _) dX12_startSo_111 (fun c2 h3 => ?_)
      refine zj_iastore C F zk_140 (ir_w _) h3 dX12_startSo_112 (fun c4 => ?_)
      refine zj_pipeM (fun m5 e_m5 => ?_)
      refine zj_iinc C 1 [(1, .int (i32 (w32 (v1 + 1)))), (0, .ref (zad Γ 138))] rfl dX12_startSo_113 (by decide) rfl ?_
      refine zj_goto (tgt := 88) C dX12_startSo_116 rfl ?_
      exact zj_sub [1, 0] rfl (ih (w32 (v1 + 1)) (ir_w _) m5)
noncomputable def b_X12_startSo_1 (rec : Int → zMem → Option (Int × zMem)) (v1 : Int) (mem : zMem) : Option (Int × zMem) := if v1 ≥ 6 then (f_X12_startSo_0 zN 0 mem) else (if ix 140 (w32 (20 + v1)) then if ix 140 (w32 (116 + v1)) then pipe (zup mem 140 (w32 (116 + v1)) (mem 140 (w32 (20 + v1)))) fun m5 => rec (w32 (v1 + 1)) m5 else none else none)
noncomputable def f_X12_startSo_1 : Nat → Int → zMem → Option (Int × zMem) := zfuel (fun _ _ => none) (b_X12_startSo_1)
set_option maxHeartbeats 4000000 in
theorem L_X12_startSo_1 (l : Launch) {Γ : zG} (F : zFull Γ) {X : zM} {q : Int × zMem} (C : zC X Γ "ShadowHeirsModel" cX12_startSo 2) (Z : zRt X l Γ 1 0 none q) : ∀ n : Nat, ∀ (v1 : Int) (h_v1 : ir v1) (mem : zMem), zJ X Γ 2 q (f_X12_startSo_1 n v1 mem) 56 [(0, .ref (zad Γ 138)), (1, .int (i32 v1))] [] mem := by
  intro n
  induction n with
  | zero => intros; exact zj_none
  | succ n ih =>
    intro v1 h_v1 mem
    show zJ X Γ 2 q (b_X12_startSo_1 (f_X12_startSo_1 n) v1 mem) _ _ _ _
    unfold b_X12_startSo_1
    refine zj_iload_n (j := 1) (i := 1) C rfl 1 rfl dX12_startSo_56 ?_
    refine zj_bipush C 6 rfl dX12_startSo_57 ?_
    refine zj_icmp_ge C 86 h_v1 irc_6 dX12_startSo_59 rfl (fun c1 => ?_) (fun c1 => ?_)
    · refine zj_iconst C 0 dX12_startSo_86 ?_
      refine zj_istore_n (j := 1) (i := 1) C rfl [(1, .int (i32 0)), (0, .ref (zad Γ 138))] dX12_startSo_87 (by decide) rfl ?_
      exact zj_sub [1, 0] rfl ((L_X12_startSo_0 l F C Z zN) 0 irc_0 mem)
    · refine zj_aload_n (j := 0) (i := 0) C rfl 0 rfl dX12_startSo_62 ?_
      refine zj_getR C F zk_138 fl_X12_98 rfl rf_138_14 dX12_startSo_63 ?_
      refine zj_bipush C 116 rfl dX12_startSo_66 ?_
      refine zj_iload_n (j := 1) (i := 1) C rfl 1 rfl dX12_startSo_68 ?_
      refine zj_iadd C dX12_startSo_69 ?_
      refine zj_aload_n (j := 0) (i := 0) C rfl 0 rfl dX12_startSo_70 ?_
      refine zj_getR C F zk_138 fl_X12_98 rfl rf_138_14 dX12_startSo_71 ?_
      refine zj_bipush C 20 rfl dX12_startSo_74 ?_
      refine zj_iload_n (j := 1) (i := 1) C rfl 1 rfl dX12_startSo_76 ?_
      refine zj_iadd C dX12_startSo_77 ?_
      refine zj_iaload C F zk_140 (ir_w _) dX12_startSo_78 (fun c2 h3 => ?_)
      refine zj_iastore C F zk_140 (ir_w _) h3 dX12_startSo_79 (fun c4 => ?_)
      refine zj_pipeM (fun m5 e_m5 => ?_)
      refine zj_iinc C 1 [(1, .int (i32 (w32 (v1 + 1)))), (0, .ref (zad Γ 138))] rfl dX12_startSo_80 (by decide) rfl ?_
      refine zj_goto (tgt := 56) C dX12_startSo_83 rfl ?_
      exact zj_sub [1, 0] rfl (ih (w32 (v1 + 1)) (ir_w _) m5)
noncomputable def b_X12_startSo_2 (rec : Int → zMem → Option (Int × zMem)) (v1 : Int) (mem : zMem) : Option (Int × zMem) := if v1 ≥ 5 then (f_X12_startSo_1 zN 0 mem) else (if ix 140 (w32 (15 + v1)) then if ix 140 (w32 (111 + v1)) then pipe (zup mem 140 (w32 (111 + v1)) (mem 140 (w32 (15 + v1)))) fun m5 => rec (w32 (v1 + 1)) m5 else none else none)
noncomputable def f_X12_startSo_2 : Nat → Int → zMem → Option (Int × zMem) := zfuel (fun _ _ => none) (b_X12_startSo_2)
set_option maxHeartbeats 4000000 in
theorem L_X12_startSo_2 (l : Launch) {Γ : zG} (F : zFull Γ) {X : zM} {q : Int × zMem} (C : zC X Γ "ShadowHeirsModel" cX12_startSo 2) (Z : zRt X l Γ 1 0 none q) : ∀ n : Nat, ∀ (v1 : Int) (h_v1 : ir v1) (mem : zMem), zJ X Γ 2 q (f_X12_startSo_2 n v1 mem) 25 [(0, .ref (zad Γ 138)), (1, .int (i32 v1))] [] mem := by
  intro n
  induction n with
  | zero => intros; exact zj_none
  | succ n ih =>
    intro v1 h_v1 mem
    show zJ X Γ 2 q (b_X12_startSo_2 (f_X12_startSo_2 n) v1 mem) _ _ _ _
    unfold b_X12_startSo_2
    refine zj_iload_n (j := 1) (i := 1) C rfl 1 rfl dX12_startSo_25 ?_
    refine zj_iconst C 5 dX12_startSo_26 ?_
    refine zj_icmp_ge C 54 h_v1 irc_5 dX12_startSo_27 rfl (fun c1 => ?_) (fun c1 => ?_)
    · refine zj_iconst C 0 dX12_startSo_54 ?_
      refine zj_istore_n (j := 1) (i := 1) C rfl [(1, .int (i32 0)), (0, .ref (zad Γ 138))] dX12_startSo_55 (by decide) rfl ?_
      exact zj_sub [1, 0] rfl ((L_X12_startSo_1 l F C Z zN) 0 irc_0 mem)
    · refine zj_aload_n (j := 0) (i := 0) C rfl 0 rfl dX12_startSo_30 ?_
      refine zj_getR C F zk_138 fl_X12_98 rfl rf_138_14 dX12_startSo_31 ?_
      refine zj_bipush C 111 rfl dX12_startSo_34 ?_
      refine zj_iload_n (j := 1) (i := 1) C rfl 1 rfl dX12_startSo_36 ?_
      refine zj_iadd C dX12_startSo_37 ?_
      refine zj_aload_n (j := 0) (i := 0) C rfl 0 rfl dX12_startSo_38 ?_
      refine zj_getR C F zk_138 fl_X12_98 rfl rf_138_14 dX12_startSo_39 ?_
      refine zj_bipush C 15 rfl dX12_startSo_42 ?_
      refine zj_iload_n (j := 1) (i := 1) C rfl 1 rfl dX12_startSo_44 ?_
      refine zj_iadd C dX12_startSo_45 ?_
      refine zj_iaload C F zk_140 (ir_w _) dX12_startSo_46 (fun c2 h3 => ?_)
      refine zj_iastore C F zk_140 (ir_w _) h3 dX12_startSo_47 (fun c4 => ?_)
      refine zj_pipeM (fun m5 e_m5 => ?_)
      refine zj_iinc C 1 [(1, .int (i32 (w32 (v1 + 1)))), (0, .ref (zad Γ 138))] rfl dX12_startSo_48 (by decide) rfl ?_
      refine zj_goto (tgt := 25) C dX12_startSo_51 rfl ?_
      exact zj_sub [1, 0] rfl (ih (w32 (v1 + 1)) (ir_w _) m5)
noncomputable def b_X12_startSo_3 (rec : Int → zMem → Option (Int × zMem)) (v1 : Int) (mem : zMem) : Option (Int × zMem) := if v1 ≥ 434 then (f_X12_startSo_2 zN 0 mem) else (if ix 140 v1 then pipe (zup mem 140 v1 0) fun m3 => rec (w32 (v1 + 1)) m3 else none)
noncomputable def f_X12_startSo_3 : Nat → Int → zMem → Option (Int × zMem) := zfuel (fun _ _ => none) (b_X12_startSo_3)
set_option maxHeartbeats 4000000 in
theorem L_X12_startSo_3 (l : Launch) {Γ : zG} (F : zFull Γ) {X : zM} {q : Int × zMem} (C : zC X Γ "ShadowHeirsModel" cX12_startSo 2) (Z : zRt X l Γ 1 0 none q) : ∀ n : Nat, ∀ (v1 : Int) (h_v1 : ir v1) (mem : zMem), zJ X Γ 2 q (f_X12_startSo_3 n v1 mem) 3 [(0, .ref (zad Γ 138)), (1, .int (i32 v1))] [] mem := by
  intro n
  induction n with
  | zero => intros; exact zj_none
  | succ n ih =>
    intro v1 h_v1 mem
    show zJ X Γ 2 q (b_X12_startSo_3 (f_X12_startSo_3 n) v1 mem) _ _ _ _
    unfold b_X12_startSo_3
    refine zj_iload_n (j := 1) (i := 1) C rfl 1 rfl dX12_startSo_3 ?_
    refine zj_sipush C 434 rfl dX12_startSo_4 ?_
    refine zj_icmp_ge C 23 h_v1 irc_434 dX12_startSo_7 rfl (fun c1 => ?_) (fun c1 => ?_)
    · refine zj_iconst C 0 dX12_startSo_23 ?_
      refine zj_istore_n (j := 1) (i := 1) C rfl [(1, .int (i32 0)), (0, .ref (zad Γ 138))] dX12_startSo_24 (by decide) rfl ?_
      exact zj_sub [1, 0] rfl ((L_X12_startSo_2 l F C Z zN) 0 irc_0 mem)
    · refine zj_aload_n (j := 0) (i := 0) C rfl 0 rfl dX12_startSo_10 ?_
      refine zj_getR C F zk_138 fl_X12_98 rfl rf_138_14 dX12_startSo_11 ?_
      refine zj_iload_n (j := 1) (i := 1) C rfl 1 rfl dX12_startSo_14 ?_
      refine zj_iconst C 0 dX12_startSo_15 ?_
      refine zj_iastore C F zk_140 h_v1 irc_0 dX12_startSo_16 (fun c2 => ?_)
      refine zj_pipeM (fun m3 e_m3 => ?_)
      refine zj_iinc C 1 [(1, .int (i32 (w32 (v1 + 1)))), (0, .ref (zad Γ 138))] rfl dX12_startSo_17 (by decide) rfl ?_
      refine zj_goto (tgt := 3) C dX12_startSo_20 rfl ?_
      exact zj_sub [1, 0] rfl (ih (w32 (v1 + 1)) (ir_w _) m3)
noncomputable def f_X12_startSo  (mem : zMem) : Option (Int × zMem) := f_X12_startSo_3 zN 106 mem
set_option maxHeartbeats 4000000 in
theorem M_X12_startSo (l : Launch) (Γ : zG) (F : zFull Γ)    (mem : zMem) (q : Int × zMem) (h : f_X12_startSo  mem = some q) : zMet l yX12_startSo cX12_startSo 2 none 1 Γ 0 [.ref (zad Γ 138)] mem q := by
  refine zMet_of (own := "ShadowHeirsModel") (by decide) rfl (Nat.le_of_ble_eq_true rfl) (fun X C Z => ?_)
  revert h
  show zJ X Γ 2 q (f_X12_startSo  mem) 0 [(0, .ref (zad Γ 138))] [] mem
  unfold f_X12_startSo
  refine zj_bipush C 106 rfl dX12_startSo_0 ?_
  refine zj_istore_n (j := 1) (i := 1) C rfl [(1, .int (i32 106)), (0, .ref (zad Γ 138))] dX12_startSo_2 (by decide) rfl ?_
  exact zj_sub [1, 0] rfl ((L_X12_startSo_3 l F C Z zN) 106 irc_106 mem)
noncomputable def b_X12_findIn_0 (rec : Nat → Int → Int → Int → Int → zMem → Option (Int × zMem)) (r0 : Nat) (v1 : Int) (v2 : Int) (w3 : Int) (v5 : Int) (mem : zMem) : Option (Int × zMem) := if v5 ≥ v2 then (some ((-1), mem)) else (if ix r0 (w32 (v1 + v5)) then if (zcmp (mem r0 (w32 (v1 + v5))) w3) = 0 then (some (v5, mem)) else (rec r0 v1 v2 w3 (w32 (v5 + 1)) mem) else none)
noncomputable def f_X12_findIn_0 : Nat → Nat → Int → Int → Int → Int → zMem → Option (Int × zMem) := zfuel (fun _ _ _ _ _ _ => none) (b_X12_findIn_0)
set_option maxHeartbeats 4000000 in
theorem L_X12_findIn_0 (l : Launch) {Γ : zG} (F : zFull Γ) {X : zM} {q : Int × zMem} (C : zC X Γ "ShadowHeirsModel" cX12_findIn 6) (Z : zRt X l Γ 1 1 (some .int) q) : ∀ n : Nat, ∀ (r0 : Nat) (v1 : Int) (v2 : Int) (w3 : Int) (v5 : Int) (h_r0 : zk r0 14) (h_v1 : ir v1) (h_v2 : ir v2) (h_w3 : lr w3) (h_v5 : ir v5) (mem : zMem), zJ X Γ 6 q (f_X12_findIn_0 n r0 v1 v2 w3 v5 mem) 3 [(0, .ref (zad Γ r0)), (1, .int (i32 v1)), (2, .int (i32 v2)), (3, .long (i64 w3)), (5, .int (i32 v5))] [] mem := by
  intro n
  induction n with
  | zero => intros; exact zj_none
  | succ n ih =>
    intro r0 v1 v2 w3 v5 h_r0 h_v1 h_v2 h_w3 h_v5 mem
    show zJ X Γ 6 q (b_X12_findIn_0 (f_X12_findIn_0 n) r0 v1 v2 w3 v5 mem) _ _ _ _
    unfold b_X12_findIn_0
    refine zj_iload C 4 rfl dX12_findIn_3 ?_
    refine zj_iload_n (j := 2) (i := 2) C rfl 2 rfl dX12_findIn_5 ?_
    refine zj_icmp_ge C 29 h_v5 h_v2 dX12_findIn_6 rfl (fun c1 => ?_) (fun c1 => ?_)
    · refine zj_iconst C (-1) dX12_findIn_29 ?_
      exact zrt_i C Z irc_m1 dX12_findIn_30
    · refine zj_aload_n (j := 0) (i := 0) C rfl 0 rfl dX12_findIn_9 ?_
      refine zj_iload_n (j := 1) (i := 1) C rfl 1 rfl dX12_findIn_10 ?_
      refine zj_iload C 4 rfl dX12_findIn_11 ?_
      refine zj_iadd C dX12_findIn_13 ?_
      refine zj_laload C F h_r0 (ir_w _) dX12_findIn_14 (fun c2 h3 => ?_)
      refine zj_lload_n (j := 3) (i := 3) C rfl 3 rfl dX12_findIn_15 ?_
      refine zj_lcmp C h3 h_w3 dX12_findIn_16 ?_
      refine zj_if_ne C 23 (ir_cmp _ _) dX12_findIn_17 rfl (fun c4 => ?_) (fun c4 => ?_)
      · refine zj_iload C 4 rfl dX12_findIn_20 ?_
        exact zrt_i C Z h_v5 dX12_findIn_22
      · refine zj_iinc C 4 [(5, .int (i32 (w32 (v5 + 1)))), (0, .ref (zad Γ r0)), (1, .int (i32 v1)), (2, .int (i32 v2)), (3, .long (i64 w3))] rfl dX12_findIn_23 (by decide) rfl ?_
        refine zj_goto (tgt := 3) C dX12_findIn_26 rfl ?_
        exact zj_sub [1, 2, 3, 4, 0] rfl (ih r0 v1 v2 w3 (w32 (v5 + 1)) h_r0 h_v1 h_v2 h_w3 (ir_w _) mem)
noncomputable def f_X12_findIn (t0 : Nat) (x1 : Int) (x2 : Int) (x3 : Int) (mem : zMem) : Option (Int × zMem) := f_X12_findIn_0 zN t0 x1 x2 x3 0 mem
set_option maxHeartbeats 4000000 in
theorem M_X12_findIn (l : Launch) (Γ : zG) (F : zFull Γ)  {t0 : Nat} {x1 : Int} {x2 : Int} {x3 : Int} (h_t0 : zk t0 14) (h_x1 : ir x1) (h_x2 : ir x2) (h_x3 : lr x3) (mem : zMem) (q : Int × zMem) (h : f_X12_findIn t0 x1 x2 x3 mem = some q) : zMet l yX12_findIn cX12_findIn 6 (some .int) 1 Γ 1 [.ref (zad Γ t0), .int (i32 x1), .int (i32 x2), .long (i64 x3)] mem q := by
  refine zMet_of (own := "ShadowHeirsModel") (by decide) rfl (Nat.le_of_ble_eq_true rfl) (fun X C Z => ?_)
  revert h
  show zJ X Γ 6 q (f_X12_findIn t0 x1 x2 x3 mem) 0 [(0, .ref (zad Γ t0)), (1, .int (i32 x1)), (2, .int (i32 x2)), (3, .long (i64 x3))] [] mem
  unfold f_X12_findIn
  refine zj_iconst C 0 dX12_findIn_0 ?_
  refine zj_istore C [(5, .int (i32 0)), (0, .ref (zad Γ t0)), (1, .int (i32 x1)), (2, .int (i32 x2)), (3, .long (i64 x3))] dX12_findIn_1 (by decide) rfl ?_
  exact zj_sub [1, 2, 3, 4, 0] rfl ((L_X12_findIn_0 l F C Z zN) t0 x1 x2 x3 0 h_t0 h_x1 h_x2 h_x3 irc_0 mem)
noncomputable def f_X12_readNew (x0 : Int) (mem : zMem) : Option (Int × zMem) := zbind (f_X12_isName mem) fun y1 m2 => if y1 = 0 then (zbind (f_X12_bad 1 m2) fun y4 m5 => if y4 = 0 ∨ y4 = 1 then some (y4, m5) else none) else (if ix 141 2 then zbind (f_X12_findIn 146 0 (m2 141 2) (m2 138 12) m2) fun y9 m10 => if y9 = (-1) then (if ix 141 3 then zbind (f_X12_findIn 146 5 (m10 141 3) (m10 138 12) m10) fun y15 m16 => if y15 = (-1) then (if ix 146 x0 then pipe (zup m16 146 x0 (m16 138 12)) fun m20 => zbind (f_X12_go m20) fun _ m21 => some (1, m21) else none) else (zbind (f_X12_bad 3 m16) fun y22 m23 => if y22 = 0 ∨ y22 = 1 then some (y22, m23) else none) else none) else (zbind (f_X12_bad 3 m10) fun y24 m25 => if y24 = 0 ∨ y24 = 1 then some (y24, m25) else none) else none)
set_option maxHeartbeats 4000000 in
theorem M_X12_readNew (l : Launch) (Γ : zG) (F : zFull Γ)  {x0 : Int} (h_x0 : ir x0) (mem : zMem) (q : Int × zMem) (h : f_X12_readNew x0 mem = some q) : zMet l yX12_readNew cX12_readNew 2 (some .boolean) 4 Γ 1 [.ref (zad Γ 138), .int (i32 x0)] mem q := by
  refine zMet_of (own := "ShadowHeirsModel") (by decide) rfl (Nat.le_of_ble_eq_true rfl) (fun X C Z => ?_)
  revert h
  show zJ X Γ 2 q (f_X12_readNew x0 mem) 0 [(0, .ref (zad Γ 138)), (1, .int (i32 x0))] [] mem
  unfold f_X12_readNew
  refine zj_aload_n (j := 0) (i := 0) C rfl 0 rfl dX12_readNew_0 ?_
  refine zj_callVi C F Z [] [] cal_X12_isName calv_X12_isName ml_X12_166 zk_138 rfl rfl (by decide) (Nat.le_of_ble_eq_true rfl) rfl dX12_readNew_1 (fun q h => M_X12_isName l Γ F  mem q h) (fun y1 m2 h_y1 => ?_)
  refine zj_if_ne C 13 h_y1 dX12_readNew_4 rfl (fun c3 => ?_) (fun c3 => ?_)
  · refine zj_aload_n (j := 0) (i := 0) C rfl 0 rfl dX12_readNew_7 ?_
    refine zj_iconst C 1 dX12_readNew_8 ?_
    refine zj_callVi C F Z [.int (i32 1)] [] cal_X12_bad calv_X12_bad ml_X12_72 zk_138 rfl rfl (by decide) (Nat.le_of_ble_eq_true rfl) rfl dX12_readNew_9 (fun q h => M_X12_bad l Γ F irc_1 m2 q h) (fun y4 m5 h_y4 => ?_)
    exact zrt_zc C Z dX12_readNew_12
  · refine zj_aload_n (j := 0) (i := 0) C rfl 0 rfl dX12_readNew_13 ?_
    refine zj_getR C F zk_138 fl_X12_117 rfl rf_138_20 dX12_readNew_14 ?_
    refine zj_iconst C 0 dX12_readNew_17 ?_
    refine zj_aload_n (j := 0) (i := 0) C rfl 0 rfl dX12_readNew_18 ?_
    refine zj_getR C F zk_138 fl_X12_101 rfl rf_138_15 dX12_readNew_19 ?_
    refine zj_iconst C 2 dX12_readNew_22 ?_
    refine zj_iaload C F zk_141 irc_2 dX12_readNew_23 (fun c6 h7 => ?_)
    refine zj_aload_n (j := 0) (i := 0) C rfl 0 rfl dX12_readNew_24 ?_
    refine zj_getL C F 12 rfl zk_138 fl_X12_43 rfl dX12_readNew_25 (fun h8 => ?_)
    refine zj_callSi C Z [.ref (zad Γ 146), .int (i32 0), .int (i32 (m2 141 2)), .long (i64 (m2 138 12))] [] cal_X12_findIn sta_X12_findIn ml_X12_170 rfl (by decide) (Nat.le_of_ble_eq_true rfl) rfl dX12_readNew_28 (fun q h => M_X12_findIn l Γ F zk_146 irc_0 h7 h8 m2 q h) (fun y9 m10 h_y9 => ?_)
    refine zj_iconst C (-1) dX12_readNew_31 ?_
    refine zj_icmp_ne C 57 h_y9 irc_m1 dX12_readNew_32 rfl (fun c11 => ?_) (fun c11 => ?_)
    · refine zj_aload_n (j := 0) (i := 0) C rfl 0 rfl dX12_readNew_35 ?_
      refine zj_getR C F zk_138 fl_X12_117 rfl rf_138_20 dX12_readNew_36 ?_
      refine zj_iconst C 5 dX12_readNew_39 ?_
      refine zj_aload_n (j := 0) (i := 0) C rfl 0 rfl dX12_readNew_40 ?_
      refine zj_getR C F zk_138 fl_X12_101 rfl rf_138_15 dX12_readNew_41 ?_
      refine zj_iconst C 3 dX12_readNew_44 ?_
      refine zj_iaload C F zk_141 irc_3 dX12_readNew_45 (fun c12 h13 => ?_)
      refine zj_aload_n (j := 0) (i := 0) C rfl 0 rfl dX12_readNew_46 ?_
      refine zj_getL C F 12 rfl zk_138 fl_X12_43 rfl dX12_readNew_47 (fun h14 => ?_)
      refine zj_callSi C Z [.ref (zad Γ 146), .int (i32 5), .int (i32 (m10 141 3)), .long (i64 (m10 138 12))] [] cal_X12_findIn sta_X12_findIn ml_X12_170 rfl (by decide) (Nat.le_of_ble_eq_true rfl) rfl dX12_readNew_50 (fun q h => M_X12_findIn l Γ F zk_146 irc_5 h13 h14 m10 q h) (fun y15 m16 h_y15 => ?_)
      refine zj_iconst C (-1) dX12_readNew_53 ?_
      refine zj_icmp_eq C 63 h_y15 irc_m1 dX12_readNew_54 rfl (fun c17 => ?_) (fun c17 => ?_)
      · refine zj_aload_n (j := 0) (i := 0) C rfl 0 rfl dX12_readNew_63 ?_
        refine zj_getR C F zk_138 fl_X12_117 rfl rf_138_20 dX12_readNew_64 ?_
        refine zj_iload_n (j := 1) (i := 1) C rfl 1 rfl dX12_readNew_67 ?_
        refine zj_aload_n (j := 0) (i := 0) C rfl 0 rfl dX12_readNew_68 ?_
        refine zj_getL C F 12 rfl zk_138 fl_X12_43 rfl dX12_readNew_69 (fun h18 => ?_)
        refine zj_lastore C F zk_146 h_x0 h18 dX12_readNew_72 (fun c19 => ?_)
        refine zj_pipeM (fun m20 e_m20 => ?_)
        refine zj_aload_n (j := 0) (i := 0) C rfl 0 rfl dX12_readNew_73 ?_
        refine zj_callVv C F Z [] [] cal_X12_go calv_X12_go ml_X12_82 zk_138 rfl rfl (by decide) (Nat.le_of_ble_eq_true rfl) rfl dX12_readNew_74 (fun q h => M_X12_go l Γ F  m20 q h) (fun _ m21 _ => ?_)
        refine zj_iconst C 1 dX12_readNew_77 ?_
        exact zrt_z C Z (Or.inr rfl) dX12_readNew_78
      · refine zj_aload_n (j := 0) (i := 0) C rfl 0 rfl dX12_readNew_57 ?_
        refine zj_iconst C 3 dX12_readNew_58 ?_
        refine zj_callVi C F Z [.int (i32 3)] [] cal_X12_bad calv_X12_bad ml_X12_72 zk_138 rfl rfl (by decide) (Nat.le_of_ble_eq_true rfl) rfl dX12_readNew_59 (fun q h => M_X12_bad l Γ F irc_3 m16 q h) (fun y22 m23 h_y22 => ?_)
        exact zrt_zc C Z dX12_readNew_62
    · refine zj_aload_n (j := 0) (i := 0) C rfl 0 rfl dX12_readNew_57 ?_
      refine zj_iconst C 3 dX12_readNew_58 ?_
      refine zj_callVi C F Z [.int (i32 3)] [] cal_X12_bad calv_X12_bad ml_X12_72 zk_138 rfl rfl (by decide) (Nat.le_of_ble_eq_true rfl) rfl dX12_readNew_59 (fun q h => M_X12_bad l Γ F irc_3 m10 q h) (fun y24 m25 h_y24 => ?_)
      exact zrt_zc C Z dX12_readNew_62
