/-! the law's cases: one call of each side, the same answer -/
theorem case_20 {X : zM} {Γ : zG} {l : Launch} {b L t cs sl : Nat} {xs : Nat → Int32} {mem : zMem} (C : zC (kX X cs sl) Γ "ShadowHeirsLaw" code 7) (hl : X.2.1 = l) (hR : kR X = room_1) (F : zFull Γ) (S : sCx X Γ b L xs) (ht : t + 5 < L) (hc : cs ≤ 900 ∧ sl ≤ 10000) (R : Rel mem) (kk : ∀ m2, Rel m2 → zg (kX X cs sl) Γ 7 1438 (lLv Γ b t) [] m2) : zg (kX X cs sl) Γ 7 977 (lLv Γ b t) [] mem := by
  obtain ⟨r, m1, m2, e1, e2, R2⟩ := qCrowd R (xs (t + 1)).toInt (xs (t + 2)).toInt (xs (t + 3)).toInt
  have hc2 : cs ≤ 1000 ∧ sl ≤ 20000 := ⟨Nat.le_trans hc.1 (by decide), Nat.le_trans hc.2 (by decide)⟩
  refine zg_j ?_
  refine zj_aload_n (j := 1) (i := 1) C rfl 1 rfl (by decide +kernel) ?_
  refine j_zg ?_
  refine sg_arg C S t 1 (lt5 ht 1 (by decide)) 0 4 rfl rfl (by decide +kernel) (by decide +kernel) (by decide +kernel) (by decide +kernel) (by decide +kernel) ?_
  refine sg_arg C S t 2 (lt5 ht 2 (by decide)) 0 4 rfl rfl (by decide +kernel) (by decide +kernel) (by decide +kernel) (by decide +kernel) (by decide +kernel) ?_
  refine sg_arg C S t 3 (lt5 ht 3 (by decide)) 0 4 rfl rfl (by decide +kernel) (by decide +kernel) (by decide +kernel) (by decide +kernel) (by decide +kernel) ?_
  refine yg_callV C hl cal_X11_crowd calv_X11_crowd ml_ShadowHeirsLaw_115 (b := 0) (ci := 11) ⟨Nat.lt_of_lt_of_le (by decide) F.1, sK0⟩ rfl (As := [.int (i32 (xs (t + 1)).toInt), .int (i32 (xs (t + 2)).toInt), .int (i32 (xs (t + 3)).toInt)]) (rest := []) rfl (room_ok hR (by decide) hc2) (Nat.le_of_ble_eq_true rfl) (by decide +kernel) (M_X11_crowd l Γ F (ir_toInt _) (ir_toInt _) (ir_toInt _) mem (r, m1) e1) rfl (fun h_y => ?_)
  have h_y : ir r := h_y
  show zg (kX X cs sl) Γ 7 999 (lLv Γ b t) [.int (i32 r)] m1
  refine zg_j ?_
  refine zj_aload_n (j := 2) (i := 2) C rfl 2 rfl (by decide +kernel) ?_
  refine j_zg ?_
  refine sg_arg C S t 1 (lt5 ht 1 (by decide)) 0 4 rfl rfl (by decide +kernel) (by decide +kernel) (by decide +kernel) (by decide +kernel) (by decide +kernel) ?_
  refine sg_arg C S t 2 (lt5 ht 2 (by decide)) 0 4 rfl rfl (by decide +kernel) (by decide +kernel) (by decide +kernel) (by decide +kernel) (by decide +kernel) ?_
  refine sg_arg C S t 3 (lt5 ht 3 (by decide)) 0 4 rfl rfl (by decide +kernel) (by decide +kernel) (by decide +kernel) (by decide +kernel) (by decide +kernel) ?_
  refine yg_callV C hl cal_X12_crowd calv_X12_crowd ml_ShadowHeirsLaw_118 (b := 138) (ci := 12) ⟨Nat.lt_of_lt_of_le (by decide) F.1, sK138⟩ rfl (As := [.int (i32 (xs (t + 1)).toInt), .int (i32 (xs (t + 2)).toInt), .int (i32 (xs (t + 3)).toInt)]) (rest := [.int (i32 r)]) rfl (room_ok hR (by decide) hc2) (Nat.le_of_ble_eq_true rfl) (by decide +kernel) (M_X12_crowd l Γ F (ir_toInt _) (ir_toInt _) (ir_toInt _) m1 (r, m2) e2) rfl (fun _ => ?_)
  show zg (kX X cs sl) Γ 7 1021 (lLv Γ b t) [.int (i32 r), .int (i32 r)] m2
  exact zj_icmp_eq (A := some ()) (B := some ()) (off := 417) C 1438 h_y h_y (by decide +kernel) rfl (fun _ => j_zg (kk m2 R2)) (fun c => absurd rfl c) (if_pos rfl)
theorem case_21 {X : zM} {Γ : zG} {l : Launch} {b L t cs sl : Nat} {xs : Nat → Int32} {mem : zMem} (C : zC (kX X cs sl) Γ "ShadowHeirsLaw" code 7) (hl : X.2.1 = l) (hR : kR X = room_1) (F : zFull Γ) (S : sCx X Γ b L xs) (ht : t + 5 < L) (hc : cs ≤ 900 ∧ sl ≤ 10000) (R : Rel mem) (kk : ∀ m2, Rel m2 → zg (kX X cs sl) Γ 7 1438 (lLv Γ b t) [] m2) : zg (kX X cs sl) Γ 7 1026 (lLv Γ b t) [] mem := by
  obtain ⟨r, m1, m2, e1, e2, R2⟩ := qNear R (xs (t + 1)).toInt (xs (t + 2)).toInt (xs (t + 3)).toInt
  have hc2 : cs ≤ 1000 ∧ sl ≤ 20000 := ⟨Nat.le_trans hc.1 (by decide), Nat.le_trans hc.2 (by decide)⟩
  refine zg_j ?_
  refine zj_aload_n (j := 1) (i := 1) C rfl 1 rfl (by decide +kernel) ?_
  refine j_zg ?_
  refine sg_arg C S t 1 (lt5 ht 1 (by decide)) 0 4 rfl rfl (by decide +kernel) (by decide +kernel) (by decide +kernel) (by decide +kernel) (by decide +kernel) ?_
  refine sg_arg C S t 2 (lt5 ht 2 (by decide)) 0 4 rfl rfl (by decide +kernel) (by decide +kernel) (by decide +kernel) (by decide +kernel) (by decide +kernel) ?_
  refine sg_arg C S t 3 (lt5 ht 3 (by decide)) 0 4 rfl rfl (by decide +kernel) (by decide +kernel) (by decide +kernel) (by decide +kernel) (by decide +kernel) ?_
  refine yg_callV C hl cal_X11_near calv_X11_near ml_ShadowHeirsLaw_119 (b := 0) (ci := 11) ⟨Nat.lt_of_lt_of_le (by decide) F.1, sK0⟩ rfl (As := [.int (i32 (xs (t + 1)).toInt), .int (i32 (xs (t + 2)).toInt), .int (i32 (xs (t + 3)).toInt)]) (rest := []) rfl (room_ok hR (by decide) hc2) (Nat.le_of_ble_eq_true rfl) (by decide +kernel) (M_X11_near l Γ F (ir_toInt _) (ir_toInt _) (ir_toInt _) mem (r, m1) e1) rfl (fun h_y => ?_)
  have h_y : ir r := h_y
  show zg (kX X cs sl) Γ 7 1048 (lLv Γ b t) [.int (i32 r)] m1
  refine zg_j ?_
  refine zj_aload_n (j := 2) (i := 2) C rfl 2 rfl (by decide +kernel) ?_
  refine j_zg ?_
  refine sg_arg C S t 1 (lt5 ht 1 (by decide)) 0 4 rfl rfl (by decide +kernel) (by decide +kernel) (by decide +kernel) (by decide +kernel) (by decide +kernel) ?_
  refine sg_arg C S t 2 (lt5 ht 2 (by decide)) 0 4 rfl rfl (by decide +kernel) (by decide +kernel) (by decide +kernel) (by decide +kernel) (by decide +kernel) ?_
  refine sg_arg C S t 3 (lt5 ht 3 (by decide)) 0 4 rfl rfl (by decide +kernel) (by decide +kernel) (by decide +kernel) (by decide +kernel) (by decide +kernel) ?_
  refine yg_callV C hl cal_X12_near calv_X12_near ml_ShadowHeirsLaw_122 (b := 138) (ci := 12) ⟨Nat.lt_of_lt_of_le (by decide) F.1, sK138⟩ rfl (As := [.int (i32 (xs (t + 1)).toInt), .int (i32 (xs (t + 2)).toInt), .int (i32 (xs (t + 3)).toInt)]) (rest := [.int (i32 r)]) rfl (room_ok hR (by decide) hc2) (Nat.le_of_ble_eq_true rfl) (by decide +kernel) (M_X12_near l Γ F (ir_toInt _) (ir_toInt _) (ir_toInt _) m1 (r, m2) e2) rfl (fun _ => ?_)
  show zg (kX X cs sl) Γ 7 1070 (lLv Γ b t) [.int (i32 r), .int (i32 r)] m2
  exact zj_icmp_eq (A := some ()) (B := some ()) (off := 368) C 1438 h_y h_y (by decide +kernel) rfl (fun _ => j_zg (kk m2 R2)) (fun c => absurd rfl c) (if_pos rfl)
theorem case_22 {X : zM} {Γ : zG} {l : Launch} {b L t cs sl : Nat} {xs : Nat → Int32} {mem : zMem} (C : zC (kX X cs sl) Γ "ShadowHeirsLaw" code 7) (hl : X.2.1 = l) (hR : kR X = room_1) (F : zFull Γ) (S : sCx X Γ b L xs) (ht : t + 5 < L) (hc : cs ≤ 900 ∧ sl ≤ 10000) (R : Rel mem) (kk : ∀ m2, Rel m2 → zg (kX X cs sl) Γ 7 1438 (lLv Γ b t) [] m2) : zg (kX X cs sl) Γ 7 1075 (lLv Γ b t) [] mem := by
  obtain ⟨r, m1, m2, e1, e2, R2⟩ := qWhen R 
  have hc2 : cs ≤ 1000 ∧ sl ≤ 20000 := ⟨Nat.le_trans hc.1 (by decide), Nat.le_trans hc.2 (by decide)⟩
  refine zg_j ?_
  refine zj_aload_n (j := 1) (i := 1) C rfl 1 rfl (by decide +kernel) ?_
  refine j_zg ?_
  refine yg_callV C hl cal_X11_when calv_X11_when ml_ShadowHeirsLaw_123 (b := 0) (ci := 11) ⟨Nat.lt_of_lt_of_le (by decide) F.1, sK0⟩ rfl (As := []) (rest := []) rfl (room_ok hR (by decide) hc2) (Nat.le_of_ble_eq_true rfl) (by decide +kernel) (M_X11_when l Γ F  mem (r, m1) e1) rfl (fun h_y => ?_)
  have h_y : ir r := h_y
  show zg (kX X cs sl) Γ 7 1079 (lLv Γ b t) [.int (i32 r)] m1
  refine zg_j ?_
  refine zj_aload_n (j := 2) (i := 2) C rfl 2 rfl (by decide +kernel) ?_
  refine j_zg ?_
  refine yg_callV C hl cal_X12_when calv_X12_when ml_ShadowHeirsLaw_126 (b := 138) (ci := 12) ⟨Nat.lt_of_lt_of_le (by decide) F.1, sK138⟩ rfl (As := []) (rest := [.int (i32 r)]) rfl (room_ok hR (by decide) hc2) (Nat.le_of_ble_eq_true rfl) (by decide +kernel) (M_X12_when l Γ F  m1 (r, m2) e2) rfl (fun _ => ?_)
  show zg (kX X cs sl) Γ 7 1083 (lLv Γ b t) [.int (i32 r), .int (i32 r)] m2
  exact zj_icmp_eq (A := some ()) (B := some ()) (off := 355) C 1438 h_y h_y (by decide +kernel) rfl (fun _ => j_zg (kk m2 R2)) (fun c => absurd rfl c) (if_pos rfl)
theorem case_23 {X : zM} {Γ : zG} {l : Launch} {b L t cs sl : Nat} {xs : Nat → Int32} {mem : zMem} (C : zC (kX X cs sl) Γ "ShadowHeirsLaw" code 7) (hl : X.2.1 = l) (hR : kR X = room_1) (F : zFull Γ) (S : sCx X Γ b L xs) (ht : t + 5 < L) (hc : cs ≤ 900 ∧ sl ≤ 10000) (R : Rel mem) (kk : ∀ m2, Rel m2 → zg (kX X cs sl) Γ 7 1438 (lLv Γ b t) [] m2) : zg (kX X cs sl) Γ 7 1088 (lLv Γ b t) [] mem := by
  obtain ⟨r, m1, m2, e1, e2, R2⟩ := qAsk R 
  have hc2 : cs ≤ 1000 ∧ sl ≤ 20000 := ⟨Nat.le_trans hc.1 (by decide), Nat.le_trans hc.2 (by decide)⟩
  refine zg_j ?_
  refine zj_aload_n (j := 1) (i := 1) C rfl 1 rfl (by decide +kernel) ?_
  refine j_zg ?_
  refine yg_callV C hl cal_X11_ask calv_X11_ask ml_ShadowHeirsLaw_127 (b := 0) (ci := 11) ⟨Nat.lt_of_lt_of_le (by decide) F.1, sK0⟩ rfl (As := []) (rest := []) rfl (room_ok hR (by decide) hc2) (Nat.le_of_ble_eq_true rfl) (by decide +kernel) (M_X11_ask l Γ F  mem (r, m1) e1) rfl (fun h_y => ?_)
  have h_y : ir r := h_y
  show zg (kX X cs sl) Γ 7 1092 (lLv Γ b t) [.int (i32 r)] m1
  refine zg_j ?_
  refine zj_aload_n (j := 2) (i := 2) C rfl 2 rfl (by decide +kernel) ?_
  refine j_zg ?_
  refine yg_callV C hl cal_X12_ask calv_X12_ask ml_ShadowHeirsLaw_130 (b := 138) (ci := 12) ⟨Nat.lt_of_lt_of_le (by decide) F.1, sK138⟩ rfl (As := []) (rest := [.int (i32 r)]) rfl (room_ok hR (by decide) hc2) (Nat.le_of_ble_eq_true rfl) (by decide +kernel) (M_X12_ask l Γ F  m1 (r, m2) e2) rfl (fun _ => ?_)
  show zg (kX X cs sl) Γ 7 1096 (lLv Γ b t) [.int (i32 r), .int (i32 r)] m2
  exact zj_icmp_eq (A := some ()) (B := some ()) (off := 342) C 1438 h_y h_y (by decide +kernel) rfl (fun _ => j_zg (kk m2 R2)) (fun c => absurd rfl c) (if_pos rfl)
theorem case_24 {X : zM} {Γ : zG} {l : Launch} {b L t cs sl : Nat} {xs : Nat → Int32} {mem : zMem} (C : zC (kX X cs sl) Γ "ShadowHeirsLaw" code 7) (hl : X.2.1 = l) (hR : kR X = room_1) (F : zFull Γ) (S : sCx X Γ b L xs) (ht : t + 5 < L) (hc : cs ≤ 900 ∧ sl ≤ 10000) (R : Rel mem) (kk : ∀ m2, Rel m2 → zg (kX X cs sl) Γ 7 1438 (lLv Γ b t) [] m2) : zg (kX X cs sl) Γ 7 1101 (lLv Γ b t) [] mem := by
  obtain ⟨r, m1, m2, e1, e2, R2⟩ := qLongest R 
  have hc2 : cs ≤ 1000 ∧ sl ≤ 20000 := ⟨Nat.le_trans hc.1 (by decide), Nat.le_trans hc.2 (by decide)⟩
  refine zg_j ?_
  refine zj_aload_n (j := 1) (i := 1) C rfl 1 rfl (by decide +kernel) ?_
  refine j_zg ?_
  refine yg_callV C hl cal_X11_longest calv_X11_longest ml_ShadowHeirsLaw_131 (b := 0) (ci := 11) ⟨Nat.lt_of_lt_of_le (by decide) F.1, sK0⟩ rfl (As := []) (rest := []) rfl (room_ok hR (by decide) hc2) (Nat.le_of_ble_eq_true rfl) (by decide +kernel) (M_X11_longest l Γ F  mem (r, m1) e1) rfl (fun h_y => ?_)
  have h_y : ir r := h_y
  show zg (kX X cs sl) Γ 7 1105 (lLv Γ b t) [.int (i32 r)] m1
  refine zg_j ?_
  refine zj_aload_n (j := 2) (i := 2) C rfl 2 rfl (by decide +kernel) ?_
  refine j_zg ?_
  refine yg_callV C hl cal_X12_longest calv_X12_longest ml_ShadowHeirsLaw_134 (b := 138) (ci := 12) ⟨Nat.lt_of_lt_of_le (by decide) F.1, sK138⟩ rfl (As := []) (rest := [.int (i32 r)]) rfl (room_ok hR (by decide) hc2) (Nat.le_of_ble_eq_true rfl) (by decide +kernel) (M_X12_longest l Γ F  m1 (r, m2) e2) rfl (fun _ => ?_)
  show zg (kX X cs sl) Γ 7 1109 (lLv Γ b t) [.int (i32 r), .int (i32 r)] m2
  exact zj_icmp_eq (A := some ()) (B := some ()) (off := 329) C 1438 h_y h_y (by decide +kernel) rfl (fun _ => j_zg (kk m2 R2)) (fun c => absurd rfl c) (if_pos rfl)
theorem case_25 {X : zM} {Γ : zG} {l : Launch} {b L t cs sl : Nat} {xs : Nat → Int32} {mem : zMem} (C : zC (kX X cs sl) Γ "ShadowHeirsLaw" code 7) (hl : X.2.1 = l) (hR : kR X = room_1) (F : zFull Γ) (S : sCx X Γ b L xs) (ht : t + 5 < L) (hc : cs ≤ 900 ∧ sl ≤ 10000) (R : Rel mem) (kk : ∀ m2, Rel m2 → zg (kX X cs sl) Γ 7 1438 (lLv Γ b t) [] m2) : zg (kX X cs sl) Γ 7 1114 (lLv Γ b t) [] mem := by
  obtain ⟨r, m1, m2, e1, e2, R2⟩ := qLongestAt R (xs (t + 1)).toInt
  have hc2 : cs ≤ 1000 ∧ sl ≤ 20000 := ⟨Nat.le_trans hc.1 (by decide), Nat.le_trans hc.2 (by decide)⟩
  refine zg_j ?_
  refine zj_aload_n (j := 1) (i := 1) C rfl 1 rfl (by decide +kernel) ?_
  refine j_zg ?_
  refine sg_arg C S t 1 (lt5 ht 1 (by decide)) 0 4 rfl rfl (by decide +kernel) (by decide +kernel) (by decide +kernel) (by decide +kernel) (by decide +kernel) ?_
  refine yg_callV C hl cal_X11_longestAt calv_X11_longestAt ml_ShadowHeirsLaw_135 (b := 0) (ci := 11) ⟨Nat.lt_of_lt_of_le (by decide) F.1, sK0⟩ rfl (As := [.int (i32 (xs (t + 1)).toInt)]) (rest := []) rfl (room_ok hR (by decide) hc2) (Nat.le_of_ble_eq_true rfl) (by decide +kernel) (M_X11_longestAt l Γ F (ir_toInt _) mem (r, m1) e1) rfl (fun h_y => ?_)
  have h_y : ir r := h_y
  show zg (kX X cs sl) Γ 7 1124 (lLv Γ b t) [.int (i32 r)] m1
  refine zg_j ?_
  refine zj_aload_n (j := 2) (i := 2) C rfl 2 rfl (by decide +kernel) ?_
  refine j_zg ?_
  refine sg_arg C S t 1 (lt5 ht 1 (by decide)) 0 4 rfl rfl (by decide +kernel) (by decide +kernel) (by decide +kernel) (by decide +kernel) (by decide +kernel) ?_
  refine yg_callV C hl cal_X12_longestAt calv_X12_longestAt ml_ShadowHeirsLaw_138 (b := 138) (ci := 12) ⟨Nat.lt_of_lt_of_le (by decide) F.1, sK138⟩ rfl (As := [.int (i32 (xs (t + 1)).toInt)]) (rest := [.int (i32 r)]) rfl (room_ok hR (by decide) hc2) (Nat.le_of_ble_eq_true rfl) (by decide +kernel) (M_X12_longestAt l Γ F (ir_toInt _) m1 (r, m2) e2) rfl (fun _ => ?_)
  show zg (kX X cs sl) Γ 7 1134 (lLv Γ b t) [.int (i32 r), .int (i32 r)] m2
  exact zj_icmp_eq (A := some ()) (B := some ()) (off := 304) C 1438 h_y h_y (by decide +kernel) rfl (fun _ => j_zg (kk m2 R2)) (fun c => absurd rfl c) (if_pos rfl)
theorem case_26 {X : zM} {Γ : zG} {l : Launch} {b L t cs sl : Nat} {xs : Nat → Int32} {mem : zMem} (C : zC (kX X cs sl) Γ "ShadowHeirsLaw" code 7) (hl : X.2.1 = l) (hR : kR X = room_1) (F : zFull Γ) (S : sCx X Γ b L xs) (ht : t + 5 < L) (hc : cs ≤ 900 ∧ sl ≤ 10000) (R : Rel mem) (kk : ∀ m2, Rel m2 → zg (kX X cs sl) Γ 7 1438 (lLv Γ b t) [] m2) : zg (kX X cs sl) Γ 7 1139 (lLv Γ b t) [] mem := by
  obtain ⟨r, m1, m2, e1, e2, R2⟩ := qSlip R (xs (t + 1)).toInt
  have hc2 : cs ≤ 1000 ∧ sl ≤ 20000 := ⟨Nat.le_trans hc.1 (by decide), Nat.le_trans hc.2 (by decide)⟩
  refine zg_j ?_
  refine zj_aload_n (j := 1) (i := 1) C rfl 1 rfl (by decide +kernel) ?_
  refine j_zg ?_
  refine sg_arg C S t 1 (lt5 ht 1 (by decide)) 0 4 rfl rfl (by decide +kernel) (by decide +kernel) (by decide +kernel) (by decide +kernel) (by decide +kernel) ?_
  refine yg_callV C hl cal_X11_slip calv_X11_slip ml_ShadowHeirsLaw_139 (b := 0) (ci := 11) ⟨Nat.lt_of_lt_of_le (by decide) F.1, sK0⟩ rfl (As := [.int (i32 (xs (t + 1)).toInt)]) (rest := []) rfl (room_ok hR (by decide) hc2) (Nat.le_of_ble_eq_true rfl) (by decide +kernel) (M_X11_slip l Γ F (ir_toInt _) mem (r, m1) e1) rfl (fun h_y => ?_)
  have h_y : ir r := h_y
  show zg (kX X cs sl) Γ 7 1149 (lLv Γ b t) [.int (i32 r)] m1
  refine zg_j ?_
  refine zj_aload_n (j := 2) (i := 2) C rfl 2 rfl (by decide +kernel) ?_
  refine j_zg ?_
  refine sg_arg C S t 1 (lt5 ht 1 (by decide)) 0 4 rfl rfl (by decide +kernel) (by decide +kernel) (by decide +kernel) (by decide +kernel) (by decide +kernel) ?_
  refine yg_callV C hl cal_X12_slip calv_X12_slip ml_ShadowHeirsLaw_142 (b := 138) (ci := 12) ⟨Nat.lt_of_lt_of_le (by decide) F.1, sK138⟩ rfl (As := [.int (i32 (xs (t + 1)).toInt)]) (rest := [.int (i32 r)]) rfl (room_ok hR (by decide) hc2) (Nat.le_of_ble_eq_true rfl) (by decide +kernel) (M_X12_slip l Γ F (ir_toInt _) m1 (r, m2) e2) rfl (fun _ => ?_)
  show zg (kX X cs sl) Γ 7 1159 (lLv Γ b t) [.int (i32 r), .int (i32 r)] m2
  exact zj_icmp_eq (A := some ()) (B := some ()) (off := 279) C 1438 h_y h_y (by decide +kernel) rfl (fun _ => j_zg (kk m2 R2)) (fun c => absurd rfl c) (if_pos rfl)
theorem case_27 {X : zM} {Γ : zG} {l : Launch} {b L t cs sl : Nat} {xs : Nat → Int32} {mem : zMem} (C : zC (kX X cs sl) Γ "ShadowHeirsLaw" code 7) (hl : X.2.1 = l) (hR : kR X = room_1) (F : zFull Γ) (S : sCx X Γ b L xs) (ht : t + 5 < L) (hc : cs ≤ 900 ∧ sl ≤ 10000) (R : Rel mem) (kk : ∀ m2, Rel m2 → zg (kX X cs sl) Γ 7 1438 (lLv Γ b t) [] m2) : zg (kX X cs sl) Γ 7 1164 (lLv Γ b t) [] mem := by
  obtain ⟨r, m1, m2, e1, e2, R2⟩ := qByteAt R (xs (t + 1)).toInt
  have hc2 : cs ≤ 1000 ∧ sl ≤ 20000 := ⟨Nat.le_trans hc.1 (by decide), Nat.le_trans hc.2 (by decide)⟩
  refine zg_j ?_
  refine zj_aload_n (j := 1) (i := 1) C rfl 1 rfl (by decide +kernel) ?_
  refine j_zg ?_
  refine sg_arg C S t 1 (lt5 ht 1 (by decide)) 0 4 rfl rfl (by decide +kernel) (by decide +kernel) (by decide +kernel) (by decide +kernel) (by decide +kernel) ?_
  refine yg_callV C hl cal_X11_byteAt calv_X11_byteAt ml_ShadowHeirsLaw_143 (b := 0) (ci := 11) ⟨Nat.lt_of_lt_of_le (by decide) F.1, sK0⟩ rfl (As := [.int (i32 (xs (t + 1)).toInt)]) (rest := []) rfl (room_ok hR (by decide) hc2) (Nat.le_of_ble_eq_true rfl) (by decide +kernel) (M_X11_byteAt l Γ F (ir_toInt _) mem (r, m1) e1) rfl (fun h_y => ?_)
  have h_y : ir r := h_y
  show zg (kX X cs sl) Γ 7 1174 (lLv Γ b t) [.int (i32 r)] m1
  refine zg_j ?_
  refine zj_aload_n (j := 2) (i := 2) C rfl 2 rfl (by decide +kernel) ?_
  refine j_zg ?_
  refine sg_arg C S t 1 (lt5 ht 1 (by decide)) 0 4 rfl rfl (by decide +kernel) (by decide +kernel) (by decide +kernel) (by decide +kernel) (by decide +kernel) ?_
  refine yg_callV C hl cal_X12_byteAt calv_X12_byteAt ml_ShadowHeirsLaw_146 (b := 138) (ci := 12) ⟨Nat.lt_of_lt_of_le (by decide) F.1, sK138⟩ rfl (As := [.int (i32 (xs (t + 1)).toInt)]) (rest := [.int (i32 r)]) rfl (room_ok hR (by decide) hc2) (Nat.le_of_ble_eq_true rfl) (by decide +kernel) (M_X12_byteAt l Γ F (ir_toInt _) m1 (r, m2) e2) rfl (fun _ => ?_)
  show zg (kX X cs sl) Γ 7 1184 (lLv Γ b t) [.int (i32 r), .int (i32 r)] m2
  exact zj_icmp_eq (A := some ()) (B := some ()) (off := 254) C 1438 h_y h_y (by decide +kernel) rfl (fun _ => j_zg (kk m2 R2)) (fun c => absurd rfl c) (if_pos rfl)
theorem case_28 {X : zM} {Γ : zG} {l : Launch} {b L t cs sl : Nat} {xs : Nat → Int32} {mem : zMem} (C : zC (kX X cs sl) Γ "ShadowHeirsLaw" code 7) (hl : X.2.1 = l) (hR : kR X = room_1) (F : zFull Γ) (S : sCx X Γ b L xs) (ht : t + 5 < L) (hc : cs ≤ 900 ∧ sl ≤ 10000) (R : Rel mem) (kk : ∀ m2, Rel m2 → zg (kX X cs sl) Γ 7 1438 (lLv Γ b t) [] m2) : zg (kX X cs sl) Γ 7 1189 (lLv Γ b t) [] mem := by
  obtain ⟨r, m1, m2, e1, e2, R2⟩ := qDrawn R (xs (t + 1)).toInt (xs (t + 2)).toInt
  have hc2 : cs ≤ 1000 ∧ sl ≤ 20000 := ⟨Nat.le_trans hc.1 (by decide), Nat.le_trans hc.2 (by decide)⟩
  refine zg_j ?_
  refine zj_aload_n (j := 1) (i := 1) C rfl 1 rfl (by decide +kernel) ?_
  refine j_zg ?_
  refine sg_arg C S t 1 (lt5 ht 1 (by decide)) 0 4 rfl rfl (by decide +kernel) (by decide +kernel) (by decide +kernel) (by decide +kernel) (by decide +kernel) ?_
  refine sg_arg C S t 2 (lt5 ht 2 (by decide)) 0 4 rfl rfl (by decide +kernel) (by decide +kernel) (by decide +kernel) (by decide +kernel) (by decide +kernel) ?_
  refine yg_callV C hl cal_X11_drawn calv_X11_drawn ml_ShadowHeirsLaw_147 (b := 0) (ci := 11) ⟨Nat.lt_of_lt_of_le (by decide) F.1, sK0⟩ rfl (As := [.int (i32 (xs (t + 1)).toInt), .int (i32 (xs (t + 2)).toInt)]) (rest := []) rfl (room_ok hR (by decide) hc2) (Nat.le_of_ble_eq_true rfl) (by decide +kernel) (M_X11_drawn l Γ F (ir_toInt _) (ir_toInt _) mem (r, m1) e1) rfl (fun h_y => ?_)
  have h_y : ir r := h_y
  show zg (kX X cs sl) Γ 7 1205 (lLv Γ b t) [.int (i32 r)] m1
  refine zg_j ?_
  refine zj_aload_n (j := 2) (i := 2) C rfl 2 rfl (by decide +kernel) ?_
  refine j_zg ?_
  refine sg_arg C S t 1 (lt5 ht 1 (by decide)) 0 4 rfl rfl (by decide +kernel) (by decide +kernel) (by decide +kernel) (by decide +kernel) (by decide +kernel) ?_
  refine sg_arg C S t 2 (lt5 ht 2 (by decide)) 0 4 rfl rfl (by decide +kernel) (by decide +kernel) (by decide +kernel) (by decide +kernel) (by decide +kernel) ?_
  refine yg_callV C hl cal_X12_drawn calv_X12_drawn ml_ShadowHeirsLaw_150 (b := 138) (ci := 12) ⟨Nat.lt_of_lt_of_le (by decide) F.1, sK138⟩ rfl (As := [.int (i32 (xs (t + 1)).toInt), .int (i32 (xs (t + 2)).toInt)]) (rest := [.int (i32 r)]) rfl (room_ok hR (by decide) hc2) (Nat.le_of_ble_eq_true rfl) (by decide +kernel) (M_X12_drawn l Γ F (ir_toInt _) (ir_toInt _) m1 (r, m2) e2) rfl (fun _ => ?_)
  show zg (kX X cs sl) Γ 7 1221 (lLv Γ b t) [.int (i32 r), .int (i32 r)] m2
  exact zj_icmp_eq (A := some ()) (B := some ()) (off := 217) C 1438 h_y h_y (by decide +kernel) rfl (fun _ => j_zg (kk m2 R2)) (fun c => absurd rfl c) (if_pos rfl)
theorem case_29 {X : zM} {Γ : zG} {l : Launch} {b L t cs sl : Nat} {xs : Nat → Int32} {mem : zMem} (C : zC (kX X cs sl) Γ "ShadowHeirsLaw" code 7) (hl : X.2.1 = l) (hR : kR X = room_1) (F : zFull Γ) (S : sCx X Γ b L xs) (ht : t + 5 < L) (hc : cs ≤ 900 ∧ sl ≤ 10000) (R : Rel mem) (kk : ∀ m2, Rel m2 → zg (kX X cs sl) Γ 7 1438 (lLv Γ b t) [] m2) : zg (kX X cs sl) Γ 7 1226 (lLv Γ b t) [] mem := by
  obtain ⟨r, m1, m2, e1, e2, R2⟩ := qOdds R (xs (t + 1)).toInt (xs (t + 2)).toInt (xs (t + 3)).toInt
  have hc2 : cs ≤ 1000 ∧ sl ≤ 20000 := ⟨Nat.le_trans hc.1 (by decide), Nat.le_trans hc.2 (by decide)⟩
  refine zg_j ?_
  refine zj_aload_n (j := 1) (i := 1) C rfl 1 rfl (by decide +kernel) ?_
  refine j_zg ?_
  refine sg_arg C S t 1 (lt5 ht 1 (by decide)) 0 4 rfl rfl (by decide +kernel) (by decide +kernel) (by decide +kernel) (by decide +kernel) (by decide +kernel) ?_
  refine sg_arg C S t 2 (lt5 ht 2 (by decide)) 0 4 rfl rfl (by decide +kernel) (by decide +kernel) (by decide +kernel) (by decide +kernel) (by decide +kernel) ?_
  refine sg_arg C S t 3 (lt5 ht 3 (by decide)) 0 4 rfl rfl (by decide +kernel) (by decide +kernel) (by decide +kernel) (by decide +kernel) (by decide +kernel) ?_
  refine yg_callV C hl cal_X11_odds calv_X11_odds ml_ShadowHeirsLaw_151 (b := 0) (ci := 11) ⟨Nat.lt_of_lt_of_le (by decide) F.1, sK0⟩ rfl (As := [.int (i32 (xs (t + 1)).toInt), .int (i32 (xs (t + 2)).toInt), .int (i32 (xs (t + 3)).toInt)]) (rest := []) rfl (room_ok hR (by decide) hc2) (Nat.le_of_ble_eq_true rfl) (by decide +kernel) (M_X11_odds l Γ F (ir_toInt _) (ir_toInt _) (ir_toInt _) mem (r, m1) e1) rfl (fun h_y => ?_)
  have h_y : ir r := h_y
  show zg (kX X cs sl) Γ 7 1248 (lLv Γ b t) [.int (i32 r)] m1
  refine zg_j ?_
  refine zj_aload_n (j := 2) (i := 2) C rfl 2 rfl (by decide +kernel) ?_
  refine j_zg ?_
  refine sg_arg C S t 1 (lt5 ht 1 (by decide)) 0 4 rfl rfl (by decide +kernel) (by decide +kernel) (by decide +kernel) (by decide +kernel) (by decide +kernel) ?_
  refine sg_arg C S t 2 (lt5 ht 2 (by decide)) 0 4 rfl rfl (by decide +kernel) (by decide +kernel) (by decide +kernel) (by decide +kernel) (by decide +kernel) ?_
  refine sg_arg C S t 3 (lt5 ht 3 (by decide)) 0 4 rfl rfl (by decide +kernel) (by decide +kernel) (by decide +kernel) (by decide +kernel) (by decide +kernel) ?_
  refine yg_callV C hl cal_X12_odds calv_X12_odds ml_ShadowHeirsLaw_154 (b := 138) (ci := 12) ⟨Nat.lt_of_lt_of_le (by decide) F.1, sK138⟩ rfl (As := [.int (i32 (xs (t + 1)).toInt), .int (i32 (xs (t + 2)).toInt), .int (i32 (xs (t + 3)).toInt)]) (rest := [.int (i32 r)]) rfl (room_ok hR (by decide) hc2) (Nat.le_of_ble_eq_true rfl) (by decide +kernel) (M_X12_odds l Γ F (ir_toInt _) (ir_toInt _) (ir_toInt _) m1 (r, m2) e2) rfl (fun _ => ?_)
  show zg (kX X cs sl) Γ 7 1270 (lLv Γ b t) [.int (i32 r), .int (i32 r)] m2
  exact zj_icmp_eq (A := some ()) (B := some ()) (off := 168) C 1438 h_y h_y (by decide +kernel) rfl (fun _ => j_zg (kk m2 R2)) (fun c => absurd rfl c) (if_pos rfl)
theorem case_30 {X : zM} {Γ : zG} {l : Launch} {b L t cs sl : Nat} {xs : Nat → Int32} {mem : zMem} (C : zC (kX X cs sl) Γ "ShadowHeirsLaw" code 7) (hl : X.2.1 = l) (hR : kR X = room_1) (F : zFull Γ) (S : sCx X Γ b L xs) (ht : t + 5 < L) (hc : cs ≤ 900 ∧ sl ≤ 10000) (R : Rel mem) (kk : ∀ m2, Rel m2 → zg (kX X cs sl) Γ 7 1438 (lLv Γ b t) [] m2) : zg (kX X cs sl) Γ 7 1275 (lLv Γ b t) [] mem := by
  obtain ⟨r, m1, m2, e1, e2, R2⟩ := qBook R (xs (t + 1)).toInt
  have hc2 : cs ≤ 1000 ∧ sl ≤ 20000 := ⟨Nat.le_trans hc.1 (by decide), Nat.le_trans hc.2 (by decide)⟩
  refine zg_j ?_
  refine zj_aload_n (j := 1) (i := 1) C rfl 1 rfl (by decide +kernel) ?_
  refine j_zg ?_
  refine sg_arg C S t 1 (lt5 ht 1 (by decide)) 0 4 rfl rfl (by decide +kernel) (by decide +kernel) (by decide +kernel) (by decide +kernel) (by decide +kernel) ?_
  refine yg_callV C hl cal_X11_book calv_X11_book ml_ShadowHeirsLaw_155 (b := 0) (ci := 11) ⟨Nat.lt_of_lt_of_le (by decide) F.1, sK0⟩ rfl (As := [.int (i32 (xs (t + 1)).toInt)]) (rest := []) rfl (room_ok hR (by decide) hc2) (Nat.le_of_ble_eq_true rfl) (by decide +kernel) (M_X11_book l Γ F (ir_toInt _) mem (r, m1) e1) rfl (fun h_y => ?_)
  have h_y : ir r := h_y
  show zg (kX X cs sl) Γ 7 1285 (lLv Γ b t) [.int (i32 r)] m1
  refine zg_j ?_
  refine zj_aload_n (j := 2) (i := 2) C rfl 2 rfl (by decide +kernel) ?_
  refine j_zg ?_
  refine sg_arg C S t 1 (lt5 ht 1 (by decide)) 0 4 rfl rfl (by decide +kernel) (by decide +kernel) (by decide +kernel) (by decide +kernel) (by decide +kernel) ?_
  refine yg_callV C hl cal_X12_book calv_X12_book ml_ShadowHeirsLaw_158 (b := 138) (ci := 12) ⟨Nat.lt_of_lt_of_le (by decide) F.1, sK138⟩ rfl (As := [.int (i32 (xs (t + 1)).toInt)]) (rest := [.int (i32 r)]) rfl (room_ok hR (by decide) hc2) (Nat.le_of_ble_eq_true rfl) (by decide +kernel) (M_X12_book l Γ F (ir_toInt _) m1 (r, m2) e2) rfl (fun _ => ?_)
  show zg (kX X cs sl) Γ 7 1295 (lLv Γ b t) [.int (i32 r), .int (i32 r)] m2
  exact zj_icmp_eq (A := some ()) (B := some ()) (off := 143) C 1438 h_y h_y (by decide +kernel) rfl (fun _ => j_zg (kk m2 R2)) (fun c => absurd rfl c) (if_pos rfl)
theorem case_31 {X : zM} {Γ : zG} {l : Launch} {b L t cs sl : Nat} {xs : Nat → Int32} {mem : zMem} (C : zC (kX X cs sl) Γ "ShadowHeirsLaw" code 7) (hl : X.2.1 = l) (hR : kR X = room_1) (F : zFull Γ) (S : sCx X Γ b L xs) (ht : t + 5 < L) (hc : cs ≤ 900 ∧ sl ≤ 10000) (R : Rel mem) (kk : ∀ m2, Rel m2 → zg (kX X cs sl) Γ 7 1438 (lLv Γ b t) [] m2) : zg (kX X cs sl) Γ 7 1300 (lLv Γ b t) [] mem := by
  obtain ⟨r, m1, m2, e1, e2, R2⟩ := qTold R (xs (t + 1)).toInt
  have hc2 : cs ≤ 1000 ∧ sl ≤ 20000 := ⟨Nat.le_trans hc.1 (by decide), Nat.le_trans hc.2 (by decide)⟩
  refine zg_j ?_
  refine zj_aload_n (j := 1) (i := 1) C rfl 1 rfl (by decide +kernel) ?_
  refine j_zg ?_
  refine sg_arg C S t 1 (lt5 ht 1 (by decide)) 0 4 rfl rfl (by decide +kernel) (by decide +kernel) (by decide +kernel) (by decide +kernel) (by decide +kernel) ?_
  refine yg_callV C hl cal_X11_told calv_X11_told ml_ShadowHeirsLaw_159 (b := 0) (ci := 11) ⟨Nat.lt_of_lt_of_le (by decide) F.1, sK0⟩ rfl (As := [.int (i32 (xs (t + 1)).toInt)]) (rest := []) rfl (room_ok hR (by decide) hc2) (Nat.le_of_ble_eq_true rfl) (by decide +kernel) (M_X11_told l Γ F (ir_toInt _) mem (r, m1) e1) rfl (fun h_y => ?_)
  have h_y : ir r := h_y
  show zg (kX X cs sl) Γ 7 1310 (lLv Γ b t) [.int (i32 r)] m1
  refine zg_j ?_
  refine zj_aload_n (j := 2) (i := 2) C rfl 2 rfl (by decide +kernel) ?_
  refine j_zg ?_
  refine sg_arg C S t 1 (lt5 ht 1 (by decide)) 0 4 rfl rfl (by decide +kernel) (by decide +kernel) (by decide +kernel) (by decide +kernel) (by decide +kernel) ?_
  refine yg_callV C hl cal_X12_told calv_X12_told ml_ShadowHeirsLaw_162 (b := 138) (ci := 12) ⟨Nat.lt_of_lt_of_le (by decide) F.1, sK138⟩ rfl (As := [.int (i32 (xs (t + 1)).toInt)]) (rest := [.int (i32 r)]) rfl (room_ok hR (by decide) hc2) (Nat.le_of_ble_eq_true rfl) (by decide +kernel) (M_X12_told l Γ F (ir_toInt _) m1 (r, m2) e2) rfl (fun _ => ?_)
  show zg (kX X cs sl) Γ 7 1320 (lLv Γ b t) [.int (i32 r), .int (i32 r)] m2
  exact zj_icmp_eq (A := some ()) (B := some ()) (off := 118) C 1438 h_y h_y (by decide +kernel) rfl (fun _ => j_zg (kk m2 R2)) (fun c => absurd rfl c) (if_pos rfl)
theorem case_32 {X : zM} {Γ : zG} {l : Launch} {b L t cs sl : Nat} {xs : Nat → Int32} {mem : zMem} (C : zC (kX X cs sl) Γ "ShadowHeirsLaw" code 7) (hl : X.2.1 = l) (hR : kR X = room_1) (F : zFull Γ) (S : sCx X Γ b L xs) (ht : t + 5 < L) (hc : cs ≤ 900 ∧ sl ≤ 10000) (R : Rel mem) (kk : ∀ m2, Rel m2 → zg (kX X cs sl) Γ 7 1438 (lLv Γ b t) [] m2) : zg (kX X cs sl) Γ 7 1325 (lLv Γ b t) [] mem := by
  obtain ⟨r, m1, m2, e1, e2, R2⟩ := qSentence R 
  have hc2 : cs ≤ 1000 ∧ sl ≤ 20000 := ⟨Nat.le_trans hc.1 (by decide), Nat.le_trans hc.2 (by decide)⟩
  refine zg_j ?_
  refine zj_aload_n (j := 1) (i := 1) C rfl 1 rfl (by decide +kernel) ?_
  refine j_zg ?_
  refine yg_callV C hl cal_X11_sentence calv_X11_sentence ml_ShadowHeirsLaw_163 (b := 0) (ci := 11) ⟨Nat.lt_of_lt_of_le (by decide) F.1, sK0⟩ rfl (As := []) (rest := []) rfl (room_ok hR (by decide) hc2) (Nat.le_of_ble_eq_true rfl) (by decide +kernel) (M_X11_sentence l Γ F  mem (r, m1) e1) rfl (fun h_y => ?_)
  have h_y : ir r := h_y
  show zg (kX X cs sl) Γ 7 1329 (lLv Γ b t) [.int (i32 r)] m1
  refine zg_j ?_
  refine zj_aload_n (j := 2) (i := 2) C rfl 2 rfl (by decide +kernel) ?_
  refine j_zg ?_
  refine yg_callV C hl cal_X12_sentence calv_X12_sentence ml_ShadowHeirsLaw_166 (b := 138) (ci := 12) ⟨Nat.lt_of_lt_of_le (by decide) F.1, sK138⟩ rfl (As := []) (rest := [.int (i32 r)]) rfl (room_ok hR (by decide) hc2) (Nat.le_of_ble_eq_true rfl) (by decide +kernel) (M_X12_sentence l Γ F  m1 (r, m2) e2) rfl (fun _ => ?_)
  show zg (kX X cs sl) Γ 7 1333 (lLv Γ b t) [.int (i32 r), .int (i32 r)] m2
  exact zj_icmp_eq (A := some ()) (B := some ()) (off := 105) C 1438 h_y h_y (by decide +kernel) rfl (fun _ => j_zg (kk m2 R2)) (fun c => absurd rfl c) (if_pos rfl)
theorem case_33 {X : zM} {Γ : zG} {l : Launch} {b L t cs sl : Nat} {xs : Nat → Int32} {mem : zMem} (C : zC (kX X cs sl) Γ "ShadowHeirsLaw" code 7) (hl : X.2.1 = l) (hR : kR X = room_1) (F : zFull Γ) (S : sCx X Γ b L xs) (ht : t + 5 < L) (hc : cs ≤ 900 ∧ sl ≤ 10000) (R : Rel mem) (kk : ∀ m2, Rel m2 → zg (kX X cs sl) Γ 7 1438 (lLv Γ b t) [] m2) : zg (kX X cs sl) Γ 7 1338 (lLv Γ b t) [] mem := by
  obtain ⟨r, m1, m2, e1, e2, R2⟩ := qSaid R (xs (t + 1)).toInt
  have hc2 : cs ≤ 1000 ∧ sl ≤ 20000 := ⟨Nat.le_trans hc.1 (by decide), Nat.le_trans hc.2 (by decide)⟩
  refine zg_j ?_
  refine zj_aload_n (j := 1) (i := 1) C rfl 1 rfl (by decide +kernel) ?_
  refine j_zg ?_
  refine sg_arg C S t 1 (lt5 ht 1 (by decide)) 0 4 rfl rfl (by decide +kernel) (by decide +kernel) (by decide +kernel) (by decide +kernel) (by decide +kernel) ?_
  refine yg_callV C hl cal_X11_said calv_X11_said ml_ShadowHeirsLaw_167 (b := 0) (ci := 11) ⟨Nat.lt_of_lt_of_le (by decide) F.1, sK0⟩ rfl (As := [.int (i32 (xs (t + 1)).toInt)]) (rest := []) rfl (room_ok hR (by decide) hc2) (Nat.le_of_ble_eq_true rfl) (by decide +kernel) (M_X11_said l Γ F (ir_toInt _) mem (r, m1) e1) rfl (fun h_y => ?_)
  have h_y : ir r := h_y
  show zg (kX X cs sl) Γ 7 1348 (lLv Γ b t) [.int (i32 r)] m1
  refine zg_j ?_
  refine zj_aload_n (j := 2) (i := 2) C rfl 2 rfl (by decide +kernel) ?_
  refine j_zg ?_
  refine sg_arg C S t 1 (lt5 ht 1 (by decide)) 0 4 rfl rfl (by decide +kernel) (by decide +kernel) (by decide +kernel) (by decide +kernel) (by decide +kernel) ?_
  refine yg_callV C hl cal_X12_said calv_X12_said ml_ShadowHeirsLaw_170 (b := 138) (ci := 12) ⟨Nat.lt_of_lt_of_le (by decide) F.1, sK138⟩ rfl (As := [.int (i32 (xs (t + 1)).toInt)]) (rest := [.int (i32 r)]) rfl (room_ok hR (by decide) hc2) (Nat.le_of_ble_eq_true rfl) (by decide +kernel) (M_X12_said l Γ F (ir_toInt _) m1 (r, m2) e2) rfl (fun _ => ?_)
  show zg (kX X cs sl) Γ 7 1358 (lLv Γ b t) [.int (i32 r), .int (i32 r)] m2
  exact zj_icmp_eq (A := some ()) (B := some ()) (off := 80) C 1438 h_y h_y (by decide +kernel) rfl (fun _ => j_zg (kk m2 R2)) (fun c => absurd rfl c) (if_pos rfl)
theorem case_34 {X : zM} {Γ : zG} {l : Launch} {b L t cs sl : Nat} {xs : Nat → Int32} {mem : zMem} (C : zC (kX X cs sl) Γ "ShadowHeirsLaw" code 7) (hl : X.2.1 = l) (hR : kR X = room_1) (F : zFull Γ) (S : sCx X Γ b L xs) (ht : t + 5 < L) (hc : cs ≤ 900 ∧ sl ≤ 10000) (R : Rel mem) (kk : ∀ m2, Rel m2 → zg (kX X cs sl) Γ 7 1438 (lLv Γ b t) [] m2) : zg (kX X cs sl) Γ 7 1363 (lLv Γ b t) [] mem := by
  obtain ⟨r, m1, m2, e1, e2, R2⟩ := qImage R (xs (t + 1)).toInt
  have hc2 : cs ≤ 1000 ∧ sl ≤ 20000 := ⟨Nat.le_trans hc.1 (by decide), Nat.le_trans hc.2 (by decide)⟩
  refine zg_j ?_
  refine zj_aload_n (j := 1) (i := 1) C rfl 1 rfl (by decide +kernel) ?_
  refine j_zg ?_
  refine sg_arg C S t 1 (lt5 ht 1 (by decide)) 0 4 rfl rfl (by decide +kernel) (by decide +kernel) (by decide +kernel) (by decide +kernel) (by decide +kernel) ?_
  refine yg_callV C hl cal_X11_image calv_X11_image ml_ShadowHeirsLaw_171 (b := 0) (ci := 11) ⟨Nat.lt_of_lt_of_le (by decide) F.1, sK0⟩ rfl (As := [.int (i32 (xs (t + 1)).toInt)]) (rest := []) rfl (room_ok hR (by decide) hc2) (Nat.le_of_ble_eq_true rfl) (by decide +kernel) (M_X11_image l Γ F (ir_toInt _) mem (r, m1) e1) rfl (fun h_y => ?_)
  have h_y : ir r := h_y
  show zg (kX X cs sl) Γ 7 1373 (lLv Γ b t) [.int (i32 r)] m1
  refine zg_j ?_
  refine zj_aload_n (j := 2) (i := 2) C rfl 2 rfl (by decide +kernel) ?_
  refine j_zg ?_
  refine sg_arg C S t 1 (lt5 ht 1 (by decide)) 0 4 rfl rfl (by decide +kernel) (by decide +kernel) (by decide +kernel) (by decide +kernel) (by decide +kernel) ?_
  refine yg_callV C hl cal_X12_image calv_X12_image ml_ShadowHeirsLaw_174 (b := 138) (ci := 12) ⟨Nat.lt_of_lt_of_le (by decide) F.1, sK138⟩ rfl (As := [.int (i32 (xs (t + 1)).toInt)]) (rest := [.int (i32 r)]) rfl (room_ok hR (by decide) hc2) (Nat.le_of_ble_eq_true rfl) (by decide +kernel) (M_X12_image l Γ F (ir_toInt _) m1 (r, m2) e2) rfl (fun _ => ?_)
  show zg (kX X cs sl) Γ 7 1383 (lLv Γ b t) [.int (i32 r), .int (i32 r)] m2
  exact zj_icmp_eq (A := some ()) (B := some ()) (off := 55) C 1438 h_y h_y (by decide +kernel) rfl (fun _ => j_zg (kk m2 R2)) (fun c => absurd rfl c) (if_pos rfl)
theorem case_35 {X : zM} {Γ : zG} {l : Launch} {b L t cs sl : Nat} {xs : Nat → Int32} {mem : zMem} (C : zC (kX X cs sl) Γ "ShadowHeirsLaw" code 7) (hl : X.2.1 = l) (hR : kR X = room_1) (F : zFull Γ) (S : sCx X Γ b L xs) (ht : t + 5 < L) (hc : cs ≤ 900 ∧ sl ≤ 10000) (R : Rel mem) (kk : ∀ m2, Rel m2 → zg (kX X cs sl) Γ 7 1438 (lLv Γ b t) [] m2) : zg (kX X cs sl) Γ 7 1388 (lLv Γ b t) [] mem := by
  obtain ⟨r, m1, m2, e1, e2, R2⟩ := qRestore R (xs (t + 1)).toInt
  have hc2 : cs ≤ 1000 ∧ sl ≤ 20000 := ⟨Nat.le_trans hc.1 (by decide), Nat.le_trans hc.2 (by decide)⟩
  refine zg_j ?_
  refine zj_aload_n (j := 1) (i := 1) C rfl 1 rfl (by decide +kernel) ?_
  refine j_zg ?_
  refine sg_arg C S t 1 (lt5 ht 1 (by decide)) 0 4 rfl rfl (by decide +kernel) (by decide +kernel) (by decide +kernel) (by decide +kernel) (by decide +kernel) ?_
  refine yg_callV C hl cal_X11_restore calv_X11_restore ml_ShadowHeirsLaw_175 (b := 0) (ci := 11) ⟨Nat.lt_of_lt_of_le (by decide) F.1, sK0⟩ rfl (As := [.int (i32 (xs (t + 1)).toInt)]) (rest := []) rfl (room_ok hR (by decide) hc2) (Nat.le_of_ble_eq_true rfl) (by decide +kernel) (M_X11_restore l Γ F (ir_toInt _) mem (r, m1) e1) rfl (fun h_y => ?_)
  have h_y : ir r := h_y
  show zg (kX X cs sl) Γ 7 1398 (lLv Γ b t) [.int (i32 r)] m1
  refine zg_j ?_
  refine zj_aload_n (j := 2) (i := 2) C rfl 2 rfl (by decide +kernel) ?_
  refine j_zg ?_
  refine sg_arg C S t 1 (lt5 ht 1 (by decide)) 0 4 rfl rfl (by decide +kernel) (by decide +kernel) (by decide +kernel) (by decide +kernel) (by decide +kernel) ?_
  refine yg_callV C hl cal_X12_restore calv_X12_restore ml_ShadowHeirsLaw_178 (b := 138) (ci := 12) ⟨Nat.lt_of_lt_of_le (by decide) F.1, sK138⟩ rfl (As := [.int (i32 (xs (t + 1)).toInt)]) (rest := [.int (i32 r)]) rfl (room_ok hR (by decide) hc2) (Nat.le_of_ble_eq_true rfl) (by decide +kernel) (M_X12_restore l Γ F (ir_toInt _) m1 (r, m2) e2) rfl (fun _ => ?_)
  show zg (kX X cs sl) Γ 7 1408 (lLv Γ b t) [.int (i32 r), .int (i32 r)] m2
  exact zj_icmp_eq (A := some ()) (B := some ()) (off := 30) C 1438 h_y h_y (by decide +kernel) rfl (fun _ => j_zg (kk m2 R2)) (fun c => absurd rfl c) (if_pos rfl)
theorem case_36 {X : zM} {Γ : zG} {l : Launch} {b L t cs sl : Nat} {xs : Nat → Int32} {mem : zMem} (C : zC (kX X cs sl) Γ "ShadowHeirsLaw" code 7) (hl : X.2.1 = l) (hR : kR X = room_1) (F : zFull Γ) (S : sCx X Γ b L xs) (ht : t + 5 < L) (hc : cs ≤ 900 ∧ sl ≤ 10000) (R : Rel mem) (kk : ∀ m2, Rel m2 → zg (kX X cs sl) Γ 7 1438 (lLv Γ b t) [] m2) : zg (kX X cs sl) Γ 7 1413 (lLv Γ b t) [] mem := by
  obtain ⟨r, m1, m2, e1, e2, R2⟩ := qCount R (xs (t + 1)).toInt
  have hc2 : cs ≤ 1000 ∧ sl ≤ 20000 := ⟨Nat.le_trans hc.1 (by decide), Nat.le_trans hc.2 (by decide)⟩
  refine zg_j ?_
  refine zj_aload_n (j := 1) (i := 1) C rfl 1 rfl (by decide +kernel) ?_
  refine j_zg ?_
  refine sg_arg C S t 1 (lt5 ht 1 (by decide)) 0 4 rfl rfl (by decide +kernel) (by decide +kernel) (by decide +kernel) (by decide +kernel) (by decide +kernel) ?_
  refine yg_callV C hl cal_X11_count calv_X11_count ml_ShadowHeirsLaw_179 (b := 0) (ci := 11) ⟨Nat.lt_of_lt_of_le (by decide) F.1, sK0⟩ rfl (As := [.int (i32 (xs (t + 1)).toInt)]) (rest := []) rfl (room_ok hR (by decide) hc2) (Nat.le_of_ble_eq_true rfl) (by decide +kernel) (M_X11_count l Γ F (ir_toInt _) mem (r, m1) e1) rfl (fun h_y => ?_)
  have h_y : ir r := h_y
  show zg (kX X cs sl) Γ 7 1423 (lLv Γ b t) [.int (i32 r)] m1
  refine zg_j ?_
  refine zj_aload_n (j := 2) (i := 2) C rfl 2 rfl (by decide +kernel) ?_
  refine j_zg ?_
  refine sg_arg C S t 1 (lt5 ht 1 (by decide)) 0 4 rfl rfl (by decide +kernel) (by decide +kernel) (by decide +kernel) (by decide +kernel) (by decide +kernel) ?_
  refine yg_callV C hl cal_X12_count calv_X12_count ml_ShadowHeirsLaw_182 (b := 138) (ci := 12) ⟨Nat.lt_of_lt_of_le (by decide) F.1, sK138⟩ rfl (As := [.int (i32 (xs (t + 1)).toInt)]) (rest := [.int (i32 r)]) rfl (room_ok hR (by decide) hc2) (Nat.le_of_ble_eq_true rfl) (by decide +kernel) (M_X12_count l Γ F (ir_toInt _) m1 (r, m2) e2) rfl (fun _ => ?_)
  show zg (kX X cs sl) Γ 7 1433 (lLv Γ b t) [.int (i32 r), .int (i32 r)] m2
  exact zj_icmp_eq (A := some ()) (B := some ()) (off := 5) C 1438 h_y h_y (by decide +kernel) rfl (fun _ => j_zg (kk m2 R2)) (fun c => absurd rfl c) (if_pos rfl)
