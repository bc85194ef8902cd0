/-! the law's cases: one call of each side, the same answer -/
theorem case_0 {X : zM} {Γ : zG} {l : Launch} {b L t cs sl : Nat} {xs : Nat → Int32} {mem : zMem} (C : zC (kX X cs sl) Γ "ShadowHeirsLaw" code 7) (hl : X.2.1 = l) (hR : kR X = room_1) (F : zFull Γ) (S : sCx X Γ b L xs) (ht : t + 5 < L) (hc : cs ≤ 900 ∧ sl ≤ 10000) (R : Rel mem) (kk : ∀ m2, Rel m2 → zg (kX X cs sl) Γ 7 1438 (lLv Γ b t) [] m2) : zg (kX X cs sl) Γ 7 204 (lLv Γ b t) [] mem := by
  obtain ⟨r, m1, m2, e1, e2, R2⟩ := qFeed R (xs (t + 1)).toInt (xs (t + 2)).toInt (xs (t + 3)).toInt (xs (t + 4)).toInt (xs (t + 5)).toInt
  have hc2 : cs ≤ 1000 ∧ sl ≤ 20000 := ⟨Nat.le_trans hc.1 (by decide), Nat.le_trans hc.2 (by decide)⟩
  refine zg_j ?_
  refine zj_aload_n (j := 1) (i := 1) C rfl 1 rfl (by decide +kernel) ?_
  refine j_zg ?_
  refine sg_arg C S t 1 (lt5 ht 1 (by decide)) 0 4 rfl rfl (by decide +kernel) (by decide +kernel) (by decide +kernel) (by decide +kernel) (by decide +kernel) ?_
  refine sg_arg C S t 2 (lt5 ht 2 (by decide)) 0 4 rfl rfl (by decide +kernel) (by decide +kernel) (by decide +kernel) (by decide +kernel) (by decide +kernel) ?_
  refine sg_arg C S t 3 (lt5 ht 3 (by decide)) 0 4 rfl rfl (by decide +kernel) (by decide +kernel) (by decide +kernel) (by decide +kernel) (by decide +kernel) ?_
  refine sg_arg C S t 4 (lt5 ht 4 (by decide)) 0 4 rfl rfl (by decide +kernel) (by decide +kernel) (by decide +kernel) (by decide +kernel) (by decide +kernel) ?_
  refine sg_arg C S t 5 (lt5 ht 5 (by decide)) 0 4 rfl rfl (by decide +kernel) (by decide +kernel) (by decide +kernel) (by decide +kernel) (by decide +kernel) ?_
  refine yg_callV C hl cal_X11_feed calv_X11_feed ml_ShadowHeirsLaw_26 (b := 0) (ci := 11) ⟨Nat.lt_of_lt_of_le (by decide) F.1, sK0⟩ rfl (As := [.int (i32 (xs (t + 1)).toInt), .int (i32 (xs (t + 2)).toInt), .int (i32 (xs (t + 3)).toInt), .int (i32 (xs (t + 4)).toInt), .int (i32 (xs (t + 5)).toInt)]) (rest := []) rfl (room_ok hR (by decide) hc2) (Nat.le_of_ble_eq_true rfl) (by decide +kernel) (M_X11_feed l Γ F (ir_toInt _) (ir_toInt _) (ir_toInt _) (ir_toInt _) (ir_toInt _) mem (r, m1) e1) rfl (fun h_y => ?_)
  have h_y : ir r := h_y
  show zg (kX X cs sl) Γ 7 238 (lLv Γ b t) [.int (i32 r)] m1
  refine zg_j ?_
  refine zj_aload_n (j := 2) (i := 2) C rfl 2 rfl (by decide +kernel) ?_
  refine j_zg ?_
  refine sg_arg C S t 1 (lt5 ht 1 (by decide)) 0 4 rfl rfl (by decide +kernel) (by decide +kernel) (by decide +kernel) (by decide +kernel) (by decide +kernel) ?_
  refine sg_arg C S t 2 (lt5 ht 2 (by decide)) 0 4 rfl rfl (by decide +kernel) (by decide +kernel) (by decide +kernel) (by decide +kernel) (by decide +kernel) ?_
  refine sg_arg C S t 3 (lt5 ht 3 (by decide)) 0 4 rfl rfl (by decide +kernel) (by decide +kernel) (by decide +kernel) (by decide +kernel) (by decide +kernel) ?_
  refine sg_arg C S t 4 (lt5 ht 4 (by decide)) 0 4 rfl rfl (by decide +kernel) (by decide +kernel) (by decide +kernel) (by decide +kernel) (by decide +kernel) ?_
  refine sg_arg C S t 5 (lt5 ht 5 (by decide)) 0 4 rfl rfl (by decide +kernel) (by decide +kernel) (by decide +kernel) (by decide +kernel) (by decide +kernel) ?_
  refine yg_callV C hl cal_X12_feed calv_X12_feed ml_ShadowHeirsLaw_30 (b := 138) (ci := 12) ⟨Nat.lt_of_lt_of_le (by decide) F.1, sK138⟩ rfl (As := [.int (i32 (xs (t + 1)).toInt), .int (i32 (xs (t + 2)).toInt), .int (i32 (xs (t + 3)).toInt), .int (i32 (xs (t + 4)).toInt), .int (i32 (xs (t + 5)).toInt)]) (rest := [.int (i32 r)]) rfl (room_ok hR (by decide) hc2) (Nat.le_of_ble_eq_true rfl) (by decide +kernel) (M_X12_feed l Γ F (ir_toInt _) (ir_toInt _) (ir_toInt _) (ir_toInt _) (ir_toInt _) m1 (r, m2) e2) rfl (fun _ => ?_)
  show zg (kX X cs sl) Γ 7 272 (lLv Γ b t) [.int (i32 r), .int (i32 r)] m2
  exact zj_icmp_eq (A := some ()) (B := some ()) (off := 1166) C 1438 h_y h_y (by decide +kernel) rfl (fun _ => j_zg (kk m2 R2)) (fun c => absurd rfl c) (if_pos rfl)
theorem case_1 {X : zM} {Γ : zG} {l : Launch} {b L t cs sl : Nat} {xs : Nat → Int32} {mem : zMem} (C : zC (kX X cs sl) Γ "ShadowHeirsLaw" code 7) (hl : X.2.1 = l) (hR : kR X = room_1) (F : zFull Γ) (S : sCx X Γ b L xs) (ht : t + 5 < L) (hc : cs ≤ 900 ∧ sl ≤ 10000) (R : Rel mem) (kk : ∀ m2, Rel m2 → zg (kX X cs sl) Γ 7 1438 (lLv Γ b t) [] m2) : zg (kX X cs sl) Γ 7 277 (lLv Γ b t) [] mem := by
  obtain ⟨r, m1, m2, e1, e2, R2⟩ := qEnd R (xs (t + 1)).toInt
  have hc2 : cs ≤ 1000 ∧ sl ≤ 20000 := ⟨Nat.le_trans hc.1 (by decide), Nat.le_trans hc.2 (by decide)⟩
  refine zg_j ?_
  refine zj_aload_n (j := 1) (i := 1) C rfl 1 rfl (by decide +kernel) ?_
  refine j_zg ?_
  refine sg_arg C S t 1 (lt5 ht 1 (by decide)) 0 4 rfl rfl (by decide +kernel) (by decide +kernel) (by decide +kernel) (by decide +kernel) (by decide +kernel) ?_
  refine yg_callV C hl cal_X11_end calv_X11_end ml_ShadowHeirsLaw_31 (b := 0) (ci := 11) ⟨Nat.lt_of_lt_of_le (by decide) F.1, sK0⟩ rfl (As := [.int (i32 (xs (t + 1)).toInt)]) (rest := []) rfl (room_ok hR (by decide) hc2) (Nat.le_of_ble_eq_true rfl) (by decide +kernel) (M_X11_end l Γ F (ir_toInt _) mem (r, m1) e1) rfl (fun h_y => ?_)
  have h_y : ir r := h_y
  show zg (kX X cs sl) Γ 7 287 (lLv Γ b t) [.int (i32 r)] m1
  refine zg_j ?_
  refine zj_aload_n (j := 2) (i := 2) C rfl 2 rfl (by decide +kernel) ?_
  refine j_zg ?_
  refine sg_arg C S t 1 (lt5 ht 1 (by decide)) 0 4 rfl rfl (by decide +kernel) (by decide +kernel) (by decide +kernel) (by decide +kernel) (by decide +kernel) ?_
  refine yg_callV C hl cal_X12_end calv_X12_end ml_ShadowHeirsLaw_35 (b := 138) (ci := 12) ⟨Nat.lt_of_lt_of_le (by decide) F.1, sK138⟩ rfl (As := [.int (i32 (xs (t + 1)).toInt)]) (rest := [.int (i32 r)]) rfl (room_ok hR (by decide) hc2) (Nat.le_of_ble_eq_true rfl) (by decide +kernel) (M_X12_end l Γ F (ir_toInt _) m1 (r, m2) e2) rfl (fun _ => ?_)
  show zg (kX X cs sl) Γ 7 297 (lLv Γ b t) [.int (i32 r), .int (i32 r)] m2
  exact zj_icmp_eq (A := some ()) (B := some ()) (off := 1141) C 1438 h_y h_y (by decide +kernel) rfl (fun _ => j_zg (kk m2 R2)) (fun c => absurd rfl c) (if_pos rfl)
theorem case_2 {X : zM} {Γ : zG} {l : Launch} {b L t cs sl : Nat} {xs : Nat → Int32} {mem : zMem} (C : zC (kX X cs sl) Γ "ShadowHeirsLaw" code 7) (hl : X.2.1 = l) (hR : kR X = room_1) (F : zFull Γ) (S : sCx X Γ b L xs) (ht : t + 5 < L) (hc : cs ≤ 900 ∧ sl ≤ 10000) (R : Rel mem) (kk : ∀ m2, Rel m2 → zg (kX X cs sl) Γ 7 1438 (lLv Γ b t) [] m2) : zg (kX X cs sl) Γ 7 302 (lLv Γ b t) [] mem := by
  obtain ⟨r, m1, m2, e1, e2, R2⟩ := qIsland R 
  have hc2 : cs ≤ 1000 ∧ sl ≤ 20000 := ⟨Nat.le_trans hc.1 (by decide), Nat.le_trans hc.2 (by decide)⟩
  refine zg_j ?_
  refine zj_aload_n (j := 1) (i := 1) C rfl 1 rfl (by decide +kernel) ?_
  refine j_zg ?_
  refine yg_callV C hl cal_X11_island calv_X11_island ml_ShadowHeirsLaw_36 (b := 0) (ci := 11) ⟨Nat.lt_of_lt_of_le (by decide) F.1, sK0⟩ rfl (As := []) (rest := []) rfl (room_ok hR (by decide) hc2) (Nat.le_of_ble_eq_true rfl) (by decide +kernel) (M_X11_island l Γ F  mem (r, m1) e1) rfl (fun h_y => ?_)
  have h_y : ir r := h_y
  show zg (kX X cs sl) Γ 7 306 (lLv Γ b t) [.int (i32 r)] m1
  refine zg_j ?_
  refine zj_aload_n (j := 2) (i := 2) C rfl 2 rfl (by decide +kernel) ?_
  refine j_zg ?_
  refine yg_callV C hl cal_X12_island calv_X12_island ml_ShadowHeirsLaw_40 (b := 138) (ci := 12) ⟨Nat.lt_of_lt_of_le (by decide) F.1, sK138⟩ rfl (As := []) (rest := [.int (i32 r)]) rfl (room_ok hR (by decide) hc2) (Nat.le_of_ble_eq_true rfl) (by decide +kernel) (M_X12_island l Γ F  m1 (r, m2) e2) rfl (fun _ => ?_)
  show zg (kX X cs sl) Γ 7 310 (lLv Γ b t) [.int (i32 r), .int (i32 r)] m2
  exact zj_icmp_eq (A := some ()) (B := some ()) (off := 1128) C 1438 h_y h_y (by decide +kernel) rfl (fun _ => j_zg (kk m2 R2)) (fun c => absurd rfl c) (if_pos rfl)
theorem case_3 {X : zM} {Γ : zG} {l : Launch} {b L t cs sl : Nat} {xs : Nat → Int32} {mem : zMem} (C : zC (kX X cs sl) Γ "ShadowHeirsLaw" code 7) (hl : X.2.1 = l) (hR : kR X = room_1) (F : zFull Γ) (S : sCx X Γ b L xs) (ht : t + 5 < L) (hc : cs ≤ 900 ∧ sl ≤ 10000) (R : Rel mem) (kk : ∀ m2, Rel m2 → zg (kX X cs sl) Γ 7 1438 (lLv Γ b t) [] m2) : zg (kX X cs sl) Γ 7 315 (lLv Γ b t) [] mem := by
  obtain ⟨r, m1, m2, e1, e2, R2⟩ := qFault R 
  have hc2 : cs ≤ 1000 ∧ sl ≤ 20000 := ⟨Nat.le_trans hc.1 (by decide), Nat.le_trans hc.2 (by decide)⟩
  refine zg_j ?_
  refine zj_aload_n (j := 1) (i := 1) C rfl 1 rfl (by decide +kernel) ?_
  refine j_zg ?_
  refine yg_callV C hl cal_X11_fault calv_X11_fault ml_ShadowHeirsLaw_41 (b := 0) (ci := 11) ⟨Nat.lt_of_lt_of_le (by decide) F.1, sK0⟩ rfl (As := []) (rest := []) rfl (room_ok hR (by decide) hc2) (Nat.le_of_ble_eq_true rfl) (by decide +kernel) (M_X11_fault l Γ F  mem (r, m1) e1) rfl (fun h_y => ?_)
  have h_y : ir r := h_y
  show zg (kX X cs sl) Γ 7 319 (lLv Γ b t) [.int (i32 r)] m1
  refine zg_j ?_
  refine zj_aload_n (j := 2) (i := 2) C rfl 2 rfl (by decide +kernel) ?_
  refine j_zg ?_
  refine yg_callV C hl cal_X12_fault calv_X12_fault ml_ShadowHeirsLaw_44 (b := 138) (ci := 12) ⟨Nat.lt_of_lt_of_le (by decide) F.1, sK138⟩ rfl (As := []) (rest := [.int (i32 r)]) rfl (room_ok hR (by decide) hc2) (Nat.le_of_ble_eq_true rfl) (by decide +kernel) (M_X12_fault l Γ F  m1 (r, m2) e2) rfl (fun _ => ?_)
  show zg (kX X cs sl) Γ 7 323 (lLv Γ b t) [.int (i32 r), .int (i32 r)] m2
  exact zj_icmp_eq (A := some ()) (B := some ()) (off := 1115) C 1438 h_y h_y (by decide +kernel) rfl (fun _ => j_zg (kk m2 R2)) (fun c => absurd rfl c) (if_pos rfl)
theorem case_4 {X : zM} {Γ : zG} {l : Launch} {b L t cs sl : Nat} {xs : Nat → Int32} {mem : zMem} (C : zC (kX X cs sl) Γ "ShadowHeirsLaw" code 7) (hl : X.2.1 = l) (hR : kR X = room_1) (F : zFull Γ) (S : sCx X Γ b L xs) (ht : t + 5 < L) (hc : cs ≤ 900 ∧ sl ≤ 10000) (R : Rel mem) (kk : ∀ m2, Rel m2 → zg (kX X cs sl) Γ 7 1438 (lLv Γ b t) [] m2) : zg (kX X cs sl) Γ 7 328 (lLv Γ b t) [] mem := by
  obtain ⟨r, m1, m2, e1, e2, R2⟩ := qCell R (xs (t + 1)).toInt (xs (t + 2)).toInt (xs (t + 3)).toInt
  have hc2 : cs ≤ 1000 ∧ sl ≤ 20000 := ⟨Nat.le_trans hc.1 (by decide), Nat.le_trans hc.2 (by decide)⟩
  refine zg_j ?_
  refine zj_aload_n (j := 1) (i := 1) C rfl 1 rfl (by decide +kernel) ?_
  refine j_zg ?_
  refine sg_arg C S t 1 (lt5 ht 1 (by decide)) 0 4 rfl rfl (by decide +kernel) (by decide +kernel) (by decide +kernel) (by decide +kernel) (by decide +kernel) ?_
  refine sg_arg C S t 2 (lt5 ht 2 (by decide)) 0 4 rfl rfl (by decide +kernel) (by decide +kernel) (by decide +kernel) (by decide +kernel) (by decide +kernel) ?_
  refine sg_arg C S t 3 (lt5 ht 3 (by decide)) 0 4 rfl rfl (by decide +kernel) (by decide +kernel) (by decide +kernel) (by decide +kernel) (by decide +kernel) ?_
  refine yg_callV C hl cal_X11_cell calv_X11_cell ml_ShadowHeirsLaw_45 (b := 0) (ci := 11) ⟨Nat.lt_of_lt_of_le (by decide) F.1, sK0⟩ rfl (As := [.int (i32 (xs (t + 1)).toInt), .int (i32 (xs (t + 2)).toInt), .int (i32 (xs (t + 3)).toInt)]) (rest := []) rfl (room_ok hR (by decide) hc2) (Nat.le_of_ble_eq_true rfl) (by decide +kernel) (M_X11_cell l Γ F (ir_toInt _) (ir_toInt _) (ir_toInt _) mem (r, m1) e1) rfl (fun h_y => ?_)
  have h_y : ir r := h_y
  show zg (kX X cs sl) Γ 7 350 (lLv Γ b t) [.int (i32 r)] m1
  refine zg_j ?_
  refine zj_aload_n (j := 2) (i := 2) C rfl 2 rfl (by decide +kernel) ?_
  refine j_zg ?_
  refine sg_arg C S t 1 (lt5 ht 1 (by decide)) 0 4 rfl rfl (by decide +kernel) (by decide +kernel) (by decide +kernel) (by decide +kernel) (by decide +kernel) ?_
  refine sg_arg C S t 2 (lt5 ht 2 (by decide)) 0 4 rfl rfl (by decide +kernel) (by decide +kernel) (by decide +kernel) (by decide +kernel) (by decide +kernel) ?_
  refine sg_arg C S t 3 (lt5 ht 3 (by decide)) 0 4 rfl rfl (by decide +kernel) (by decide +kernel) (by decide +kernel) (by decide +kernel) (by decide +kernel) ?_
  refine yg_callV C hl cal_X12_cell calv_X12_cell ml_ShadowHeirsLaw_49 (b := 138) (ci := 12) ⟨Nat.lt_of_lt_of_le (by decide) F.1, sK138⟩ rfl (As := [.int (i32 (xs (t + 1)).toInt), .int (i32 (xs (t + 2)).toInt), .int (i32 (xs (t + 3)).toInt)]) (rest := [.int (i32 r)]) rfl (room_ok hR (by decide) hc2) (Nat.le_of_ble_eq_true rfl) (by decide +kernel) (M_X12_cell l Γ F (ir_toInt _) (ir_toInt _) (ir_toInt _) m1 (r, m2) e2) rfl (fun _ => ?_)
  show zg (kX X cs sl) Γ 7 372 (lLv Γ b t) [.int (i32 r), .int (i32 r)] m2
  exact zj_icmp_eq (A := some ()) (B := some ()) (off := 1066) C 1438 h_y h_y (by decide +kernel) rfl (fun _ => j_zg (kk m2 R2)) (fun c => absurd rfl c) (if_pos rfl)
theorem case_7 {X : zM} {Γ : zG} {l : Launch} {b L t cs sl : Nat} {xs : Nat → Int32} {mem : zMem} (C : zC (kX X cs sl) Γ "ShadowHeirsLaw" code 7) (hl : X.2.1 = l) (hR : kR X = room_1) (F : zFull Γ) (S : sCx X Γ b L xs) (ht : t + 5 < L) (hc : cs ≤ 900 ∧ sl ≤ 10000) (R : Rel mem) (kk : ∀ m2, Rel m2 → zg (kX X cs sl) Γ 7 1438 (lLv Γ b t) [] m2) : zg (kX X cs sl) Γ 7 513 (lLv Γ b t) [] mem := by
  obtain ⟨r, m1, m2, e1, e2, R2⟩ := qNow R (xs (t + 1)).toInt
  have hc2 : cs ≤ 1000 ∧ sl ≤ 20000 := ⟨Nat.le_trans hc.1 (by decide), Nat.le_trans hc.2 (by decide)⟩
  refine zg_j ?_
  refine zj_aload_n (j := 1) (i := 1) C rfl 1 rfl (by decide +kernel) ?_
  refine j_zg ?_
  refine sg_arg C S t 1 (lt5 ht 1 (by decide)) 0 4 rfl rfl (by decide +kernel) (by decide +kernel) (by decide +kernel) (by decide +kernel) (by decide +kernel) ?_
  refine yg_callV C hl cal_X11_now calv_X11_now ml_ShadowHeirsLaw_62 (b := 0) (ci := 11) ⟨Nat.lt_of_lt_of_le (by decide) F.1, sK0⟩ rfl (As := [.int (i32 (xs (t + 1)).toInt)]) (rest := []) rfl (room_ok hR (by decide) hc2) (Nat.le_of_ble_eq_true rfl) (by decide +kernel) (M_X11_now l Γ F (ir_toInt _) mem (r, m1) e1) rfl (fun h_y => ?_)
  have h_y : ir r := h_y
  show zg (kX X cs sl) Γ 7 523 (lLv Γ b t) [.int (i32 r)] m1
  refine zg_j ?_
  refine zj_aload_n (j := 2) (i := 2) C rfl 2 rfl (by decide +kernel) ?_
  refine j_zg ?_
  refine sg_arg C S t 1 (lt5 ht 1 (by decide)) 0 4 rfl rfl (by decide +kernel) (by decide +kernel) (by decide +kernel) (by decide +kernel) (by decide +kernel) ?_
  refine yg_callV C hl cal_X12_now calv_X12_now ml_ShadowHeirsLaw_66 (b := 138) (ci := 12) ⟨Nat.lt_of_lt_of_le (by decide) F.1, sK138⟩ rfl (As := [.int (i32 (xs (t + 1)).toInt)]) (rest := [.int (i32 r)]) rfl (room_ok hR (by decide) hc2) (Nat.le_of_ble_eq_true rfl) (by decide +kernel) (M_X12_now l Γ F (ir_toInt _) m1 (r, m2) e2) rfl (fun _ => ?_)
  show zg (kX X cs sl) Γ 7 533 (lLv Γ b t) [.int (i32 r), .int (i32 r)] m2
  exact zj_icmp_eq (A := some ()) (B := some ()) (off := 905) C 1438 h_y h_y (by decide +kernel) rfl (fun _ => j_zg (kk m2 R2)) (fun c => absurd rfl c) (if_pos rfl)
theorem case_8 {X : zM} {Γ : zG} {l : Launch} {b L t cs sl : Nat} {xs : Nat → Int32} {mem : zMem} (C : zC (kX X cs sl) Γ "ShadowHeirsLaw" code 7) (hl : X.2.1 = l) (hR : kR X = room_1) (F : zFull Γ) (S : sCx X Γ b L xs) (ht : t + 5 < L) (hc : cs ≤ 900 ∧ sl ≤ 10000) (R : Rel mem) (kk : ∀ m2, Rel m2 → zg (kX X cs sl) Γ 7 1438 (lLv Γ b t) [] m2) : zg (kX X cs sl) Γ 7 538 (lLv Γ b t) [] mem := by
  obtain ⟨r, m1, m2, e1, e2, R2⟩ := qGo R (xs (t + 1)).toInt (xs (t + 2)).toInt
  have hc2 : cs ≤ 1000 ∧ sl ≤ 20000 := ⟨Nat.le_trans hc.1 (by decide), Nat.le_trans hc.2 (by decide)⟩
  refine zg_j ?_
  refine zj_aload_n (j := 1) (i := 1) C rfl 1 rfl (by decide +kernel) ?_
  refine j_zg ?_
  refine sg_arg C S t 1 (lt5 ht 1 (by decide)) 0 4 rfl rfl (by decide +kernel) (by decide +kernel) (by decide +kernel) (by decide +kernel) (by decide +kernel) ?_
  refine sg_arg C S t 2 (lt5 ht 2 (by decide)) 0 4 rfl rfl (by decide +kernel) (by decide +kernel) (by decide +kernel) (by decide +kernel) (by decide +kernel) ?_
  refine yg_callV C hl cal_X11_go calv_X11_go ml_ShadowHeirsLaw_67 (b := 0) (ci := 11) ⟨Nat.lt_of_lt_of_le (by decide) F.1, sK0⟩ rfl (As := [.int (i32 (xs (t + 1)).toInt), .int (i32 (xs (t + 2)).toInt)]) (rest := []) rfl (room_ok hR (by decide) hc2) (Nat.le_of_ble_eq_true rfl) (by decide +kernel) (M_X11_go l Γ F (ir_toInt _) (ir_toInt _) mem (r, m1) e1) rfl (fun h_y => ?_)
  have h_y : ir r := h_y
  show zg (kX X cs sl) Γ 7 554 (lLv Γ b t) [.int (i32 r)] m1
  refine zg_j ?_
  refine zj_aload_n (j := 2) (i := 2) C rfl 2 rfl (by decide +kernel) ?_
  refine j_zg ?_
  refine sg_arg C S t 1 (lt5 ht 1 (by decide)) 0 4 rfl rfl (by decide +kernel) (by decide +kernel) (by decide +kernel) (by decide +kernel) (by decide +kernel) ?_
  refine sg_arg C S t 2 (lt5 ht 2 (by decide)) 0 4 rfl rfl (by decide +kernel) (by decide +kernel) (by decide +kernel) (by decide +kernel) (by decide +kernel) ?_
  refine yg_callV C hl cal_X12_go_ calv_X12_go_ ml_ShadowHeirsLaw_70 (b := 138) (ci := 12) ⟨Nat.lt_of_lt_of_le (by decide) F.1, sK138⟩ rfl (As := [.int (i32 (xs (t + 1)).toInt), .int (i32 (xs (t + 2)).toInt)]) (rest := [.int (i32 r)]) rfl (room_ok hR (by decide) hc2) (Nat.le_of_ble_eq_true rfl) (by decide +kernel) (M_X12_go_ l Γ F (ir_toInt _) (ir_toInt _) m1 (r, m2) e2) rfl (fun _ => ?_)
  show zg (kX X cs sl) Γ 7 570 (lLv Γ b t) [.int (i32 r), .int (i32 r)] m2
  exact zj_icmp_eq (A := some ()) (B := some ()) (off := 868) C 1438 h_y h_y (by decide +kernel) rfl (fun _ => j_zg (kk m2 R2)) (fun c => absurd rfl c) (if_pos rfl)
theorem case_9 {X : zM} {Γ : zG} {l : Launch} {b L t cs sl : Nat} {xs : Nat → Int32} {mem : zMem} (C : zC (kX X cs sl) Γ "ShadowHeirsLaw" code 7) (hl : X.2.1 = l) (hR : kR X = room_1) (F : zFull Γ) (S : sCx X Γ b L xs) (ht : t + 5 < L) (hc : cs ≤ 900 ∧ sl ≤ 10000) (R : Rel mem) (kk : ∀ m2, Rel m2 → zg (kX X cs sl) Γ 7 1438 (lLv Γ b t) [] m2) : zg (kX X cs sl) Γ 7 575 (lLv Γ b t) [] mem := by
  obtain ⟨r, m1, m2, e1, e2, R2⟩ := qLay R (xs (t + 1)).toInt (xs (t + 2)).toInt
  have hc2 : cs ≤ 1000 ∧ sl ≤ 20000 := ⟨Nat.le_trans hc.1 (by decide), Nat.le_trans hc.2 (by decide)⟩
  refine zg_j ?_
  refine zj_aload_n (j := 1) (i := 1) C rfl 1 rfl (by decide +kernel) ?_
  refine j_zg ?_
  refine sg_arg C S t 1 (lt5 ht 1 (by decide)) 0 4 rfl rfl (by decide +kernel) (by decide +kernel) (by decide +kernel) (by decide +kernel) (by decide +kernel) ?_
  refine sg_arg C S t 2 (lt5 ht 2 (by decide)) 0 4 rfl rfl (by decide +kernel) (by decide +kernel) (by decide +kernel) (by decide +kernel) (by decide +kernel) ?_
  refine yg_callV C hl cal_X11_lay calv_X11_lay ml_ShadowHeirsLaw_71 (b := 0) (ci := 11) ⟨Nat.lt_of_lt_of_le (by decide) F.1, sK0⟩ rfl (As := [.int (i32 (xs (t + 1)).toInt), .int (i32 (xs (t + 2)).toInt)]) (rest := []) rfl (room_ok hR (by decide) hc2) (Nat.le_of_ble_eq_true rfl) (by decide +kernel) (M_X11_lay l Γ F (ir_toInt _) (ir_toInt _) mem (r, m1) e1) rfl (fun h_y => ?_)
  have h_y : ir r := h_y
  show zg (kX X cs sl) Γ 7 591 (lLv Γ b t) [.int (i32 r)] m1
  refine zg_j ?_
  refine zj_aload_n (j := 2) (i := 2) C rfl 2 rfl (by decide +kernel) ?_
  refine j_zg ?_
  refine sg_arg C S t 1 (lt5 ht 1 (by decide)) 0 4 rfl rfl (by decide +kernel) (by decide +kernel) (by decide +kernel) (by decide +kernel) (by decide +kernel) ?_
  refine sg_arg C S t 2 (lt5 ht 2 (by decide)) 0 4 rfl rfl (by decide +kernel) (by decide +kernel) (by decide +kernel) (by decide +kernel) (by decide +kernel) ?_
  refine yg_callV C hl cal_X12_lay calv_X12_lay ml_ShadowHeirsLaw_74 (b := 138) (ci := 12) ⟨Nat.lt_of_lt_of_le (by decide) F.1, sK138⟩ rfl (As := [.int (i32 (xs (t + 1)).toInt), .int (i32 (xs (t + 2)).toInt)]) (rest := [.int (i32 r)]) rfl (room_ok hR (by decide) hc2) (Nat.le_of_ble_eq_true rfl) (by decide +kernel) (M_X12_lay l Γ F (ir_toInt _) (ir_toInt _) m1 (r, m2) e2) rfl (fun _ => ?_)
  show zg (kX X cs sl) Γ 7 607 (lLv Γ b t) [.int (i32 r), .int (i32 r)] m2
  exact zj_icmp_eq (A := some ()) (B := some ()) (off := 831) C 1438 h_y h_y (by decide +kernel) rfl (fun _ => j_zg (kk m2 R2)) (fun c => absurd rfl c) (if_pos rfl)
theorem case_10 {X : zM} {Γ : zG} {l : Launch} {b L t cs sl : Nat} {xs : Nat → Int32} {mem : zMem} (C : zC (kX X cs sl) Γ "ShadowHeirsLaw" code 7) (hl : X.2.1 = l) (hR : kR X = room_1) (F : zFull Γ) (S : sCx X Γ b L xs) (ht : t + 5 < L) (hc : cs ≤ 900 ∧ sl ≤ 10000) (R : Rel mem) (kk : ∀ m2, Rel m2 → zg (kX X cs sl) Γ 7 1438 (lLv Γ b t) [] m2) : zg (kX X cs sl) Γ 7 612 (lLv Γ b t) [] mem := by
  obtain ⟨r, m1, m2, e1, e2, R2⟩ := qTear R (xs (t + 1)).toInt (xs (t + 2)).toInt
  have hc2 : cs ≤ 1000 ∧ sl ≤ 20000 := ⟨Nat.le_trans hc.1 (by decide), Nat.le_trans hc.2 (by decide)⟩
  refine zg_j ?_
  refine zj_aload_n (j := 1) (i := 1) C rfl 1 rfl (by decide +kernel) ?_
  refine j_zg ?_
  refine sg_arg C S t 1 (lt5 ht 1 (by decide)) 0 4 rfl rfl (by decide +kernel) (by decide +kernel) (by decide +kernel) (by decide +kernel) (by decide +kernel) ?_
  refine sg_arg C S t 2 (lt5 ht 2 (by decide)) 0 4 rfl rfl (by decide +kernel) (by decide +kernel) (by decide +kernel) (by decide +kernel) (by decide +kernel) ?_
  refine yg_callV C hl cal_X11_tear calv_X11_tear ml_ShadowHeirsLaw_75 (b := 0) (ci := 11) ⟨Nat.lt_of_lt_of_le (by decide) F.1, sK0⟩ rfl (As := [.int (i32 (xs (t + 1)).toInt), .int (i32 (xs (t + 2)).toInt)]) (rest := []) rfl (room_ok hR (by decide) hc2) (Nat.le_of_ble_eq_true rfl) (by decide +kernel) (M_X11_tear l Γ F (ir_toInt _) (ir_toInt _) mem (r, m1) e1) rfl (fun h_y => ?_)
  have h_y : ir r := h_y
  show zg (kX X cs sl) Γ 7 628 (lLv Γ b t) [.int (i32 r)] m1
  refine zg_j ?_
  refine zj_aload_n (j := 2) (i := 2) C rfl 2 rfl (by decide +kernel) ?_
  refine j_zg ?_
  refine sg_arg C S t 1 (lt5 ht 1 (by decide)) 0 4 rfl rfl (by decide +kernel) (by decide +kernel) (by decide +kernel) (by decide +kernel) (by decide +kernel) ?_
  refine sg_arg C S t 2 (lt5 ht 2 (by decide)) 0 4 rfl rfl (by decide +kernel) (by decide +kernel) (by decide +kernel) (by decide +kernel) (by decide +kernel) ?_
  refine yg_callV C hl cal_X12_tear calv_X12_tear ml_ShadowHeirsLaw_78 (b := 138) (ci := 12) ⟨Nat.lt_of_lt_of_le (by decide) F.1, sK138⟩ rfl (As := [.int (i32 (xs (t + 1)).toInt), .int (i32 (xs (t + 2)).toInt)]) (rest := [.int (i32 r)]) rfl (room_ok hR (by decide) hc2) (Nat.le_of_ble_eq_true rfl) (by decide +kernel) (M_X12_tear l Γ F (ir_toInt _) (ir_toInt _) m1 (r, m2) e2) rfl (fun _ => ?_)
  show zg (kX X cs sl) Γ 7 644 (lLv Γ b t) [.int (i32 r), .int (i32 r)] m2
  exact zj_icmp_eq (A := some ()) (B := some ()) (off := 794) C 1438 h_y h_y (by decide +kernel) rfl (fun _ => j_zg (kk m2 R2)) (fun c => absurd rfl c) (if_pos rfl)
theorem case_11 {X : zM} {Γ : zG} {l : Launch} {b L t cs sl : Nat} {xs : Nat → Int32} {mem : zMem} (C : zC (kX X cs sl) Γ "ShadowHeirsLaw" code 7) (hl : X.2.1 = l) (hR : kR X = room_1) (F : zFull Γ) (S : sCx X Γ b L xs) (ht : t + 5 < L) (hc : cs ≤ 900 ∧ sl ≤ 10000) (R : Rel mem) (kk : ∀ m2, Rel m2 → zg (kX X cs sl) Γ 7 1438 (lLv Γ b t) [] m2) : zg (kX X cs sl) Γ 7 649 (lLv Γ b t) [] mem := by
  obtain ⟨r, m1, m2, e1, e2, R2⟩ := qBury R (xs (t + 1)).toInt
  have hc2 : cs ≤ 1000 ∧ sl ≤ 20000 := ⟨Nat.le_trans hc.1 (by decide), Nat.le_trans hc.2 (by decide)⟩
  refine zg_j ?_
  refine zj_aload_n (j := 1) (i := 1) C rfl 1 rfl (by decide +kernel) ?_
  refine j_zg ?_
  refine sg_arg C S t 1 (lt5 ht 1 (by decide)) 0 4 rfl rfl (by decide +kernel) (by decide +kernel) (by decide +kernel) (by decide +kernel) (by decide +kernel) ?_
  refine yg_callV C hl cal_X11_bury calv_X11_bury ml_ShadowHeirsLaw_79 (b := 0) (ci := 11) ⟨Nat.lt_of_lt_of_le (by decide) F.1, sK0⟩ rfl (As := [.int (i32 (xs (t + 1)).toInt)]) (rest := []) rfl (room_ok hR (by decide) hc2) (Nat.le_of_ble_eq_true rfl) (by decide +kernel) (M_X11_bury l Γ F (ir_toInt _) mem (r, m1) e1) rfl (fun h_y => ?_)
  have h_y : ir r := h_y
  show zg (kX X cs sl) Γ 7 659 (lLv Γ b t) [.int (i32 r)] m1
  refine zg_j ?_
  refine zj_aload_n (j := 2) (i := 2) C rfl 2 rfl (by decide +kernel) ?_
  refine j_zg ?_
  refine sg_arg C S t 1 (lt5 ht 1 (by decide)) 0 4 rfl rfl (by decide +kernel) (by decide +kernel) (by decide +kernel) (by decide +kernel) (by decide +kernel) ?_
  refine yg_callV C hl cal_X12_bury calv_X12_bury ml_ShadowHeirsLaw_82 (b := 138) (ci := 12) ⟨Nat.lt_of_lt_of_le (by decide) F.1, sK138⟩ rfl (As := [.int (i32 (xs (t + 1)).toInt)]) (rest := [.int (i32 r)]) rfl (room_ok hR (by decide) hc2) (Nat.le_of_ble_eq_true rfl) (by decide +kernel) (M_X12_bury l Γ F (ir_toInt _) m1 (r, m2) e2) rfl (fun _ => ?_)
  show zg (kX X cs sl) Γ 7 669 (lLv Γ b t) [.int (i32 r), .int (i32 r)] m2
  exact zj_icmp_eq (A := some ()) (B := some ()) (off := 769) C 1438 h_y h_y (by decide +kernel) rfl (fun _ => j_zg (kk m2 R2)) (fun c => absurd rfl c) (if_pos rfl)
theorem case_12 {X : zM} {Γ : zG} {l : Launch} {b L t cs sl : Nat} {xs : Nat → Int32} {mem : zMem} (C : zC (kX X cs sl) Γ "ShadowHeirsLaw" code 7) (hl : X.2.1 = l) (hR : kR X = room_1) (F : zFull Γ) (S : sCx X Γ b L xs) (ht : t + 5 < L) (hc : cs ≤ 900 ∧ sl ≤ 10000) (R : Rel mem) (kk : ∀ m2, Rel m2 → zg (kX X cs sl) Γ 7 1438 (lLv Γ b t) [] m2) : zg (kX X cs sl) Γ 7 674 (lLv Γ b t) [] mem := by
  obtain ⟨r, m1, m2, e1, e2, R2⟩ := qHours R (xs (t + 1)).toInt
  have hc2 : cs ≤ 1000 ∧ sl ≤ 20000 := ⟨Nat.le_trans hc.1 (by decide), Nat.le_trans hc.2 (by decide)⟩
  refine zg_j ?_
  refine zj_aload_n (j := 1) (i := 1) C rfl 1 rfl (by decide +kernel) ?_
  refine j_zg ?_
  refine sg_arg C S t 1 (lt5 ht 1 (by decide)) 0 4 rfl rfl (by decide +kernel) (by decide +kernel) (by decide +kernel) (by decide +kernel) (by decide +kernel) ?_
  refine yg_callV C hl cal_X11_hours calv_X11_hours ml_ShadowHeirsLaw_83 (b := 0) (ci := 11) ⟨Nat.lt_of_lt_of_le (by decide) F.1, sK0⟩ rfl (As := [.int (i32 (xs (t + 1)).toInt)]) (rest := []) rfl (room_ok hR (by decide) hc2) (Nat.le_of_ble_eq_true rfl) (by decide +kernel) (M_X11_hours l Γ F (ir_toInt _) mem (r, m1) e1) rfl (fun h_y => ?_)
  have h_y : ir r := h_y
  show zg (kX X cs sl) Γ 7 684 (lLv Γ b t) [.int (i32 r)] m1
  refine zg_j ?_
  refine zj_aload_n (j := 2) (i := 2) C rfl 2 rfl (by decide +kernel) ?_
  refine j_zg ?_
  refine sg_arg C S t 1 (lt5 ht 1 (by decide)) 0 4 rfl rfl (by decide +kernel) (by decide +kernel) (by decide +kernel) (by decide +kernel) (by decide +kernel) ?_
  refine yg_callV C hl cal_X12_hours calv_X12_hours ml_ShadowHeirsLaw_86 (b := 138) (ci := 12) ⟨Nat.lt_of_lt_of_le (by decide) F.1, sK138⟩ rfl (As := [.int (i32 (xs (t + 1)).toInt)]) (rest := [.int (i32 r)]) rfl (room_ok hR (by decide) hc2) (Nat.le_of_ble_eq_true rfl) (by decide +kernel) (M_X12_hours l Γ F (ir_toInt _) m1 (r, m2) e2) rfl (fun _ => ?_)
  show zg (kX X cs sl) Γ 7 694 (lLv Γ b t) [.int (i32 r), .int (i32 r)] m2
  exact zj_icmp_eq (A := some ()) (B := some ()) (off := 744) C 1438 h_y h_y (by decide +kernel) rfl (fun _ => j_zg (kk m2 R2)) (fun c => absurd rfl c) (if_pos rfl)
theorem case_13 {X : zM} {Γ : zG} {l : Launch} {b L t cs sl : Nat} {xs : Nat → Int32} {mem : zMem} (C : zC (kX X cs sl) Γ "ShadowHeirsLaw" code 7) (hl : X.2.1 = l) (hR : kR X = room_1) (F : zFull Γ) (S : sCx X Γ b L xs) (ht : t + 5 < L) (hc : cs ≤ 900 ∧ sl ≤ 10000) (R : Rel mem) (kk : ∀ m2, Rel m2 → zg (kX X cs sl) Γ 7 1438 (lLv Γ b t) [] m2) : zg (kX X cs sl) Γ 7 699 (lLv Γ b t) [] mem := by
  obtain ⟨r, m1, m2, e1, e2, R2⟩ := qUndo R 
  have hc2 : cs ≤ 1000 ∧ sl ≤ 20000 := ⟨Nat.le_trans hc.1 (by decide), Nat.le_trans hc.2 (by decide)⟩
  refine zg_j ?_
  refine zj_aload_n (j := 1) (i := 1) C rfl 1 rfl (by decide +kernel) ?_
  refine j_zg ?_
  refine yg_callV C hl cal_X11_undo calv_X11_undo ml_ShadowHeirsLaw_87 (b := 0) (ci := 11) ⟨Nat.lt_of_lt_of_le (by decide) F.1, sK0⟩ rfl (As := []) (rest := []) rfl (room_ok hR (by decide) hc2) (Nat.le_of_ble_eq_true rfl) (by decide +kernel) (M_X11_undo l Γ F  mem (r, m1) e1) rfl (fun h_y => ?_)
  have h_y : ir r := h_y
  show zg (kX X cs sl) Γ 7 703 (lLv Γ b t) [.int (i32 r)] m1
  refine zg_j ?_
  refine zj_aload_n (j := 2) (i := 2) C rfl 2 rfl (by decide +kernel) ?_
  refine j_zg ?_
  refine yg_callV C hl cal_X12_undo calv_X12_undo ml_ShadowHeirsLaw_90 (b := 138) (ci := 12) ⟨Nat.lt_of_lt_of_le (by decide) F.1, sK138⟩ rfl (As := []) (rest := [.int (i32 r)]) rfl (room_ok hR (by decide) hc2) (Nat.le_of_ble_eq_true rfl) (by decide +kernel) (M_X12_undo l Γ F  m1 (r, m2) e2) rfl (fun _ => ?_)
  show zg (kX X cs sl) Γ 7 707 (lLv Γ b t) [.int (i32 r), .int (i32 r)] m2
  exact zj_icmp_eq (A := some ()) (B := some ()) (off := 731) C 1438 h_y h_y (by decide +kernel) rfl (fun _ => j_zg (kk m2 R2)) (fun c => absurd rfl c) (if_pos rfl)
theorem case_14 {X : zM} {Γ : zG} {l : Launch} {b L t cs sl : Nat} {xs : Nat → Int32} {mem : zMem} (C : zC (kX X cs sl) Γ "ShadowHeirsLaw" code 7) (hl : X.2.1 = l) (hR : kR X = room_1) (F : zFull Γ) (S : sCx X Γ b L xs) (ht : t + 5 < L) (hc : cs ≤ 900 ∧ sl ≤ 10000) (R : Rel mem) (kk : ∀ m2, Rel m2 → zg (kX X cs sl) Γ 7 1438 (lLv Γ b t) [] m2) : zg (kX X cs sl) Γ 7 712 (lLv Γ b t) [] mem := by
  obtain ⟨r, m1, m2, e1, e2, R2⟩ := qShadow R (xs (t + 1)).toInt (xs (t + 2)).toInt
  have hc2 : cs ≤ 1000 ∧ sl ≤ 20000 := ⟨Nat.le_trans hc.1 (by decide), Nat.le_trans hc.2 (by decide)⟩
  refine zg_j ?_
  refine zj_aload_n (j := 1) (i := 1) C rfl 1 rfl (by decide +kernel) ?_
  refine j_zg ?_
  refine sg_arg C S t 1 (lt5 ht 1 (by decide)) 0 4 rfl rfl (by decide +kernel) (by decide +kernel) (by decide +kernel) (by decide +kernel) (by decide +kernel) ?_
  refine sg_arg C S t 2 (lt5 ht 2 (by decide)) 0 4 rfl rfl (by decide +kernel) (by decide +kernel) (by decide +kernel) (by decide +kernel) (by decide +kernel) ?_
  refine yg_callV C hl cal_X11_shadow calv_X11_shadow ml_ShadowHeirsLaw_91 (b := 0) (ci := 11) ⟨Nat.lt_of_lt_of_le (by decide) F.1, sK0⟩ rfl (As := [.int (i32 (xs (t + 1)).toInt), .int (i32 (xs (t + 2)).toInt)]) (rest := []) rfl (room_ok hR (by decide) hc2) (Nat.le_of_ble_eq_true rfl) (by decide +kernel) (M_X11_shadow l Γ F (ir_toInt _) (ir_toInt _) mem (r, m1) e1) rfl (fun h_y => ?_)
  have h_y : ir r := h_y
  show zg (kX X cs sl) Γ 7 728 (lLv Γ b t) [.int (i32 r)] m1
  refine zg_j ?_
  refine zj_aload_n (j := 2) (i := 2) C rfl 2 rfl (by decide +kernel) ?_
  refine j_zg ?_
  refine sg_arg C S t 1 (lt5 ht 1 (by decide)) 0 4 rfl rfl (by decide +kernel) (by decide +kernel) (by decide +kernel) (by decide +kernel) (by decide +kernel) ?_
  refine sg_arg C S t 2 (lt5 ht 2 (by decide)) 0 4 rfl rfl (by decide +kernel) (by decide +kernel) (by decide +kernel) (by decide +kernel) (by decide +kernel) ?_
  refine yg_callV C hl cal_X12_shadow calv_X12_shadow ml_ShadowHeirsLaw_94 (b := 138) (ci := 12) ⟨Nat.lt_of_lt_of_le (by decide) F.1, sK138⟩ rfl (As := [.int (i32 (xs (t + 1)).toInt), .int (i32 (xs (t + 2)).toInt)]) (rest := [.int (i32 r)]) rfl (room_ok hR (by decide) hc2) (Nat.le_of_ble_eq_true rfl) (by decide +kernel) (M_X12_shadow l Γ F (ir_toInt _) (ir_toInt _) m1 (r, m2) e2) rfl (fun _ => ?_)
  show zg (kX X cs sl) Γ 7 744 (lLv Γ b t) [.int (i32 r), .int (i32 r)] m2
  exact zj_icmp_eq (A := some ()) (B := some ()) (off := 694) C 1438 h_y h_y (by decide +kernel) rfl (fun _ => j_zg (kk m2 R2)) (fun c => absurd rfl c) (if_pos rfl)
theorem case_15 {X : zM} {Γ : zG} {l : Launch} {b L t cs sl : Nat} {xs : Nat → Int32} {mem : zMem} (C : zC (kX X cs sl) Γ "ShadowHeirsLaw" code 7) (hl : X.2.1 = l) (hR : kR X = room_1) (F : zFull Γ) (S : sCx X Γ b L xs) (ht : t + 5 < L) (hc : cs ≤ 900 ∧ sl ≤ 10000) (R : Rel mem) (kk : ∀ m2, Rel m2 → zg (kX X cs sl) Γ 7 1438 (lLv Γ b t) [] m2) : zg (kX X cs sl) Γ 7 749 (lLv Γ b t) [] mem := by
  obtain ⟨r, m1, m2, e1, e2, R2⟩ := qHeirs R (xs (t + 1)).toInt (xs (t + 2)).toInt
  have hc2 : cs ≤ 1000 ∧ sl ≤ 20000 := ⟨Nat.le_trans hc.1 (by decide), Nat.le_trans hc.2 (by decide)⟩
  refine zg_j ?_
  refine zj_aload_n (j := 1) (i := 1) C rfl 1 rfl (by decide +kernel) ?_
  refine j_zg ?_
  refine sg_arg C S t 1 (lt5 ht 1 (by decide)) 0 4 rfl rfl (by decide +kernel) (by decide +kernel) (by decide +kernel) (by decide +kernel) (by decide +kernel) ?_
  refine sg_arg C S t 2 (lt5 ht 2 (by decide)) 0 4 rfl rfl (by decide +kernel) (by decide +kernel) (by decide +kernel) (by decide +kernel) (by decide +kernel) ?_
  refine yg_callV C hl cal_X11_heirs calv_X11_heirs ml_ShadowHeirsLaw_95 (b := 0) (ci := 11) ⟨Nat.lt_of_lt_of_le (by decide) F.1, sK0⟩ rfl (As := [.int (i32 (xs (t + 1)).toInt), .int (i32 (xs (t + 2)).toInt)]) (rest := []) rfl (room_ok hR (by decide) hc2) (Nat.le_of_ble_eq_true rfl) (by decide +kernel) (M_X11_heirs l Γ F (ir_toInt _) (ir_toInt _) mem (r, m1) e1) rfl (fun h_y => ?_)
  have h_y : ir r := h_y
  show zg (kX X cs sl) Γ 7 765 (lLv Γ b t) [.int (i32 r)] m1
  refine zg_j ?_
  refine zj_aload_n (j := 2) (i := 2) C rfl 2 rfl (by decide +kernel) ?_
  refine j_zg ?_
  refine sg_arg C S t 1 (lt5 ht 1 (by decide)) 0 4 rfl rfl (by decide +kernel) (by decide +kernel) (by decide +kernel) (by decide +kernel) (by decide +kernel) ?_
  refine sg_arg C S t 2 (lt5 ht 2 (by decide)) 0 4 rfl rfl (by decide +kernel) (by decide +kernel) (by decide +kernel) (by decide +kernel) (by decide +kernel) ?_
  refine yg_callV C hl cal_X12_heirs calv_X12_heirs ml_ShadowHeirsLaw_98 (b := 138) (ci := 12) ⟨Nat.lt_of_lt_of_le (by decide) F.1, sK138⟩ rfl (As := [.int (i32 (xs (t + 1)).toInt), .int (i32 (xs (t + 2)).toInt)]) (rest := [.int (i32 r)]) rfl (room_ok hR (by decide) hc2) (Nat.le_of_ble_eq_true rfl) (by decide +kernel) (M_X12_heirs l Γ F (ir_toInt _) (ir_toInt _) m1 (r, m2) e2) rfl (fun _ => ?_)
  show zg (kX X cs sl) Γ 7 781 (lLv Γ b t) [.int (i32 r), .int (i32 r)] m2
  exact zj_icmp_eq (A := some ()) (B := some ()) (off := 657) C 1438 h_y h_y (by decide +kernel) rfl (fun _ => j_zg (kk m2 R2)) (fun c => absurd rfl c) (if_pos rfl)
theorem case_17 {X : zM} {Γ : zG} {l : Launch} {b L t cs sl : Nat} {xs : Nat → Int32} {mem : zMem} (C : zC (kX X cs sl) Γ "ShadowHeirsLaw" code 7) (hl : X.2.1 = l) (hR : kR X = room_1) (F : zFull Γ) (S : sCx X Γ b L xs) (ht : t + 5 < L) (hc : cs ≤ 900 ∧ sl ≤ 10000) (R : Rel mem) (kk : ∀ m2, Rel m2 → zg (kX X cs sl) Γ 7 1438 (lLv Γ b t) [] m2) : zg (kX X cs sl) Γ 7 878 (lLv Γ b t) [] mem := by
  obtain ⟨r, m1, m2, e1, e2, R2⟩ := qBest R (xs (t + 1)).toInt (xs (t + 2)).toInt
  have hc2 : cs ≤ 1000 ∧ sl ≤ 20000 := ⟨Nat.le_trans hc.1 (by decide), Nat.le_trans hc.2 (by decide)⟩
  refine zg_j ?_
  refine zj_aload_n (j := 1) (i := 1) C rfl 1 rfl (by decide +kernel) ?_
  refine j_zg ?_
  refine sg_arg C S t 1 (lt5 ht 1 (by decide)) 0 4 rfl rfl (by decide +kernel) (by decide +kernel) (by decide +kernel) (by decide +kernel) (by decide +kernel) ?_
  refine sg_arg C S t 2 (lt5 ht 2 (by decide)) 0 4 rfl rfl (by decide +kernel) (by decide +kernel) (by decide +kernel) (by decide +kernel) (by decide +kernel) ?_
  refine yg_callV C hl cal_X11_best calv_X11_best ml_ShadowHeirsLaw_103 (b := 0) (ci := 11) ⟨Nat.lt_of_lt_of_le (by decide) F.1, sK0⟩ rfl (As := [.int (i32 (xs (t + 1)).toInt), .int (i32 (xs (t + 2)).toInt)]) (rest := []) rfl (room_ok hR (by decide) hc2) (Nat.le_of_ble_eq_true rfl) (by decide +kernel) (M_X11_best l Γ F (ir_toInt _) (ir_toInt _) mem (r, m1) e1) rfl (fun h_y => ?_)
  have h_y : ir r := h_y
  show zg (kX X cs sl) Γ 7 894 (lLv Γ b t) [.int (i32 r)] m1
  refine zg_j ?_
  refine zj_aload_n (j := 2) (i := 2) C rfl 2 rfl (by decide +kernel) ?_
  refine j_zg ?_
  refine sg_arg C S t 1 (lt5 ht 1 (by decide)) 0 4 rfl rfl (by decide +kernel) (by decide +kernel) (by decide +kernel) (by decide +kernel) (by decide +kernel) ?_
  refine sg_arg C S t 2 (lt5 ht 2 (by decide)) 0 4 rfl rfl (by decide +kernel) (by decide +kernel) (by decide +kernel) (by decide +kernel) (by decide +kernel) ?_
  refine yg_callV C hl cal_X12_best calv_X12_best ml_ShadowHeirsLaw_106 (b := 138) (ci := 12) ⟨Nat.lt_of_lt_of_le (by decide) F.1, sK138⟩ rfl (As := [.int (i32 (xs (t + 1)).toInt), .int (i32 (xs (t + 2)).toInt)]) (rest := [.int (i32 r)]) rfl (room_ok hR (by decide) hc2) (Nat.le_of_ble_eq_true rfl) (by decide +kernel) (M_X12_best l Γ F (ir_toInt _) (ir_toInt _) m1 (r, m2) e2) rfl (fun _ => ?_)
  show zg (kX X cs sl) Γ 7 910 (lLv Γ b t) [.int (i32 r), .int (i32 r)] m2
  exact zj_icmp_eq (A := some ()) (B := some ()) (off := 528) C 1438 h_y h_y (by decide +kernel) rfl (fun _ => j_zg (kk m2 R2)) (fun c => absurd rfl c) (if_pos rfl)
theorem case_18 {X : zM} {Γ : zG} {l : Launch} {b L t cs sl : Nat} {xs : Nat → Int32} {mem : zMem} (C : zC (kX X cs sl) Γ "ShadowHeirsLaw" code 7) (hl : X.2.1 = l) (hR : kR X = room_1) (F : zFull Γ) (S : sCx X Γ b L xs) (ht : t + 5 < L) (hc : cs ≤ 900 ∧ sl ≤ 10000) (R : Rel mem) (kk : ∀ m2, Rel m2 → zg (kX X cs sl) Γ 7 1438 (lLv Γ b t) [] m2) : zg (kX X cs sl) Γ 7 915 (lLv Γ b t) [] mem := by
  obtain ⟨r, m1, m2, e1, e2, R2⟩ := qSpare R (xs (t + 1)).toInt (xs (t + 2)).toInt (xs (t + 3)).toInt
  have hc2 : cs ≤ 1000 ∧ sl ≤ 20000 := ⟨Nat.le_trans hc.1 (by decide), Nat.le_trans hc.2 (by decide)⟩
  refine zg_j ?_
  refine zj_aload_n (j := 1) (i := 1) C rfl 1 rfl (by decide +kernel) ?_
  refine j_zg ?_
  refine sg_arg C S t 1 (lt5 ht 1 (by decide)) 0 4 rfl rfl (by decide +kernel) (by decide +kernel) (by decide +kernel) (by decide +kernel) (by decide +kernel) ?_
  refine sg_arg C S t 2 (lt5 ht 2 (by decide)) 0 4 rfl rfl (by decide +kernel) (by decide +kernel) (by decide +kernel) (by decide +kernel) (by decide +kernel) ?_
  refine sg_arg C S t 3 (lt5 ht 3 (by decide)) 0 4 rfl rfl (by decide +kernel) (by decide +kernel) (by decide +kernel) (by decide +kernel) (by decide +kernel) ?_
  refine yg_callV C hl cal_X11_spare calv_X11_spare ml_ShadowHeirsLaw_107 (b := 0) (ci := 11) ⟨Nat.lt_of_lt_of_le (by decide) F.1, sK0⟩ rfl (As := [.int (i32 (xs (t + 1)).toInt), .int (i32 (xs (t + 2)).toInt), .int (i32 (xs (t + 3)).toInt)]) (rest := []) rfl (room_ok hR (by decide) hc2) (Nat.le_of_ble_eq_true rfl) (by decide +kernel) (M_X11_spare l Γ F (ir_toInt _) (ir_toInt _) (ir_toInt _) mem (r, m1) e1) rfl (fun h_y => ?_)
  have h_y : ir r := h_y
  show zg (kX X cs sl) Γ 7 937 (lLv Γ b t) [.int (i32 r)] m1
  refine zg_j ?_
  refine zj_aload_n (j := 2) (i := 2) C rfl 2 rfl (by decide +kernel) ?_
  refine j_zg ?_
  refine sg_arg C S t 1 (lt5 ht 1 (by decide)) 0 4 rfl rfl (by decide +kernel) (by decide +kernel) (by decide +kernel) (by decide +kernel) (by decide +kernel) ?_
  refine sg_arg C S t 2 (lt5 ht 2 (by decide)) 0 4 rfl rfl (by decide +kernel) (by decide +kernel) (by decide +kernel) (by decide +kernel) (by decide +kernel) ?_
  refine sg_arg C S t 3 (lt5 ht 3 (by decide)) 0 4 rfl rfl (by decide +kernel) (by decide +kernel) (by decide +kernel) (by decide +kernel) (by decide +kernel) ?_
  refine yg_callV C hl cal_X12_spare calv_X12_spare ml_ShadowHeirsLaw_110 (b := 138) (ci := 12) ⟨Nat.lt_of_lt_of_le (by decide) F.1, sK138⟩ rfl (As := [.int (i32 (xs (t + 1)).toInt), .int (i32 (xs (t + 2)).toInt), .int (i32 (xs (t + 3)).toInt)]) (rest := [.int (i32 r)]) rfl (room_ok hR (by decide) hc2) (Nat.le_of_ble_eq_true rfl) (by decide +kernel) (M_X12_spare l Γ F (ir_toInt _) (ir_toInt _) (ir_toInt _) m1 (r, m2) e2) rfl (fun _ => ?_)
  show zg (kX X cs sl) Γ 7 959 (lLv Γ b t) [.int (i32 r), .int (i32 r)] m2
  exact zj_icmp_eq (A := some ()) (B := some ()) (off := 479) C 1438 h_y h_y (by decide +kernel) rfl (fun _ => j_zg (kk m2 R2)) (fun c => absurd rfl c) (if_pos rfl)
theorem case_19 {X : zM} {Γ : zG} {l : Launch} {b L t cs sl : Nat} {xs : Nat → Int32} {mem : zMem} (C : zC (kX X cs sl) Γ "ShadowHeirsLaw" code 7) (hl : X.2.1 = l) (hR : kR X = room_1) (F : zFull Γ) (S : sCx X Γ b L xs) (ht : t + 5 < L) (hc : cs ≤ 900 ∧ sl ≤ 10000) (R : Rel mem) (kk : ∀ m2, Rel m2 → zg (kX X cs sl) Γ 7 1438 (lLv Γ b t) [] m2) : zg (kX X cs sl) Γ 7 964 (lLv Γ b t) [] mem := by
  obtain ⟨r, m1, m2, e1, e2, R2⟩ := qSpareAt R 
  have hc2 : cs ≤ 1000 ∧ sl ≤ 20000 := ⟨Nat.le_trans hc.1 (by decide), Nat.le_trans hc.2 (by decide)⟩
  refine zg_j ?_
  refine zj_aload_n (j := 1) (i := 1) C rfl 1 rfl (by decide +kernel) ?_
  refine j_zg ?_
  refine yg_callV C hl cal_X11_spareAt calv_X11_spareAt ml_ShadowHeirsLaw_111 (b := 0) (ci := 11) ⟨Nat.lt_of_lt_of_le (by decide) F.1, sK0⟩ rfl (As := []) (rest := []) rfl (room_ok hR (by decide) hc2) (Nat.le_of_ble_eq_true rfl) (by decide +kernel) (M_X11_spareAt l Γ F  mem (r, m1) e1) rfl (fun h_y => ?_)
  have h_y : ir r := h_y
  show zg (kX X cs sl) Γ 7 968 (lLv Γ b t) [.int (i32 r)] m1
  refine zg_j ?_
  refine zj_aload_n (j := 2) (i := 2) C rfl 2 rfl (by decide +kernel) ?_
  refine j_zg ?_
  refine yg_callV C hl cal_X12_spareAt calv_X12_spareAt ml_ShadowHeirsLaw_114 (b := 138) (ci := 12) ⟨Nat.lt_of_lt_of_le (by decide) F.1, sK138⟩ rfl (As := []) (rest := [.int (i32 r)]) rfl (room_ok hR (by decide) hc2) (Nat.le_of_ble_eq_true rfl) (by decide +kernel) (M_X12_spareAt l Γ F  m1 (r, m2) e2) rfl (fun _ => ?_)
  show zg (kX X cs sl) Γ 7 972 (lLv Γ b t) [.int (i32 r), .int (i32 r)] m2
  exact zj_icmp_eq (A := some ()) (B := some ()) (off := 466) C 1438 h_y h_y (by decide +kernel) rfl (fun _ => j_zg (kk m2 R2)) (fun c => absurd rfl c) (if_pos rfl)
