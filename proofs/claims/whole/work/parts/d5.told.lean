/-! the three calls that throw: when, and that they do -/
theorem T_X11_house (l : Launch) (Γ : zG) (F : zFull Γ) (hl : l.stackTraces = false) {x0 x1 : Int} (h_x0 : ir x0) (h_x1 : ir x1) (mem : zMem) {b : Int} (hb : f_X5_hasHouse 4 x0 mem = some (b, mem)) (hn : b = 0 ∨ x1 < 0 ∨ ¬ x1 ≤ 5) : tMet l yX11_house cX11_house 3 6 Γ [.ref (zad Γ 0), .int (i32 x0), .int (i32 x1)] mem := by
  refine tMet_of (own := "ShadowHeirs") (by decide) rfl (Nat.le_of_ble_eq_true rfl) (fun X C Z => ?_)
  have E : zg (kX X 0 0) Γ 3 20 [(0, .ref (zad Γ 0)), (1, .int (i32 x0)), (2, .int (i32 x1))] [] mem := xg_throw C Z hl (i := 7) (by decide) rfl (Nat.le_refl _) (by decide +kernel) (by decide +kernel) (Or.inl ⟨by decide +kernel, rfl⟩) (by decide +kernel) (by decide +kernel)
  refine zg_j ?_
  refine zj_aload_n (j := 0) (i := 0) C rfl 0 rfl dX11_house_0 ?_
  refine zj_getR C F zk_0 fl_X11_19 rfl rf_0_1 dX11_house_1 ?_
  refine zj_iload_n (j := 1) (i := 1) C rfl 1 rfl dX11_house_4 ?_
  refine j_zg (yg_callV C (tRt_l Z) cal_X5_hasHouse calv_X5_hasHouse ml_X11_170 ⟨Nat.lt_of_lt_of_le zk_4.1 F.1, zk_4.2⟩ rfl (As := [.int (i32 x0)]) (rest := []) rfl (by rw [tRt_R Z]; decide) (by decide) dX11_house_5 (M_X5_hasHouse l Γ F zk_4 h_x0 mem (b, mem) hb) rfl (fun h_y => ?_))
  have h_y : ir b := h_y
  show zg (kX X 0 0) Γ 3 8 _ [.int (i32 b)] mem
  by_cases b0 : b = 0
  · exact zj_if_eq (A := some ()) (B := some ()) C 20 h_y dX11_house_8 rfl (fun _ => j_zg E) (fun c => absurd b0 c) (if_pos b0)
  refine zj_if_eq (A := some ()) (B := some ()) C 20 h_y dX11_house_8 rfl (fun c => absurd c b0) (fun _ => ?_) (if_neg b0)
  refine zj_iload_n (j := 2) (i := 2) C rfl 2 rfl dX11_house_11 ?_
  by_cases b1 : x1 < 0
  · exact j_zg (zj_if_lt (A := some ()) (B := some ()) C 20 h_x1 dX11_house_12 rfl (fun _ => j_zg E) (fun c => absurd b1 c) (if_pos b1))
  refine j_zg (zj_if_lt (A := some ()) (B := some ()) C 20 h_x1 dX11_house_12 rfl (fun c => absurd c b1) (fun _ => ?_) (if_neg b1))
  refine zj_iload_n (j := 2) (i := 2) C rfl 2 rfl dX11_house_15 ?_
  refine zj_iconst C 5 dX11_house_16 ?_
  have b2 : ¬ x1 ≤ 5 := (hn.resolve_left b0).resolve_left b1
  exact j_zg (zj_icmp_le (A := some ()) (B := some ()) C 30 h_x1 irc_5 dX11_house_17 rfl (fun c => absurd c b2) (fun _ => j_zg E) (if_neg b2))
theorem T_X11_person (l : Launch) (Γ : zG) (F : zFull Γ) (hl : l.stackTraces = false) {x0 x1 : Int} (h_x0 : ir x0) (h_x1 : ir x1) (mem : zMem) {b : Int} (hb : f_X5_hasPerson 4 x0 mem = some (b, mem)) (hn : b = 0 ∨ x1 < 0 ∨ ¬ x1 ≤ 4) : tMet l yX11_person cX11_person 3 6 Γ [.ref (zad Γ 0), .int (i32 x0), .int (i32 x1)] mem := by
  refine tMet_of (own := "ShadowHeirs") (by decide) rfl (Nat.le_of_ble_eq_true rfl) (fun X C Z => ?_)
  have E : zg (kX X 0 0) Γ 3 20 [(0, .ref (zad Γ 0)), (1, .int (i32 x0)), (2, .int (i32 x1))] [] mem := xg_throw C Z hl (i := 8) (by decide) rfl (Nat.le_refl _) (by decide +kernel) (by decide +kernel) (Or.inl ⟨by decide +kernel, rfl⟩) (by decide +kernel) (by decide +kernel)
  refine zg_j ?_
  refine zj_aload_n (j := 0) (i := 0) C rfl 0 rfl dX11_person_0 ?_
  refine zj_getR C F zk_0 fl_X11_19 rfl rf_0_1 dX11_person_1 ?_
  refine zj_iload_n (j := 1) (i := 1) C rfl 1 rfl dX11_person_4 ?_
  refine j_zg (yg_callV C (tRt_l Z) cal_X5_hasPerson calv_X5_hasPerson ml_X11_200 ⟨Nat.lt_of_lt_of_le zk_4.1 F.1, zk_4.2⟩ rfl (As := [.int (i32 x0)]) (rest := []) rfl (by rw [tRt_R Z]; decide) (by decide) dX11_person_5 (M_X5_hasPerson l Γ F zk_4 h_x0 mem (b, mem) hb) rfl (fun h_y => ?_))
  have h_y : ir b := h_y
  show zg (kX X 0 0) Γ 3 8 _ [.int (i32 b)] mem
  by_cases b0 : b = 0
  · exact zj_if_eq (A := some ()) (B := some ()) C 20 h_y dX11_person_8 rfl (fun _ => j_zg E) (fun c => absurd b0 c) (if_pos b0)
  refine zj_if_eq (A := some ()) (B := some ()) C 20 h_y dX11_person_8 rfl (fun c => absurd c b0) (fun _ => ?_) (if_neg b0)
  refine zj_iload_n (j := 2) (i := 2) C rfl 2 rfl dX11_person_11 ?_
  by_cases b1 : x1 < 0
  · exact j_zg (zj_if_lt (A := some ()) (B := some ()) C 20 h_x1 dX11_person_12 rfl (fun _ => j_zg E) (fun c => absurd b1 c) (if_pos b1))
  refine j_zg (zj_if_lt (A := some ()) (B := some ()) C 20 h_x1 dX11_person_12 rfl (fun c => absurd c b1) (fun _ => ?_) (if_neg b1))
  refine zj_iload_n (j := 2) (i := 2) C rfl 2 rfl dX11_person_15 ?_
  refine zj_iconst C 4 dX11_person_16 ?_
  have b2 : ¬ x1 ≤ 4 := (hn.resolve_left b0).resolve_left b1
  exact j_zg (zj_icmp_le (A := some ()) (B := some ()) C 30 h_x1 irc_4 dX11_person_17 rfl (fun c => absurd c b2) (fun _ => j_zg E) (if_neg b2))
theorem T_X11_share (l : Launch) (Γ : zG) (F : zFull Γ) (hl : l.stackTraces = false) {x0 x1 x2 x3 : Int} (h_x0 : ir x0) (h_x1 : ir x1) (h_x2 : ir x2) (h_x3 : ir x3) (mem : zMem) {b c : Int} (hb : f_X5_hasPerson 4 x0 mem = some (b, mem)) (hc : f_X5_hasShadow 4 x1 x2 mem = some (c, mem)) (hn : b = 0 ∨ c = 0 ∨ x3 < 0 ∨ ¬ x3 ≤ 1) : tMet l yX11_share cX11_share 6 6 Γ [.ref (zad Γ 0), .int (i32 x0), .int (i32 x1), .int (i32 x2), .int (i32 x3)] mem := by
  refine tMet_of (own := "ShadowHeirs") (by decide) rfl (Nat.le_of_ble_eq_true rfl) (fun X C Z => ?_)
  have E : zg (kX X 0 0) Γ 6 34 [(0, .ref (zad Γ 0)), (1, .int (i32 x0)), (2, .int (i32 x1)), (3, .int (i32 x2)), (4, .int (i32 x3))] [] mem := xg_throw C Z hl (i := 9) (by decide) rfl (Nat.le_refl _) (by decide +kernel) (by decide +kernel) (Or.inr ⟨by decide +kernel, rfl⟩) (by decide +kernel) (by decide +kernel)
  refine zg_j ?_
  refine zj_aload_n (j := 0) (i := 0) C rfl 0 rfl dX11_share_0 ?_
  refine zj_getR C F zk_0 fl_X11_19 rfl rf_0_1 dX11_share_1 ?_
  refine zj_iload_n (j := 1) (i := 1) C rfl 1 rfl dX11_share_4 ?_
  refine j_zg (yg_callV C (tRt_l Z) cal_X5_hasPerson calv_X5_hasPerson ml_X11_200 ⟨Nat.lt_of_lt_of_le zk_4.1 F.1, zk_4.2⟩ rfl (As := [.int (i32 x0)]) (rest := []) rfl (by rw [tRt_R Z]; decide) (by decide) dX11_share_5 (M_X5_hasPerson l Γ F zk_4 h_x0 mem (b, mem) hb) rfl (fun h_y => ?_))
  have h_y : ir b := h_y
  show zg (kX X 0 0) Γ 6 8 _ [.int (i32 b)] mem
  by_cases b0 : b = 0
  · exact zj_if_eq (A := some ()) (B := some ()) C 34 h_y dX11_share_8 rfl (fun _ => j_zg E) (fun c => absurd b0 c) (if_pos b0)
  refine zj_if_eq (A := some ()) (B := some ()) C 34 h_y dX11_share_8 rfl (fun c => absurd c b0) (fun _ => ?_) (if_neg b0)
  refine zj_aload_n (j := 0) (i := 0) C rfl 0 rfl dX11_share_11 ?_
  refine zj_getR C F zk_0 fl_X11_19 rfl rf_0_1 dX11_share_12 ?_
  refine zj_iload_n (j := 2) (i := 2) C rfl 2 rfl dX11_share_15 ?_
  refine zj_iload_n (j := 3) (i := 3) C rfl 3 rfl dX11_share_16 ?_
  refine j_zg (yg_callV C (tRt_l Z) cal_X5_hasShadow calv_X5_hasShadow ml_X11_274 ⟨Nat.lt_of_lt_of_le zk_4.1 F.1, zk_4.2⟩ rfl (As := [.int (i32 x1), .int (i32 x2)]) (rest := []) rfl (by rw [tRt_R Z]; decide) (by decide) dX11_share_17 (M_X5_hasShadow l Γ F zk_4 h_x1 h_x2 mem (c, mem) hc) rfl (fun h_z => ?_))
  have h_z : ir c := h_z
  show zg (kX X 0 0) Γ 6 20 _ [.int (i32 c)] mem
  by_cases c0 : c = 0
  · exact zj_if_eq (A := some ()) (B := some ()) C 34 h_z dX11_share_20 rfl (fun _ => j_zg E) (fun c => absurd c0 c) (if_pos c0)
  refine zj_if_eq (A := some ()) (B := some ()) C 34 h_z dX11_share_20 rfl (fun c => absurd c c0) (fun _ => ?_) (if_neg c0)
  refine zj_iload C 4 rfl dX11_share_23 ?_
  by_cases b1 : x3 < 0
  · exact j_zg (zj_if_lt (A := some ()) (B := some ()) C 34 h_x3 dX11_share_25 rfl (fun _ => j_zg E) (fun c => absurd b1 c) (if_pos b1))
  refine j_zg (zj_if_lt (A := some ()) (B := some ()) C 34 h_x3 dX11_share_25 rfl (fun c => absurd c b1) (fun _ => ?_) (if_neg b1))
  refine zj_iload C 4 rfl dX11_share_28 ?_
  refine zj_iconst C 1 dX11_share_30 ?_
  have b2 : ¬ x3 ≤ 1 := ((hn.resolve_left b0).resolve_left c0).resolve_left b1
  exact j_zg (zj_icmp_le (A := some ()) (B := some ()) C 45 h_x3 irc_1 dX11_share_31 rfl (fun c => absurd c b2) (fun _ => j_zg E) (if_neg b2))
