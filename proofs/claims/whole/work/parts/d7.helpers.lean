/-! the law's private house, person, share -/
theorem sK157 : sK 157 = 14 := by decide +kernel
theorem ix157 : ix 157 0 := by decide +kernel
theorem lr_ir {x : Int} (h : ir x) : lr x := by unfold ir at h; unfold lr; omega
theorem n_kl : Cond.classLink "ShadowHeirsLaw" 13 nEx ∈ gw_tbl := (gw_5 (List.mem_of_getElem? (i := 211) (by decide +kernel)) rfl)
abbrev yL_house : MethodName := ⟨"ShadowHeirsLaw", "house", "(LShadowHeirs;II[J)I"⟩
abbrev cL_house : ByteArray := method_3_code
set_option maxRecDepth 100000 in
theorem cal_X11_house : zCal yX11_house cX11_house 3 (some .int) 2 := ⟨(gw_5 (List.mem_of_getElem? (i := 215) rfl) rfl), (gw_1 (List.mem_of_getElem? (i := 1) (by decide +kernel)) rfl), by decide +kernel⟩
theorem calv_X11_house : zCalV yX11_house := ⟨(gw_5 (List.mem_of_getElem? (i := 213) (by decide +kernel)) rfl), (gw_5 (List.mem_of_getElem? (i := 214) (by decide +kernel)) rfl)⟩
theorem mlw_L_7 : Cond.methodLink "ShadowHeirsLaw" 7 yX11_house ∈ gw_tbl := (gw_5 (List.mem_of_getElem? (i := 212) (by decide +kernel)) rfl)
theorem L_house_ret (l : Launch) (Γ : zG) (F : zFull Γ) (hN : 157 < gN Γ) {x0 x1 : Int} (h_x0 : ir x0) (h_x1 : ir x1) (mem : zMem) {r : Int} {m1 : zMem} (h : f_X11_house x0 x1 mem = some (r, m1)) : hMet l yL_house cL_house 5 [(0, 10, 13, 13)] 7 Γ [.ref (zad Γ 0), .int (i32 x0), .int (i32 x1), .ref (zad Γ 157)] mem (0, zup m1 157 0 r) := by
  refine hMet_of (own := "ShadowHeirsLaw") (by decide) rfl (Nat.le_of_ble_eq_true rfl) (fun X C Z => ?_)
  refine zg_j ?_
  show zJ (kX X 0 0) Γ 5 () (some ()) 0 [(0, .ref (zad Γ 0)), (1, .int (i32 x0)), (2, .int (i32 x1)), (3, .ref (zad Γ 157))] [] mem
  refine zj_aload_n (j := 3) (i := 3) C rfl 3 rfl (by decide +kernel) ?_
  refine zj_iconst C 0 (by decide +kernel) ?_
  refine zj_aload_n (j := 0) (i := 0) C rfl 0 rfl (by decide +kernel) ?_
  refine zj_iload_n (j := 1) (i := 1) C rfl 1 rfl (by decide +kernel) ?_
  refine zj_iload_n (j := 2) (i := 2) C rfl 2 rfl (by decide +kernel) ?_
  refine j_zg (yg_callV C (hRt_l Z) cal_X11_house calv_X11_house (Or.inl mlw_L_7) (b := 0) (ci := 11) ⟨Nat.lt_trans (by decide) hN, by decide +kernel⟩ rfl (As := [.int (i32 x0), .int (i32 x1)]) (rest := [.int (i32 0), .ref (zad Γ 157)]) rfl (by rw [hRt_R Z]; decide) (Nat.le_of_ble_eq_true rfl) (by decide +kernel) (M_X11_house l Γ F h_x0 h_x1 mem (r, m1) h) rfl (fun h_y => ?_))
  have h_y : ir r := h_y
  show zg (kX X 0 0) Γ 5 8 _ [.int (i32 r), .int (i32 0), .ref (zad Γ 157)] m1
  refine zg_j ?_
  refine zj_i2l C h_y (by decide +kernel) ?_
  refine j_zg (kg_last C ⟨hN, sK157⟩ (by decide) ix157 (lr_ir h_y) (by decide +kernel) ?_)
  refine zg_j ?_
  refine zj_goto (tgt := 17) (off := 7) C (by decide +kernel) rfl ?_
  refine zj_iconst C 0 (by decide +kernel) ?_
  exact j_zg (hrt_i C Z (by decide) ⟨Nat.zero_le _, Nat.zero_le _⟩ (by decide +kernel))
theorem L_house_thr (l : Launch) (Γ : zG) (F : zFull Γ) (hN : 157 < gN Γ) (hl : l.stackTraces = false) {x0 x1 : Int} (h_x0 : ir x0) (h_x1 : ir x1) (mem : zMem) {b : Int} (hb : f_X5_hasHouse 4 x0 mem = some (b, mem)) (hn : b = 0 ∨ x1 < 0 ∨ ¬ x1 ≤ 5) : hMet l yL_house cL_house 5 [(0, 10, 13, 13)] 7 Γ [.ref (zad Γ 0), .int (i32 x0), .int (i32 x1), .ref (zad Γ 157)] mem (1, mem) := by
  refine hMet_of (own := "ShadowHeirsLaw") (by decide) rfl (Nat.le_of_ble_eq_true rfl) (fun X C Z => ?_)
  refine zg_j ?_
  show zJ (kX X 0 0) Γ 5 () (some ()) 0 [(0, .ref (zad Γ 0)), (1, .int (i32 x0)), (2, .int (i32 x1)), (3, .ref (zad Γ 157))] [] mem
  refine zj_aload_n (j := 3) (i := 3) C rfl 3 rfl (by decide +kernel) ?_
  refine zj_iconst C 0 (by decide +kernel) ?_
  refine zj_aload_n (j := 0) (i := 0) C rfl 0 rfl (by decide +kernel) ?_
  refine zj_iload_n (j := 1) (i := 1) C rfl 1 rfl (by decide +kernel) ?_
  refine zj_iload_n (j := 2) (i := 2) C rfl 2 rfl (by decide +kernel) ?_
  refine j_zg (xg_callT C (hRt_l Z) (hRt_x Z) cal_X11_house calv_X11_house mlw_L_7 (b := 0) (ci := 11) (D := 6) ⟨Nat.lt_trans (by decide) hN, by decide +kernel⟩ rfl (As := [.int (i32 x0), .int (i32 x1)]) (rest := [.int (i32 0), .ref (zad Γ 157)]) rfl (by rw [hRt_R Z]; decide) (Nat.le_of_ble_eq_true rfl) (by decide +kernel) (T_X11_house l Γ F hl h_x0 h_x1 mem hb hn) rfl ⟨0, 10, 13, 13⟩ (hRt_t Z) (by decide) (by decide) n_kl (fun q => ?_))
  have C1 := zC_x 0 0 (0 + 1) (0 + 6) C
  refine zg_j ?_
  show zJ (kX X (0 + 1) (0 + 6)) Γ 5 () (some ()) 13 [(0, .ref (zad Γ 0)), (1, .int (i32 x0)), (2, .int (i32 x1)), (3, .ref (zad Γ 157))] [.ref q] mem
  refine zj_astore (i := 4) C1 [(4, .ref q), (0, .ref (zad Γ 0)), (1, .int (i32 x0)), (2, .int (i32 x1)), (3, .ref (zad Γ 157))] (by decide +kernel) (by decide) rfl ?_
  refine zj_iconst C1 1 (by decide +kernel) ?_
  exact j_zg (hrt_i C1 Z (by decide) ⟨Nat.le_refl _, Nat.le_refl _⟩ (by decide +kernel))
abbrev yL_person : MethodName := ⟨"ShadowHeirsLaw", "person", "(LShadowHeirs;II[J)I"⟩
abbrev cL_person : ByteArray := method_4_code
set_option maxRecDepth 100000 in
theorem cal_X11_person : zCal yX11_person cX11_person 3 (some .int) 2 := ⟨(gw_6 (List.mem_of_getElem? (i := 48) rfl) rfl), (gw_1 (List.mem_of_getElem? (i := 1) (by decide +kernel)) rfl), by decide +kernel⟩
theorem calv_X11_person : zCalV yX11_person := ⟨(gw_6 (List.mem_of_getElem? (i := 46) (by decide +kernel)) rfl), (gw_6 (List.mem_of_getElem? (i := 47) (by decide +kernel)) rfl)⟩
theorem mlw_L_15 : Cond.methodLink "ShadowHeirsLaw" 15 yX11_person ∈ gw_tbl := (gw_6 (List.mem_of_getElem? (i := 45) (by decide +kernel)) rfl)
theorem L_person_ret (l : Launch) (Γ : zG) (F : zFull Γ) (hN : 157 < gN Γ) {x0 x1 : Int} (h_x0 : ir x0) (h_x1 : ir x1) (mem : zMem) {r : Int} {m1 : zMem} (h : f_X11_person x0 x1 mem = some (r, m1)) : hMet l yL_person cL_person 5 [(0, 10, 13, 13)] 7 Γ [.ref (zad Γ 0), .int (i32 x0), .int (i32 x1), .ref (zad Γ 157)] mem (0, zup m1 157 0 r) := by
  refine hMet_of (own := "ShadowHeirsLaw") (by decide) rfl (Nat.le_of_ble_eq_true rfl) (fun X C Z => ?_)
  refine zg_j ?_
  show zJ (kX X 0 0) Γ 5 () (some ()) 0 [(0, .ref (zad Γ 0)), (1, .int (i32 x0)), (2, .int (i32 x1)), (3, .ref (zad Γ 157))] [] mem
  refine zj_aload_n (j := 3) (i := 3) C rfl 3 rfl (by decide +kernel) ?_
  refine zj_iconst C 0 (by decide +kernel) ?_
  refine zj_aload_n (j := 0) (i := 0) C rfl 0 rfl (by decide +kernel) ?_
  refine zj_iload_n (j := 1) (i := 1) C rfl 1 rfl (by decide +kernel) ?_
  refine zj_iload_n (j := 2) (i := 2) C rfl 2 rfl (by decide +kernel) ?_
  refine j_zg (yg_callV C (hRt_l Z) cal_X11_person calv_X11_person (Or.inl mlw_L_15) (b := 0) (ci := 11) ⟨Nat.lt_trans (by decide) hN, by decide +kernel⟩ rfl (As := [.int (i32 x0), .int (i32 x1)]) (rest := [.int (i32 0), .ref (zad Γ 157)]) rfl (by rw [hRt_R Z]; decide) (Nat.le_of_ble_eq_true rfl) (by decide +kernel) (M_X11_person l Γ F h_x0 h_x1 mem (r, m1) h) rfl (fun h_y => ?_))
  have h_y : ir r := h_y
  show zg (kX X 0 0) Γ 5 8 _ [.int (i32 r), .int (i32 0), .ref (zad Γ 157)] m1
  refine zg_j ?_
  refine zj_i2l C h_y (by decide +kernel) ?_
  refine j_zg (kg_last C ⟨hN, sK157⟩ (by decide) ix157 (lr_ir h_y) (by decide +kernel) ?_)
  refine zg_j ?_
  refine zj_goto (tgt := 17) (off := 7) C (by decide +kernel) rfl ?_
  refine zj_iconst C 0 (by decide +kernel) ?_
  exact j_zg (hrt_i C Z (by decide) ⟨Nat.zero_le _, Nat.zero_le _⟩ (by decide +kernel))
theorem L_person_thr (l : Launch) (Γ : zG) (F : zFull Γ) (hN : 157 < gN Γ) (hl : l.stackTraces = false) {x0 x1 : Int} (h_x0 : ir x0) (h_x1 : ir x1) (mem : zMem) {b : Int} (hb : f_X5_hasPerson 4 x0 mem = some (b, mem)) (hn : b = 0 ∨ x1 < 0 ∨ ¬ x1 ≤ 4) : hMet l yL_person cL_person 5 [(0, 10, 13, 13)] 7 Γ [.ref (zad Γ 0), .int (i32 x0), .int (i32 x1), .ref (zad Γ 157)] mem (1, mem) := by
  refine hMet_of (own := "ShadowHeirsLaw") (by decide) rfl (Nat.le_of_ble_eq_true rfl) (fun X C Z => ?_)
  refine zg_j ?_
  show zJ (kX X 0 0) Γ 5 () (some ()) 0 [(0, .ref (zad Γ 0)), (1, .int (i32 x0)), (2, .int (i32 x1)), (3, .ref (zad Γ 157))] [] mem
  refine zj_aload_n (j := 3) (i := 3) C rfl 3 rfl (by decide +kernel) ?_
  refine zj_iconst C 0 (by decide +kernel) ?_
  refine zj_aload_n (j := 0) (i := 0) C rfl 0 rfl (by decide +kernel) ?_
  refine zj_iload_n (j := 1) (i := 1) C rfl 1 rfl (by decide +kernel) ?_
  refine zj_iload_n (j := 2) (i := 2) C rfl 2 rfl (by decide +kernel) ?_
  refine j_zg (xg_callT C (hRt_l Z) (hRt_x Z) cal_X11_person calv_X11_person mlw_L_15 (b := 0) (ci := 11) (D := 6) ⟨Nat.lt_trans (by decide) hN, by decide +kernel⟩ rfl (As := [.int (i32 x0), .int (i32 x1)]) (rest := [.int (i32 0), .ref (zad Γ 157)]) rfl (by rw [hRt_R Z]; decide) (Nat.le_of_ble_eq_true rfl) (by decide +kernel) (T_X11_person l Γ F hl h_x0 h_x1 mem hb hn) rfl ⟨0, 10, 13, 13⟩ (hRt_t Z) (by decide) (by decide) n_kl (fun q => ?_))
  have C1 := zC_x 0 0 (0 + 1) (0 + 6) C
  refine zg_j ?_
  show zJ (kX X (0 + 1) (0 + 6)) Γ 5 () (some ()) 13 [(0, .ref (zad Γ 0)), (1, .int (i32 x0)), (2, .int (i32 x1)), (3, .ref (zad Γ 157))] [.ref q] mem
  refine zj_astore (i := 4) C1 [(4, .ref q), (0, .ref (zad Γ 0)), (1, .int (i32 x0)), (2, .int (i32 x1)), (3, .ref (zad Γ 157))] (by decide +kernel) (by decide) rfl ?_
  refine zj_iconst C1 1 (by decide +kernel) ?_
  exact j_zg (hrt_i C1 Z (by decide) ⟨Nat.le_refl _, Nat.le_refl _⟩ (by decide +kernel))
abbrev yL_share : MethodName := ⟨"ShadowHeirsLaw", "share", "(LShadowHeirs;IIII[J)I"⟩
abbrev cL_share : ByteArray := method_5_code
set_option maxRecDepth 100000 in
theorem cal_X11_share : zCal yX11_share cX11_share 6 (some .int) 4 := ⟨(gw_6 (List.mem_of_getElem? (i := 61) rfl) rfl), (gw_1 (List.mem_of_getElem? (i := 1) (by decide +kernel)) rfl), by decide +kernel⟩
theorem calv_X11_share : zCalV yX11_share := ⟨(gw_6 (List.mem_of_getElem? (i := 59) (by decide +kernel)) rfl), (gw_6 (List.mem_of_getElem? (i := 60) (by decide +kernel)) rfl)⟩
theorem mlw_L_18 : Cond.methodLink "ShadowHeirsLaw" 18 yX11_share ∈ gw_tbl := (gw_6 (List.mem_of_getElem? (i := 58) (by decide +kernel)) rfl)
theorem L_share_ret (l : Launch) (Γ : zG) (F : zFull Γ) (hN : 157 < gN Γ) {x0 x1 x2 x3 : Int} (h_x0 : ir x0) (h_x1 : ir x1) (h_x2 : ir x2) (h_x3 : ir x3) (mem : zMem) {r : Int} {m1 : zMem} (h : f_X11_share x0 x1 x2 x3 mem = some (r, m1)) : hMet l yL_share cL_share 7 [(0, 14, 17, 13)] 7 Γ [.ref (zad Γ 0), .int (i32 x0), .int (i32 x1), .int (i32 x2), .int (i32 x3), .ref (zad Γ 157)] mem (0, zup m1 157 0 r) := by
  refine hMet_of (own := "ShadowHeirsLaw") (by decide) rfl (Nat.le_of_ble_eq_true rfl) (fun X C Z => ?_)
  refine zg_j ?_
  show zJ (kX X 0 0) Γ 7 () (some ()) 0 [(0, .ref (zad Γ 0)), (1, .int (i32 x0)), (2, .int (i32 x1)), (3, .int (i32 x2)), (4, .int (i32 x3)), (5, .ref (zad Γ 157))] [] mem
  refine zj_aload (i := 5) C 5 rfl (by decide +kernel) ?_
  refine zj_iconst C 0 (by decide +kernel) ?_
  refine zj_aload_n (j := 0) (i := 0) C rfl 0 rfl (by decide +kernel) ?_
  refine zj_iload_n (j := 1) (i := 1) C rfl 1 rfl (by decide +kernel) ?_
  refine zj_iload_n (j := 2) (i := 2) C rfl 2 rfl (by decide +kernel) ?_
  refine zj_iload_n (j := 3) (i := 3) C rfl 3 rfl (by decide +kernel) ?_
  refine zj_iload (i := 4) C 4 rfl (by decide +kernel) ?_
  refine j_zg (yg_callV C (hRt_l Z) cal_X11_share calv_X11_share (Or.inl mlw_L_18) (b := 0) (ci := 11) ⟨Nat.lt_trans (by decide) hN, by decide +kernel⟩ rfl (As := [.int (i32 x0), .int (i32 x1), .int (i32 x2), .int (i32 x3)]) (rest := [.int (i32 0), .ref (zad Γ 157)]) rfl (by rw [hRt_R Z]; decide) (Nat.le_of_ble_eq_true rfl) (by decide +kernel) (M_X11_share l Γ F h_x0 h_x1 h_x2 h_x3 mem (r, m1) h) rfl (fun h_y => ?_))
  have h_y : ir r := h_y
  show zg (kX X 0 0) Γ 7 12 _ [.int (i32 r), .int (i32 0), .ref (zad Γ 157)] m1
  refine zg_j ?_
  refine zj_i2l C h_y (by decide +kernel) ?_
  refine j_zg (kg_last C ⟨hN, sK157⟩ (by decide) ix157 (lr_ir h_y) (by decide +kernel) ?_)
  refine zg_j ?_
  refine zj_goto (tgt := 21) (off := 7) C (by decide +kernel) rfl ?_
  refine zj_iconst C 0 (by decide +kernel) ?_
  exact j_zg (hrt_i C Z (by decide) ⟨Nat.zero_le _, Nat.zero_le _⟩ (by decide +kernel))
theorem L_share_thr (l : Launch) (Γ : zG) (F : zFull Γ) (hN : 157 < gN Γ) (hl : l.stackTraces = false) {x0 x1 x2 x3 : Int} (h_x0 : ir x0) (h_x1 : ir x1) (h_x2 : ir x2) (h_x3 : ir x3) (mem : zMem) {b c : Int} (hb : f_X5_hasPerson 4 x0 mem = some (b, mem)) (hc : f_X5_hasShadow 4 x1 x2 mem = some (c, mem)) (hn : b = 0 ∨ c = 0 ∨ x3 < 0 ∨ ¬ x3 ≤ 1) : hMet l yL_share cL_share 7 [(0, 14, 17, 13)] 7 Γ [.ref (zad Γ 0), .int (i32 x0), .int (i32 x1), .int (i32 x2), .int (i32 x3), .ref (zad Γ 157)] mem (1, mem) := by
  refine hMet_of (own := "ShadowHeirsLaw") (by decide) rfl (Nat.le_of_ble_eq_true rfl) (fun X C Z => ?_)
  refine zg_j ?_
  show zJ (kX X 0 0) Γ 7 () (some ()) 0 [(0, .ref (zad Γ 0)), (1, .int (i32 x0)), (2, .int (i32 x1)), (3, .int (i32 x2)), (4, .int (i32 x3)), (5, .ref (zad Γ 157))] [] mem
  refine zj_aload (i := 5) C 5 rfl (by decide +kernel) ?_
  refine zj_iconst C 0 (by decide +kernel) ?_
  refine zj_aload_n (j := 0) (i := 0) C rfl 0 rfl (by decide +kernel) ?_
  refine zj_iload_n (j := 1) (i := 1) C rfl 1 rfl (by decide +kernel) ?_
  refine zj_iload_n (j := 2) (i := 2) C rfl 2 rfl (by decide +kernel) ?_
  refine zj_iload_n (j := 3) (i := 3) C rfl 3 rfl (by decide +kernel) ?_
  refine zj_iload (i := 4) C 4 rfl (by decide +kernel) ?_
  refine j_zg (xg_callT C (hRt_l Z) (hRt_x Z) cal_X11_share calv_X11_share mlw_L_18 (b := 0) (ci := 11) (D := 6) ⟨Nat.lt_trans (by decide) hN, by decide +kernel⟩ rfl (As := [.int (i32 x0), .int (i32 x1), .int (i32 x2), .int (i32 x3)]) (rest := [.int (i32 0), .ref (zad Γ 157)]) rfl (by rw [hRt_R Z]; decide) (Nat.le_of_ble_eq_true rfl) (by decide +kernel) (T_X11_share l Γ F hl h_x0 h_x1 h_x2 h_x3 mem hb hc hn) rfl ⟨0, 14, 17, 13⟩ (hRt_t Z) (by decide) (by decide) n_kl (fun q => ?_))
  have C1 := zC_x 0 0 (0 + 1) (0 + 6) C
  refine zg_j ?_
  show zJ (kX X (0 + 1) (0 + 6)) Γ 7 () (some ()) 17 [(0, .ref (zad Γ 0)), (1, .int (i32 x0)), (2, .int (i32 x1)), (3, .int (i32 x2)), (4, .int (i32 x3)), (5, .ref (zad Γ 157))] [.ref q] mem
  refine zj_astore (i := 6) C1 [(6, .ref q), (0, .ref (zad Γ 0)), (1, .int (i32 x0)), (2, .int (i32 x1)), (3, .int (i32 x2)), (4, .int (i32 x3)), (5, .ref (zad Γ 157))] (by decide +kernel) (by decide) rfl ?_
  refine zj_iconst C1 1 (by decide +kernel) ?_
  exact j_zg (hrt_i C1 Z (by decide) ⟨Nat.le_refl _, Nat.le_refl _⟩ (by decide +kernel))
