/-! the law's cases that throw -/
theorem bi_z {P : Prop} [Decidable P] (h : ¬ P) : bi P = 0 := by unfold bi; rw [if_neg h]
theorem casx_5 {X : zM} {Γ : zG} {l : Launch} {b L t cs sl : Nat} {xs : Nat → Int32} (C : zC (kX X cs sl) Γ "ShadowHeirsLaw" code 7) (hl : X.2.1 = l) (hR : kR X = room_1) (F : zFull Γ) (S : sCx X Γ b L xs) (ht : t + 5 < L) (hc : cs ≤ 950 ∧ sl ≤ 10100) (hx : xE Γ X.2.2.2.2.1 X.2.2.2.2.1.heap) (hN : 157 < gN Γ) (hs : l.stackTraces = false) {mx m2 : zMem} {v r : Int} (hv : v = 0 ∨ v = 1) (e : f_X12_house (xs (t + 1)).toInt (xs (t + 2)).toInt mx = some (r, m2)) (h0 : m2 138 0 = v) (h1 : v = 0 → m2 157 0 = r) (kk : zg (kX X cs sl) Γ 7 1438 (lLv Γ b t) [] m2) : zg (kX X cs sl) Γ 7 394 (lLv Γ b t) [.int (i32 v)] mx := by
  have hc2 : cs ≤ 1000 ∧ sl ≤ 20000 := ⟨Nat.le_trans hc.1 (by decide), Nat.le_trans hc.2 (by decide)⟩
  have iv : ir v := by rcases hv with rfl | rfl <;> decide
  refine zg_j ?_
  refine zj_istore (i := 5) C ((5, .int (i32 v)) :: lLv Γ b t) (by decide +kernel) (by decide) rfl ?_
  refine zj_aload_n (j := 2) (i := 2) C rfl 3 rfl (by decide +kernel) ?_
  refine j_zg ?_
  refine sg_arg C S t 1 (lt5 ht 1 (by decide)) 1 5 rfl rfl (by decide +kernel) (by decide +kernel) (by decide +kernel) (by decide +kernel) (by decide +kernel) ?_
  refine sg_arg C S t 2 (lt5 ht 2 (by decide)) 1 5 rfl rfl (by decide +kernel) (by decide +kernel) (by decide +kernel) (by decide +kernel) (by decide +kernel) ?_
  refine yg_callV C hl cal_X12_house calv_X12_house ml_ShadowHeirsLaw_55 (b := 138) (ci := 12) ⟨Nat.lt_of_lt_of_le (by decide) F.1, sK138⟩ rfl (As := [.int (i32 (xs (t + 1)).toInt), .int (i32 (xs (t + 2)).toInt)]) (rest := []) rfl (room_ok hR (by decide) hc2) (Nat.le_of_ble_eq_true rfl) (by decide +kernel) (M_X12_house l Γ F (ir_toInt _) (ir_toInt _) mx (r, m2) e) rfl (fun h_y => ?_)
  have h_y : ir r := h_y
  show zg (kX X cs sl) Γ 7 412 ((5, .int (i32 v)) :: lLv Γ b t) [.int (i32 r)] m2
  refine zg_j ?_
  refine zj_istore (i := 6) C ((6, .int (i32 r)) :: (5, .int (i32 v)) :: lLv Γ b t) (by decide +kernel) (by decide) rfl ?_
  refine zj_aload_n (j := 2) (i := 2) C rfl 4 rfl (by decide +kernel) ?_
  refine j_zg ?_
  refine yg_callV C hl cal_X12_thrown calv_X12_thrown ml_ShadowHeirsLaw_56 (b := 138) (ci := 12) ⟨Nat.lt_of_lt_of_le (by decide) F.1, sK138⟩ rfl (As := []) (rest := []) rfl (room_ok hR (by decide) hc2) (Nat.le_of_ble_eq_true rfl) (by decide +kernel) (M_X12_thrown l Γ F m2 (v, m2) (by unfold f_X12_thrown; rw [h0])) rfl (fun _ => ?_)
  show zg (kX X cs sl) Γ 7 418 ((6, .int (i32 r)) :: (5, .int (i32 v)) :: lLv Γ b t) [.int (i32 v)] m2
  have kg : zg (kX X cs sl) Γ 7 442 ((6, .int (i32 r)) :: (5, .int (i32 v)) :: lLv Γ b t) [] m2 := zg_j (zj_goto (tgt := 1438) (off := 996) C (by decide +kernel) rfl (j_zg (zg_lv (fun x h => List.mem_cons_of_mem _ (List.mem_cons_of_mem _ h)) kk)))
  refine zg_j ?_
  refine zj_iload (i := 5) C 1 rfl (by decide +kernel) ?_
  refine j_zg (zj_icmp_eq (A := some ()) (B := some ()) (off := 5) C 425 iv iv (by decide +kernel) rfl (fun _ => ?_) (fun c => absurd rfl c) (if_pos rfl))
  refine zj_iload (i := 5) C 1 rfl (by decide +kernel) ?_
  by_cases v0 : v = 0
  · refine j_zg (zj_if_ne (A := some ()) (B := some ()) (off := 15) C 442 iv (by decide +kernel) rfl (fun _ => ?_) (fun c => absurd v0 c) (if_pos v0))
    refine zj_aload_n (j := 3) (i := 3) C rfl 5 rfl (by decide +kernel) ?_
    refine zj_iconst C 0 (by decide +kernel) ?_
    refine j_zg (kg_lald C ⟨hN, sK157⟩ (by decide) ix157 (by decide +kernel) (fun h_l => ?_))
    rw [h1 v0]
    refine zg_j ?_
    refine zj_iload (i := 6) C 0 rfl (by decide +kernel) ?_
    refine zj_i2l C h_y (by decide +kernel) ?_
    refine zj_lcmp C (lr_ir h_y) (lr_ir h_y) (by decide +kernel) ?_
    have z0 : zcmp r r = 0 := by simp [zcmp]
    rw [z0]
    exact j_zg (zj_if_eq (A := some ()) (B := some ()) (off := 5) C 442 (by decide) (by decide +kernel) rfl (fun _ => j_zg kg) (fun c => absurd rfl c) (if_pos rfl))
  · exact j_zg (zj_if_ne (A := some ()) (B := some ()) (off := 15) C 442 iv (by decide +kernel) rfl (fun c => absurd c v0) (fun _ => j_zg kg) (if_neg v0))
theorem case_5 {X : zM} {Γ : zG} {l : Launch} {b L t cs sl : Nat} {xs : Nat → Int32} {mem : zMem} (C : zC (kX X cs sl) Γ "ShadowHeirsLaw" code 7) (hl : X.2.1 = l) (hR : kR X = room_1) (F : zFull Γ) (S : sCx X Γ b L xs) (ht : t + 5 < L) (hc : cs ≤ 900 ∧ sl ≤ 10000) (R : Rel mem) (hx : xE Γ X.2.2.2.2.1 X.2.2.2.2.1.heap) (hN : 157 < gN Γ) (hs : l.stackTraces = false) (kk : ∀ m2, Rel m2 → zg (kX X (cs + 1) (sl + 6)) Γ 7 1438 (lLv Γ b t) [] m2) : zg (kX X cs sl) Γ 7 377 (lLv Γ b t) [] mem := by
  have hc2 : cs + 1 ≤ 1000 ∧ sl + 6 ≤ 20000 := by omega
  have C1 := zC_x cs sl (cs + 1) (sl + 6) C
  refine zg_j ?_
  refine zj_aload_n (j := 1) (i := 1) C rfl 1 rfl (by decide +kernel) ?_
  refine j_zg ?_
  refine sg_arg C S t 1 (lt5 ht 1 (by decide)) 0 4 rfl rfl (by decide +kernel) (by decide +kernel) (by decide +kernel) (by decide +kernel) (by decide +kernel) ?_
  refine sg_arg C S t 2 (lt5 ht 2 (by decide)) 0 4 rfl rfl (by decide +kernel) (by decide +kernel) (by decide +kernel) (by decide +kernel) (by decide +kernel) ?_
  refine zg_j ?_
  refine zj_aload_n (j := 3) (i := 3) C rfl 3 rfl (by decide +kernel) ?_
  refine j_zg ?_
  have o := R.1.1
  have vv := R.1.2.2.1
  by_cases hp : tPH (mem 140) (xs (t + 1)).toInt (xs (t + 2)).toInt
  · have E := eH R (xs (t + 1)).toInt (xs (t + 2)).toInt hp
    have R1 := Rel_157 (tH (mem 140) (xs (t + 1)).toInt (xs (t + 2)).toInt) R
    have q1 : (zup mem 157 0 (tH (mem 140) (xs (t + 1)).toInt (xs (t + 2)).toInt)) 140 = mem 140 := zup_off (by decide)
    have E2 := eH R1 (xs (t + 1)).toInt (xs (t + 2)).toInt (by rw [q1]; exact hp)
    rw [q1] at E2
    refine (lg_callH C hl hx hw_house (n := 4) (by decide +kernel) (As := [.ref (zad Γ 0), .int (i32 (xs (t + 1)).toInt), .int (i32 (xs (t + 2)).toInt), .ref (zad Γ 157)]) (rest := []) rfl (room_ok hR (by decide) hc2) (Nat.le_of_ble_eq_true rfl) (by decide +kernel) (L_house_ret l Γ F hN (ir_toInt _) (ir_toInt _) mem E.1) rfl (fun _ => ?_))
    refine casx_5 C1 hl hR F S ht (by omega) hx hN hs (v := 0) (Or.inl rfl) E2.2 ?_ (fun _ => ?_) (kk _ (Rel_m00 R1))
    · unfold m00; rw [zup_same, if_pos rfl]
    · rw [show (m00 (zup mem 157 0 (tH (mem 140) (xs (t + 1)).toInt (xs (t + 2)).toInt))) 157 = (zup mem 157 0 (tH (mem 140) (xs (t + 1)).toInt (xs (t + 2)).toInt)) 157 from m00_off (by decide), zup_same, if_pos rfl]
  · obtain ⟨m2, e1, e2, R2⟩ := (qHouse R (xs (t + 1)).toInt (xs (t + 2)).toInt).2 hp
    have hno : bi (0 ≤ (xs (t + 1)).toInt ∧ (xs (t + 1)).toInt < mem 140 2) = 0 ∨ (xs (t + 2)).toInt < 0 ∨ ¬ (xs (t + 2)).toInt ≤ 5 := by
      by_cases hq : 0 ≤ (xs (t + 1)).toInt ∧ (xs (t + 1)).toInt < mem 140 2
      · refine Or.inr ?_
        unfold tPH at hp
        omega
      · exact Or.inl (bi_z hq)
    refine (lg_callH C hl hx hw_house (n := 4) (by decide +kernel) (As := [.ref (zad Γ 0), .int (i32 (xs (t + 1)).toInt), .int (i32 (xs (t + 2)).toInt), .ref (zad Γ 157)]) (rest := []) rfl (room_ok hR (by decide) hc2) (Nat.le_of_ble_eq_true rfl) (by decide +kernel) (L_house_thr l Γ F hN hs (ir_toInt _) (ir_toInt _) mem (cHasHouse vv o _) hno) rfl (fun _ => ?_))
    exact casx_5 C1 hl hR F S ht (by omega) hx hN hs (v := 1) (Or.inr rfl) e1 e2 (fun c => absurd c (by decide)) (kk _ R2)
theorem casx_6 {X : zM} {Γ : zG} {l : Launch} {b L t cs sl : Nat} {xs : Nat → Int32} (C : zC (kX X cs sl) Γ "ShadowHeirsLaw" code 7) (hl : X.2.1 = l) (hR : kR X = room_1) (F : zFull Γ) (S : sCx X Γ b L xs) (ht : t + 5 < L) (hc : cs ≤ 950 ∧ sl ≤ 10100) (hx : xE Γ X.2.2.2.2.1 X.2.2.2.2.1.heap) (hN : 157 < gN Γ) (hs : l.stackTraces = false) {mx m2 : zMem} {v r : Int} (hv : v = 0 ∨ v = 1) (e : f_X12_person (xs (t + 1)).toInt (xs (t + 2)).toInt mx = some (r, m2)) (h0 : m2 138 0 = v) (h1 : v = 0 → m2 157 0 = r) (kk : zg (kX X cs sl) Γ 7 1438 (lLv Γ b t) [] m2) : zg (kX X cs sl) Γ 7 462 (lLv Γ b t) [.int (i32 v)] mx := by
  have hc2 : cs ≤ 1000 ∧ sl ≤ 20000 := ⟨Nat.le_trans hc.1 (by decide), Nat.le_trans hc.2 (by decide)⟩
  have iv : ir v := by rcases hv with rfl | rfl <;> decide
  refine zg_j ?_
  refine zj_istore (i := 5) C ((5, .int (i32 v)) :: lLv Γ b t) (by decide +kernel) (by decide) rfl ?_
  refine zj_aload_n (j := 2) (i := 2) C rfl 3 rfl (by decide +kernel) ?_
  refine j_zg ?_
  refine sg_arg C S t 1 (lt5 ht 1 (by decide)) 1 5 rfl rfl (by decide +kernel) (by decide +kernel) (by decide +kernel) (by decide +kernel) (by decide +kernel) ?_
  refine sg_arg C S t 2 (lt5 ht 2 (by decide)) 1 5 rfl rfl (by decide +kernel) (by decide +kernel) (by decide +kernel) (by decide +kernel) (by decide +kernel) ?_
  refine yg_callV C hl cal_X12_person calv_X12_person ml_ShadowHeirsLaw_61 (b := 138) (ci := 12) ⟨Nat.lt_of_lt_of_le (by decide) F.1, sK138⟩ rfl (As := [.int (i32 (xs (t + 1)).toInt), .int (i32 (xs (t + 2)).toInt)]) (rest := []) rfl (room_ok hR (by decide) hc2) (Nat.le_of_ble_eq_true rfl) (by decide +kernel) (M_X12_person l Γ F (ir_toInt _) (ir_toInt _) mx (r, m2) e) rfl (fun h_y => ?_)
  have h_y : ir r := h_y
  show zg (kX X cs sl) Γ 7 480 ((5, .int (i32 v)) :: lLv Γ b t) [.int (i32 r)] m2
  refine zg_j ?_
  refine zj_istore (i := 6) C ((6, .int (i32 r)) :: (5, .int (i32 v)) :: lLv Γ b t) (by decide +kernel) (by decide) rfl ?_
  refine zj_aload_n (j := 2) (i := 2) C rfl 4 rfl (by decide +kernel) ?_
  refine j_zg ?_
  refine yg_callV C hl cal_X12_thrown calv_X12_thrown ml_ShadowHeirsLaw_56 (b := 138) (ci := 12) ⟨Nat.lt_of_lt_of_le (by decide) F.1, sK138⟩ rfl (As := []) (rest := []) rfl (room_ok hR (by decide) hc2) (Nat.le_of_ble_eq_true rfl) (by decide +kernel) (M_X12_thrown l Γ F m2 (v, m2) (by unfold f_X12_thrown; rw [h0])) rfl (fun _ => ?_)
  show zg (kX X cs sl) Γ 7 486 ((6, .int (i32 r)) :: (5, .int (i32 v)) :: lLv Γ b t) [.int (i32 v)] m2
  have kg : zg (kX X cs sl) Γ 7 510 ((6, .int (i32 r)) :: (5, .int (i32 v)) :: lLv Γ b t) [] m2 := zg_j (zj_goto (tgt := 1438) (off := 928) C (by decide +kernel) rfl (j_zg (zg_lv (fun x h => List.mem_cons_of_mem _ (List.mem_cons_of_mem _ h)) kk)))
  refine zg_j ?_
  refine zj_iload (i := 5) C 1 rfl (by decide +kernel) ?_
  refine j_zg (zj_icmp_eq (A := some ()) (B := some ()) (off := 5) C 493 iv iv (by decide +kernel) rfl (fun _ => ?_) (fun c => absurd rfl c) (if_pos rfl))
  refine zj_iload (i := 5) C 1 rfl (by decide +kernel) ?_
  by_cases v0 : v = 0
  · refine j_zg (zj_if_ne (A := some ()) (B := some ()) (off := 15) C 510 iv (by decide +kernel) rfl (fun _ => ?_) (fun c => absurd v0 c) (if_pos v0))
    refine zj_aload_n (j := 3) (i := 3) C rfl 5 rfl (by decide +kernel) ?_
    refine zj_iconst C 0 (by decide +kernel) ?_
    refine j_zg (kg_lald C ⟨hN, sK157⟩ (by decide) ix157 (by decide +kernel) (fun h_l => ?_))
    rw [h1 v0]
    refine zg_j ?_
    refine zj_iload (i := 6) C 0 rfl (by decide +kernel) ?_
    refine zj_i2l C h_y (by decide +kernel) ?_
    refine zj_lcmp C (lr_ir h_y) (lr_ir h_y) (by decide +kernel) ?_
    have z0 : zcmp r r = 0 := by simp [zcmp]
    rw [z0]
    exact j_zg (zj_if_eq (A := some ()) (B := some ()) (off := 5) C 510 (by decide) (by decide +kernel) rfl (fun _ => j_zg kg) (fun c => absurd rfl c) (if_pos rfl))
  · exact j_zg (zj_if_ne (A := some ()) (B := some ()) (off := 15) C 510 iv (by decide +kernel) rfl (fun c => absurd c v0) (fun _ => j_zg kg) (if_neg v0))
theorem case_6 {X : zM} {Γ : zG} {l : Launch} {b L t cs sl : Nat} {xs : Nat → Int32} {mem : zMem} (C : zC (kX X cs sl) Γ "ShadowHeirsLaw" code 7) (hl : X.2.1 = l) (hR : kR X = room_1) (F : zFull Γ) (S : sCx X Γ b L xs) (ht : t + 5 < L) (hc : cs ≤ 900 ∧ sl ≤ 10000) (R : Rel mem) (hx : xE Γ X.2.2.2.2.1 X.2.2.2.2.1.heap) (hN : 157 < gN Γ) (hs : l.stackTraces = false) (kk : ∀ m2, Rel m2 → zg (kX X (cs + 1) (sl + 6)) Γ 7 1438 (lLv Γ b t) [] m2) : zg (kX X cs sl) Γ 7 445 (lLv Γ b t) [] mem := by
  have hc2 : cs + 1 ≤ 1000 ∧ sl + 6 ≤ 20000 := by omega
  have C1 := zC_x cs sl (cs + 1) (sl + 6) C
  refine zg_j ?_
  refine zj_aload_n (j := 1) (i := 1) C rfl 1 rfl (by decide +kernel) ?_
  refine j_zg ?_
  refine sg_arg C S t 1 (lt5 ht 1 (by decide)) 0 4 rfl rfl (by decide +kernel) (by decide +kernel) (by decide +kernel) (by decide +kernel) (by decide +kernel) ?_
  refine sg_arg C S t 2 (lt5 ht 2 (by decide)) 0 4 rfl rfl (by decide +kernel) (by decide +kernel) (by decide +kernel) (by decide +kernel) (by decide +kernel) ?_
  refine zg_j ?_
  refine zj_aload_n (j := 3) (i := 3) C rfl 3 rfl (by decide +kernel) ?_
  refine j_zg ?_
  have o := R.1.1
  have vv := R.1.2.2.1
  by_cases hp : tPP (mem 140) (xs (t + 1)).toInt (xs (t + 2)).toInt
  · have E := eP R (xs (t + 1)).toInt (xs (t + 2)).toInt hp
    have R1 := Rel_157 (tP (mem 140) (xs (t + 1)).toInt (xs (t + 2)).toInt) R
    have q1 : (zup mem 157 0 (tP (mem 140) (xs (t + 1)).toInt (xs (t + 2)).toInt)) 140 = mem 140 := zup_off (by decide)
    have E2 := eP R1 (xs (t + 1)).toInt (xs (t + 2)).toInt (by rw [q1]; exact hp)
    rw [q1] at E2
    refine (lg_callH C hl hx hw_person (n := 4) (by decide +kernel) (As := [.ref (zad Γ 0), .int (i32 (xs (t + 1)).toInt), .int (i32 (xs (t + 2)).toInt), .ref (zad Γ 157)]) (rest := []) rfl (room_ok hR (by decide) hc2) (Nat.le_of_ble_eq_true rfl) (by decide +kernel) (L_person_ret l Γ F hN (ir_toInt _) (ir_toInt _) mem E.1) rfl (fun _ => ?_))
    refine casx_6 C1 hl hR F S ht (by omega) hx hN hs (v := 0) (Or.inl rfl) E2.2 ?_ (fun _ => ?_) (kk _ (Rel_m00 R1))
    · unfold m00; rw [zup_same, if_pos rfl]
    · rw [show (m00 (zup mem 157 0 (tP (mem 140) (xs (t + 1)).toInt (xs (t + 2)).toInt))) 157 = (zup mem 157 0 (tP (mem 140) (xs (t + 1)).toInt (xs (t + 2)).toInt)) 157 from m00_off (by decide), zup_same, if_pos rfl]
  · obtain ⟨m2, e1, e2, R2⟩ := (qPerson R (xs (t + 1)).toInt (xs (t + 2)).toInt).2 hp
    have hno : bi (0 ≤ (xs (t + 1)).toInt ∧ (xs (t + 1)).toInt < mem 140 3) = 0 ∨ (xs (t + 2)).toInt < 0 ∨ ¬ (xs (t + 2)).toInt ≤ 4 := by
      by_cases hq : 0 ≤ (xs (t + 1)).toInt ∧ (xs (t + 1)).toInt < mem 140 3
      · refine Or.inr ?_
        unfold tPP at hp
        omega
      · exact Or.inl (bi_z hq)
    refine (lg_callH C hl hx hw_person (n := 4) (by decide +kernel) (As := [.ref (zad Γ 0), .int (i32 (xs (t + 1)).toInt), .int (i32 (xs (t + 2)).toInt), .ref (zad Γ 157)]) (rest := []) rfl (room_ok hR (by decide) hc2) (Nat.le_of_ble_eq_true rfl) (by decide +kernel) (L_person_thr l Γ F hN hs (ir_toInt _) (ir_toInt _) mem (cHasPerson vv o _) hno) rfl (fun _ => ?_))
    exact casx_6 C1 hl hR F S ht (by omega) hx hN hs (v := 1) (Or.inr rfl) e1 e2 (fun c => absurd c (by decide)) (kk _ R2)
theorem casx_16 {X : zM} {Γ : zG} {l : Launch} {b L t cs sl : Nat} {xs : Nat → Int32} (C : zC (kX X cs sl) Γ "ShadowHeirsLaw" code 7) (hl : X.2.1 = l) (hR : kR X = room_1) (F : zFull Γ) (S : sCx X Γ b L xs) (ht : t + 5 < L) (hc : cs ≤ 950 ∧ sl ≤ 10100) (hx : xE Γ X.2.2.2.2.1 X.2.2.2.2.1.heap) (hN : 157 < gN Γ) (hs : l.stackTraces = false) {mx m2 : zMem} {v r : Int} (hv : v = 0 ∨ v = 1) (e : f_X12_share (xs (t + 1)).toInt (xs (t + 2)).toInt (xs (t + 3)).toInt (xs (t + 4)).toInt mx = some (r, m2)) (h0 : m2 138 0 = v) (h1 : v = 0 → m2 157 0 = r) (kk : zg (kX X cs sl) Γ 7 1438 (lLv Γ b t) [] m2) : zg (kX X cs sl) Γ 7 815 (lLv Γ b t) [.int (i32 v)] mx := by
  have hc2 : cs ≤ 1000 ∧ sl ≤ 20000 := ⟨Nat.le_trans hc.1 (by decide), Nat.le_trans hc.2 (by decide)⟩
  have iv : ir v := by rcases hv with rfl | rfl <;> decide
  refine zg_j ?_
  refine zj_istore (i := 5) C ((5, .int (i32 v)) :: lLv Γ b t) (by decide +kernel) (by decide) rfl ?_
  refine zj_aload_n (j := 2) (i := 2) C rfl 3 rfl (by decide +kernel) ?_
  refine j_zg ?_
  refine sg_arg C S t 1 (lt5 ht 1 (by decide)) 1 5 rfl rfl (by decide +kernel) (by decide +kernel) (by decide +kernel) (by decide +kernel) (by decide +kernel) ?_
  refine sg_arg C S t 2 (lt5 ht 2 (by decide)) 1 5 rfl rfl (by decide +kernel) (by decide +kernel) (by decide +kernel) (by decide +kernel) (by decide +kernel) ?_
  refine sg_arg C S t 3 (lt5 ht 3 (by decide)) 1 5 rfl rfl (by decide +kernel) (by decide +kernel) (by decide +kernel) (by decide +kernel) (by decide +kernel) ?_
  refine sg_arg C S t 4 (lt5 ht 4 (by decide)) 1 5 rfl rfl (by decide +kernel) (by decide +kernel) (by decide +kernel) (by decide +kernel) (by decide +kernel) ?_
  refine yg_callV C hl cal_X12_share calv_X12_share ml_ShadowHeirsLaw_102 (b := 138) (ci := 12) ⟨Nat.lt_of_lt_of_le (by decide) F.1, sK138⟩ rfl (As := [.int (i32 (xs (t + 1)).toInt), .int (i32 (xs (t + 2)).toInt), .int (i32 (xs (t + 3)).toInt), .int (i32 (xs (t + 4)).toInt)]) (rest := []) rfl (room_ok hR (by decide) hc2) (Nat.le_of_ble_eq_true rfl) (by decide +kernel) (M_X12_share l Γ F (ir_toInt _) (ir_toInt _) (ir_toInt _) (ir_toInt _) mx (r, m2) e) rfl (fun h_y => ?_)
  have h_y : ir r := h_y
  show zg (kX X cs sl) Γ 7 845 ((5, .int (i32 v)) :: lLv Γ b t) [.int (i32 r)] m2
  refine zg_j ?_
  refine zj_istore (i := 6) C ((6, .int (i32 r)) :: (5, .int (i32 v)) :: lLv Γ b t) (by decide +kernel) (by decide) rfl ?_
  refine zj_aload_n (j := 2) (i := 2) C rfl 4 rfl (by decide +kernel) ?_
  refine j_zg ?_
  refine yg_callV C hl cal_X12_thrown calv_X12_thrown ml_ShadowHeirsLaw_56 (b := 138) (ci := 12) ⟨Nat.lt_of_lt_of_le (by decide) F.1, sK138⟩ rfl (As := []) (rest := []) rfl (room_ok hR (by decide) hc2) (Nat.le_of_ble_eq_true rfl) (by decide +kernel) (M_X12_thrown l Γ F m2 (v, m2) (by unfold f_X12_thrown; rw [h0])) rfl (fun _ => ?_)
  show zg (kX X cs sl) Γ 7 851 ((6, .int (i32 r)) :: (5, .int (i32 v)) :: lLv Γ b t) [.int (i32 v)] m2
  have kg : zg (kX X cs sl) Γ 7 875 ((6, .int (i32 r)) :: (5, .int (i32 v)) :: lLv Γ b t) [] m2 := zg_j (zj_goto (tgt := 1438) (off := 563) C (by decide +kernel) rfl (j_zg (zg_lv (fun x h => List.mem_cons_of_mem _ (List.mem_cons_of_mem _ h)) kk)))
  refine zg_j ?_
  refine zj_iload (i := 5) C 1 rfl (by decide +kernel) ?_
  refine j_zg (zj_icmp_eq (A := some ()) (B := some ()) (off := 5) C 858 iv iv (by decide +kernel) rfl (fun _ => ?_) (fun c => absurd rfl c) (if_pos rfl))
  refine zj_iload (i := 5) C 1 rfl (by decide +kernel) ?_
  by_cases v0 : v = 0
  · refine j_zg (zj_if_ne (A := some ()) (B := some ()) (off := 15) C 875 iv (by decide +kernel) rfl (fun _ => ?_) (fun c => absurd v0 c) (if_pos v0))
    refine zj_aload_n (j := 3) (i := 3) C rfl 5 rfl (by decide +kernel) ?_
    refine zj_iconst C 0 (by decide +kernel) ?_
    refine j_zg (kg_lald C ⟨hN, sK157⟩ (by decide) ix157 (by decide +kernel) (fun h_l => ?_))
    rw [h1 v0]
    refine zg_j ?_
    refine zj_iload (i := 6) C 0 rfl (by decide +kernel) ?_
    refine zj_i2l C h_y (by decide +kernel) ?_
    refine zj_lcmp C (lr_ir h_y) (lr_ir h_y) (by decide +kernel) ?_
    have z0 : zcmp r r = 0 := by simp [zcmp]
    rw [z0]
    exact j_zg (zj_if_eq (A := some ()) (B := some ()) (off := 5) C 875 (by decide) (by decide +kernel) rfl (fun _ => j_zg kg) (fun c => absurd rfl c) (if_pos rfl))
  · exact j_zg (zj_if_ne (A := some ()) (B := some ()) (off := 15) C 875 iv (by decide +kernel) rfl (fun c => absurd c v0) (fun _ => j_zg kg) (if_neg v0))
theorem case_16 {X : zM} {Γ : zG} {l : Launch} {b L t cs sl : Nat} {xs : Nat → Int32} {mem : zMem} (C : zC (kX X cs sl) Γ "ShadowHeirsLaw" code 7) (hl : X.2.1 = l) (hR : kR X = room_1) (F : zFull Γ) (S : sCx X Γ b L xs) (ht : t + 5 < L) (hc : cs ≤ 900 ∧ sl ≤ 10000) (R : Rel mem) (hx : xE Γ X.2.2.2.2.1 X.2.2.2.2.1.heap) (hN : 157 < gN Γ) (hs : l.stackTraces = false) (kk : ∀ m2, Rel m2 → zg (kX X (cs + 1) (sl + 6)) Γ 7 1438 (lLv Γ b t) [] m2) : zg (kX X cs sl) Γ 7 786 (lLv Γ b t) [] mem := by
  have hc2 : cs + 1 ≤ 1000 ∧ sl + 6 ≤ 20000 := by omega
  have C1 := zC_x cs sl (cs + 1) (sl + 6) C
  refine zg_j ?_
  refine zj_aload_n (j := 1) (i := 1) C rfl 1 rfl (by decide +kernel) ?_
  refine j_zg ?_
  refine sg_arg C S t 1 (lt5 ht 1 (by decide)) 0 4 rfl rfl (by decide +kernel) (by decide +kernel) (by decide +kernel) (by decide +kernel) (by decide +kernel) ?_
  refine sg_arg C S t 2 (lt5 ht 2 (by decide)) 0 4 rfl rfl (by decide +kernel) (by decide +kernel) (by decide +kernel) (by decide +kernel) (by decide +kernel) ?_
  refine sg_arg C S t 3 (lt5 ht 3 (by decide)) 0 4 rfl rfl (by decide +kernel) (by decide +kernel) (by decide +kernel) (by decide +kernel) (by decide +kernel) ?_
  refine sg_arg C S t 4 (lt5 ht 4 (by decide)) 0 4 rfl rfl (by decide +kernel) (by decide +kernel) (by decide +kernel) (by decide +kernel) (by decide +kernel) ?_
  refine zg_j ?_
  refine zj_aload_n (j := 3) (i := 3) C rfl 3 rfl (by decide +kernel) ?_
  refine j_zg ?_
  have o := R.1.1
  have vv := R.1.2.2.1
  by_cases hp : tPS (mem 140) (xs (t + 1)).toInt (xs (t + 2)).toInt (xs (t + 3)).toInt (xs (t + 4)).toInt
  · have E := eS R (xs (t + 1)).toInt (xs (t + 2)).toInt (xs (t + 3)).toInt (xs (t + 4)).toInt hp
    have R1 := Rel_157 (tS (mem 140) (xs (t + 1)).toInt (xs (t + 2)).toInt (xs (t + 3)).toInt (xs (t + 4)).toInt) R
    have q1 : (zup mem 157 0 (tS (mem 140) (xs (t + 1)).toInt (xs (t + 2)).toInt (xs (t + 3)).toInt (xs (t + 4)).toInt)) 140 = mem 140 := zup_off (by decide)
    have E2 := eS R1 (xs (t + 1)).toInt (xs (t + 2)).toInt (xs (t + 3)).toInt (xs (t + 4)).toInt (by rw [q1]; exact hp)
    rw [q1] at E2
    refine (lg_callH C hl hx hw_share (n := 6) (by decide +kernel) (As := [.ref (zad Γ 0), .int (i32 (xs (t + 1)).toInt), .int (i32 (xs (t + 2)).toInt), .int (i32 (xs (t + 3)).toInt), .int (i32 (xs (t + 4)).toInt), .ref (zad Γ 157)]) (rest := []) rfl (room_ok hR (by decide) hc2) (Nat.le_of_ble_eq_true rfl) (by decide +kernel) (L_share_ret l Γ F hN (ir_toInt _) (ir_toInt _) (ir_toInt _) (ir_toInt _) mem E.1) rfl (fun _ => ?_))
    refine casx_16 C1 hl hR F S ht (by omega) hx hN hs (v := 0) (Or.inl rfl) E2.2 ?_ (fun _ => ?_) (kk _ (Rel_m00 R1))
    · unfold m00; rw [zup_same, if_pos rfl]
    · rw [show (m00 (zup mem 157 0 (tS (mem 140) (xs (t + 1)).toInt (xs (t + 2)).toInt (xs (t + 3)).toInt (xs (t + 4)).toInt))) 157 = (zup mem 157 0 (tS (mem 140) (xs (t + 1)).toInt (xs (t + 2)).toInt (xs (t + 3)).toInt (xs (t + 4)).toInt)) 157 from m00_off (by decide), zup_same, if_pos rfl]
  · obtain ⟨m2, e1, e2, R2⟩ := (qShare R (xs (t + 1)).toInt (xs (t + 2)).toInt (xs (t + 3)).toInt (xs (t + 4)).toInt).2 hp
    have hno : bi (0 ≤ (xs (t + 1)).toInt ∧ (xs (t + 1)).toInt < mem 140 3) = 0 ∨ bi ((0 ≤ (xs (t + 2)).toInt ∧ (xs (t + 2)).toInt < mem 140 2) ∧ 0 ≤ (xs (t + 3)).toInt ∧ (xs (t + 3)).toInt < mem 140 4) = 0 ∨ (xs (t + 4)).toInt < 0 ∨ ¬ (xs (t + 4)).toInt ≤ 1 := by
      by_cases hq : 0 ≤ (xs (t + 1)).toInt ∧ (xs (t + 1)).toInt < mem 140 3
      · refine Or.inr ?_
        by_cases hr : (0 ≤ (xs (t + 2)).toInt ∧ (xs (t + 2)).toInt < mem 140 2) ∧ 0 ≤ (xs (t + 3)).toInt ∧ (xs (t + 3)).toInt < mem 140 4
        · refine Or.inr ?_
          unfold tPS at hp
          omega
        · exact Or.inl (bi_z hr)
      · exact Or.inl (bi_z hq)
    refine (lg_callH C hl hx hw_share (n := 6) (by decide +kernel) (As := [.ref (zad Γ 0), .int (i32 (xs (t + 1)).toInt), .int (i32 (xs (t + 2)).toInt), .int (i32 (xs (t + 3)).toInt), .int (i32 (xs (t + 4)).toInt), .ref (zad Γ 157)]) (rest := []) rfl (room_ok hR (by decide) hc2) (Nat.le_of_ble_eq_true rfl) (by decide +kernel) (L_share_thr l Γ F hN hs (ir_toInt _) (ir_toInt _) (ir_toInt _) (ir_toInt _) mem (cHasPerson vv o _) (cHasShadow vv o _ _) hno) rfl (fun _ => ?_))
    exact casx_16 C1 hl hR F S ht (by omega) hx hN hs (v := 1) (Or.inr rfl) e1 e2 (fun c => absurd c (by decide)) (kk _ R2)
