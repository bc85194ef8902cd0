def HS_writeWord (l : Launch) (Γ : zG) (d : Nat) (self : Int → zMem → Option (Int × zMem)) : Prop := (∀ (x0 : Int) (h_x0 : lr x0) (mem : zMem) (q : Int × zMem), self x0 mem = some q → zMet l yX12_writeWord cX12_writeWord 3 none (1 + d) Γ 0 [.ref (zad Γ 138), .long (i64 x0)] mem q)
noncomputable def fb_X12_writeWord (self : Int → zMem → Option (Int × zMem)) (x0 : Int) (mem : zMem) : Option (Int × zMem) := if (zcmp x0 27) < 0 then (zbind (f_X12_write (w32 (96 + (w32 (zremL x0 27)))) mem) fun _ m2 => some (0, m2)) else (zbind (self (zdivL x0 27) mem) fun _ m3 => zbind (f_X12_write (w32 (96 + (w32 (zremL x0 27)))) m3) fun _ m4 => some (0, m4))
set_option maxHeartbeats 4000000 in
theorem Mb_X12_writeWord (l : Launch) (Γ : zG) (F : zFull Γ) {d : Nat} {self : Int → zMem → Option (Int × zMem)}  (hs : HS_writeWord l Γ d self) {x0 : Int} (h_x0 : lr x0) (mem : zMem) (q : Int × zMem) (h : fb_X12_writeWord self x0 mem = some q) : zMet l yX12_writeWord cX12_writeWord 3 none (1 + (d + 1)) Γ 0 [.ref (zad Γ 138), .long (i64 x0)] mem q := by
  refine zMet_of (own := "ShadowHeirsModel") (by decide) rfl (Nat.le_of_ble_eq_true rfl) (fun X C Z => ?_)
  revert h
  show zJ X Γ 3 q (fb_X12_writeWord self x0 mem) 0 [(0, .ref (zad Γ 138)), (1, .long (i64 x0))] [] mem
  unfold fb_X12_writeWord
  refine zj_lload_n (j := 1) (i := 1) C rfl 1 rfl dX12_writeWord_0 ?_
  refine zj_ldc2 C 27 kc_X12_54 dX12_writeWord_1 ?_
  refine zj_lcmp C h_x0 lrc_27 dX12_writeWord_4 ?_
  refine zj_if_lt C 17 (ir_cmp _ _) dX12_writeWord_5 rfl (fun c1 => ?_) (fun c1 => ?_)
  · refine zj_aload_n (j := 0) (i := 0) C rfl 0 rfl dX12_writeWord_17 ?_
    refine zj_bipush C 96 rfl dX12_writeWord_18 ?_
    refine zj_lload_n (j := 1) (i := 1) C rfl 1 rfl dX12_writeWord_20 ?_
    refine zj_ldc2 C 27 kc_X12_54 dX12_writeWord_21 ?_
    refine zj_lremc C (by decide) dX12_writeWord_24 ?_
    refine zj_l2i C (lr_toInt _) dX12_writeWord_25 ?_
    refine zj_iadd C dX12_writeWord_26 ?_
    refine zj_callVv C F Z [.int (i32 (w32 (96 + (w32 (zremL x0 27)))))] [] cal_X12_write calv_X12_write ml_X12_353 zk_138 rfl rfl (by omega) (Nat.le_of_ble_eq_true rfl) rfl dX12_writeWord_27 (fun q h => M_X12_write l Γ F (ir_w _) mem q h) (fun _ m2 _ => ?_)
    exact zrt_v C Z dX12_writeWord_30
  · refine zj_aload_n (j := 0) (i := 0) C rfl 0 rfl dX12_writeWord_8 ?_
    refine zj_lload_n (j := 1) (i := 1) C rfl 1 rfl dX12_writeWord_9 ?_
    refine zj_ldc2 C 27 kc_X12_54 dX12_writeWord_10 ?_
    refine zj_ldivc C (by decide) dX12_writeWord_13 ?_
    refine zj_callVv C F Z [.long (i64 (zdivL x0 27))] [] cal_X12_writeWord calv_X12_writeWord ml_X12_349 zk_138 rfl rfl (by omega) (Nat.le_of_ble_eq_true rfl) rfl dX12_writeWord_14 (fun q h => hs (zdivL x0 27) (lr_toInt _) mem q h) (fun _ m3 _ => ?_)
    refine zj_aload_n (j := 0) (i := 0) C rfl 0 rfl dX12_writeWord_17 ?_
    refine zj_bipush C 96 rfl dX12_writeWord_18 ?_
    refine zj_lload_n (j := 1) (i := 1) C rfl 1 rfl dX12_writeWord_20 ?_
    refine zj_ldc2 C 27 kc_X12_54 dX12_writeWord_21 ?_
    refine zj_lremc C (by decide) dX12_writeWord_24 ?_
    refine zj_l2i C (lr_toInt _) dX12_writeWord_25 ?_
    refine zj_iadd C dX12_writeWord_26 ?_
    refine zj_callVv C F Z [.int (i32 (w32 (96 + (w32 (zremL x0 27)))))] [] cal_X12_write calv_X12_write ml_X12_353 zk_138 rfl rfl (by omega) (Nat.le_of_ble_eq_true rfl) rfl dX12_writeWord_27 (fun q h => M_X12_write l Γ F (ir_w _) m3 q h) (fun _ m4 _ => ?_)
    exact zrt_v C Z dX12_writeWord_30
noncomputable def bg_writeWord : (Int → zMem → Option (Int × zMem)) → Int → zMem → Option (Int × zMem) := fb_X12_writeWord
noncomputable def fg_writeWord : Nat → Int → zMem → Option (Int × zMem) := zfuel (fun _ _ => none) bg_writeWord
theorem Mg_writeWord (l : Launch) (Γ : zG) (F : zFull Γ) : ∀ d : Nat, HS_writeWord l Γ d (fg_writeWord d) := by
  intro d
  induction d with
  | zero => exact (by intro x0 h_x0 mem q h; cases h)
  | succ d ih => exact (fun x0 h_x0 mem q h => Mb_X12_writeWord l Γ F ih h_x0 mem q h)
noncomputable def f_X12_writeWord (x0 : Int) (mem : zMem) : Option (Int × zMem) := fg_writeWord 20 x0 mem
theorem M_X12_writeWord (l : Launch) (Γ : zG) (F : zFull Γ) {x0 : Int} (h_x0 : lr x0) (mem : zMem) (q : Int × zMem) (h : f_X12_writeWord x0 mem = some q) : zMet l yX12_writeWord cX12_writeWord 3 none 21 Γ 0 [.ref (zad Γ 138), .long (i64 x0)] mem q := (Mg_writeWord l Γ F 20) x0 h_x0 mem q h
def HS_writeNumber (l : Launch) (Γ : zG) (d : Nat) (self : Int → zMem → Option (Int × zMem)) : Prop := (∀ (x0 : Int) (h_x0 : ir x0) (mem : zMem) (q : Int × zMem), self x0 mem = some q → zMet l yX12_writeNumber cX12_writeNumber 2 none (1 + d) Γ 0 [.ref (zad Γ 138), .int (i32 x0)] mem q)
noncomputable def fb_X12_writeNumber (self : Int → zMem → Option (Int × zMem)) (x0 : Int) (mem : zMem) : Option (Int × zMem) := if x0 ≤ 9 then (zbind (f_X12_write (w32 (48 + (zrem x0 10))) mem) fun _ m2 => some (0, m2)) else (zbind (self (zdiv x0 10) mem) fun _ m3 => zbind (f_X12_write (w32 (48 + (zrem x0 10))) m3) fun _ m4 => some (0, m4))
set_option maxHeartbeats 4000000 in
theorem Mb_X12_writeNumber (l : Launch) (Γ : zG) (F : zFull Γ) {d : Nat} {self : Int → zMem → Option (Int × zMem)}  (hs : HS_writeNumber l Γ d self) {x0 : Int} (h_x0 : ir x0) (mem : zMem) (q : Int × zMem) (h : fb_X12_writeNumber self x0 mem = some q) : zMet l yX12_writeNumber cX12_writeNumber 2 none (1 + (d + 1)) Γ 0 [.ref (zad Γ 138), .int (i32 x0)] mem q := by
  refine zMet_of (own := "ShadowHeirsModel") (by decide) rfl (Nat.le_of_ble_eq_true rfl) (fun X C Z => ?_)
  revert h
  show zJ X Γ 2 q (fb_X12_writeNumber self x0 mem) 0 [(0, .ref (zad Γ 138)), (1, .int (i32 x0))] [] mem
  unfold fb_X12_writeNumber
  refine zj_iload_n (j := 1) (i := 1) C rfl 1 rfl dX12_writeNumber_0 ?_
  refine zj_bipush C 9 rfl dX12_writeNumber_1 ?_
  refine zj_icmp_le C 14 h_x0 irc_9 dX12_writeNumber_3 rfl (fun c1 => ?_) (fun c1 => ?_)
  · refine zj_aload_n (j := 0) (i := 0) C rfl 0 rfl dX12_writeNumber_14 ?_
    refine zj_bipush C 48 rfl dX12_writeNumber_15 ?_
    refine zj_iload_n (j := 1) (i := 1) C rfl 1 rfl dX12_writeNumber_17 ?_
    refine zj_bipush C 10 rfl dX12_writeNumber_18 ?_
    refine zj_iremc C (by decide) dX12_writeNumber_20 ?_
    refine zj_iadd C dX12_writeNumber_21 ?_
    refine zj_callVv C F Z [.int (i32 (w32 (48 + (zrem x0 10))))] [] cal_X12_write calv_X12_write ml_X12_353 zk_138 rfl rfl (by omega) (Nat.le_of_ble_eq_true rfl) rfl dX12_writeNumber_22 (fun q h => M_X12_write l Γ F (ir_w _) mem q h) (fun _ m2 _ => ?_)
    exact zrt_v C Z dX12_writeNumber_25
  · refine zj_aload_n (j := 0) (i := 0) C rfl 0 rfl dX12_writeNumber_6 ?_
    refine zj_iload_n (j := 1) (i := 1) C rfl 1 rfl dX12_writeNumber_7 ?_
    refine zj_bipush C 10 rfl dX12_writeNumber_8 ?_
    refine zj_idivc C (by decide) dX12_writeNumber_10 ?_
    refine zj_callVv C F Z [.int (i32 (zdiv x0 10))] [] cal_X12_writeNumber calv_X12_writeNumber ml_X12_356 zk_138 rfl rfl (by omega) (Nat.le_of_ble_eq_true rfl) rfl dX12_writeNumber_11 (fun q h => hs (zdiv x0 10) (ir_toInt _) mem q h) (fun _ m3 _ => ?_)
    refine zj_aload_n (j := 0) (i := 0) C rfl 0 rfl dX12_writeNumber_14 ?_
    refine zj_bipush C 48 rfl dX12_writeNumber_15 ?_
    refine zj_iload_n (j := 1) (i := 1) C rfl 1 rfl dX12_writeNumber_17 ?_
    refine zj_bipush C 10 rfl dX12_writeNumber_18 ?_
    refine zj_iremc C (by decide) dX12_writeNumber_20 ?_
    refine zj_iadd C dX12_writeNumber_21 ?_
    refine zj_callVv C F Z [.int (i32 (w32 (48 + (zrem x0 10))))] [] cal_X12_write calv_X12_write ml_X12_353 zk_138 rfl rfl (by omega) (Nat.le_of_ble_eq_true rfl) rfl dX12_writeNumber_22 (fun q h => M_X12_write l Γ F (ir_w _) m3 q h) (fun _ m4 _ => ?_)
    exact zrt_v C Z dX12_writeNumber_25
noncomputable def bg_writeNumber : (Int → zMem → Option (Int × zMem)) → Int → zMem → Option (Int × zMem) := fb_X12_writeNumber
noncomputable def fg_writeNumber : Nat → Int → zMem → Option (Int × zMem) := zfuel (fun _ _ => none) bg_writeNumber
theorem Mg_writeNumber (l : Launch) (Γ : zG) (F : zFull Γ) : ∀ d : Nat, HS_writeNumber l Γ d (fg_writeNumber d) := by
  intro d
  induction d with
  | zero => exact (by intro x0 h_x0 mem q h; cases h)
  | succ d ih => exact (fun x0 h_x0 mem q h => Mb_X12_writeNumber l Γ F ih h_x0 mem q h)
noncomputable def f_X12_writeNumber (x0 : Int) (mem : zMem) : Option (Int × zMem) := fg_writeNumber 20 x0 mem
theorem M_X12_writeNumber (l : Launch) (Γ : zG) (F : zFull Γ) {x0 : Int} (h_x0 : ir x0) (mem : zMem) (q : Int × zMem) (h : f_X12_writeNumber x0 mem = some q) : zMet l yX12_writeNumber cX12_writeNumber 2 none 21 Γ 0 [.ref (zad Γ 138), .int (i32 x0)] mem q := (Mg_writeNumber l Γ F 20) x0 h_x0 mem q h
def HS_holds (l : Launch) (Γ : zG) (d : Nat) (self : Int → Int → zMem → Option (Int × zMem)) : Prop := (∀ (x0 : Int) (x1 : Int) (h_x0 : ir x0) (h_x1 : ir x1) (mem : zMem) (q : Int × zMem), self x0 x1 mem = some q → zMet l yX12_holds cX12_holds 8 (some .boolean) (5 + d) Γ 1 [.ref (zad Γ 138), .int (i32 x0), .int (i32 x1)] mem q)
noncomputable def fb_X12_holds (self : Int → Int → zMem → Option (Int × zMem)) (x0 : Int) (x1 : Int) (mem : zMem) : Option (Int × zMem) := pipe (w32 (194 + (w32 (4 * x0)))) fun y1 => if ix 140 (w32 (y1 + 1)) then pipe (mem 140 (w32 (y1 + 1))) fun y4 => if ix 140 (w32 (y1 + 2)) then pipe (mem 140 (w32 (y1 + 2))) fun y7 => if ix 140 y1 then if (mem 140 y1) = 1 then (zbind (self y4 x1 mem) fun y11 m12 => if y11 = 0 then (some (1, m12)) else (some (0, m12))) else (if (mem 140 y1) = 2 then (zbind (self y4 x1 mem) fun y15 m16 => if y15 = 0 then (some (0, m16)) else (zbind (self y7 x1 m16) fun y18 m19 => if y18 = 0 then (some (0, m19)) else (some (1, m19)))) else (if (mem 140 y1) = 3 then (zbind (self y4 x1 mem) fun y22 m23 => if y22 = 0 then (zbind (self y7 x1 m23) fun y25 m26 => if y25 = 0 then (some (0, m26)) else (some (1, m26))) else (some (1, m23))) else (if (mem 140 y1) = 66 then (if ix 140 (w32 (116 + x1)) then zbind (f_X12_shadowsOn (mem 140 (w32 (116 + x1))) mem) fun y31 m32 => if ix 140 107 then if (zand y31 (zxor (m32 140 107) (-1))) = 0 then (some (0, m32)) else (some (1, m32)) else none else none) else (if (mem 140 y1) = 67 then (if ix 140 (w32 (122 + x1)) then if (mem 140 (w32 (122 + x1))) = 0 then (some (1, mem)) else (some (0, mem)) else none) else (if (mem 140 y1) = 68 then (if ix 140 (w32 (122 + x1)) then if (mem 140 (w32 (122 + x1))) ≤ 0 then (some (0, mem)) else (some (1, mem)) else none) else (if (mem 140 y1) = 69 then (if ix 140 (w32 (116 + x1)) then zbind (f_X12_shadowsOn (mem 140 (w32 (116 + x1))) mem) fun y47 m48 => zbind (f_X12_has y47 y4 m48) fun y49 m50 => if y49 = 0 ∨ y49 = 1 then some (y49, m50) else none else none) else (if ix 140 y1 then pipe (w32 ((mem 140 y1) - 50)) fun y53 => if y53 = 20 then (if ix 140 (w32 (122 + x1)) then pipe (mem 140 (w32 (122 + x1))) fun y57 => if ix 140 (w32 (y1 + 3)) then if (mem 140 (w32 (y1 + 3))) = 60 then (if y57 ≥ y7 then (some (0, mem)) else (some (1, mem))) else (if ix 140 (w32 (y1 + 3)) then if (mem 140 (w32 (y1 + 3))) = 61 then (if y57 = y7 then (some (1, mem)) else (some (0, mem))) else (if y57 ≤ y7 then (some (0, mem)) else (some (1, mem))) else none) else none else none) else (if y53 = 21 then (if ix 140 (w32 (116 + x1)) then pipe (zrem (mem 140 (w32 (116 + x1))) 8) fun y70 => if ix 140 (w32 (y1 + 3)) then if (mem 140 (w32 (y1 + 3))) = 60 then (if y70 ≥ y7 then (some (0, mem)) else (some (1, mem))) else (if ix 140 (w32 (y1 + 3)) then if (mem 140 (w32 (y1 + 3))) = 61 then (if y70 = y7 then (some (1, mem)) else (some (0, mem))) else (if y70 ≤ y7 then (some (0, mem)) else (some (1, mem))) else none) else none else none) else (if y53 = 22 then (if ix 140 (w32 (116 + x1)) then pipe (zdiv (mem 140 (w32 (116 + x1))) 8) fun y83 => if ix 140 (w32 (y1 + 3)) then if (mem 140 (w32 (y1 + 3))) = 60 then (if y83 ≥ y7 then (some (0, mem)) else (some (1, mem))) else (if ix 140 (w32 (y1 + 3)) then if (mem 140 (w32 (y1 + 3))) = 61 then (if y83 = y7 then (some (1, mem)) else (some (0, mem))) else (if y83 ≤ y7 then (some (0, mem)) else (some (1, mem))) else none) else none else none) else (if ix 140 (w32 (y1 + 3)) then if (mem 140 (w32 (y1 + 3))) = 60 then (if x1 ≥ y7 then (some (0, mem)) else (some (1, mem))) else (if ix 140 (w32 (y1 + 3)) then if (mem 140 (w32 (y1 + 3))) = 61 then (if x1 = y7 then (some (1, mem)) else (some (0, mem))) else (if x1 ≤ y7 then (some (0, mem)) else (some (1, mem))) else none) else none))) else none))))))) else none else none else none
set_option maxHeartbeats 4000000 in
theorem Mb_X12_holds (l : Launch) (Γ : zG) (F : zFull Γ) {d : Nat} {self : Int → Int → zMem → Option (Int × zMem)}  (hs : HS_holds l Γ d self) {x0 : Int} {x1 : Int} (h_x0 : ir x0) (h_x1 : ir x1) (mem : zMem) (q : Int × zMem) (h : fb_X12_holds self x0 x1 mem = some q) : zMet l yX12_holds cX12_holds 8 (some .boolean) (5 + (d + 1)) Γ 1 [.ref (zad Γ 138), .int (i32 x0), .int (i32 x1)] mem q := by
  refine zMet_of (own := "ShadowHeirsModel") (by decide) rfl (Nat.le_of_ble_eq_true rfl) (fun X C Z => ?_)
  revert h
  show zJ X Γ 8 q (fb_X12_holds self x0 x1 mem) 0 [(0, .ref (zad Γ 138)), (1, .int (i32 x0)), (2, .int (i32 x1))] [] mem
  unfold fb_X12_holds
  refine zj_sipush C 194 rfl dX12_holds_0 ?_
  refine zj_iconst C 4 dX12_holds_3 ?_
  refine zj_iload_n (j := 1) (i := 1) C rfl 1 rfl dX12_holds_4 ?_
  refine zj_imul C dX12_holds_5 ?_
  refine zj_iadd C dX12_holds_6 ?_
  refine zj_pipeI (fun y1 e_y1 => ?_)
  have h_y1 := ir_eq e_y1 (ir_w _)
  refine zj_istore_n (j := 3) (i := 3) C rfl [(3, .int (i32 y1)), (0, .ref (zad Γ 138)), (1, .int (i32 x0)), (2, .int (i32 x1))] dX12_holds_7 (by decide) rfl ?_
  refine zj_aload_n (j := 0) (i := 0) C rfl 1 rfl dX12_holds_8 ?_
  refine zj_getR C F zk_138 fl_X12_98 rfl rf_138_14 dX12_holds_9 ?_
  refine zj_iload_n (j := 3) (i := 3) C rfl 0 rfl dX12_holds_12 ?_
  refine zj_iconst C 1 dX12_holds_13 ?_
  refine zj_iadd C dX12_holds_14 ?_
  refine zj_iaload C F zk_140 (ir_w _) dX12_holds_15 (fun c2 h3 => ?_)
  refine zj_pipeI (fun y4 e_y4 => ?_)
  have h_y4 := ir_eq e_y4 h3
  refine zj_istore C [(4, .int (i32 y4)), (3, .int (i32 y1)), (0, .ref (zad Γ 138)), (1, .int (i32 x0)), (2, .int (i32 x1))] dX12_holds_16 (by decide) rfl ?_
  refine zj_aload_n (j := 0) (i := 0) C rfl 2 rfl dX12_holds_18 ?_
  refine zj_getR C F zk_138 fl_X12_98 rfl rf_138_14 dX12_holds_19 ?_
  refine zj_iload_n (j := 3) (i := 3) C rfl 1 rfl dX12_holds_22 ?_
  refine zj_iconst C 2 dX12_holds_23 ?_
  refine zj_iadd C dX12_holds_24 ?_
  refine zj_iaload C F zk_140 (ir_w _) dX12_holds_25 (fun c5 h6 => ?_)
  refine zj_pipeI (fun y7 e_y7 => ?_)
  have h_y7 := ir_eq e_y7 h6
  refine zj_istore C [(5, .int (i32 y7)), (4, .int (i32 y4)), (3, .int (i32 y1)), (0, .ref (zad Γ 138)), (1, .int (i32 x0)), (2, .int (i32 x1))] dX12_holds_26 (by decide) rfl ?_
  refine zj_aload_n (j := 0) (i := 0) C rfl 3 rfl dX12_holds_28 ?_
  refine zj_getR C F zk_138 fl_X12_98 rfl rf_138_14 dX12_holds_29 ?_
  refine zj_iload_n (j := 3) (i := 3) C rfl 2 rfl dX12_holds_32 ?_
  refine zj_iaload C F zk_140 h_y1 dX12_holds_33 (fun c8 h9 => ?_)
  refine zj_split (fun c10 => ?_) (fun c10 => ?_)
  · refine zj_lookup (off := 66) C 100 h9 dX12_holds_34 rfl (by rw [c10]; rfl) rfl ?_
    refine zj_aload_n (j := 0) (i := 0) C rfl 3 rfl dX12_holds_100 ?_
    refine zj_iload C 1 rfl dX12_holds_101 ?_
    refine zj_iload_n (j := 2) (i := 2) C rfl 5 rfl dX12_holds_103 ?_
    refine zj_callVi C F Z [.int (i32 y4), .int (i32 x1)] [] cal_X12_holds calv_X12_holds ml_X12_452 zk_138 rfl rfl (by omega) (Nat.le_of_ble_eq_true rfl) rfl dX12_holds_104 (fun q h => hs y4 x1 h_y4 h_x1 mem q h) (fun y11 m12 h_y11 => ?_)
    refine zj_if_ne C 114 h_y11 dX12_holds_107 rfl (fun c13 => ?_) (fun c13 => ?_)
    · refine zj_iconst C 1 dX12_holds_110 ?_
      refine zj_goto (tgt := 115) C dX12_holds_111 rfl ?_
      exact zrt_z C Z (Or.inr rfl) dX12_holds_115
    · refine zj_iconst C 0 dX12_holds_114 ?_
      exact zrt_z C Z (Or.inl rfl) dX12_holds_115
  · refine zj_split (fun c14 => ?_) (fun c14 => ?_)
    · refine zj_lookup (off := 82) C 116 h9 dX12_holds_34 rfl (by rw [c14]; rfl) rfl ?_
      refine zj_aload_n (j := 0) (i := 0) C rfl 3 rfl dX12_holds_116 ?_
      refine zj_iload C 1 rfl dX12_holds_117 ?_
      refine zj_iload_n (j := 2) (i := 2) C rfl 5 rfl dX12_holds_119 ?_
      refine zj_callVi C F Z [.int (i32 y4), .int (i32 x1)] [] cal_X12_holds calv_X12_holds ml_X12_452 zk_138 rfl rfl (by omega) (Nat.le_of_ble_eq_true rfl) rfl dX12_holds_120 (fun q h => hs y4 x1 h_y4 h_x1 mem q h) (fun y15 m16 h_y15 => ?_)
      refine zj_if_eq C 140 h_y15 dX12_holds_123 rfl (fun c17 => ?_) (fun c17 => ?_)
      · refine zj_iconst C 0 dX12_holds_140 ?_
        exact zrt_z C Z (Or.inl rfl) dX12_holds_141
      · refine zj_aload_n (j := 0) (i := 0) C rfl 3 rfl dX12_holds_126 ?_
        refine zj_iload C 0 rfl dX12_holds_127 ?_
        refine zj_iload_n (j := 2) (i := 2) C rfl 5 rfl dX12_holds_129 ?_
        refine zj_callVi C F Z [.int (i32 y7), .int (i32 x1)] [] cal_X12_holds calv_X12_holds ml_X12_452 zk_138 rfl rfl (by omega) (Nat.le_of_ble_eq_true rfl) rfl dX12_holds_130 (fun q h => hs y7 x1 h_y7 h_x1 m16 q h) (fun y18 m19 h_y18 => ?_)
        refine zj_if_eq C 140 h_y18 dX12_holds_133 rfl (fun c20 => ?_) (fun c20 => ?_)
        · refine zj_iconst C 0 dX12_holds_140 ?_
          exact zrt_z C Z (Or.inl rfl) dX12_holds_141
        · refine zj_iconst C 1 dX12_holds_136 ?_
          refine zj_goto (tgt := 141) C dX12_holds_137 rfl ?_
          exact zrt_z C Z (Or.inr rfl) dX12_holds_141
    · refine zj_split (fun c21 => ?_) (fun c21 => ?_)
      · refine zj_lookup (off := 108) C 142 h9 dX12_holds_34 rfl (by rw [c21]; rfl) rfl ?_
        refine zj_aload_n (j := 0) (i := 0) C rfl 3 rfl dX12_holds_142 ?_
        refine zj_iload C 1 rfl dX12_holds_143 ?_
        refine zj_iload_n (j := 2) (i := 2) C rfl 5 rfl dX12_holds_145 ?_
        refine zj_callVi C F Z [.int (i32 y4), .int (i32 x1)] [] cal_X12_holds calv_X12_holds ml_X12_452 zk_138 rfl rfl (by omega) (Nat.le_of_ble_eq_true rfl) rfl dX12_holds_146 (fun q h => hs y4 x1 h_y4 h_x1 mem q h) (fun y22 m23 h_y22 => ?_)
        refine zj_if_ne C 162 h_y22 dX12_holds_149 rfl (fun c24 => ?_) (fun c24 => ?_)
        · refine zj_aload_n (j := 0) (i := 0) C rfl 3 rfl dX12_holds_152 ?_
          refine zj_iload C 0 rfl dX12_holds_153 ?_
          refine zj_iload_n (j := 2) (i := 2) C rfl 5 rfl dX12_holds_155 ?_
          refine zj_callVi C F Z [.int (i32 y7), .int (i32 x1)] [] cal_X12_holds calv_X12_holds ml_X12_452 zk_138 rfl rfl (by omega) (Nat.le_of_ble_eq_true rfl) rfl dX12_holds_156 (fun q h => hs y7 x1 h_y7 h_x1 m23 q h) (fun y25 m26 h_y25 => ?_)
          refine zj_if_eq C 166 h_y25 dX12_holds_159 rfl (fun c27 => ?_) (fun c27 => ?_)
          · refine zj_iconst C 0 dX12_holds_166 ?_
            exact zrt_z C Z (Or.inl rfl) dX12_holds_167
          · refine zj_iconst C 1 dX12_holds_162 ?_
            refine zj_goto (tgt := 167) C dX12_holds_163 rfl ?_
            exact zrt_z C Z (Or.inr rfl) dX12_holds_167
        · refine zj_iconst C 1 dX12_holds_162 ?_
          refine zj_goto (tgt := 167) C dX12_holds_163 rfl ?_
          exact zrt_z C Z (Or.inr rfl) dX12_holds_167
      · refine zj_split (fun c28 => ?_) (fun c28 => ?_)
        · refine zj_lookup (off := 134) C 168 h9 dX12_holds_34 rfl (by rw [c28]; rfl) rfl ?_
          refine zj_aload_n (j := 0) (i := 0) C rfl 3 rfl dX12_holds_168 ?_
          refine zj_aload_n (j := 0) (i := 0) C rfl 3 rfl dX12_holds_169 ?_
          refine zj_getR C F zk_138 fl_X12_98 rfl rf_138_14 dX12_holds_170 ?_
          refine zj_bipush C 116 rfl dX12_holds_173 ?_
          refine zj_iload_n (j := 2) (i := 2) C rfl 5 rfl dX12_holds_175 ?_
          refine zj_iadd C dX12_holds_176 ?_
          refine zj_iaload C F zk_140 (ir_w _) dX12_holds_177 (fun c29 h30 => ?_)
          refine zj_callVi C F Z [.int (i32 (mem 140 (w32 (116 + x1))))] [] cal_X12_shadowsOn calv_X12_shadowsOn ml_X12_265 zk_138 rfl rfl (by omega) (Nat.le_of_ble_eq_true rfl) rfl dX12_holds_178 (fun q h => M_X12_shadowsOn l Γ F h30 mem q h) (fun y31 m32 h_y31 => ?_)
          refine zj_aload_n (j := 0) (i := 0) C rfl 3 rfl dX12_holds_181 ?_
          refine zj_getR C F zk_138 fl_X12_98 rfl rf_138_14 dX12_holds_182 ?_
          refine zj_bipush C 107 rfl dX12_holds_185 ?_
          refine zj_iaload C F zk_140 irc_107 dX12_holds_187 (fun c33 h34 => ?_)
          refine zj_iconst C (-1) dX12_holds_188 ?_
          refine zj_ixor C dX12_holds_189 ?_
          refine zj_iand C dX12_holds_190 ?_
          refine zj_if_eq C 198 (ir_toInt _) dX12_holds_191 rfl (fun c35 => ?_) (fun c35 => ?_)
          · refine zj_iconst C 0 dX12_holds_198 ?_
            exact zrt_z C Z (Or.inl rfl) dX12_holds_199
          · refine zj_iconst C 1 dX12_holds_194 ?_
            refine zj_goto (tgt := 199) C dX12_holds_195 rfl ?_
            exact zrt_z C Z (Or.inr rfl) dX12_holds_199
        · refine zj_split (fun c36 => ?_) (fun c36 => ?_)
          · refine zj_lookup (off := 166) C 200 h9 dX12_holds_34 rfl (by rw [c36]; rfl) rfl ?_
            refine zj_aload_n (j := 0) (i := 0) C rfl 3 rfl dX12_holds_200 ?_
            refine zj_getR C F zk_138 fl_X12_98 rfl rf_138_14 dX12_holds_201 ?_
            refine zj_bipush C 122 rfl dX12_holds_204 ?_
            refine zj_iload_n (j := 2) (i := 2) C rfl 5 rfl dX12_holds_206 ?_
            refine zj_iadd C dX12_holds_207 ?_
            refine zj_iaload C F zk_140 (ir_w _) dX12_holds_208 (fun c37 h38 => ?_)
            refine zj_if_ne C 216 h38 dX12_holds_209 rfl (fun c39 => ?_) (fun c39 => ?_)
            · refine zj_iconst C 1 dX12_holds_212 ?_
              refine zj_goto (tgt := 217) C dX12_holds_213 rfl ?_
              exact zrt_z C Z (Or.inr rfl) dX12_holds_217
            · refine zj_iconst C 0 dX12_holds_216 ?_
              exact zrt_z C Z (Or.inl rfl) dX12_holds_217
          · refine zj_split (fun c40 => ?_) (fun c40 => ?_)
            · refine zj_lookup (off := 184) C 218 h9 dX12_holds_34 rfl (by rw [c40]; rfl) rfl ?_
              refine zj_aload_n (j := 0) (i := 0) C rfl 3 rfl dX12_holds_218 ?_
              refine zj_getR C F zk_138 fl_X12_98 rfl rf_138_14 dX12_holds_219 ?_
              refine zj_bipush C 122 rfl dX12_holds_222 ?_
              refine zj_iload_n (j := 2) (i := 2) C rfl 5 rfl dX12_holds_224 ?_
              refine zj_iadd C dX12_holds_225 ?_
              refine zj_iaload C F zk_140 (ir_w _) dX12_holds_226 (fun c41 h42 => ?_)
              refine zj_if_le C 234 h42 dX12_holds_227 rfl (fun c43 => ?_) (fun c43 => ?_)
              · refine zj_iconst C 0 dX12_holds_234 ?_
                exact zrt_z C Z (Or.inl rfl) dX12_holds_235
              · refine zj_iconst C 1 dX12_holds_230 ?_
                refine zj_goto (tgt := 235) C dX12_holds_231 rfl ?_
                exact zrt_z C Z (Or.inr rfl) dX12_holds_235
            · refine zj_split (fun c44 => ?_) (fun c44 => ?_)
              · refine zj_lookup (off := 202) C 236 h9 dX12_holds_34 rfl (by rw [c44]; rfl) rfl ?_
                refine zj_aload_n (j := 0) (i := 0) C rfl 3 rfl dX12_holds_236 ?_
                refine zj_aload_n (j := 0) (i := 0) C rfl 3 rfl dX12_holds_237 ?_
                refine zj_getR C F zk_138 fl_X12_98 rfl rf_138_14 dX12_holds_238 ?_
                refine zj_bipush C 116 rfl dX12_holds_241 ?_
                refine zj_iload_n (j := 2) (i := 2) C rfl 5 rfl dX12_holds_243 ?_
                refine zj_iadd C dX12_holds_244 ?_
                refine zj_iaload C F zk_140 (ir_w _) dX12_holds_245 (fun c45 h46 => ?_)
                refine zj_callVi C F Z [.int (i32 (mem 140 (w32 (116 + x1))))] [] cal_X12_shadowsOn calv_X12_shadowsOn ml_X12_265 zk_138 rfl rfl (by omega) (Nat.le_of_ble_eq_true rfl) rfl dX12_holds_246 (fun q h => M_X12_shadowsOn l Γ F h46 mem q h) (fun y47 m48 h_y47 => ?_)
                refine zj_iload C 1 rfl dX12_holds_249 ?_
                refine zj_callSi C Z [.int (i32 y47), .int (i32 y4)] [] cal_X12_has sta_X12_has ml_X12_235 rfl (by omega) (Nat.le_of_ble_eq_true rfl) rfl dX12_holds_251 (fun q h => M_X12_has l Γ F h_y47 h_y4 m48 q h) (fun y49 m50 h_y49 => ?_)
                exact zrt_zc C Z dX12_holds_254
              · refine zj_lookup (off := 221) C 255 h9 dX12_holds_34 rfl (by show Op.lookupswitch.offset [(1, 66), (2, 82), (3, 108), (66, 134), (67, 166), (68, 184), (69, 202)] 221 _ = _; rw [Op.lookupswitch.offset_cons, if_neg (fun z => c10 z.symm), Op.lookupswitch.offset_cons, if_neg (fun z => c14 z.symm), Op.lookupswitch.offset_cons, if_neg (fun z => c21 z.symm), Op.lookupswitch.offset_cons, if_neg (fun z => c28 z.symm), Op.lookupswitch.offset_cons, if_neg (fun z => c36 z.symm), Op.lookupswitch.offset_cons, if_neg (fun z => c40 z.symm), Op.lookupswitch.offset_cons, if_neg (fun z => c44 z.symm)]; rfl) rfl ?_
                refine zj_aload_n (j := 0) (i := 0) C rfl 3 rfl dX12_holds_255 ?_
                refine zj_getR C F zk_138 fl_X12_98 rfl rf_138_14 dX12_holds_256 ?_
                refine zj_iload_n (j := 3) (i := 3) C rfl 2 rfl dX12_holds_259 ?_
                refine zj_iaload C F zk_140 h_y1 dX12_holds_260 (fun c51 h52 => ?_)
                refine zj_bipush C 50 rfl dX12_holds_261 ?_
                refine zj_isub C dX12_holds_263 ?_
                refine zj_pipeI (fun y53 e_y53 => ?_)
                have h_y53 := ir_eq e_y53 (ir_w _)
                refine zj_istore C [(6, .int (i32 y53)), (5, .int (i32 y7)), (4, .int (i32 y4)), (3, .int (i32 y1)), (0, .ref (zad Γ 138)), (1, .int (i32 x0)), (2, .int (i32 x1))] dX12_holds_264 (by decide) rfl ?_
                refine zj_iload C 0 rfl dX12_holds_266 ?_
                refine zj_bipush C 20 rfl dX12_holds_268 ?_
                refine zj_icmp_ne C 285 h_y53 irc_20 dX12_holds_270 rfl (fun c54 => ?_) (fun c54 => ?_)
                · refine zj_aload_n (j := 0) (i := 0) C rfl 4 rfl dX12_holds_273 ?_
                  refine zj_getR C F zk_138 fl_X12_98 rfl rf_138_14 dX12_holds_274 ?_
                  refine zj_bipush C 122 rfl dX12_holds_277 ?_
                  refine zj_iload_n (j := 2) (i := 2) C rfl 6 rfl dX12_holds_279 ?_
                  refine zj_iadd C dX12_holds_280 ?_
                  refine zj_iaload C F zk_140 (ir_w _) dX12_holds_281 (fun c55 h56 => ?_)
                  refine zj_goto (tgt := 330) C dX12_holds_282 rfl ?_
                  refine zj_pipeI (fun y57 e_y57 => ?_)
                  have h_y57 := ir_eq e_y57 h56
                  refine zj_istore C [(7, .int (i32 y57)), (6, .int (i32 y53)), (5, .int (i32 y7)), (4, .int (i32 y4)), (3, .int (i32 y1)), (0, .ref (zad Γ 138)), (1, .int (i32 x0)), (2, .int (i32 x1))] dX12_holds_330 (by decide) rfl ?_
                  refine zj_aload_n (j := 0) (i := 0) C rfl 5 rfl dX12_holds_332 ?_
                  refine zj_getR C F zk_138 fl_X12_98 rfl rf_138_14 dX12_holds_333 ?_
                  refine zj_iload_n (j := 3) (i := 3) C rfl 4 rfl dX12_holds_336 ?_
                  refine zj_iconst C 3 dX12_holds_337 ?_
                  refine zj_iadd C dX12_holds_338 ?_
                  refine zj_iaload C F zk_140 (ir_w _) dX12_holds_339 (fun c58 h59 => ?_)
                  refine zj_bipush C 60 rfl dX12_holds_340 ?_
                  refine zj_icmp_ne C 360 h59 irc_60 dX12_holds_342 rfl (fun c60 => ?_) (fun c60 => ?_)
                  · refine zj_iload C 0 rfl dX12_holds_345 ?_
                    refine zj_iload C 2 rfl dX12_holds_347 ?_
                    refine zj_icmp_ge C 356 h_y57 h_y7 dX12_holds_349 rfl (fun c61 => ?_) (fun c61 => ?_)
                    · refine zj_iconst C 0 dX12_holds_356 ?_
                      refine zj_goto (tgt := 400) C dX12_holds_357 rfl ?_
                      exact zrt_z C Z (Or.inl rfl) dX12_holds_400
                    · refine zj_iconst C 1 dX12_holds_352 ?_
                      refine zj_goto (tgt := 400) C dX12_holds_353 rfl ?_
                      exact zrt_z C Z (Or.inr rfl) dX12_holds_400
                  · refine zj_aload_n (j := 0) (i := 0) C rfl 5 rfl dX12_holds_360 ?_
                    refine zj_getR C F zk_138 fl_X12_98 rfl rf_138_14 dX12_holds_361 ?_
                    refine zj_iload_n (j := 3) (i := 3) C rfl 4 rfl dX12_holds_364 ?_
                    refine zj_iconst C 3 dX12_holds_365 ?_
                    refine zj_iadd C dX12_holds_366 ?_
                    refine zj_iaload C F zk_140 (ir_w _) dX12_holds_367 (fun c62 h63 => ?_)
                    refine zj_bipush C 61 rfl dX12_holds_368 ?_
                    refine zj_icmp_ne C 388 h63 irc_61 dX12_holds_370 rfl (fun c64 => ?_) (fun c64 => ?_)
                    · refine zj_iload C 0 rfl dX12_holds_373 ?_
                      refine zj_iload C 2 rfl dX12_holds_375 ?_
                      refine zj_icmp_ne C 384 h_y57 h_y7 dX12_holds_377 rfl (fun c65 => ?_) (fun c65 => ?_)
                      · refine zj_iconst C 1 dX12_holds_380 ?_
                        refine zj_goto (tgt := 400) C dX12_holds_381 rfl ?_
                        exact zrt_z C Z (Or.inr rfl) dX12_holds_400
                      · refine zj_iconst C 0 dX12_holds_384 ?_
                        refine zj_goto (tgt := 400) C dX12_holds_385 rfl ?_
                        exact zrt_z C Z (Or.inl rfl) dX12_holds_400
                    · refine zj_iload C 0 rfl dX12_holds_388 ?_
                      refine zj_iload C 2 rfl dX12_holds_390 ?_
                      refine zj_icmp_le C 399 h_y57 h_y7 dX12_holds_392 rfl (fun c66 => ?_) (fun c66 => ?_)
                      · refine zj_iconst C 0 dX12_holds_399 ?_
                        exact zrt_z C Z (Or.inl rfl) dX12_holds_400
                      · refine zj_iconst C 1 dX12_holds_395 ?_
                        refine zj_goto (tgt := 400) C dX12_holds_396 rfl ?_
                        exact zrt_z C Z (Or.inr rfl) dX12_holds_400
                · refine zj_iload C 0 rfl dX12_holds_285 ?_
                  refine zj_bipush C 21 rfl dX12_holds_287 ?_
                  refine zj_icmp_ne C 307 h_y53 irc_21 dX12_holds_289 rfl (fun c67 => ?_) (fun c67 => ?_)
                  · refine zj_aload_n (j := 0) (i := 0) C rfl 4 rfl dX12_holds_292 ?_
                    refine zj_getR C F zk_138 fl_X12_98 rfl rf_138_14 dX12_holds_293 ?_
                    refine zj_bipush C 116 rfl dX12_holds_296 ?_
                    refine zj_iload_n (j := 2) (i := 2) C rfl 6 rfl dX12_holds_298 ?_
                    refine zj_iadd C dX12_holds_299 ?_
                    refine zj_iaload C F zk_140 (ir_w _) dX12_holds_300 (fun c68 h69 => ?_)
                    refine zj_bipush C 8 rfl dX12_holds_301 ?_
                    refine zj_iremc C (by decide) dX12_holds_303 ?_
                    refine zj_goto (tgt := 330) C dX12_holds_304 rfl ?_
                    refine zj_pipeI (fun y70 e_y70 => ?_)
                    have h_y70 := ir_eq e_y70 (ir_toInt _)
                    refine zj_istore C [(7, .int (i32 y70)), (6, .int (i32 y53)), (5, .int (i32 y7)), (4, .int (i32 y4)), (3, .int (i32 y1)), (0, .ref (zad Γ 138)), (1, .int (i32 x0)), (2, .int (i32 x1))] dX12_holds_330 (by decide) rfl ?_
                    refine zj_aload_n (j := 0) (i := 0) C rfl 5 rfl dX12_holds_332 ?_
                    refine zj_getR C F zk_138 fl_X12_98 rfl rf_138_14 dX12_holds_333 ?_
                    refine zj_iload_n (j := 3) (i := 3) C rfl 4 rfl dX12_holds_336 ?_
                    refine zj_iconst C 3 dX12_holds_337 ?_
                    refine zj_iadd C dX12_holds_338 ?_
                    refine zj_iaload C F zk_140 (ir_w _) dX12_holds_339 (fun c71 h72 => ?_)
                    refine zj_bipush C 60 rfl dX12_holds_340 ?_
                    refine zj_icmp_ne C 360 h72 irc_60 dX12_holds_342 rfl (fun c73 => ?_) (fun c73 => ?_)
                    · refine zj_iload C 0 rfl dX12_holds_345 ?_
                      refine zj_iload C 2 rfl dX12_holds_347 ?_
                      refine zj_icmp_ge C 356 h_y70 h_y7 dX12_holds_349 rfl (fun c74 => ?_) (fun c74 => ?_)
                      · refine zj_iconst C 0 dX12_holds_356 ?_
                        refine zj_goto (tgt := 400) C dX12_holds_357 rfl ?_
                        exact zrt_z C Z (Or.inl rfl) dX12_holds_400
                      · refine zj_iconst C 1 dX12_holds_352 ?_
                        refine zj_goto (tgt := 400) C dX12_holds_353 rfl ?_
                        exact zrt_z C Z (Or.inr rfl) dX12_holds_400
                    · refine zj_aload_n (j := 0) (i := 0) C rfl 5 rfl dX12_holds_360 ?_
                      refine zj_getR C F zk_138 fl_X12_98 rfl rf_138_14 dX12_holds_361 ?_
                      refine zj_iload_n (j := 3) (i := 3) C rfl 4 rfl dX12_holds_364 ?_
                      refine zj_iconst C 3 dX12_holds_365 ?_
                      refine zj_iadd C dX12_holds_366 ?_
                      refine zj_iaload C F zk_140 (ir_w _) dX12_holds_367 (fun c75 h76 => ?_)
                      refine zj_bipush C 61 rfl dX12_holds_368 ?_
                      refine zj_icmp_ne C 388 h76 irc_61 dX12_holds_370 rfl (fun c77 => ?_) (fun c77 => ?_)
                      · refine zj_iload C 0 rfl dX12_holds_373 ?_
                        refine zj_iload C 2 rfl dX12_holds_375 ?_
                        refine zj_icmp_ne C 384 h_y70 h_y7 dX12_holds_377 rfl (fun c78 => ?_) (fun c78 => ?_)
                        · refine zj_iconst C 1 dX12_holds_380 ?_
                          refine zj_goto (tgt := 400) C dX12_holds_381 rfl ?_
                          exact zrt_z C Z (Or.inr rfl) dX12_holds_400
                        · refine zj_iconst C 0 dX12_holds_384 ?_
                          refine zj_goto (tgt := 400) C dX12_holds_385 rfl ?_
                          exact zrt_z C Z (Or.inl rfl) dX12_holds_400
                      · refine zj_iload C 0 rfl dX12_holds_388 ?_
                        refine zj_iload C 2 rfl dX12_holds_390 ?_
                        refine zj_icmp_le C 399 h_y70 h_y7 dX12_holds_392 rfl (fun c79 => ?_) (fun c79 => ?_)
                        · refine zj_iconst C 0 dX12_holds_399 ?_
                          exact zrt_z C Z (Or.inl rfl) dX12_holds_400
                        · refine zj_iconst C 1 dX12_holds_395 ?_
                          refine zj_goto (tgt := 400) C dX12_holds_396 rfl ?_
                          exact zrt_z C Z (Or.inr rfl) dX12_holds_400
                  · refine zj_iload C 0 rfl dX12_holds_307 ?_
                    refine zj_bipush C 22 rfl dX12_holds_309 ?_
                    refine zj_icmp_ne C 329 h_y53 irc_22 dX12_holds_311 rfl (fun c80 => ?_) (fun c80 => ?_)
                    · refine zj_aload_n (j := 0) (i := 0) C rfl 4 rfl dX12_holds_314 ?_
                      refine zj_getR C F zk_138 fl_X12_98 rfl rf_138_14 dX12_holds_315 ?_
                      refine zj_bipush C 116 rfl dX12_holds_318 ?_
                      refine zj_iload_n (j := 2) (i := 2) C rfl 6 rfl dX12_holds_320 ?_
                      refine zj_iadd C dX12_holds_321 ?_
                      refine zj_iaload C F zk_140 (ir_w _) dX12_holds_322 (fun c81 h82 => ?_)
                      refine zj_bipush C 8 rfl dX12_holds_323 ?_
                      refine zj_idivc C (by decide) dX12_holds_325 ?_
                      refine zj_goto (tgt := 330) C dX12_holds_326 rfl ?_
                      refine zj_pipeI (fun y83 e_y83 => ?_)
                      have h_y83 := ir_eq e_y83 (ir_toInt _)
                      refine zj_istore C [(7, .int (i32 y83)), (6, .int (i32 y53)), (5, .int (i32 y7)), (4, .int (i32 y4)), (3, .int (i32 y1)), (0, .ref (zad Γ 138)), (1, .int (i32 x0)), (2, .int (i32 x1))] dX12_holds_330 (by decide) rfl ?_
                      refine zj_aload_n (j := 0) (i := 0) C rfl 5 rfl dX12_holds_332 ?_
                      refine zj_getR C F zk_138 fl_X12_98 rfl rf_138_14 dX12_holds_333 ?_
                      refine zj_iload_n (j := 3) (i := 3) C rfl 4 rfl dX12_holds_336 ?_
                      refine zj_iconst C 3 dX12_holds_337 ?_
                      refine zj_iadd C dX12_holds_338 ?_
                      refine zj_iaload C F zk_140 (ir_w _) dX12_holds_339 (fun c84 h85 => ?_)
                      refine zj_bipush C 60 rfl dX12_holds_340 ?_
                      refine zj_icmp_ne C 360 h85 irc_60 dX12_holds_342 rfl (fun c86 => ?_) (fun c86 => ?_)
                      · refine zj_iload C 0 rfl dX12_holds_345 ?_
                        refine zj_iload C 2 rfl dX12_holds_347 ?_
                        refine zj_icmp_ge C 356 h_y83 h_y7 dX12_holds_349 rfl (fun c87 => ?_) (fun c87 => ?_)
                        · refine zj_iconst C 0 dX12_holds_356 ?_
                          refine zj_goto (tgt := 400) C dX12_holds_357 rfl ?_
                          exact zrt_z C Z (Or.inl rfl) dX12_holds_400
                        · refine zj_iconst C 1 dX12_holds_352 ?_
                          refine zj_goto (tgt := 400) C dX12_holds_353 rfl ?_
                          exact zrt_z C Z (Or.inr rfl) dX12_holds_400
                      · refine zj_aload_n (j := 0) (i := 0) C rfl 5 rfl dX12_holds_360 ?_
                        refine zj_getR C F zk_138 fl_X12_98 rfl rf_138_14 dX12_holds_361 ?_
                        refine zj_iload_n (j := 3) (i := 3) C rfl 4 rfl dX12_holds_364 ?_
                        refine zj_iconst C 3 dX12_holds_365 ?_
                        refine zj_iadd C dX12_holds_366 ?_
                        refine zj_iaload C F zk_140 (ir_w _) dX12_holds_367 (fun c88 h89 => ?_)
                        refine zj_bipush C 61 rfl dX12_holds_368 ?_
                        refine zj_icmp_ne C 388 h89 irc_61 dX12_holds_370 rfl (fun c90 => ?_) (fun c90 => ?_)
                        · refine zj_iload C 0 rfl dX12_holds_373 ?_
                          refine zj_iload C 2 rfl dX12_holds_375 ?_
                          refine zj_icmp_ne C 384 h_y83 h_y7 dX12_holds_377 rfl (fun c91 => ?_) (fun c91 => ?_)
                          · refine zj_iconst C 1 dX12_holds_380 ?_
                            refine zj_goto (tgt := 400) C dX12_holds_381 rfl ?_
                            exact zrt_z C Z (Or.inr rfl) dX12_holds_400
                          · refine zj_iconst C 0 dX12_holds_384 ?_
                            refine zj_goto (tgt := 400) C dX12_holds_385 rfl ?_
                            exact zrt_z C Z (Or.inl rfl) dX12_holds_400
                        · refine zj_iload C 0 rfl dX12_holds_388 ?_
                          refine zj_iload C 2 rfl dX12_holds_390 ?_
                          refine zj_icmp_le C 399 h_y83 h_y7 dX12_holds_392 rfl (fun c92 => ?_) (fun c92 => ?_)
                          · refine zj_iconst C 0 dX12_holds_399 ?_
                            exact zrt_z C Z (Or.inl rfl) dX12_holds_400
                          · refine zj_iconst C 1 dX12_holds_395 ?_
                            refine zj_goto (tgt := 400) C dX12_holds_396 rfl ?_
                            exact zrt_z C Z (Or.inr rfl) dX12_holds_400
                    · refine zj_iload_n (j := 2) (i := 2) C rfl 6 rfl dX12_holds_329 ?_
                      refine zj_istore C [(7, .int (i32 x1)), (6, .int (i32 y53)), (5, .int (i32 y7)), (4, .int (i32 y4)), (3, .int (i32 y1)), (0, .ref (zad Γ 138)), (1, .int (i32 x0)), (2, .int (i32 x1))] dX12_holds_330 (by decide) rfl ?_
                      refine zj_aload_n (j := 0) (i := 0) C rfl 5 rfl dX12_holds_332 ?_
                      refine zj_getR C F zk_138 fl_X12_98 rfl rf_138_14 dX12_holds_333 ?_
                      refine zj_iload_n (j := 3) (i := 3) C rfl 4 rfl dX12_holds_336 ?_
                      refine zj_iconst C 3 dX12_holds_337 ?_
                      refine zj_iadd C dX12_holds_338 ?_
                      refine zj_iaload C F zk_140 (ir_w _) dX12_holds_339 (fun c93 h94 => ?_)
                      refine zj_bipush C 60 rfl dX12_holds_340 ?_
                      refine zj_icmp_ne C 360 h94 irc_60 dX12_holds_342 rfl (fun c95 => ?_) (fun c95 => ?_)
                      · refine zj_iload C 0 rfl dX12_holds_345 ?_
                        refine zj_iload C 2 rfl dX12_holds_347 ?_
                        refine zj_icmp_ge C 356 h_x1 h_y7 dX12_holds_349 rfl (fun c96 => ?_) (fun c96 => ?_)
                        · refine zj_iconst C 0 dX12_holds_356 ?_
                          refine zj_goto (tgt := 400) C dX12_holds_357 rfl ?_
                          exact zrt_z C Z (Or.inl rfl) dX12_holds_400
                        · refine zj_iconst C 1 dX12_holds_352 ?_
                          refine zj_goto (tgt := 400) C dX12_holds_353 rfl ?_
                          exact zrt_z C Z (Or.inr rfl) dX12_holds_400
                      · refine zj_aload_n (j := 0) (i := 0) C rfl 5 rfl dX12_holds_360 ?_
                        refine zj_getR C F zk_138 fl_X12_98 rfl rf_138_14 dX12_holds_361 ?_
                        refine zj_iload_n (j := 3) (i := 3) C rfl 4 rfl dX12_holds_364 ?_
                        refine zj_iconst C 3 dX12_holds_365 ?_
                        refine zj_iadd C dX12_holds_366 ?_
                        refine zj_iaload C F zk_140 (ir_w _) dX12_holds_367 (fun c97 h98 => ?_)
                        refine zj_bipush C 61 rfl dX12_holds_368 ?_
                        refine zj_icmp_ne C 388 h98 irc_61 dX12_holds_370 rfl (fun c99 => ?_) (fun c99 => ?_)
                        · refine zj_iload C 0 rfl dX12_holds_373 ?_
                          refine zj_iload C 2 rfl dX12_holds_375 ?_
                          refine zj_icmp_ne C 384 h_x1 h_y7 dX12_holds_377 rfl (fun c100 => ?_) (fun c100 => ?_)
                          · refine zj_iconst C 1 dX12_holds_380 ?_
                            refine zj_goto (tgt := 400) C dX12_holds_381 rfl ?_
                            exact zrt_z C Z (Or.inr rfl) dX12_holds_400
                          · refine zj_iconst C 0 dX12_holds_384 ?_
                            refine zj_goto (tgt := 400) C dX12_holds_385 rfl ?_
                            exact zrt_z C Z (Or.inl rfl) dX12_holds_400
                        · refine zj_iload C 0 rfl dX12_holds_388 ?_
                          refine zj_iload C 2 rfl dX12_holds_390 ?_
                          refine zj_icmp_le C 399 h_x1 h_y7 dX12_holds_392 rfl (fun c101 => ?_) (fun c101 => ?_)
                          · refine zj_iconst C 0 dX12_holds_399 ?_
                            exact zrt_z C Z (Or.inl rfl) dX12_holds_400
                          · refine zj_iconst C 1 dX12_holds_395 ?_
                            refine zj_goto (tgt := 400) C dX12_holds_396 rfl ?_
                            exact zrt_z C Z (Or.inr rfl) dX12_holds_400
noncomputable def bg_holds : (Int → Int → zMem → Option (Int × zMem)) → Int → Int → zMem → Option (Int × zMem) := fb_X12_holds
noncomputable def fg_holds : Nat → Int → Int → zMem → Option (Int × zMem) := zfuel (fun _ _ _ => none) bg_holds
theorem Mg_holds (l : Launch) (Γ : zG) (F : zFull Γ) : ∀ d : Nat, HS_holds l Γ d (fg_holds d) := by
  intro d
  induction d with
  | zero => exact (by intro x0 x1 h_x0 h_x1 mem q h; cases h)
  | succ d ih => exact (fun x0 x1 h_x0 h_x1 mem q h => Mb_X12_holds l Γ F ih h_x0 h_x1 mem q h)
noncomputable def f_X12_holds (x0 : Int) (x1 : Int) (mem : zMem) : Option (Int × zMem) := fg_holds 80 x0 x1 mem
theorem M_X12_holds (l : Launch) (Γ : zG) (F : zFull Γ) {x0 : Int} {x1 : Int} (h_x0 : ir x0) (h_x1 : ir x1) (mem : zMem) (q : Int × zMem) (h : f_X12_holds x0 x1 mem = some q) : zMet l yX12_holds cX12_holds 8 (some .boolean) 85 Γ 1 [.ref (zad Γ 138), .int (i32 x0), .int (i32 x1)] mem q := (Mg_holds l Γ F 80) x0 x1 h_x0 h_x1 mem q h
def HS_says (l : Launch) (Γ : zG) (d : Nat) (self : Nat → zMem → Option (Int × zMem)) : Prop := (∀   (mem : zMem) (q : Int × zMem), self 0  mem = some q → zMet l yX12_readOr cX12_readOr 2 (some .boolean) (6 + d) Γ 1 [.ref (zad Γ 138)] mem q) ∧ (∀   (mem : zMem) (q : Int × zMem), self 1  mem = some q → zMet l yX12_readAnd cX12_readAnd 2 (some .boolean) (6 + d) Γ 1 [.ref (zad Γ 138)] mem q) ∧ (∀   (mem : zMem) (q : Int × zMem), self 2  mem = some q → zMet l yX12_readSaid cX12_readSaid 4 (some .boolean) (6 + d) Γ 1 [.ref (zad Γ 138)] mem q) ∧ (∀   (mem : zMem) (q : Int × zMem), self 3  mem = some q → zMet l yX12_readNot cX12_readNot 1 (some .boolean) (6 + d) Γ 1 [.ref (zad Γ 138)] mem q) ∧ (∀   (mem : zMem) (q : Int × zMem), self 4  mem = some q → zMet l yX12_readBracket cX12_readBracket 1 (some .boolean) (6 + d) Γ 1 [.ref (zad Γ 138)] mem q)
noncomputable def b_X12_readOr_0 (self : Nat → zMem → Option (Int × zMem)) (rec : Int → zMem → Option (Int × zMem)) (v1 : Int) (mem : zMem) : Option (Int × zMem) := zbind (f_X12_isWord 13 mem) fun y1 m2 => if y1 = 0 then (pipe (zup m2 138 46 v1) fun m4 => some (1, m4)) else (zbind (f_X12_go m2) fun _ m5 => zbind (self 1 m5) fun y6 m7 => if y6 = 0 then (some (0, m7)) else (zbind (f_X12_saysOne 3 v1 (m7 138 46) 0 m7) fun y10 m11 => rec y10 m11))
noncomputable def f_X12_readOr_0 (self : Nat → zMem → Option (Int × zMem)) : Nat → Int → zMem → Option (Int × zMem) := zfuel (fun _ _ => none) (b_X12_readOr_0 self)
set_option maxHeartbeats 4000000 in
theorem L_X12_readOr_0 (l : Launch) {Γ : zG} {d : Nat} {self : Nat → zMem → Option (Int × zMem)} (F : zFull Γ) {X : zM} {q : Int × zMem} (C : zC X Γ "ShadowHeirsModel" cX12_readOr 2) (Z : zRt X l Γ (6 + (d + 1)) 1 (some .boolean) q) (hs : HS_says l Γ d self) : ∀ n : Nat, ∀ (v1 : Int) (h_v1 : ir v1) (mem : zMem), zJ X Γ 2 q (f_X12_readOr_0 self n v1 mem) 14 [(0, .ref (zad Γ 138)), (1, .int (i32 v1))] [] mem := by
  intro n
  induction n with
  | zero => intros; exact zj_none
  | succ n ih =>
    intro v1 h_v1 mem
    show zJ X Γ 2 q (b_X12_readOr_0 self (f_X12_readOr_0 self n) v1 mem) _ _ _ _
    unfold b_X12_readOr_0
    refine zj_aload_n (j := 0) (i := 0) C rfl 0 rfl dX12_readOr_14 ?_
    refine zj_bipush C 13 rfl dX12_readOr_15 ?_
    refine zj_callVi C F Z [.int (i32 13)] [] cal_X12_isWord calv_X12_isWord ml_X12_174 zk_138 rfl rfl (by omega) (Nat.le_of_ble_eq_true rfl) rfl dX12_readOr_17 (fun q h => M_X12_isWord l Γ F irc_13 mem q h) (fun y1 m2 h_y1 => ?_)
    refine zj_if_eq C 51 h_y1 dX12_readOr_20 rfl (fun c3 => ?_) (fun c3 => ?_)
    · refine zj_aload_n (j := 0) (i := 0) C rfl 0 rfl dX12_readOr_51 ?_
      refine zj_iload_n (j := 1) (i := 1) C rfl 1 rfl dX12_readOr_52 ?_
      refine zj_putI C F 46 rfl zk_138 fl_X12_418 rfl fp_12_46 h_v1 dX12_readOr_53 ?_
      refine zj_pipeM (fun m4 e_m4 => ?_)
      refine zj_iconst C 1 dX12_readOr_56 ?_
      exact zrt_z C Z (Or.inr rfl) dX12_readOr_57
    · refine zj_aload_n (j := 0) (i := 0) C rfl 0 rfl dX12_readOr_23 ?_
      refine zj_callVv C F Z [] [] cal_X12_go calv_X12_go ml_X12_82 zk_138 rfl rfl (by omega) (Nat.le_of_ble_eq_true rfl) rfl dX12_readOr_24 (fun q h => M_X12_go l Γ F  m2 q h) (fun _ m5 _ => ?_)
      refine zj_aload_n (j := 0) (i := 0) C rfl 0 rfl dX12_readOr_27 ?_
      refine zj_callVi C F Z [] [] cal_X12_readAnd calv_X12_readAnd ml_X12_415 zk_138 rfl rfl (by omega) (Nat.le_of_ble_eq_true rfl) rfl dX12_readOr_28 (fun q h => hs.2.1  m5 q h) (fun y6 m7 h_y6 => ?_)
      refine zj_if_ne C 36 h_y6 dX12_readOr_31 rfl (fun c8 => ?_) (fun c8 => ?_)
      · refine zj_iconst C 0 dX12_readOr_34 ?_
        exact zrt_z C Z (Or.inl rfl) dX12_readOr_35
      · refine zj_aload_n (j := 0) (i := 0) C rfl 0 rfl dX12_readOr_36 ?_
        refine zj_iconst C 3 dX12_readOr_37 ?_
        refine zj_iload_n (j := 1) (i := 1) C rfl 1 rfl dX12_readOr_38 ?_
        refine zj_aload_n (j := 0) (i := 0) C rfl 0 rfl dX12_readOr_39 ?_
        refine zj_getI C F 46 rfl zk_138 fl_X12_418 rfl dX12_readOr_40 (fun h9 => ?_)
        refine zj_iconst C 0 dX12_readOr_43 ?_
        refine zj_callVi C F Z [.int (i32 3), .int (i32 v1), .int (i32 (m7 138 46)), .int (i32 0)] [] cal_X12_saysOne calv_X12_saysOne ml_X12_421 zk_138 rfl rfl (by omega) (Nat.le_of_ble_eq_true rfl) rfl dX12_readOr_44 (fun q h => M_X12_saysOne l Γ F irc_3 h_v1 h9 irc_0 m7 q h) (fun y10 m11 h_y10 => ?_)
        refine zj_istore_n (j := 1) (i := 1) C rfl [(1, .int (i32 y10)), (0, .ref (zad Γ 138))] dX12_readOr_47 (by decide) rfl ?_
        refine zj_goto (tgt := 14) C dX12_readOr_48 rfl ?_
        exact zj_sub [1, 0] rfl (ih y10 h_y10 m11)
noncomputable def fb_X12_readOr (self : Nat → zMem → Option (Int × zMem))  (mem : zMem) : Option (Int × zMem) := zbind (self 1 mem) fun y1 m2 => if y1 = 0 then (some (0, m2)) else (pipe (m2 138 46) fun y5 => f_X12_readOr_0 self zN y5 m2)
set_option maxHeartbeats 4000000 in
theorem Mb_X12_readOr (l : Launch) (Γ : zG) (F : zFull Γ) {d : Nat} {self : Nat → zMem → Option (Int × zMem)}  (hs : HS_says l Γ d self)   (mem : zMem) (q : Int × zMem) (h : fb_X12_readOr self  mem = some q) : zMet l yX12_readOr cX12_readOr 2 (some .boolean) (6 + (d + 1)) Γ 1 [.ref (zad Γ 138)] mem q := by
  refine zMet_of (own := "ShadowHeirsModel") (by decide) rfl (Nat.le_of_ble_eq_true rfl) (fun X C Z => ?_)
  revert h
  show zJ X Γ 2 q (fb_X12_readOr self  mem) 0 [(0, .ref (zad Γ 138))] [] mem
  unfold fb_X12_readOr
  refine zj_aload_n (j := 0) (i := 0) C rfl 0 rfl dX12_readOr_0 ?_
  refine zj_callVi C F Z [] [] cal_X12_readAnd calv_X12_readAnd ml_X12_415 zk_138 rfl rfl (by omega) (Nat.le_of_ble_eq_true rfl) rfl dX12_readOr_1 (fun q h => hs.2.1  mem q h) (fun y1 m2 h_y1 => ?_)
  refine zj_if_ne C 9 h_y1 dX12_readOr_4 rfl (fun c3 => ?_) (fun c3 => ?_)
  · refine zj_iconst C 0 dX12_readOr_7 ?_
    exact zrt_z C Z (Or.inl rfl) dX12_readOr_8
  · refine zj_aload_n (j := 0) (i := 0) C rfl 0 rfl dX12_readOr_9 ?_
    refine zj_getI C F 46 rfl zk_138 fl_X12_418 rfl dX12_readOr_10 (fun h4 => ?_)
    refine zj_pipeI (fun y5 e_y5 => ?_)
    have h_y5 := ir_eq e_y5 h4
    refine zj_istore_n (j := 1) (i := 1) C rfl [(1, .int (i32 y5)), (0, .ref (zad Γ 138))] dX12_readOr_13 (by decide) rfl ?_
    exact zj_sub [1, 0] rfl ((L_X12_readOr_0 l F C Z hs zN) y5 h_y5 m2)
noncomputable def b_X12_readAnd_0 (self : Nat → zMem → Option (Int × zMem)) (rec : Int → zMem → Option (Int × zMem)) (v1 : Int) (mem : zMem) : Option (Int × zMem) := zbind (f_X12_isWord 14 mem) fun y1 m2 => if y1 = 0 then (pipe (zup m2 138 46 v1) fun m4 => some (1, m4)) else (zbind (f_X12_go m2) fun _ m5 => zbind (self 2 m5) fun y6 m7 => if y6 = 0 then (some (0, m7)) else (zbind (f_X12_saysOne 2 v1 (m7 138 46) 0 m7) fun y10 m11 => rec y10 m11))
noncomputable def f_X12_readAnd_0 (self : Nat → zMem → Option (Int × zMem)) : Nat → Int → zMem → Option (Int × zMem) := zfuel (fun _ _ => none) (b_X12_readAnd_0 self)
set_option maxHeartbeats 4000000 in
theorem L_X12_readAnd_0 (l : Launch) {Γ : zG} {d : Nat} {self : Nat → zMem → Option (Int × zMem)} (F : zFull Γ) {X : zM} {q : Int × zMem} (C : zC X Γ "ShadowHeirsModel" cX12_readAnd 2) (Z : zRt X l Γ (6 + (d + 1)) 1 (some .boolean) q) (hs : HS_says l Γ d self) : ∀ n : Nat, ∀ (v1 : Int) (h_v1 : ir v1) (mem : zMem), zJ X Γ 2 q (f_X12_readAnd_0 self n v1 mem) 14 [(0, .ref (zad Γ 138)), (1, .int (i32 v1))] [] mem := by
  intro n
  induction n with
  | zero => intros; exact zj_none
  | succ n ih =>
    intro v1 h_v1 mem
    show zJ X Γ 2 q (b_X12_readAnd_0 self (f_X12_readAnd_0 self n) v1 mem) _ _ _ _
    unfold b_X12_readAnd_0
    refine zj_aload_n (j := 0) (i := 0) C rfl 0 rfl dX12_readAnd_14 ?_
    refine zj_bipush C 14 rfl dX12_readAnd_15 ?_
    refine zj_callVi C F Z [.int (i32 14)] [] cal_X12_isWord calv_X12_isWord ml_X12_174 zk_138 rfl rfl (by omega) (Nat.le_of_ble_eq_true rfl) rfl dX12_readAnd_17 (fun q h => M_X12_isWord l Γ F irc_14 mem q h) (fun y1 m2 h_y1 => ?_)
    refine zj_if_eq C 51 h_y1 dX12_readAnd_20 rfl (fun c3 => ?_) (fun c3 => ?_)
    · refine zj_aload_n (j := 0) (i := 0) C rfl 0 rfl dX12_readAnd_51 ?_
      refine zj_iload_n (j := 1) (i := 1) C rfl 1 rfl dX12_readAnd_52 ?_
      refine zj_putI C F 46 rfl zk_138 fl_X12_418 rfl fp_12_46 h_v1 dX12_readAnd_53 ?_
      refine zj_pipeM (fun m4 e_m4 => ?_)
      refine zj_iconst C 1 dX12_readAnd_56 ?_
      exact zrt_z C Z (Or.inr rfl) dX12_readAnd_57
    · refine zj_aload_n (j := 0) (i := 0) C rfl 0 rfl dX12_readAnd_23 ?_
      refine zj_callVv C F Z [] [] cal_X12_go calv_X12_go ml_X12_82 zk_138 rfl rfl (by omega) (Nat.le_of_ble_eq_true rfl) rfl dX12_readAnd_24 (fun q h => M_X12_go l Γ F  m2 q h) (fun _ m5 _ => ?_)
      refine zj_aload_n (j := 0) (i := 0) C rfl 0 rfl dX12_readAnd_27 ?_
      refine zj_callVi C F Z [] [] cal_X12_readSaid calv_X12_readSaid ml_X12_425 zk_138 rfl rfl (by omega) (Nat.le_of_ble_eq_true rfl) rfl dX12_readAnd_28 (fun q h => hs.2.2.1  m5 q h) (fun y6 m7 h_y6 => ?_)
      refine zj_if_ne C 36 h_y6 dX12_readAnd_31 rfl (fun c8 => ?_) (fun c8 => ?_)
      · refine zj_iconst C 0 dX12_readAnd_34 ?_
        exact zrt_z C Z (Or.inl rfl) dX12_readAnd_35
      · refine zj_aload_n (j := 0) (i := 0) C rfl 0 rfl dX12_readAnd_36 ?_
        refine zj_iconst C 2 dX12_readAnd_37 ?_
        refine zj_iload_n (j := 1) (i := 1) C rfl 1 rfl dX12_readAnd_38 ?_
        refine zj_aload_n (j := 0) (i := 0) C rfl 0 rfl dX12_readAnd_39 ?_
        refine zj_getI C F 46 rfl zk_138 fl_X12_418 rfl dX12_readAnd_40 (fun h9 => ?_)
        refine zj_iconst C 0 dX12_readAnd_43 ?_
        refine zj_callVi C F Z [.int (i32 2), .int (i32 v1), .int (i32 (m7 138 46)), .int (i32 0)] [] cal_X12_saysOne calv_X12_saysOne ml_X12_421 zk_138 rfl rfl (by omega) (Nat.le_of_ble_eq_true rfl) rfl dX12_readAnd_44 (fun q h => M_X12_saysOne l Γ F irc_2 h_v1 h9 irc_0 m7 q h) (fun y10 m11 h_y10 => ?_)
        refine zj_istore_n (j := 1) (i := 1) C rfl [(1, .int (i32 y10)), (0, .ref (zad Γ 138))] dX12_readAnd_47 (by decide) rfl ?_
        refine zj_goto (tgt := 14) C dX12_readAnd_48 rfl ?_
        exact zj_sub [1, 0] rfl (ih y10 h_y10 m11)
noncomputable def fb_X12_readAnd (self : Nat → zMem → Option (Int × zMem))  (mem : zMem) : Option (Int × zMem) := zbind (self 2 mem) fun y1 m2 => if y1 = 0 then (some (0, m2)) else (pipe (m2 138 46) fun y5 => f_X12_readAnd_0 self zN y5 m2)
set_option maxHeartbeats 4000000 in
theorem Mb_X12_readAnd (l : Launch) (Γ : zG) (F : zFull Γ) {d : Nat} {self : Nat → zMem → Option (Int × zMem)}  (hs : HS_says l Γ d self)   (mem : zMem) (q : Int × zMem) (h : fb_X12_readAnd self  mem = some q) : zMet l yX12_readAnd cX12_readAnd 2 (some .boolean) (6 + (d + 1)) Γ 1 [.ref (zad Γ 138)] mem q := by
  refine zMet_of (own := "ShadowHeirsModel") (by decide) rfl (Nat.le_of_ble_eq_true rfl) (fun X C Z => ?_)
  revert h
  show zJ X Γ 2 q (fb_X12_readAnd self  mem) 0 [(0, .ref (zad Γ 138))] [] mem
  unfold fb_X12_readAnd
  refine zj_aload_n (j := 0) (i := 0) C rfl 0 rfl dX12_readAnd_0 ?_
  refine zj_callVi C F Z [] [] cal_X12_readSaid calv_X12_readSaid ml_X12_425 zk_138 rfl rfl (by omega) (Nat.le_of_ble_eq_true rfl) rfl dX12_readAnd_1 (fun q h => hs.2.2.1  mem q h) (fun y1 m2 h_y1 => ?_)
  refine zj_if_ne C 9 h_y1 dX12_readAnd_4 rfl (fun c3 => ?_) (fun c3 => ?_)
  · refine zj_iconst C 0 dX12_readAnd_7 ?_
    exact zrt_z C Z (Or.inl rfl) dX12_readAnd_8
  · refine zj_aload_n (j := 0) (i := 0) C rfl 0 rfl dX12_readAnd_9 ?_
    refine zj_getI C F 46 rfl zk_138 fl_X12_418 rfl dX12_readAnd_10 (fun h4 => ?_)
    refine zj_pipeI (fun y5 e_y5 => ?_)
    have h_y5 := ir_eq e_y5 h4
    refine zj_istore_n (j := 1) (i := 1) C rfl [(1, .int (i32 y5)), (0, .ref (zad Γ 138))] dX12_readAnd_13 (by decide) rfl ?_
    exact zj_sub [1, 0] rfl ((L_X12_readAnd_0 l F C Z hs zN) y5 h_y5 m2)
noncomputable def f_X12_readSaid_j46 (self : Nat → zMem → Option (Int × zMem)) (v1 : Int) (v2 : Int) (mem : zMem) : Option (Int × zMem) := if (mem 138 44) = 20 then (zbind (f_X12_bad 4 mem) fun y3 m4 => if y3 = 0 ∨ y3 = 1 then some (y3, m4) else none) else (if (mem 138 45) = 8 then (zbind (f_X12_bad 4 mem) fun y7 m8 => if y7 = 0 ∨ y7 = 1 then some (y7, m8) else none) else (pipe (zup mem 138 44 (w32 ((mem 138 44) + 1))) fun m10 => pipe (zup m10 138 45 (w32 ((m10 138 45) + 1))) fun m12 => zbind (f_X12_go m12) fun _ m13 => if v1 = 0 then (if v2 = 15 then (zbind (self 3 m13) fun y16 m17 => pipe (zup m17 138 45 (w32 ((m17 138 45) - 1))) fun m19 => if y16 = 0 ∨ y16 = 1 then some (y16, m19) else none) else (if v2 ≥ 19 then (if v2 ≥ 20 then (zbind (f_X12_readCompare v2 m13) fun y22 m23 => pipe (zup m23 138 45 (w32 ((m23 138 45) - 1))) fun m25 => if y22 = 0 ∨ y22 = 1 then some (y22, m25) else none) else (zbind (f_X12_readOf v2 m13) fun y26 m27 => pipe (zup m27 138 45 (w32 ((m27 138 45) - 1))) fun m29 => if y26 = 0 ∨ y26 = 1 then some (y26, m29) else none)) else (zbind (f_X12_saysOne (w32 (50 + v2)) 0 0 0 m13) fun y30 m31 => pipe (zup m31 138 46 y30) fun m32 => pipe (zup m32 138 45 (w32 ((m32 138 45) - 1))) fun m34 => some (1, m34)))) else (zbind (self 4 m13) fun y35 m36 => pipe (zup m36 138 45 (w32 ((m36 138 45) - 1))) fun m38 => if y35 = 0 ∨ y35 = 1 then some (y35, m38) else none)))
set_option maxHeartbeats 4000000 in
theorem J_X12_readSaid_j46 (l : Launch) {Γ : zG} {d : Nat} {self : Nat → zMem → Option (Int × zMem)} (F : zFull Γ) {X : zM} {q : Int × zMem} (C : zC X Γ "ShadowHeirsModel" cX12_readSaid 4) (Z : zRt X l Γ (6 + (d + 1)) 1 (some .boolean) q) (hs : HS_says l Γ d self) {v1 : Int} {v2 : Int} (h_v1 : ir v1) (h_v2 : ir v2) (mem : zMem) : zJ X Γ 4 q (f_X12_readSaid_j46 self v1 v2 mem) 46 [(0, .ref (zad Γ 138)), (1, .int (i32 v1)), (2, .int (i32 v2))] [] mem := by
  unfold f_X12_readSaid_j46
  refine zj_aload_n (j := 0) (i := 0) C rfl 0 rfl dX12_readSaid_46 ?_
  refine zj_getI C F 44 rfl zk_138 fl_X12_428 rfl dX12_readSaid_47 (fun h1 => ?_)
  refine zj_bipush C 20 rfl dX12_readSaid_50 ?_
  refine zj_icmp_eq C 64 h1 irc_20 dX12_readSaid_52 rfl (fun c2 => ?_) (fun c2 => ?_)
  · refine zj_aload_n (j := 0) (i := 0) C rfl 0 rfl dX12_readSaid_64 ?_
    refine zj_iconst C 4 dX12_readSaid_65 ?_
    refine zj_callVi C F Z [.int (i32 4)] [] cal_X12_bad calv_X12_bad ml_X12_72 zk_138 rfl rfl (by omega) (Nat.le_of_ble_eq_true rfl) rfl dX12_readSaid_66 (fun q h => M_X12_bad l Γ F irc_4 mem q h) (fun y3 m4 h_y3 => ?_)
    exact zrt_zc C Z dX12_readSaid_69
  · refine zj_aload_n (j := 0) (i := 0) C rfl 0 rfl dX12_readSaid_55 ?_
    refine zj_getI C F 45 rfl zk_138 fl_X12_431 rfl dX12_readSaid_56 (fun h5 => ?_)
    refine zj_bipush C 8 rfl dX12_readSaid_59 ?_
    refine zj_icmp_ne C 70 h5 irc_8 dX12_readSaid_61 rfl (fun c6 => ?_) (fun c6 => ?_)
    · refine zj_aload_n (j := 0) (i := 0) C rfl 0 rfl dX12_readSaid_64 ?_
      refine zj_iconst C 4 dX12_readSaid_65 ?_
      refine zj_callVi C F Z [.int (i32 4)] [] cal_X12_bad calv_X12_bad ml_X12_72 zk_138 rfl rfl (by omega) (Nat.le_of_ble_eq_true rfl) rfl dX12_readSaid_66 (fun q h => M_X12_bad l Γ F irc_4 mem q h) (fun y7 m8 h_y7 => ?_)
      exact zrt_zc C Z dX12_readSaid_69
    · refine zj_aload_n (j := 0) (i := 0) C rfl 0 rfl dX12_readSaid_70 ?_
      refine zj_dup C rfl dX12_readSaid_71 ?_
      refine zj_getI C F 44 rfl zk_138 fl_X12_428 rfl dX12_readSaid_72 (fun h9 => ?_)
      refine zj_iconst C 1 dX12_readSaid_75 ?_
      refine zj_iadd C dX12_readSaid_76 ?_
      refine zj_putI C F 44 rfl zk_138 fl_X12_428 rfl fp_12_44 (ir_w _) dX12_readSaid_77 ?_
      refine zj_pipeM (fun m10 e_m10 => ?_)
      refine zj_aload_n (j := 0) (i := 0) C rfl 0 rfl dX12_readSaid_80 ?_
      refine zj_dup C rfl dX12_readSaid_81 ?_
      refine zj_getI C F 45 rfl zk_138 fl_X12_431 rfl dX12_readSaid_82 (fun h11 => ?_)
      refine zj_iconst C 1 dX12_readSaid_85 ?_
      refine zj_iadd C dX12_readSaid_86 ?_
      refine zj_putI C F 45 rfl zk_138 fl_X12_431 rfl fp_12_45 (ir_w _) dX12_readSaid_87 ?_
      refine zj_pipeM (fun m12 e_m12 => ?_)
      refine zj_aload_n (j := 0) (i := 0) C rfl 0 rfl dX12_readSaid_90 ?_
      refine zj_callVv C F Z [] [] cal_X12_go calv_X12_go ml_X12_82 zk_138 rfl rfl (by omega) (Nat.le_of_ble_eq_true rfl) rfl dX12_readSaid_91 (fun q h => M_X12_go l Γ F  m12 q h) (fun _ m13 _ => ?_)
      refine zj_iconst C 1 dX12_readSaid_94 ?_
      refine zj_istore_n (j := 3) (i := 3) C rfl [(3, .int (i32 1)), (0, .ref (zad Γ 138)), (1, .int (i32 v1)), (2, .int (i32 v2))] dX12_readSaid_95 (by decide) rfl ?_
      refine zj_iload_n (j := 1) (i := 1) C rfl 2 rfl dX12_readSaid_96 ?_
      refine zj_if_eq C 108 h_v1 dX12_readSaid_97 rfl (fun c14 => ?_) (fun c14 => ?_)
      · refine zj_iload_n (j := 2) (i := 2) C rfl 3 rfl dX12_readSaid_108 ?_
        refine zj_bipush C 15 rfl dX12_readSaid_109 ?_
        refine zj_icmp_ne C 122 h_v2 irc_15 dX12_readSaid_111 rfl (fun c15 => ?_) (fun c15 => ?_)
        · refine zj_aload_n (j := 0) (i := 0) C rfl 1 rfl dX12_readSaid_114 ?_
          refine zj_callVi C F Z [] [] cal_X12_readNot calv_X12_readNot ml_X12_437 zk_138 rfl rfl (by omega) (Nat.le_of_ble_eq_true rfl) rfl dX12_readSaid_115 (fun q h => hs.2.2.2.1  m13 q h) (fun y16 m17 h_y16 => ?_)
          refine zj_istore_n (j := 3) (i := 3) C rfl [(3, .int (i32 y16)), (0, .ref (zad Γ 138)), (1, .int (i32 v1)), (2, .int (i32 v2))] dX12_readSaid_118 (by decide) rfl ?_
          refine zj_goto (tgt := 166) C dX12_readSaid_119 rfl ?_
          refine zj_aload_n (j := 0) (i := 0) C rfl 1 rfl dX12_readSaid_166 ?_
          refine zj_dup C rfl dX12_readSaid_167 ?_
          refine zj_getI C F 45 rfl zk_138 fl_X12_431 rfl dX12_readSaid_168 (fun h18 => ?_)
          refine zj_iconst C 1 dX12_readSaid_171 ?_
          refine zj_isub C dX12_readSaid_172 ?_
          refine zj_putI C F 45 rfl zk_138 fl_X12_431 rfl fp_12_45 (ir_w _) dX12_readSaid_173 ?_
          refine zj_pipeM (fun m19 e_m19 => ?_)
          refine zj_iload_n (j := 3) (i := 3) C rfl 0 rfl dX12_readSaid_176 ?_
          exact zrt_zc C Z dX12_readSaid_177
        · refine zj_iload_n (j := 2) (i := 2) C rfl 3 rfl dX12_readSaid_122 ?_
          refine zj_bipush C 19 rfl dX12_readSaid_123 ?_
          refine zj_icmp_ge C 146 h_v2 irc_19 dX12_readSaid_125 rfl (fun c20 => ?_) (fun c20 => ?_)
          · refine zj_iload_n (j := 2) (i := 2) C rfl 3 rfl dX12_readSaid_146 ?_
            refine zj_bipush C 20 rfl dX12_readSaid_147 ?_
            refine zj_icmp_ge C 160 h_v2 irc_20 dX12_readSaid_149 rfl (fun c21 => ?_) (fun c21 => ?_)
            · refine zj_aload_n (j := 0) (i := 0) C rfl 1 rfl dX12_readSaid_160 ?_
              refine zj_iload_n (j := 2) (i := 2) C rfl 3 rfl dX12_readSaid_161 ?_
              refine zj_callVi C F Z [.int (i32 v2)] [] cal_X12_readCompare calv_X12_readCompare ml_X12_443 zk_138 rfl rfl (by omega) (Nat.le_of_ble_eq_true rfl) rfl dX12_readSaid_162 (fun q h => M_X12_readCompare l Γ F h_v2 m13 q h) (fun y22 m23 h_y22 => ?_)
              refine zj_istore_n (j := 3) (i := 3) C rfl [(3, .int (i32 y22)), (0, .ref (zad Γ 138)), (1, .int (i32 v1)), (2, .int (i32 v2))] dX12_readSaid_165 (by decide) rfl ?_
              refine zj_aload_n (j := 0) (i := 0) C rfl 1 rfl dX12_readSaid_166 ?_
              refine zj_dup C rfl dX12_readSaid_167 ?_
              refine zj_getI C F 45 rfl zk_138 fl_X12_431 rfl dX12_readSaid_168 (fun h24 => ?_)
              refine zj_iconst C 1 dX12_readSaid_171 ?_
              refine zj_isub C dX12_readSaid_172 ?_
              refine zj_putI C F 45 rfl zk_138 fl_X12_431 rfl fp_12_45 (ir_w _) dX12_readSaid_173 ?_
              refine zj_pipeM (fun m25 e_m25 => ?_)
              refine zj_iload_n (j := 3) (i := 3) C rfl 0 rfl dX12_readSaid_176 ?_
              exact zrt_zc C Z dX12_readSaid_177
            · refine zj_aload_n (j := 0) (i := 0) C rfl 1 rfl dX12_readSaid_152 ?_
              refine zj_iload_n (j := 2) (i := 2) C rfl 3 rfl dX12_readSaid_153 ?_
              refine zj_callVi C F Z [.int (i32 v2)] [] cal_X12_readOf calv_X12_readOf ml_X12_440 zk_138 rfl rfl (by omega) (Nat.le_of_ble_eq_true rfl) rfl dX12_readSaid_154 (fun q h => M_X12_readOf l Γ F h_v2 m13 q h) (fun y26 m27 h_y26 => ?_)
              refine zj_goto (tgt := 165) C dX12_readSaid_157 rfl ?_
              refine zj_istore_n (j := 3) (i := 3) C rfl [(3, .int (i32 y26)), (0, .ref (zad Γ 138)), (1, .int (i32 v1)), (2, .int (i32 v2))] dX12_readSaid_165 (by decide) rfl ?_
              refine zj_aload_n (j := 0) (i := 0) C rfl 1 rfl dX12_readSaid_166 ?_
              refine zj_dup C rfl dX12_readSaid_167 ?_
              refine zj_getI C F 45 rfl zk_138 fl_X12_431 rfl dX12_readSaid_168 (fun h28 => ?_)
              refine zj_iconst C 1 dX12_readSaid_171 ?_
              refine zj_isub C dX12_readSaid_172 ?_
              refine zj_putI C F 45 rfl zk_138 fl_X12_431 rfl fp_12_45 (ir_w _) dX12_readSaid_173 ?_
              refine zj_pipeM (fun m29 e_m29 => ?_)
              refine zj_iload_n (j := 3) (i := 3) C rfl 0 rfl dX12_readSaid_176 ?_
              exact zrt_zc C Z dX12_readSaid_177
          · refine zj_aload_n (j := 0) (i := 0) C rfl 1 rfl dX12_readSaid_128 ?_
            refine zj_aload_n (j := 0) (i := 0) C rfl 1 rfl dX12_readSaid_129 ?_
            refine zj_bipush C 50 rfl dX12_readSaid_130 ?_
            refine zj_iload_n (j := 2) (i := 2) C rfl 3 rfl dX12_readSaid_132 ?_
            refine zj_iadd C dX12_readSaid_133 ?_
            refine zj_iconst C 0 dX12_readSaid_134 ?_
            refine zj_iconst C 0 dX12_readSaid_135 ?_
            refine zj_iconst C 0 dX12_readSaid_136 ?_
            refine zj_callVi C F Z [.int (i32 (w32 (50 + v2))), .int (i32 0), .int (i32 0), .int (i32 0)] [.ref (zad Γ 138)] cal_X12_saysOne calv_X12_saysOne ml_X12_421 zk_138 rfl rfl (by omega) (Nat.le_of_ble_eq_true rfl) rfl dX12_readSaid_137 (fun q h => M_X12_saysOne l Γ F (ir_w _) irc_0 irc_0 irc_0 m13 q h) (fun y30 m31 h_y30 => ?_)
            refine zj_putI C F 46 rfl zk_138 fl_X12_418 rfl fp_12_46 h_y30 dX12_readSaid_140 ?_
            refine zj_pipeM (fun m32 e_m32 => ?_)
            refine zj_goto (tgt := 166) C dX12_readSaid_143 rfl ?_
            refine zj_aload_n (j := 0) (i := 0) C rfl 1 rfl dX12_readSaid_166 ?_
            refine zj_dup C rfl dX12_readSaid_167 ?_
            refine zj_getI C F 45 rfl zk_138 fl_X12_431 rfl dX12_readSaid_168 (fun h33 => ?_)
            refine zj_iconst C 1 dX12_readSaid_171 ?_
            refine zj_isub C dX12_readSaid_172 ?_
            refine zj_putI C F 45 rfl zk_138 fl_X12_431 rfl fp_12_45 (ir_w _) dX12_readSaid_173 ?_
            refine zj_pipeM (fun m34 e_m34 => ?_)
            refine zj_iload_n (j := 3) (i := 3) C rfl 0 rfl dX12_readSaid_176 ?_
            exact zrt_z C Z (Or.inr rfl) dX12_readSaid_177
      · refine zj_aload_n (j := 0) (i := 0) C rfl 1 rfl dX12_readSaid_100 ?_
        refine zj_callVi C F Z [] [] cal_X12_readBracket calv_X12_readBracket ml_X12_434 zk_138 rfl rfl (by omega) (Nat.le_of_ble_eq_true rfl) rfl dX12_readSaid_101 (fun q h => hs.2.2.2.2  m13 q h) (fun y35 m36 h_y35 => ?_)
        refine zj_istore_n (j := 3) (i := 3) C rfl [(3, .int (i32 y35)), (0, .ref (zad Γ 138)), (1, .int (i32 v1)), (2, .int (i32 v2))] dX12_readSaid_104 (by decide) rfl ?_
        refine zj_goto (tgt := 166) C dX12_readSaid_105 rfl ?_
        refine zj_aload_n (j := 0) (i := 0) C rfl 1 rfl dX12_readSaid_166 ?_
        refine zj_dup C rfl dX12_readSaid_167 ?_
        refine zj_getI C F 45 rfl zk_138 fl_X12_431 rfl dX12_readSaid_168 (fun h37 => ?_)
        refine zj_iconst C 1 dX12_readSaid_171 ?_
        refine zj_isub C dX12_readSaid_172 ?_
        refine zj_putI C F 45 rfl zk_138 fl_X12_431 rfl fp_12_45 (ir_w _) dX12_readSaid_173 ?_
        refine zj_pipeM (fun m38 e_m38 => ?_)
        refine zj_iload_n (j := 3) (i := 3) C rfl 0 rfl dX12_readSaid_176 ?_
        exact zrt_zc C Z dX12_readSaid_177
noncomputable def b_X12_readSaid_1 (self : Nat → zMem → Option (Int × zMem)) (rec : Int → Int → zMem → Option (Int × zMem)) (v1 : Int) (v2 : Int) (mem : zMem) : Option (Int × zMem) := if v2 > 23 then (if v1 = 0 then (if v2 ≤ 23 then (f_X12_readSaid_j46 self v1 v2 mem) else (zbind (f_X12_bad 1 mem) fun y4 m5 => if y4 = 0 ∨ y4 = 1 then some (y4, m5) else none)) else (f_X12_readSaid_j46 self v1 v2 mem)) else (zbind (f_X12_isWord v2 mem) fun y6 m7 => if y6 = 0 then (rec v1 (w32 (v2 + 1)) m7) else (if v1 = 0 then (if v2 ≤ 23 then (f_X12_readSaid_j46 self v1 v2 m7) else (zbind (f_X12_bad 1 m7) fun y11 m12 => if y11 = 0 ∨ y11 = 1 then some (y11, m12) else none)) else (f_X12_readSaid_j46 self v1 v2 m7)))
noncomputable def f_X12_readSaid_1 (self : Nat → zMem → Option (Int × zMem)) : Nat → Int → Int → zMem → Option (Int × zMem) := zfuel (fun _ _ _ => none) (b_X12_readSaid_1 self)
set_option maxHeartbeats 4000000 in
theorem L_X12_readSaid_1 (l : Launch) {Γ : zG} {d : Nat} {self : Nat → zMem → Option (Int × zMem)} (F : zFull Γ) {X : zM} {q : Int × zMem} (C : zC X Γ "ShadowHeirsModel" cX12_readSaid 4) (Z : zRt X l Γ (6 + (d + 1)) 1 (some .boolean) q) (hs : HS_says l Γ d self) : ∀ n : Nat, ∀ (v1 : Int) (v2 : Int) (h_v1 : ir v1) (h_v2 : ir v2) (mem : zMem), zJ X Γ 4 q (f_X12_readSaid_1 self n v1 v2 mem) 10 [(0, .ref (zad Γ 138)), (1, .int (i32 v1)), (2, .int (i32 v2))] [] mem := by
  intro n
  induction n with
  | zero => intros; exact zj_none
  | succ n ih =>
    intro v1 v2 h_v1 h_v2 mem
    show zJ X Γ 4 q (b_X12_readSaid_1 self (f_X12_readSaid_1 self n) v1 v2 mem) _ _ _ _
    unfold b_X12_readSaid_1
    refine zj_iload_n (j := 2) (i := 2) C rfl 2 rfl dX12_readSaid_10 ?_
    refine zj_bipush C 23 rfl dX12_readSaid_11 ?_
    refine zj_icmp_gt C 30 h_v2 irc_23 dX12_readSaid_13 rfl (fun c1 => ?_) (fun c1 => ?_)
    · refine zj_iload_n (j := 1) (i := 1) C rfl 1 rfl dX12_readSaid_30 ?_
      refine zj_if_ne C 46 h_v1 dX12_readSaid_31 rfl (fun c2 => ?_) (fun c2 => ?_)
      · refine zj_iload_n (j := 2) (i := 2) C rfl 2 rfl dX12_readSaid_34 ?_
        refine zj_bipush C 23 rfl dX12_readSaid_35 ?_
        refine zj_icmp_le C 46 h_v2 irc_23 dX12_readSaid_37 rfl (fun c3 => ?_) (fun c3 => ?_)
        · exact zj_sub [0, 1, 2] rfl (J_X12_readSaid_j46 l F C Z hs h_v1 h_v2 mem)
        · refine zj_aload_n (j := 0) (i := 0) C rfl 0 rfl dX12_readSaid_40 ?_
          refine zj_iconst C 1 dX12_readSaid_41 ?_
          refine zj_callVi C F Z [.int (i32 1)] [] cal_X12_bad calv_X12_bad ml_X12_72 zk_138 rfl rfl (by omega) (Nat.le_of_ble_eq_true rfl) rfl dX12_readSaid_42 (fun q h => M_X12_bad l Γ F irc_1 mem q h) (fun y4 m5 h_y4 => ?_)
          exact zrt_zc C Z dX12_readSaid_45
      · exact zj_sub [0, 1, 2] rfl (J_X12_readSaid_j46 l F C Z hs h_v1 h_v2 mem)
    · refine zj_aload_n (j := 0) (i := 0) C rfl 0 rfl dX12_readSaid_16 ?_
      refine zj_iload_n (j := 2) (i := 2) C rfl 2 rfl dX12_readSaid_17 ?_
      refine zj_callVi C F Z [.int (i32 v2)] [] cal_X12_isWord calv_X12_isWord ml_X12_174 zk_138 rfl rfl (by omega) (Nat.le_of_ble_eq_true rfl) rfl dX12_readSaid_18 (fun q h => M_X12_isWord l Γ F h_v2 mem q h) (fun y6 m7 h_y6 => ?_)
      refine zj_if_ne C 30 h_y6 dX12_readSaid_21 rfl (fun c8 => ?_) (fun c8 => ?_)
      · refine zj_iinc C 2 [(2, .int (i32 (w32 (v2 + 1)))), (0, .ref (zad Γ 138)), (1, .int (i32 v1))] rfl dX12_readSaid_24 (by decide) rfl ?_
        refine zj_goto (tgt := 10) C dX12_readSaid_27 rfl ?_
        exact zj_sub [1, 2, 0] rfl (ih v1 (w32 (v2 + 1)) h_v1 (ir_w _) m7)
      · refine zj_iload_n (j := 1) (i := 1) C rfl 1 rfl dX12_readSaid_30 ?_
        refine zj_if_ne C 46 h_v1 dX12_readSaid_31 rfl (fun c9 => ?_) (fun c9 => ?_)
        · refine zj_iload_n (j := 2) (i := 2) C rfl 2 rfl dX12_readSaid_34 ?_
          refine zj_bipush C 23 rfl dX12_readSaid_35 ?_
          refine zj_icmp_le C 46 h_v2 irc_23 dX12_readSaid_37 rfl (fun c10 => ?_) (fun c10 => ?_)
          · exact zj_sub [0, 1, 2] rfl (J_X12_readSaid_j46 l F C Z hs h_v1 h_v2 m7)
          · refine zj_aload_n (j := 0) (i := 0) C rfl 0 rfl dX12_readSaid_40 ?_
            refine zj_iconst C 1 dX12_readSaid_41 ?_
            refine zj_callVi C F Z [.int (i32 1)] [] cal_X12_bad calv_X12_bad ml_X12_72 zk_138 rfl rfl (by omega) (Nat.le_of_ble_eq_true rfl) rfl dX12_readSaid_42 (fun q h => M_X12_bad l Γ F irc_1 m7 q h) (fun y11 m12 h_y11 => ?_)
            exact zrt_zc C Z dX12_readSaid_45
        · exact zj_sub [0, 1, 2] rfl (J_X12_readSaid_j46 l F C Z hs h_v1 h_v2 m7)
noncomputable def fb_X12_readSaid (self : Nat → zMem → Option (Int × zMem))  (mem : zMem) : Option (Int × zMem) := zbind (f_X12_isSign 40 mem) fun y1 m2 => f_X12_readSaid_1 self zN y1 15 m2
set_option maxHeartbeats 4000000 in
theorem Mb_X12_readSaid (l : Launch) (Γ : zG) (F : zFull Γ) {d : Nat} {self : Nat → zMem → Option (Int × zMem)}  (hs : HS_says l Γ d self)   (mem : zMem) (q : Int × zMem) (h : fb_X12_readSaid self  mem = some q) : zMet l yX12_readSaid cX12_readSaid 4 (some .boolean) (6 + (d + 1)) Γ 1 [.ref (zad Γ 138)] mem q := by
  refine zMet_of (own := "ShadowHeirsModel") (by decide) rfl (Nat.le_of_ble_eq_true rfl) (fun X C Z => ?_)
  revert h
  show zJ X Γ 4 q (fb_X12_readSaid self  mem) 0 [(0, .ref (zad Γ 138))] [] mem
  unfold fb_X12_readSaid
  refine zj_aload_n (j := 0) (i := 0) C rfl 0 rfl dX12_readSaid_0 ?_
  refine zj_bipush C 40 rfl dX12_readSaid_1 ?_
  refine zj_callVi C F Z [.int (i32 40)] [] cal_X12_isSign calv_X12_isSign ml_X12_86 zk_138 rfl rfl (by omega) (Nat.le_of_ble_eq_true rfl) rfl dX12_readSaid_3 (fun q h => M_X12_isSign l Γ F irc_40 mem q h) (fun y1 m2 h_y1 => ?_)
  refine zj_istore_n (j := 1) (i := 1) C rfl [(1, .int (i32 y1)), (0, .ref (zad Γ 138))] dX12_readSaid_6 (by decide) rfl ?_
  refine zj_bipush C 15 rfl dX12_readSaid_7 ?_
  refine zj_istore_n (j := 2) (i := 2) C rfl [(2, .int (i32 15)), (1, .int (i32 y1)), (0, .ref (zad Γ 138))] dX12_readSaid_9 (by decide) rfl ?_
  exact zj_sub [2, 1, 0] rfl ((L_X12_readSaid_1 l F C Z hs zN) y1 15 h_y1 irc_15 m2)
noncomputable def fb_X12_readNot (self : Nat → zMem → Option (Int × zMem))  (mem : zMem) : Option (Int × zMem) := zbind (self 2 mem) fun y1 m2 => if y1 = 0 then (some (0, m2)) else (zbind (f_X12_saysOne 1 (m2 138 46) 0 0 m2) fun y5 m6 => pipe (zup m6 138 46 y5) fun m7 => some (1, m7))
set_option maxHeartbeats 4000000 in
theorem Mb_X12_readNot (l : Launch) (Γ : zG) (F : zFull Γ) {d : Nat} {self : Nat → zMem → Option (Int × zMem)}  (hs : HS_says l Γ d self)   (mem : zMem) (q : Int × zMem) (h : fb_X12_readNot self  mem = some q) : zMet l yX12_readNot cX12_readNot 1 (some .boolean) (6 + (d + 1)) Γ 1 [.ref (zad Γ 138)] mem q := by
  refine zMet_of (own := "ShadowHeirsModel") (by decide) rfl (Nat.le_of_ble_eq_true rfl) (fun X C Z => ?_)
  revert h
  show zJ X Γ 1 q (fb_X12_readNot self  mem) 0 [(0, .ref (zad Γ 138))] [] mem
  unfold fb_X12_readNot
  refine zj_aload_n (j := 0) (i := 0) C rfl 0 rfl dX12_readNot_0 ?_
  refine zj_callVi C F Z [] [] cal_X12_readSaid calv_X12_readSaid ml_X12_425 zk_138 rfl rfl (by omega) (Nat.le_of_ble_eq_true rfl) rfl dX12_readNot_1 (fun q h => hs.2.2.1  mem q h) (fun y1 m2 h_y1 => ?_)
  refine zj_if_ne C 9 h_y1 dX12_readNot_4 rfl (fun c3 => ?_) (fun c3 => ?_)
  · refine zj_iconst C 0 dX12_readNot_7 ?_
    exact zrt_z C Z (Or.inl rfl) dX12_readNot_8
  · refine zj_aload_n (j := 0) (i := 0) C rfl 0 rfl dX12_readNot_9 ?_
    refine zj_aload_n (j := 0) (i := 0) C rfl 0 rfl dX12_readNot_10 ?_
    refine zj_iconst C 1 dX12_readNot_11 ?_
    refine zj_aload_n (j := 0) (i := 0) C rfl 0 rfl dX12_readNot_12 ?_
    refine zj_getI C F 46 rfl zk_138 fl_X12_418 rfl dX12_readNot_13 (fun h4 => ?_)
    refine zj_iconst C 0 dX12_readNot_16 ?_
    refine zj_iconst C 0 dX12_readNot_17 ?_
    refine zj_callVi C F Z [.int (i32 1), .int (i32 (m2 138 46)), .int (i32 0), .int (i32 0)] [.ref (zad Γ 138)] cal_X12_saysOne calv_X12_saysOne ml_X12_421 zk_138 rfl rfl (by omega) (Nat.le_of_ble_eq_true rfl) rfl dX12_readNot_18 (fun q h => M_X12_saysOne l Γ F irc_1 h4 irc_0 irc_0 m2 q h) (fun y5 m6 h_y5 => ?_)
    refine zj_putI C F 46 rfl zk_138 fl_X12_418 rfl fp_12_46 h_y5 dX12_readNot_21 ?_
    refine zj_pipeM (fun m7 e_m7 => ?_)
    refine zj_iconst C 1 dX12_readNot_24 ?_
    exact zrt_z C Z (Or.inr rfl) dX12_readNot_25
noncomputable def fb_X12_readBracket (self : Nat → zMem → Option (Int × zMem))  (mem : zMem) : Option (Int × zMem) := zbind (self 0 mem) fun y1 m2 => if y1 = 0 then (some (0, m2)) else (zbind (f_X12_isSign 41 m2) fun y4 m5 => if y4 = 0 then (zbind (f_X12_bad 1 m5) fun y7 m8 => if y7 = 0 ∨ y7 = 1 then some (y7, m8) else none) else (zbind (f_X12_go m5) fun _ m9 => some (1, m9)))
set_option maxHeartbeats 4000000 in
theorem Mb_X12_readBracket (l : Launch) (Γ : zG) (F : zFull Γ) {d : Nat} {self : Nat → zMem → Option (Int × zMem)}  (hs : HS_says l Γ d self)   (mem : zMem) (q : Int × zMem) (h : fb_X12_readBracket self  mem = some q) : zMet l yX12_readBracket cX12_readBracket 1 (some .boolean) (6 + (d + 1)) Γ 1 [.ref (zad Γ 138)] mem q := by
  refine zMet_of (own := "ShadowHeirsModel") (by decide) rfl (Nat.le_of_ble_eq_true rfl) (fun X C Z => ?_)
  revert h
  show zJ X Γ 1 q (fb_X12_readBracket self  mem) 0 [(0, .ref (zad Γ 138))] [] mem
  unfold fb_X12_readBracket
  refine zj_aload_n (j := 0) (i := 0) C rfl 0 rfl dX12_readBracket_0 ?_
  refine zj_callVi C F Z [] [] cal_X12_readOr calv_X12_readOr ml_X12_446 zk_138 rfl rfl (by omega) (Nat.le_of_ble_eq_true rfl) rfl dX12_readBracket_1 (fun q h => hs.1  mem q h) (fun y1 m2 h_y1 => ?_)
  refine zj_if_ne C 9 h_y1 dX12_readBracket_4 rfl (fun c3 => ?_) (fun c3 => ?_)
  · refine zj_iconst C 0 dX12_readBracket_7 ?_
    exact zrt_z C Z (Or.inl rfl) dX12_readBracket_8
  · refine zj_aload_n (j := 0) (i := 0) C rfl 0 rfl dX12_readBracket_9 ?_
    refine zj_bipush C 41 rfl dX12_readBracket_10 ?_
    refine zj_callVi C F Z [.int (i32 41)] [] cal_X12_isSign calv_X12_isSign ml_X12_86 zk_138 rfl rfl (by omega) (Nat.le_of_ble_eq_true rfl) rfl dX12_readBracket_12 (fun q h => M_X12_isSign l Γ F irc_41 m2 q h) (fun y4 m5 h_y4 => ?_)
    refine zj_if_ne C 24 h_y4 dX12_readBracket_15 rfl (fun c6 => ?_) (fun c6 => ?_)
    · refine zj_aload_n (j := 0) (i := 0) C rfl 0 rfl dX12_readBracket_18 ?_
      refine zj_iconst C 1 dX12_readBracket_19 ?_
      refine zj_callVi C F Z [.int (i32 1)] [] cal_X12_bad calv_X12_bad ml_X12_72 zk_138 rfl rfl (by omega) (Nat.le_of_ble_eq_true rfl) rfl dX12_readBracket_20 (fun q h => M_X12_bad l Γ F irc_1 m5 q h) (fun y7 m8 h_y7 => ?_)
      exact zrt_zc C Z dX12_readBracket_23
    · refine zj_aload_n (j := 0) (i := 0) C rfl 0 rfl dX12_readBracket_24 ?_
      refine zj_callVv C F Z [] [] cal_X12_go calv_X12_go ml_X12_82 zk_138 rfl rfl (by omega) (Nat.le_of_ble_eq_true rfl) rfl dX12_readBracket_25 (fun q h => M_X12_go l Γ F  m5 q h) (fun _ m9 _ => ?_)
      refine zj_iconst C 1 dX12_readBracket_28 ?_
      exact zrt_z C Z (Or.inr rfl) dX12_readBracket_29
noncomputable def bg_says : (Nat → zMem → Option (Int × zMem)) → Nat → zMem → Option (Int × zMem) := fun self tag  mem => match tag with
  | 0 => fb_X12_readOr self  mem
  | 1 => fb_X12_readAnd self  mem
  | 2 => fb_X12_readSaid self  mem
  | 3 => fb_X12_readNot self  mem
  | _ => fb_X12_readBracket self  mem
noncomputable def fg_says : Nat → Nat → zMem → Option (Int × zMem) := zfuel (fun _ _ => none) bg_says
theorem Mg_says (l : Launch) (Γ : zG) (F : zFull Γ) : ∀ d : Nat, HS_says l Γ d (fg_says d) := by
  intro d
  induction d with
  | zero => exact ⟨(by intro  mem q h; cases h), (by intro  mem q h; cases h), (by intro  mem q h; cases h), (by intro  mem q h; cases h), (by intro  mem q h; cases h)⟩
  | succ d ih => exact ⟨(fun  mem q h => Mb_X12_readOr l Γ F ih  mem q h), (fun  mem q h => Mb_X12_readAnd l Γ F ih  mem q h), (fun  mem q h => Mb_X12_readSaid l Γ F ih  mem q h), (fun  mem q h => Mb_X12_readNot l Γ F ih  mem q h), (fun  mem q h => Mb_X12_readBracket l Γ F ih  mem q h)⟩
noncomputable def f_X12_readOr  (mem : zMem) : Option (Int × zMem) := fg_says 60 0  mem
theorem M_X12_readOr (l : Launch) (Γ : zG) (F : zFull Γ)   (mem : zMem) (q : Int × zMem) (h : f_X12_readOr  mem = some q) : zMet l yX12_readOr cX12_readOr 2 (some .boolean) 66 Γ 1 [.ref (zad Γ 138)] mem q := (Mg_says l Γ F 60).1  mem q h
noncomputable def f_X12_readAnd  (mem : zMem) : Option (Int × zMem) := fg_says 60 1  mem
theorem M_X12_readAnd (l : Launch) (Γ : zG) (F : zFull Γ)   (mem : zMem) (q : Int × zMem) (h : f_X12_readAnd  mem = some q) : zMet l yX12_readAnd cX12_readAnd 2 (some .boolean) 66 Γ 1 [.ref (zad Γ 138)] mem q := (Mg_says l Γ F 60).2.1  mem q h
noncomputable def f_X12_readSaid  (mem : zMem) : Option (Int × zMem) := fg_says 60 2  mem
theorem M_X12_readSaid (l : Launch) (Γ : zG) (F : zFull Γ)   (mem : zMem) (q : Int × zMem) (h : f_X12_readSaid  mem = some q) : zMet l yX12_readSaid cX12_readSaid 4 (some .boolean) 66 Γ 1 [.ref (zad Γ 138)] mem q := (Mg_says l Γ F 60).2.2.1  mem q h
noncomputable def f_X12_readNot  (mem : zMem) : Option (Int × zMem) := fg_says 60 3  mem
theorem M_X12_readNot (l : Launch) (Γ : zG) (F : zFull Γ)   (mem : zMem) (q : Int × zMem) (h : f_X12_readNot  mem = some q) : zMet l yX12_readNot cX12_readNot 1 (some .boolean) 66 Γ 1 [.ref (zad Γ 138)] mem q := (Mg_says l Γ F 60).2.2.2.1  mem q h
noncomputable def f_X12_readBracket  (mem : zMem) : Option (Int × zMem) := fg_says 60 4  mem
theorem M_X12_readBracket (l : Launch) (Γ : zG) (F : zFull Γ)   (mem : zMem) (q : Int × zMem) (h : f_X12_readBracket  mem = some q) : zMet l yX12_readBracket cX12_readBracket 1 (some .boolean) 66 Γ 1 [.ref (zad Γ 138)] mem q := (Mg_says l Γ F 60).2.2.2.2  mem q h
noncomputable def f_X11_feed (x0 : Int) (x1 : Int) (x2 : Int) (x3 : Int) (x4 : Int) (mem : zMem) : Option (Int × zMem) := zbind (f_X6_hasRoom 20 mem) fun y1 m2 => if y1 = 0 then (some ((-1), m2)) else (zbind (f_X6_addNumber x0 m2) fun _ m4 => zbind (f_X6_addNumber x1 m4) fun _ m5 => zbind (f_X6_addNumber x2 m5) fun _ m6 => zbind (f_X6_addNumber x3 m6) fun _ m7 => zbind (f_X6_addNumber x4 m7) fun _ m8 => some ((m8 1 2), m8))
set_option maxHeartbeats 4000000 in
theorem M_X11_feed (l : Launch) (Γ : zG) (F : zFull Γ)  {x0 : Int} {x1 : Int} {x2 : Int} {x3 : Int} {x4 : Int} (h_x0 : ir x0) (h_x1 : ir x1) (h_x2 : ir x2) (h_x3 : ir x3) (h_x4 : ir x4) (mem : zMem) (q : Int × zMem) (h : f_X11_feed x0 x1 x2 x3 x4 mem = some q) : zMet l yX11_feed cX11_feed 6 (some .int) 2 Γ 1 [.ref (zad Γ 0), .int (i32 x0), .int (i32 x1), .int (i32 x2), .int (i32 x3), .int (i32 x4)] mem q := by
  refine zMet_of (own := "ShadowHeirs") (by decide) rfl (Nat.le_of_ble_eq_true rfl) (fun X C Z => ?_)
  revert h
  show zJ X Γ 6 q (f_X11_feed x0 x1 x2 x3 x4 mem) 0 [(0, .ref (zad Γ 0)), (1, .int (i32 x0)), (2, .int (i32 x1)), (3, .int (i32 x2)), (4, .int (i32 x3)), (5, .int (i32 x4))] [] mem
  unfold f_X11_feed
  refine zj_aload_n (j := 0) (i := 0) C rfl 0 rfl dX11_feed_0 ?_
  refine zj_getR C F zk_0 fl_X11_10 rfl rf_0_0 dX11_feed_1 ?_
  refine zj_bipush C 20 rfl dX11_feed_4 ?_
  refine zj_callVi C F Z [.int (i32 20)] [] cal_X6_hasRoom calv_X6_hasRoom ml_X11_122 zk_1 rfl rfl (by decide) (Nat.le_of_ble_eq_true rfl) rfl dX11_feed_6 (fun q h => M_X6_hasRoom l Γ F irc_20 mem q h) (fun y1 m2 h_y1 => ?_)
  refine zj_if_ne C 14 h_y1 dX11_feed_9 rfl (fun c3 => ?_) (fun c3 => ?_)
  · refine zj_iconst C (-1) dX11_feed_12 ?_
    exact zrt_i C Z irc_m1 dX11_feed_13
  · refine zj_aload_n (j := 0) (i := 0) C rfl 0 rfl dX11_feed_14 ?_
    refine zj_getR C F zk_0 fl_X11_10 rfl rf_0_0 dX11_feed_15 ?_
    refine zj_iload_n (j := 1) (i := 1) C rfl 1 rfl dX11_feed_18 ?_
    refine zj_callVv C F Z [.int (i32 x0)] [] cal_X6_addNumber calv_X6_addNumber ml_X11_126 zk_1 rfl rfl (by decide) (Nat.le_of_ble_eq_true rfl) rfl dX11_feed_19 (fun q h => M_X6_addNumber l Γ F h_x0 m2 q h) (fun _ m4 _ => ?_)
    refine zj_aload_n (j := 0) (i := 0) C rfl 0 rfl dX11_feed_22 ?_
    refine zj_getR C F zk_0 fl_X11_10 rfl rf_0_0 dX11_feed_23 ?_
    refine zj_iload_n (j := 2) (i := 2) C rfl 2 rfl dX11_feed_26 ?_
    refine zj_callVv C F Z [.int (i32 x1)] [] cal_X6_addNumber calv_X6_addNumber ml_X11_126 zk_1 rfl rfl (by decide) (Nat.le_of_ble_eq_true rfl) rfl dX11_feed_27 (fun q h => M_X6_addNumber l Γ F h_x1 m4 q h) (fun _ m5 _ => ?_)
    refine zj_aload_n (j := 0) (i := 0) C rfl 0 rfl dX11_feed_30 ?_
    refine zj_getR C F zk_0 fl_X11_10 rfl rf_0_0 dX11_feed_31 ?_
    refine zj_iload_n (j := 3) (i := 3) C rfl 3 rfl dX11_feed_34 ?_
    refine zj_callVv C F Z [.int (i32 x2)] [] cal_X6_addNumber calv_X6_addNumber ml_X11_126 zk_1 rfl rfl (by decide) (Nat.le_of_ble_eq_true rfl) rfl dX11_feed_35 (fun q h => M_X6_addNumber l Γ F h_x2 m5 q h) (fun _ m6 _ => ?_)
    refine zj_aload_n (j := 0) (i := 0) C rfl 0 rfl dX11_feed_38 ?_
    refine zj_getR C F zk_0 fl_X11_10 rfl rf_0_0 dX11_feed_39 ?_
    refine zj_iload C 4 rfl dX11_feed_42 ?_
    refine zj_callVv C F Z [.int (i32 x3)] [] cal_X6_addNumber calv_X6_addNumber ml_X11_126 zk_1 rfl rfl (by decide) (Nat.le_of_ble_eq_true rfl) rfl dX11_feed_44 (fun q h => M_X6_addNumber l Γ F h_x3 m6 q h) (fun _ m7 _ => ?_)
    refine zj_aload_n (j := 0) (i := 0) C rfl 0 rfl dX11_feed_47 ?_
    refine zj_getR C F zk_0 fl_X11_10 rfl rf_0_0 dX11_feed_48 ?_
    refine zj_iload C 5 rfl dX11_feed_51 ?_
    refine zj_callVv C F Z [.int (i32 x4)] [] cal_X6_addNumber calv_X6_addNumber ml_X11_126 zk_1 rfl rfl (by decide) (Nat.le_of_ble_eq_true rfl) rfl dX11_feed_53 (fun q h => M_X6_addNumber l Γ F h_x4 m7 q h) (fun _ m8 _ => ?_)
    refine zj_aload_n (j := 0) (i := 0) C rfl 0 rfl dX11_feed_56 ?_
    refine zj_getR C F zk_0 fl_X11_10 rfl rf_0_0 dX11_feed_57 ?_
    refine zj_getI C F 2 rfl zk_1 fl_X11_130 rfl dX11_feed_60 (fun h9 => ?_)
    exact zrt_i C Z h9 dX11_feed_63
noncomputable def f_X11_now (x0 : Int) (mem : zMem) : Option (Int × zMem) := if x0 = 0 then (some ((mem 11 5), mem)) else (if x0 = 1 then (zbind (f_X3_tableHour 20 mem) fun y4 m5 => some (y4, m5)) else (if x0 = 2 then (some ((mem 11 4), mem)) else (if x0 = 3 then (zbind (f_X7_allStones 11 mem) fun y9 m10 => some (y9, m10)) else (if x0 = 4 then (zbind (f_X7_allWealth 11 mem) fun y12 m13 => some (y12, m13)) else (if x0 = 5 then (some ((mem 11 6), mem)) else (if x0 = 6 then (some ((mem 11 7), mem)) else (if x0 = 7 then (some ((mem 11 8), mem)) else (some ((-1), mem)))))))))
set_option maxHeartbeats 4000000 in
theorem M_X11_now (l : Launch) (Γ : zG) (F : zFull Γ)  {x0 : Int} (h_x0 : ir x0) (mem : zMem) (q : Int × zMem) (h : f_X11_now x0 mem = some q) : zMet l yX11_now cX11_now 2 (some .int) 2 Γ 1 [.ref (zad Γ 0), .int (i32 x0)] mem q := by
  refine zMet_of (own := "ShadowHeirs") (by decide) rfl (Nat.le_of_ble_eq_true rfl) (fun X C Z => ?_)
  revert h
  show zJ X Γ 2 q (f_X11_now x0 mem) 0 [(0, .ref (zad Γ 0)), (1, .int (i32 x0))] [] mem
  unfold f_X11_now
  refine zj_iload_n (j := 1) (i := 1) C rfl 1 rfl dX11_now_0 ?_
  refine zj_split (fun c1 => ?_) (fun c1 => ?_)
  · refine zj_tableIn (off := 47) C 0 48 h_x0 c1 dX11_now_1 rfl rfl ?_
    refine zj_aload_n (j := 0) (i := 0) C rfl 0 rfl dX11_now_48 ?_
    refine zj_getR C F zk_0 fl_X11_26 rfl rf_0_2 dX11_now_49 ?_
    refine zj_getI C F 5 rfl zk_11 fl_X11_214 rfl dX11_now_52 (fun h2 => ?_)
    exact zrt_i C Z h2 dX11_now_55
  · refine zj_split (fun c3 => ?_) (fun c3 => ?_)
    · refine zj_tableIn (off := 55) C 1 56 h_x0 c3 dX11_now_1 rfl rfl ?_
      refine zj_aload_n (j := 0) (i := 0) C rfl 0 rfl dX11_now_56 ?_
      refine zj_getR C F zk_0 fl_X11_42 rfl rf_0_4 dX11_now_57 ?_
      refine zj_callVi C F Z [] [] cal_X3_tableHour calv_X3_tableHour ml_X11_193 zk_20 rfl rfl (by decide) (Nat.le_of_ble_eq_true rfl) rfl dX11_now_60 (fun q h => M_X3_tableHour l Γ F zk_20 mem q h) (fun y4 m5 h_y4 => ?_)
      exact zrt_i C Z h_y4 dX11_now_63
    · refine zj_split (fun c6 => ?_) (fun c6 => ?_)
      · refine zj_tableIn (off := 63) C 2 64 h_x0 c6 dX11_now_1 rfl rfl ?_
        refine zj_aload_n (j := 0) (i := 0) C rfl 0 rfl dX11_now_64 ?_
        refine zj_getR C F zk_0 fl_X11_26 rfl rf_0_2 dX11_now_65 ?_
        refine zj_getI C F 4 rfl zk_11 fl_X11_217 rfl dX11_now_68 (fun h7 => ?_)
        exact zrt_i C Z h7 dX11_now_71
      · refine zj_split (fun c8 => ?_) (fun c8 => ?_)
        · refine zj_tableIn (off := 71) C 3 72 h_x0 c8 dX11_now_1 rfl rfl ?_
          refine zj_aload_n (j := 0) (i := 0) C rfl 0 rfl dX11_now_72 ?_
          refine zj_getR C F zk_0 fl_X11_26 rfl rf_0_2 dX11_now_73 ?_
          refine zj_callVi C F Z [] [] cal_X7_allStones calv_X7_allStones ml_X11_220 zk_11 rfl rfl (by decide) (Nat.le_of_ble_eq_true rfl) rfl dX11_now_76 (fun q h => M_X7_allStones l Γ F zk_11 mem q h) (fun y9 m10 h_y9 => ?_)
          exact zrt_i C Z h_y9 dX11_now_79
        · refine zj_split (fun c11 => ?_) (fun c11 => ?_)
          · refine zj_tableIn (off := 79) C 4 80 h_x0 c11 dX11_now_1 rfl rfl ?_
            refine zj_aload_n (j := 0) (i := 0) C rfl 0 rfl dX11_now_80 ?_
            refine zj_getR C F zk_0 fl_X11_26 rfl rf_0_2 dX11_now_81 ?_
            refine zj_callVi C F Z [] [] cal_X7_allWealth calv_X7_allWealth ml_X11_223 zk_11 rfl rfl (by decide) (Nat.le_of_ble_eq_true rfl) rfl dX11_now_84 (fun q h => M_X7_allWealth l Γ F zk_11 mem q h) (fun y12 m13 h_y12 => ?_)
            exact zrt_i C Z h_y12 dX11_now_87
          · refine zj_split (fun c14 => ?_) (fun c14 => ?_)
            · refine zj_tableIn (off := 87) C 5 88 h_x0 c14 dX11_now_1 rfl rfl ?_
              refine zj_aload_n (j := 0) (i := 0) C rfl 0 rfl dX11_now_88 ?_
              refine zj_getR C F zk_0 fl_X11_26 rfl rf_0_2 dX11_now_89 ?_
              refine zj_getI C F 6 rfl zk_11 fl_X11_226 rfl dX11_now_92 (fun h15 => ?_)
              exact zrt_i C Z h15 dX11_now_95
            · refine zj_split (fun c16 => ?_) (fun c16 => ?_)
              · refine zj_tableIn (off := 95) C 6 96 h_x0 c16 dX11_now_1 rfl rfl ?_
                refine zj_aload_n (j := 0) (i := 0) C rfl 0 rfl dX11_now_96 ?_
                refine zj_getR C F zk_0 fl_X11_26 rfl rf_0_2 dX11_now_97 ?_
                refine zj_getI C F 7 rfl zk_11 fl_X11_229 rfl dX11_now_100 (fun h17 => ?_)
                exact zrt_i C Z h17 dX11_now_103
              · refine zj_split (fun c18 => ?_) (fun c18 => ?_)
                · refine zj_tableIn (off := 103) C 7 104 h_x0 c18 dX11_now_1 rfl rfl ?_
                  refine zj_aload_n (j := 0) (i := 0) C rfl 0 rfl dX11_now_104 ?_
                  refine zj_getR C F zk_0 fl_X11_26 rfl rf_0_2 dX11_now_105 ?_
                  refine zj_getI C F 8 rfl zk_11 fl_X11_232 rfl dX11_now_108 (fun h19 => ?_)
                  exact zrt_i C Z h19 dX11_now_111
                · refine zj_tableOut C 112 h_x0 dX11_now_1 (by omega) rfl ?_
                  refine zj_iconst C (-1) dX11_now_112 ?_
                  exact zrt_i C Z irc_m1 dX11_now_113
noncomputable def f_X11_byteAt (x0 : Int) (mem : zMem) : Option (Int × zMem) := zbind (f_X9_byteOn x0 mem) fun y1 m2 => some (y1, m2)
set_option maxHeartbeats 4000000 in
theorem M_X11_byteAt (l : Launch) (Γ : zG) (F : zFull Γ)  {x0 : Int} (h_x0 : ir x0) (mem : zMem) (q : Int × zMem) (h : f_X11_byteAt x0 mem = some q) : zMet l yX11_byteAt cX11_byteAt 2 (some .int) 2 Γ 1 [.ref (zad Γ 0), .int (i32 x0)] mem q := by
  refine zMet_of (own := "ShadowHeirs") (by decide) rfl (Nat.le_of_ble_eq_true rfl) (fun X C Z => ?_)
  revert h
  show zJ X Γ 2 q (f_X11_byteAt x0 mem) 0 [(0, .ref (zad Γ 0)), (1, .int (i32 x0))] [] mem
  unfold f_X11_byteAt
  refine zj_aload_n (j := 0) (i := 0) C rfl 0 rfl dX11_byteAt_0 ?_
  refine zj_getR C F zk_0 fl_X11_102 rfl rf_0_14 dX11_byteAt_1 ?_
  refine zj_iload_n (j := 1) (i := 1) C rfl 1 rfl dX11_byteAt_4 ?_
  refine zj_callVi C F Z [.int (i32 x0)] [] cal_X9_byteOn calv_X9_byteOn ml_X11_321 zk_102 rfl rfl (by decide) (Nat.le_of_ble_eq_true rfl) rfl dX11_byteAt_5 (fun q h => M_X9_byteOn l Γ F h_x0 mem q h) (fun y1 m2 h_y1 => ?_)
  exact zrt_i C Z h_y1 dX11_byteAt_8
noncomputable def b_X11_isTapeAsTold_0 (rec : Int → Int → zMem → Option (Int × zMem)) (v1 : Int) (v2 : Int) (mem : zMem) : Option (Int × zMem) := if (w32 (v2 + 1)) ≥ v1 then (some (1, mem)) else (zbind (f_X6_byteOn v2 mem) fun y2 m3 => zbind (f_X5_hasPerson 4 y2 m3) fun y4 m5 => if y4 = 0 then (some (0, m5)) else (zbind (f_X6_byteOn (w32 (v2 + 1)) m5) fun y7 m8 => if y7 ≤ 1 then (rec v1 (w32 (v2 + 2)) m8) else (some (0, m8))))
noncomputable def f_X11_isTapeAsTold_0 : Nat → Int → Int → zMem → Option (Int × zMem) := zfuel (fun _ _ _ => none) (b_X11_isTapeAsTold_0)
set_option maxHeartbeats 4000000 in
theorem L_X11_isTapeAsTold_0 (l : Launch) {Γ : zG} (F : zFull Γ) {X : zM} {q : Int × zMem} (C : zC X Γ "ShadowHeirs" cX11_isTapeAsTold 3) (Z : zRt X l Γ 2 1 (some .boolean) q) : ∀ n : Nat, ∀ (v1 : Int) (v2 : Int) (h_v1 : ir v1) (h_v2 : ir v2) (mem : zMem), zJ X Γ 3 q (f_X11_isTapeAsTold_0 n v1 v2 mem) 49 [(0, .ref (zad Γ 0)), (1, .int (i32 v1)), (2, .int (i32 v2))] [] mem := by
  intro n
  induction n with
  | zero => intros; exact zj_none
  | succ n ih =>
    intro v1 v2 h_v1 h_v2 mem
    show zJ X Γ 3 q (b_X11_isTapeAsTold_0 (f_X11_isTapeAsTold_0 n) v1 v2 mem) _ _ _ _
    unfold b_X11_isTapeAsTold_0
    refine zj_iload_n (j := 2) (i := 2) C rfl 2 rfl dX11_isTapeAsTold_49 ?_
    refine zj_iconst C 1 dX11_isTapeAsTold_50 ?_
    refine zj_iadd C dX11_isTapeAsTold_51 ?_
    refine zj_iload_n (j := 1) (i := 1) C rfl 1 rfl dX11_isTapeAsTold_52 ?_
    refine zj_icmp_ge C 96 (ir_w _) h_v1 dX11_isTapeAsTold_53 rfl (fun c1 => ?_) (fun c1 => ?_)
    · refine zj_iconst C 1 dX11_isTapeAsTold_96 ?_
      exact zrt_z C Z (Or.inr rfl) dX11_isTapeAsTold_97
    · refine zj_aload_n (j := 0) (i := 0) C rfl 0 rfl dX11_isTapeAsTold_56 ?_
      refine zj_getR C F zk_0 fl_X11_19 rfl rf_0_1 dX11_isTapeAsTold_57 ?_
      refine zj_aload_n (j := 0) (i := 0) C rfl 0 rfl dX11_isTapeAsTold_60 ?_
      refine zj_getR C F zk_0 fl_X11_10 rfl rf_0_0 dX11_isTapeAsTold_61 ?_
      refine zj_iload_n (j := 2) (i := 2) C rfl 2 rfl dX11_isTapeAsTold_64 ?_
      refine zj_callVi C F Z [.int (i32 v2)] [.ref (zad Γ 4)] cal_X6_byteOn calv_X6_byteOn ml_X11_307 zk_1 rfl rfl (by decide) (Nat.le_of_ble_eq_true rfl) rfl dX11_isTapeAsTold_65 (fun q h => M_X6_byteOn l Γ F h_v2 mem q h) (fun y2 m3 h_y2 => ?_)
      refine zj_callVi C F Z [.int (i32 y2)] [] cal_X5_hasPerson calv_X5_hasPerson ml_X11_200 zk_4 rfl rfl (by decide) (Nat.le_of_ble_eq_true rfl) rfl dX11_isTapeAsTold_68 (fun q h => M_X5_hasPerson l Γ F zk_4 h_y2 m3 q h) (fun y4 m5 h_y4 => ?_)
      refine zj_if_eq C 88 h_y4 dX11_isTapeAsTold_71 rfl (fun c6 => ?_) (fun c6 => ?_)
      · refine zj_iconst C 0 dX11_isTapeAsTold_88 ?_
        exact zrt_z C Z (Or.inl rfl) dX11_isTapeAsTold_89
      · refine zj_aload_n (j := 0) (i := 0) C rfl 0 rfl dX11_isTapeAsTold_74 ?_
        refine zj_getR C F zk_0 fl_X11_10 rfl rf_0_0 dX11_isTapeAsTold_75 ?_
        refine zj_iload_n (j := 2) (i := 2) C rfl 2 rfl dX11_isTapeAsTold_78 ?_
        refine zj_iconst C 1 dX11_isTapeAsTold_79 ?_
        refine zj_iadd C dX11_isTapeAsTold_80 ?_
        refine zj_callVi C F Z [.int (i32 (w32 (v2 + 1)))] [] cal_X6_byteOn calv_X6_byteOn ml_X11_307 zk_1 rfl rfl (by decide) (Nat.le_of_ble_eq_true rfl) rfl dX11_isTapeAsTold_81 (fun q h => M_X6_byteOn l Γ F (ir_w _) m5 q h) (fun y7 m8 h_y7 => ?_)
        refine zj_iconst C 1 dX11_isTapeAsTold_84 ?_
        refine zj_icmp_le C 90 h_y7 irc_1 dX11_isTapeAsTold_85 rfl (fun c9 => ?_) (fun c9 => ?_)
        · refine zj_iinc C 2 [(2, .int (i32 (w32 (v2 + 2)))), (0, .ref (zad Γ 0)), (1, .int (i32 v1))] rfl dX11_isTapeAsTold_90 (by decide) rfl ?_
          refine zj_goto (tgt := 49) C dX11_isTapeAsTold_93 rfl ?_
          exact zj_sub [1, 2, 0] rfl (ih v1 (w32 (v2 + 2)) h_v1 (ir_w _) m8)
        · refine zj_iconst C 0 dX11_isTapeAsTold_88 ?_
          exact zrt_z C Z (Or.inl rfl) dX11_isTapeAsTold_89
noncomputable def f_X11_isTapeAsTold  (mem : zMem) : Option (Int × zMem) := pipe (mem 1 2) fun y2 => if y2 < 3 then (some (0, mem)) else (if y2 > 13 then (some (0, mem)) else (if (zrem y2 2) = 0 then (some (0, mem)) else (zbind (f_X6_byteOn 0 mem) fun y6 m7 => zbind (f_X5_hasHouse 4 y6 m7) fun y8 m9 => if y8 = 0 then (some (0, m9)) else (f_X11_isTapeAsTold_0 zN y2 1 m9))))
set_option maxHeartbeats 4000000 in
theorem M_X11_isTapeAsTold (l : Launch) (Γ : zG) (F : zFull Γ)    (mem : zMem) (q : Int × zMem) (h : f_X11_isTapeAsTold  mem = some q) : zMet l yX11_isTapeAsTold cX11_isTapeAsTold 3 (some .boolean) 2 Γ 1 [.ref (zad Γ 0)] mem q := by
  refine zMet_of (own := "ShadowHeirs") (by decide) rfl (Nat.le_of_ble_eq_true rfl) (fun X C Z => ?_)
  revert h
  show zJ X Γ 3 q (f_X11_isTapeAsTold  mem) 0 [(0, .ref (zad Γ 0))] [] mem
  unfold f_X11_isTapeAsTold
  refine zj_aload_n (j := 0) (i := 0) C rfl 0 rfl dX11_isTapeAsTold_0 ?_
  refine zj_getR C F zk_0 fl_X11_10 rfl rf_0_0 dX11_isTapeAsTold_1 ?_
  refine zj_getI C F 2 rfl zk_1 fl_X11_130 rfl dX11_isTapeAsTold_4 (fun h1 => ?_)
  refine zj_pipeI (fun y2 e_y2 => ?_)
  have h_y2 := ir_eq e_y2 h1
  refine zj_istore_n (j := 1) (i := 1) C rfl [(1, .int (i32 y2)), (0, .ref (zad Γ 0))] dX11_isTapeAsTold_7 (by decide) rfl ?_
  refine zj_iload_n (j := 1) (i := 1) C rfl 0 rfl dX11_isTapeAsTold_8 ?_
  refine zj_iconst C 3 dX11_isTapeAsTold_9 ?_
  refine zj_icmp_lt C 25 h_y2 irc_3 dX11_isTapeAsTold_10 rfl (fun c3 => ?_) (fun c3 => ?_)
  · refine zj_iconst C 0 dX11_isTapeAsTold_25 ?_
    exact zrt_z C Z (Or.inl rfl) dX11_isTapeAsTold_26
  · refine zj_iload_n (j := 1) (i := 1) C rfl 0 rfl dX11_isTapeAsTold_13 ?_
    refine zj_bipush C 13 rfl dX11_isTapeAsTold_14 ?_
    refine zj_icmp_gt C 25 h_y2 irc_13 dX11_isTapeAsTold_16 rfl (fun c4 => ?_) (fun c4 => ?_)
    · refine zj_iconst C 0 dX11_isTapeAsTold_25 ?_
      exact zrt_z C Z (Or.inl rfl) dX11_isTapeAsTold_26
    · refine zj_iload_n (j := 1) (i := 1) C rfl 0 rfl dX11_isTapeAsTold_19 ?_
      refine zj_iconst C 2 dX11_isTapeAsTold_20 ?_
      refine zj_iremc C (by decide) dX11_isTapeAsTold_21 ?_
      refine zj_if_ne C 27 (ir_toInt _) dX11_isTapeAsTold_22 rfl (fun c5 => ?_) (fun c5 => ?_)
      · refine zj_iconst C 0 dX11_isTapeAsTold_25 ?_
        exact zrt_z C Z (Or.inl rfl) dX11_isTapeAsTold_26
      · refine zj_aload_n (j := 0) (i := 0) C rfl 1 rfl dX11_isTapeAsTold_27 ?_
        refine zj_getR C F zk_0 fl_X11_19 rfl rf_0_1 dX11_isTapeAsTold_28 ?_
        refine zj_aload_n (j := 0) (i := 0) C rfl 1 rfl dX11_isTapeAsTold_31 ?_
        refine zj_getR C F zk_0 fl_X11_10 rfl rf_0_0 dX11_isTapeAsTold_32 ?_
        refine zj_iconst C 0 dX11_isTapeAsTold_35 ?_
        refine zj_callVi C F Z [.int (i32 0)] [.ref (zad Γ 4)] cal_X6_byteOn calv_X6_byteOn ml_X11_307 zk_1 rfl rfl (by decide) (Nat.le_of_ble_eq_true rfl) rfl dX11_isTapeAsTold_36 (fun q h => M_X6_byteOn l Γ F irc_0 mem q h) (fun y6 m7 h_y6 => ?_)
        refine zj_callVi C F Z [.int (i32 y6)] [] cal_X5_hasHouse calv_X5_hasHouse ml_X11_170 zk_4 rfl rfl (by decide) (Nat.le_of_ble_eq_true rfl) rfl dX11_isTapeAsTold_39 (fun q h => M_X5_hasHouse l Γ F zk_4 h_y6 m7 q h) (fun y8 m9 h_y8 => ?_)
        refine zj_if_ne C 47 h_y8 dX11_isTapeAsTold_42 rfl (fun c10 => ?_) (fun c10 => ?_)
        · refine zj_iconst C 0 dX11_isTapeAsTold_45 ?_
          exact zrt_z C Z (Or.inl rfl) dX11_isTapeAsTold_46
        · refine zj_iconst C 1 dX11_isTapeAsTold_47 ?_
          refine zj_istore_n (j := 2) (i := 2) C rfl [(2, .int (i32 1)), (1, .int (i32 y2)), (0, .ref (zad Γ 0))] dX11_isTapeAsTold_48 (by decide) rfl ?_
          exact zj_sub [2, 1, 0] rfl ((L_X11_isTapeAsTold_0 l F C Z zN) y2 1 h_y2 irc_1 m9)
noncomputable def b_X12_person_0 (rec : Int → Int → Int → zMem → Option (Int × zMem)) (v1 : Int) (v3 : Int) (v4 : Int) (mem : zMem) : Option (Int × zMem) := if v4 ≥ 4 then (some (v3, mem)) else (zbind (f_X12_whyGo v1 v4 mem) fun y2 m3 => if y2 = 0 then (pipe (zor v3 (zshl 1 v4)) fun y5 => rec v1 y5 (w32 (v4 + 1)) m3) else (rec v1 v3 (w32 (v4 + 1)) m3))
noncomputable def f_X12_person_0 : Nat → Int → Int → Int → zMem → Option (Int × zMem) := zfuel (fun _ _ _ _ => none) (b_X12_person_0)
set_option maxHeartbeats 4000000 in
theorem L_X12_person_0 (l : Launch) {Γ : zG} (F : zFull Γ) {X : zM} {q : Int × zMem} (C : zC X Γ "ShadowHeirsModel" cX12_person 5) (Z : zRt X l Γ 6 1 (some .int) q) : ∀ n : Nat, ∀ (v1 : Int) (v3 : Int) (v4 : Int) (h_v1 : ir v1) (h_v3 : ir v3) (h_v4 : ir v4) (mem : zMem), zJ X Γ 5 q (f_X12_person_0 n v1 v3 v4 mem) 107 [(0, .ref (zad Γ 138)), (1, .int (i32 v1)), (3, .int (i32 v3)), (4, .int (i32 v4))] [] mem := by
  intro n
  induction n with
  | zero => intros; exact zj_none
  | succ n ih =>
    intro v1 v3 v4 h_v1 h_v3 h_v4 mem
    show zJ X Γ 5 q (b_X12_person_0 (f_X12_person_0 n) v1 v3 v4 mem) _ _ _ _
    unfold b_X12_person_0
    refine zj_iload C 3 rfl dX12_person_107 ?_
    refine zj_iconst C 4 dX12_person_109 ?_
    refine zj_icmp_ge C 136 h_v4 irc_4 dX12_person_110 rfl (fun c1 => ?_) (fun c1 => ?_)
    · refine zj_iload_n (j := 3) (i := 3) C rfl 2 rfl dX12_person_136 ?_
      exact zrt_i C Z h_v3 dX12_person_137
    · refine zj_aload_n (j := 0) (i := 0) C rfl 0 rfl dX12_person_113 ?_
      refine zj_iload_n (j := 1) (i := 1) C rfl 1 rfl dX12_person_114 ?_
      refine zj_iload C 3 rfl dX12_person_115 ?_
      refine zj_callVi C F Z [.int (i32 v1), .int (i32 v4)] [] cal_X12_whyGo calv_X12_whyGo ml_X12_283 zk_138 rfl rfl (by decide) (Nat.le_of_ble_eq_true rfl) rfl dX12_person_117 (fun q h => M_X12_whyGo l Γ F h_v1 h_v4 mem q h) (fun y2 m3 h_y2 => ?_)
      refine zj_if_ne C 130 h_y2 dX12_person_120 rfl (fun c4 => ?_) (fun c4 => ?_)
      · refine zj_iload_n (j := 3) (i := 3) C rfl 2 rfl dX12_person_123 ?_
        refine zj_iconst C 1 dX12_person_124 ?_
        refine zj_iload C 3 rfl dX12_person_125 ?_
        refine zj_ishl C dX12_person_127 ?_
        refine zj_ior C dX12_person_128 ?_
        refine zj_pipeI (fun y5 e_y5 => ?_)
        have h_y5 := ir_eq e_y5 (ir_toInt _)
        refine zj_istore_n (j := 3) (i := 3) C rfl [(3, .int (i32 y5)), (0, .ref (zad Γ 138)), (1, .int (i32 v1)), (4, .int (i32 v4))] dX12_person_129 (by decide) rfl ?_
        refine zj_iinc C 3 [(4, .int (i32 (w32 (v4 + 1)))), (3, .int (i32 y5)), (0, .ref (zad Γ 138)), (1, .int (i32 v1))] rfl dX12_person_130 (by decide) rfl ?_
        refine zj_goto (tgt := 107) C dX12_person_133 rfl ?_
        exact zj_sub [2, 3, 1, 0] rfl (ih v1 y5 (w32 (v4 + 1)) h_v1 h_y5 (ir_w _) m3)
      · refine zj_iinc C 3 [(4, .int (i32 (w32 (v4 + 1)))), (0, .ref (zad Γ 138)), (1, .int (i32 v1)), (3, .int (i32 v3))] rfl dX12_person_130 (by decide) rfl ?_
        refine zj_goto (tgt := 107) C dX12_person_133 rfl ?_
        exact zj_sub [1, 2, 3, 0] rfl (ih v1 v3 (w32 (v4 + 1)) h_v1 h_v3 (ir_w _) m3)
noncomputable def f_X12_person (x0 : Int) (x1 : Int) (mem : zMem) : Option (Int × zMem) := pipe (zup mem 138 0 0) fun m1 => zbind (f_X12_isPerson x0 m1) fun y2 m3 => if y2 = 0 then (zbind (f_X12_refuse m3) fun y5 m6 => some (y5, m6)) else (if x1 = 0 then (if ix 140 (w32 (116 + x0)) then some ((zrem (m3 140 (w32 (116 + x0))) 8), m3) else none) else (if x1 = 1 then (if ix 140 (w32 (116 + x0)) then some ((zdiv (m3 140 (w32 (116 + x0))) 8), m3) else none) else (if x1 = 2 then (if ix 140 (w32 (122 + x0)) then some ((m3 140 (w32 (122 + x0))), m3) else none) else (if x1 = 3 then (if ix 140 (w32 (116 + x0)) then zbind (f_X12_shadowsOn (m3 140 (w32 (116 + x0))) m3) fun y19 m20 => some (y19, m20) else none) else (if x1 = 4 then (f_X12_person_0 zN x0 0 0 m3) else (zbind (f_X12_refuse m3) fun y22 m23 => some (y22, m23)))))))
set_option maxHeartbeats 4000000 in
theorem M_X12_person (l : Launch) (Γ : zG) (F : zFull Γ)  {x0 : Int} {x1 : Int} (h_x0 : ir x0) (h_x1 : ir x1) (mem : zMem) (q : Int × zMem) (h : f_X12_person x0 x1 mem = some q) : zMet l yX12_person cX12_person 5 (some .int) 6 Γ 1 [.ref (zad Γ 138), .int (i32 x0), .int (i32 x1)] mem q := by
  refine zMet_of (own := "ShadowHeirsModel") (by decide) rfl (Nat.le_of_ble_eq_true rfl) (fun X C Z => ?_)
  revert h
  show zJ X Γ 5 q (f_X12_person x0 x1 mem) 0 [(0, .ref (zad Γ 138)), (1, .int (i32 x0)), (2, .int (i32 x1))] [] mem
  unfold f_X12_person
  refine zj_aload_n (j := 0) (i := 0) C rfl 0 rfl dX12_person_0 ?_
  refine zj_iconst C 0 dX12_person_1 ?_
  refine zj_putI C F 0 rfl zk_138 fl_X12_1 rfl fp_12_0 irc_0 dX12_person_2 ?_
  refine zj_pipeM (fun m1 e_m1 => ?_)
  refine zj_aload_n (j := 0) (i := 0) C rfl 0 rfl dX12_person_5 ?_
  refine zj_iload_n (j := 1) (i := 1) C rfl 1 rfl dX12_person_6 ?_
  refine zj_callVi C F Z [.int (i32 x0)] [] cal_X12_isPerson calv_X12_isPerson ml_X12_280 zk_138 rfl rfl (by decide) (Nat.le_of_ble_eq_true rfl) rfl dX12_person_7 (fun q h => M_X12_isPerson l Γ F h_x0 m1 q h) (fun y2 m3 h_y2 => ?_)
  refine zj_if_ne C 18 h_y2 dX12_person_10 rfl (fun c4 => ?_) (fun c4 => ?_)
  · refine zj_aload_n (j := 0) (i := 0) C rfl 0 rfl dX12_person_13 ?_
    refine zj_callVi C F Z [] [] cal_X12_refuse calv_X12_refuse ml_X12_271 zk_138 rfl rfl (by decide) (Nat.le_of_ble_eq_true rfl) rfl dX12_person_14 (fun q h => M_X12_refuse l Γ F  m3 q h) (fun y5 m6 h_y5 => ?_)
    exact zrt_i C Z h_y5 dX12_person_17
  · refine zj_iload_n (j := 2) (i := 2) C rfl 2 rfl dX12_person_18 ?_
    refine zj_split (fun c7 => ?_) (fun c7 => ?_)
    · refine zj_tableIn (off := 33) C 0 52 h_x1 c7 dX12_person_19 rfl rfl ?_
      refine zj_aload_n (j := 0) (i := 0) C rfl 0 rfl dX12_person_52 ?_
      refine zj_getR C F zk_138 fl_X12_98 rfl rf_138_14 dX12_person_53 ?_
      refine zj_bipush C 116 rfl dX12_person_56 ?_
      refine zj_iload_n (j := 1) (i := 1) C rfl 1 rfl dX12_person_58 ?_
      refine zj_iadd C dX12_person_59 ?_
      refine zj_iaload C F zk_140 (ir_w _) dX12_person_60 (fun c8 h9 => ?_)
      refine zj_bipush C 8 rfl dX12_person_61 ?_
      refine zj_iremc C (by decide) dX12_person_63 ?_
      exact zrt_i C Z (ir_toInt _) dX12_person_64
    · refine zj_split (fun c10 => ?_) (fun c10 => ?_)
      · refine zj_tableIn (off := 46) C 1 65 h_x1 c10 dX12_person_19 rfl rfl ?_
        refine zj_aload_n (j := 0) (i := 0) C rfl 0 rfl dX12_person_65 ?_
        refine zj_getR C F zk_138 fl_X12_98 rfl rf_138_14 dX12_person_66 ?_
        refine zj_bipush C 116 rfl dX12_person_69 ?_
        refine zj_iload_n (j := 1) (i := 1) C rfl 1 rfl dX12_person_71 ?_
        refine zj_iadd C dX12_person_72 ?_
        refine zj_iaload C F zk_140 (ir_w _) dX12_person_73 (fun c11 h12 => ?_)
        refine zj_bipush C 8 rfl dX12_person_74 ?_
        refine zj_idivc C (by decide) dX12_person_76 ?_
        exact zrt_i C Z (ir_toInt _) dX12_person_77
      · refine zj_split (fun c13 => ?_) (fun c13 => ?_)
        · refine zj_tableIn (off := 59) C 2 78 h_x1 c13 dX12_person_19 rfl rfl ?_
          refine zj_aload_n (j := 0) (i := 0) C rfl 0 rfl dX12_person_78 ?_
          refine zj_getR C F zk_138 fl_X12_98 rfl rf_138_14 dX12_person_79 ?_
          refine zj_bipush C 122 rfl dX12_person_82 ?_
          refine zj_iload_n (j := 1) (i := 1) C rfl 1 rfl dX12_person_84 ?_
          refine zj_iadd C dX12_person_85 ?_
          refine zj_iaload C F zk_140 (ir_w _) dX12_person_86 (fun c14 h15 => ?_)
          exact zrt_i C Z h15 dX12_person_87
        · refine zj_split (fun c16 => ?_) (fun c16 => ?_)
          · refine zj_tableIn (off := 69) C 3 88 h_x1 c16 dX12_person_19 rfl rfl ?_
            refine zj_aload_n (j := 0) (i := 0) C rfl 0 rfl dX12_person_88 ?_
            refine zj_aload_n (j := 0) (i := 0) C rfl 0 rfl dX12_person_89 ?_
            refine zj_getR C F zk_138 fl_X12_98 rfl rf_138_14 dX12_person_90 ?_
            refine zj_bipush C 116 rfl dX12_person_93 ?_
            refine zj_iload_n (j := 1) (i := 1) C rfl 1 rfl dX12_person_95 ?_
            refine zj_iadd C dX12_person_96 ?_
            refine zj_iaload C F zk_140 (ir_w _) dX12_person_97 (fun c17 h18 => ?_)
            refine zj_callVi C F Z [.int (i32 (m3 140 (w32 (116 + x0))))] [] cal_X12_shadowsOn calv_X12_shadowsOn ml_X12_265 zk_138 rfl rfl (by decide) (Nat.le_of_ble_eq_true rfl) rfl dX12_person_98 (fun q h => M_X12_shadowsOn l Γ F h18 m3 q h) (fun y19 m20 h_y19 => ?_)
            exact zrt_i C Z h_y19 dX12_person_101
          · refine zj_split (fun c21 => ?_) (fun c21 => ?_)
            · refine zj_tableIn (off := 83) C 4 102 h_x1 c21 dX12_person_19 rfl rfl ?_
              refine zj_iconst C 0 dX12_person_102 ?_
              refine zj_istore_n (j := 3) (i := 3) C rfl [(3, .int (i32 0)), (0, .ref (zad Γ 138)), (1, .int (i32 x0)), (2, .int (i32 x1))] dX12_person_103 (by decide) rfl ?_
              refine zj_iconst C 0 dX12_person_104 ?_
              refine zj_istore C [(4, .int (i32 0)), (3, .int (i32 0)), (0, .ref (zad Γ 138)), (1, .int (i32 x0)), (2, .int (i32 x1))] dX12_person_105 (by decide) rfl ?_
              exact zj_sub [2, 3, 1, 0] rfl ((L_X12_person_0 l F C Z zN) x0 0 0 h_x0 irc_0 irc_0 m3)
            · refine zj_tableOut C 138 h_x1 dX12_person_19 (by omega) rfl ?_
              refine zj_aload_n (j := 0) (i := 0) C rfl 0 rfl dX12_person_138 ?_
              refine zj_callVi C F Z [] [] cal_X12_refuse calv_X12_refuse ml_X12_271 zk_138 rfl rfl (by decide) (Nat.le_of_ble_eq_true rfl) rfl dX12_person_139 (fun q h => M_X12_refuse l Γ F  m3 q h) (fun y22 m23 h_y22 => ?_)
              exact zrt_i C Z h_y22 dX12_person_142
noncomputable def b_X12_crowd_0 (rec : Nat → Int → Int → Int → Int → Int → zMem → Option (Int × zMem)) (tag : Nat) (v3 : Int) (w4 : Int) (v6 : Int) (v7 : Int) (v8 : Int) (mem : zMem) : Option (Int × zMem) := match tag with
  | 0 => if ix 140 3 then if v7 ≥ (mem 140 3) then (some (v6, mem)) else (if ix 140 (w32 (116 + v7)) then zbind (f_X12_layFar (mem 140 (w32 (116 + v7))) mem) fun _ m6 => if ix 152 v7 then pipe (zup m6 152 v7 0) fun m8 => rec 1 v3 w4 v6 v7 0 m8 else none else none) else none
  | _ => if v8 ≥ 64 then (pipe (zup mem 138 31 0) fun m1002 => zbind (f_X12_finds v7 m1002) fun y1003 m1004 => if y1003 = 0 then (rec 0 v3 w4 v6 (w32 (v7 + 1)) 0 m1004) else (rec 0 v3 w4 (w32 (v6 + 1)) (w32 (v7 + 1)) 0 m1004)) else (zbind (f_X12_isCast w4 v8 mem) fun y1006 m1007 => if y1006 = 0 then (rec 1 v3 w4 v6 v7 (w32 (v8 + 1)) m1007) else (if ix 149 v8 then if (m1007 149 v8) > v3 then (rec 1 v3 w4 v6 v7 (w32 (v8 + 1)) m1007) else (if ix 152 v7 then if ix 152 v7 then pipe (zup m1007 152 v7 (zorL (m1007 152 v7) (zshlL 1 v8))) fun m1015 => rec 1 v3 w4 v6 v7 (w32 (v8 + 1)) m1015 else none else none) else none))
noncomputable def f_X12_crowd_0 : Nat → Nat → Int → Int → Int → Int → Int → zMem → Option (Int × zMem) := zfuel (fun _ _ _ _ _ _ _ => none) (b_X12_crowd_0)
set_option maxHeartbeats 4000000 in
theorem L_X12_crowd_0 (l : Launch) {Γ : zG} (F : zFull Γ) {X : zM} {q : Int × zMem} (C : zC X Γ "ShadowHeirsModel" cX12_crowd 9) (Z : zRt X l Γ 22 1 (some .int) q) : ∀ n : Nat, (∀ (v3 : Int) (w4 : Int) (v6 : Int) (v7 : Int) (v8 : Int) (h_v3 : ir v3) (h_w4 : lr w4) (h_v6 : ir v6) (h_v7 : ir v7) (mem : zMem), zJ X Γ 9 q (f_X12_crowd_0 n 0 v3 w4 v6 v7 v8 mem) 71 [(0, .ref (zad Γ 138)), (3, .int (i32 v3)), (4, .long (i64 w4)), (6, .int (i32 v6)), (7, .int (i32 v7))] [] mem) ∧ (∀ (v3 : Int) (w4 : Int) (v6 : Int) (v7 : Int) (v8 : Int) (h_v3 : ir v3) (h_w4 : lr w4) (h_v6 : ir v6) (h_v7 : ir v7) (h_v8 : ir v8) (mem : zMem), zJ X Γ 9 q (f_X12_crowd_0 n 1 v3 w4 v6 v7 v8 mem) 107 [(0, .ref (zad Γ 138)), (3, .int (i32 v3)), (4, .long (i64 w4)), (6, .int (i32 v6)), (7, .int (i32 v7)), (8, .int (i32 v8))] [] mem) := by
  intro n
  induction n with
  | zero => exact ⟨(by intros; exact zj_none), (by intros; exact zj_none)⟩
  | succ n ih =>
    refine ⟨?_, ?_⟩
    · intro v3 w4 v6 v7 v8 h_v3 h_w4 h_v6 h_v7 mem
      show zJ X Γ 9 q (b_X12_crowd_0 (f_X12_crowd_0 n) 0 v3 w4 v6 v7 v8 mem) _ _ _ _
      unfold b_X12_crowd_0
      refine zj_iload C 4 rfl dX12_crowd_71 ?_
      refine zj_aload_n (j := 0) (i := 0) C rfl 0 rfl dX12_crowd_73 ?_
      refine zj_getR C F zk_138 fl_X12_98 rfl rf_138_14 dX12_crowd_74 ?_
      refine zj_iconst C 3 dX12_crowd_77 ?_
      refine zj_iaload C F zk_140 irc_3 dX12_crowd_78 (fun c1 h2 => ?_)
      refine zj_icmp_ge C 178 h_v7 h2 dX12_crowd_79 rfl (fun c3 => ?_) (fun c3 => ?_)
      · refine zj_iload C 3 rfl dX12_crowd_178 ?_
        exact zrt_i C Z h_v6 dX12_crowd_180
      · refine zj_aload_n (j := 0) (i := 0) C rfl 0 rfl dX12_crowd_82 ?_
        refine zj_aload_n (j := 0) (i := 0) C rfl 0 rfl dX12_crowd_83 ?_
        refine zj_getR C F zk_138 fl_X12_98 rfl rf_138_14 dX12_crowd_84 ?_
        refine zj_bipush C 116 rfl dX12_crowd_87 ?_
        refine zj_iload C 4 rfl dX12_crowd_89 ?_
        refine zj_iadd C dX12_crowd_91 ?_
        refine zj_iaload C F zk_140 (ir_w _) dX12_crowd_92 (fun c4 h5 => ?_)
        refine zj_callVv C F Z [.int (i32 (mem 140 (w32 (116 + v7))))] [] cal_X12_layFar calv_X12_layFar ml_X12_326 zk_138 rfl rfl (by decide) (Nat.le_of_ble_eq_true rfl) rfl dX12_crowd_93 (fun q h => M_X12_layFar l Γ F h5 mem q h) (fun _ m6 _ => ?_)
        refine zj_aload_n (j := 0) (i := 0) C rfl 0 rfl dX12_crowd_96 ?_
        refine zj_getR C F zk_138 fl_X12_139 rfl rf_138_30 dX12_crowd_97 ?_
        refine zj_iload C 4 rfl dX12_crowd_100 ?_
        refine zj_lconst (n := 0) C 0 rfl dX12_crowd_102 ?_
        refine zj_lastore C F zk_152 h_v7 lrc_0 dX12_crowd_103 (fun c7 => ?_)
        refine zj_pipeM (fun m8 e_m8 => ?_)
        refine zj_iconst C 0 dX12_crowd_104 ?_
        refine zj_istore C [(8, .int (i32 0)), (0, .ref (zad Γ 138)), (3, .int (i32 v3)), (4, .long (i64 w4)), (6, .int (i32 v6)), (7, .int (i32 v7))] dX12_crowd_105 (by decide) rfl ?_
        exact zj_sub [1, 2, 3, 4, 5, 0] rfl (ih.2 v3 w4 v6 v7 0 h_v3 h_w4 h_v6 h_v7 irc_0 m8)
    · intro v3 w4 v6 v7 v8 h_v3 h_w4 h_v6 h_v7 h_v8 mem
      show zJ X Γ 9 q (b_X12_crowd_0 (f_X12_crowd_0 n) 1 v3 w4 v6 v7 v8 mem) _ _ _ _
      unfold b_X12_crowd_0
      refine zj_iload C 5 rfl dX12_crowd_107 ?_
      refine zj_bipush C 64 rfl dX12_crowd_109 ?_
      refine zj_icmp_ge C 155 h_v8 irc_64 dX12_crowd_111 rfl (fun c1001 => ?_) (fun c1001 => ?_)
      · refine zj_aload_n (j := 0) (i := 0) C rfl 0 rfl dX12_crowd_155 ?_
        refine zj_lconst (n := 0) C 0 rfl dX12_crowd_156 ?_
        refine zj_putL C F 31 rfl zk_138 fl_X12_329 rfl fp_12_31 lrc_0 dX12_crowd_157 ?_
        refine zj_pipeM (fun m1002 e_m1002 => ?_)
        refine zj_aload_n (j := 0) (i := 0) C rfl 0 rfl dX12_crowd_160 ?_
        refine zj_iload C 4 rfl dX12_crowd_161 ?_
        refine zj_callVi C F Z [.int (i32 v7)] [] cal_X12_finds calv_X12_finds ml_X12_334 zk_138 rfl rfl (by decide) (Nat.le_of_ble_eq_true rfl) rfl dX12_crowd_163 (fun q h => M_X12_finds l Γ F h_v7 m1002 q h) (fun y1003 m1004 h_y1003 => ?_)
        refine zj_if_eq C 172 h_y1003 dX12_crowd_166 rfl (fun c1005 => ?_) (fun c1005 => ?_)
        · refine zj_iinc C 4 [(7, .int (i32 (w32 (v7 + 1)))), (0, .ref (zad Γ 138)), (3, .int (i32 v3)), (4, .long (i64 w4)), (6, .int (i32 v6)), (8, .int (i32 v8))] rfl dX12_crowd_172 (by decide) rfl ?_
          refine zj_goto (tgt := 71) C dX12_crowd_175 rfl ?_
          exact zj_sub [1, 2, 3, 4, 0] rfl (ih.1 v3 w4 v6 (w32 (v7 + 1)) 0 h_v3 h_w4 h_v6 (ir_w _) m1004)
        · refine zj_iinc C 3 [(6, .int (i32 (w32 (v6 + 1)))), (0, .ref (zad Γ 138)), (3, .int (i32 v3)), (4, .long (i64 w4)), (7, .int (i32 v7)), (8, .int (i32 v8))] rfl dX12_crowd_169 (by decide) rfl ?_
          refine zj_iinc C 4 [(7, .int (i32 (w32 (v7 + 1)))), (6, .int (i32 (w32 (v6 + 1)))), (0, .ref (zad Γ 138)), (3, .int (i32 v3)), (4, .long (i64 w4)), (8, .int (i32 v8))] rfl dX12_crowd_172 (by decide) rfl ?_
          refine zj_goto (tgt := 71) C dX12_crowd_175 rfl ?_
          exact zj_sub [2, 3, 4, 1, 0] rfl (ih.1 v3 w4 (w32 (v6 + 1)) (w32 (v7 + 1)) 0 h_v3 h_w4 (ir_w _) (ir_w _) m1004)
      · refine zj_lload C 2 rfl dX12_crowd_114 ?_
        refine zj_iload C 5 rfl dX12_crowd_116 ?_
        refine zj_callSi C Z [.long (i64 w4), .int (i32 v8)] [] cal_X12_isCast sta_X12_isCast ml_X12_255 rfl (by decide) (Nat.le_of_ble_eq_true rfl) rfl dX12_crowd_118 (fun q h => M_X12_isCast l Γ F h_w4 h_v8 mem q h) (fun y1006 m1007 h_y1006 => ?_)
        refine zj_if_eq C 149 h_y1006 dX12_crowd_121 rfl (fun c1008 => ?_) (fun c1008 => ?_)
        · refine zj_iinc C 5 [(8, .int (i32 (w32 (v8 + 1)))), (0, .ref (zad Γ 138)), (3, .int (i32 v3)), (4, .long (i64 w4)), (6, .int (i32 v6)), (7, .int (i32 v7))] rfl dX12_crowd_149 (by decide) rfl ?_
          refine zj_goto (tgt := 107) C dX12_crowd_152 rfl ?_
          exact zj_sub [1, 2, 3, 4, 5, 0] rfl (ih.2 v3 w4 v6 v7 (w32 (v8 + 1)) h_v3 h_w4 h_v6 h_v7 (ir_w _) m1007)
        · refine zj_aload_n (j := 0) (i := 0) C rfl 0 rfl dX12_crowd_124 ?_
          refine zj_getR C F zk_138 fl_X12_130 rfl rf_138_27 dX12_crowd_125 ?_
          refine zj_iload C 5 rfl dX12_crowd_128 ?_
          refine zj_iaload C F zk_149 h_v8 dX12_crowd_130 (fun c1009 h1010 => ?_)
          refine zj_iload_n (j := 3) (i := 3) C rfl 1 rfl dX12_crowd_131 ?_
          refine zj_icmp_gt C 149 h1010 h_v3 dX12_crowd_132 rfl (fun c1011 => ?_) (fun c1011 => ?_)
          · refine zj_iinc C 5 [(8, .int (i32 (w32 (v8 + 1)))), (0, .ref (zad Γ 138)), (3, .int (i32 v3)), (4, .long (i64 w4)), (6, .int (i32 v6)), (7, .int (i32 v7))] rfl dX12_crowd_149 (by decide) rfl ?_
            refine zj_goto (tgt := 107) C dX12_crowd_152 rfl ?_
            exact zj_sub [1, 2, 3, 4, 5, 0] rfl (ih.2 v3 w4 v6 v7 (w32 (v8 + 1)) h_v3 h_w4 h_v6 h_v7 (ir_w _) m1007)
          · refine zj_aload_n (j := 0) (i := 0) C rfl 0 rfl dX12_crowd_135 ?_
            refine zj_getR C F zk_138 fl_X12_139 rfl rf_138_30 dX12_crowd_136 ?_
            refine zj_iload C 4 rfl dX12_crowd_139 ?_
            refine zj_dup2 C rfl rfl dX12_crowd_141 ?_
            refine zj_laload C F zk_152 h_v7 dX12_crowd_142 (fun c1012 h1013 => ?_)
            refine zj_lconst (n := 1) C 1 rfl dX12_crowd_143 ?_
            refine zj_iload C 5 rfl dX12_crowd_144 ?_
            refine zj_lshl C dX12_crowd_146 ?_
            refine zj_lor C dX12_crowd_147 ?_
            refine zj_lastore C F zk_152 h_v7 (lr_toInt _) dX12_crowd_148 (fun c1014 => ?_)
            refine zj_pipeM (fun m1015 e_m1015 => ?_)
            refine zj_iinc C 5 [(8, .int (i32 (w32 (v8 + 1)))), (0, .ref (zad Γ 138)), (3, .int (i32 v3)), (4, .long (i64 w4)), (6, .int (i32 v6)), (7, .int (i32 v7))] rfl dX12_crowd_149 (by decide) rfl ?_
            refine zj_goto (tgt := 107) C dX12_crowd_152 rfl ?_
            exact zj_sub [1, 2, 3, 4, 5, 0] rfl (ih.2 v3 w4 v6 v7 (w32 (v8 + 1)) h_v3 h_w4 h_v6 h_v7 (ir_w _) m1015)
noncomputable def b_X12_crowd_1 (rec : Int → Int → Int → zMem → Option (Int × zMem)) (v3 : Int) (w4 : Int) (v6 : Int) (mem : zMem) : Option (Int × zMem) := if v6 ≥ 64 then (f_X12_crowd_0 zN 0 v3 w4 0 0 0 mem) else (if ix 151 v6 then pipe (zup mem 151 v6 (-1)) fun m3 => rec v3 w4 (w32 (v6 + 1)) m3 else none)
noncomputable def f_X12_crowd_1 : Nat → Int → Int → Int → zMem → Option (Int × zMem) := zfuel (fun _ _ _ _ => none) (b_X12_crowd_1)
set_option maxHeartbeats 4000000 in
theorem L_X12_crowd_1 (l : Launch) {Γ : zG} (F : zFull Γ) {X : zM} {q : Int × zMem} (C : zC X Γ "ShadowHeirsModel" cX12_crowd 9) (Z : zRt X l Γ 22 1 (some .int) q) : ∀ n : Nat, ∀ (v3 : Int) (w4 : Int) (v6 : Int) (h_v3 : ir v3) (h_w4 : lr w4) (h_v6 : ir v6) (mem : zMem), zJ X Γ 9 q (f_X12_crowd_1 n v3 w4 v6 mem) 44 [(0, .ref (zad Γ 138)), (3, .int (i32 v3)), (4, .long (i64 w4)), (6, .int (i32 v6))] [] mem := by
  intro n
  induction n with
  | zero => intros; exact zj_none
  | succ n ih =>
    intro v3 w4 v6 h_v3 h_w4 h_v6 mem
    show zJ X Γ 9 q (b_X12_crowd_1 (f_X12_crowd_1 n) v3 w4 v6 mem) _ _ _ _
    unfold b_X12_crowd_1
    refine zj_iload C 3 rfl dX12_crowd_44 ?_
    refine zj_bipush C 64 rfl dX12_crowd_46 ?_
    refine zj_icmp_ge C 65 h_v6 irc_64 dX12_crowd_48 rfl (fun c1 => ?_) (fun c1 => ?_)
    · refine zj_iconst C 0 dX12_crowd_65 ?_
      refine zj_istore C [(6, .int (i32 0)), (0, .ref (zad Γ 138)), (3, .int (i32 v3)), (4, .long (i64 w4))] dX12_crowd_66 (by decide) rfl ?_
      refine zj_iconst C 0 dX12_crowd_68 ?_
      refine zj_istore C [(7, .int (i32 0)), (6, .int (i32 0)), (0, .ref (zad Γ 138)), (3, .int (i32 v3)), (4, .long (i64 w4))] dX12_crowd_69 (by decide) rfl ?_
      exact zj_sub [2, 3, 4, 1, 0] rfl ((L_X12_crowd_0 l F C Z zN).1 v3 w4 0 0 0 h_v3 h_w4 irc_0 irc_0 mem)
    · refine zj_aload_n (j := 0) (i := 0) C rfl 0 rfl dX12_crowd_51 ?_
      refine zj_getR C F zk_138 fl_X12_136 rfl rf_138_29 dX12_crowd_52 ?_
      refine zj_iload C 3 rfl dX12_crowd_55 ?_
      refine zj_iconst C (-1) dX12_crowd_57 ?_
      refine zj_iastore C F zk_151 h_v6 irc_m1 dX12_crowd_58 (fun c2 => ?_)
      refine zj_pipeM (fun m3 e_m3 => ?_)
      refine zj_iinc C 3 [(6, .int (i32 (w32 (v6 + 1)))), (0, .ref (zad Γ 138)), (3, .int (i32 v3)), (4, .long (i64 w4))] rfl dX12_crowd_59 (by decide) rfl ?_
      refine zj_goto (tgt := 44) C dX12_crowd_62 rfl ?_
      exact zj_sub [1, 2, 3, 0] rfl (ih v3 w4 (w32 (v6 + 1)) h_v3 h_w4 (ir_w _) m3)
noncomputable def f_X12_crowd (x0 : Int) (x1 : Int) (x2 : Int) (mem : zMem) : Option (Int × zMem) := pipe (zup mem 138 0 0) fun m1 => zbind (f_X12_isHouse x0 m1) fun y2 m3 => if y2 = 0 then (some ((-1), m3)) else (zbind (f_X12_isSun x1 m3) fun y5 m6 => if y5 = 0 then (some ((-1), m6)) else (zbind (f_X12_isIn x2 0 30 m6) fun y8 m9 => if y8 = 0 then (some ((-1), m9)) else (zbind (f_X12_shadowOf x0 x1 m9) fun y11 m12 => f_X12_crowd_1 zN x2 y11 0 m12)))
set_option maxHeartbeats 4000000 in
theorem M_X12_crowd (l : Launch) (Γ : zG) (F : zFull Γ)  {x0 : Int} {x1 : Int} {x2 : Int} (h_x0 : ir x0) (h_x1 : ir x1) (h_x2 : ir x2) (mem : zMem) (q : Int × zMem) (h : f_X12_crowd x0 x1 x2 mem = some q) : zMet l yX12_crowd cX12_crowd 9 (some .int) 22 Γ 1 [.ref (zad Γ 138), .int (i32 x0), .int (i32 x1), .int (i32 x2)] mem q := by
  refine zMet_of (own := "ShadowHeirsModel") (by decide) rfl (Nat.le_of_ble_eq_true rfl) (fun X C Z => ?_)
  revert h
  show zJ X Γ 9 q (f_X12_crowd x0 x1 x2 mem) 0 [(0, .ref (zad Γ 138)), (1, .int (i32 x0)), (2, .int (i32 x1)), (3, .int (i32 x2))] [] mem
  unfold f_X12_crowd
  refine zj_aload_n (j := 0) (i := 0) C rfl 0 rfl dX12_crowd_0 ?_
  refine zj_iconst C 0 dX12_crowd_1 ?_
  refine zj_putI C F 0 rfl zk_138 fl_X12_1 rfl fp_12_0 irc_0 dX12_crowd_2 ?_
  refine zj_pipeM (fun m1 e_m1 => ?_)
  refine zj_aload_n (j := 0) (i := 0) C rfl 0 rfl dX12_crowd_5 ?_
  refine zj_iload_n (j := 1) (i := 1) C rfl 1 rfl dX12_crowd_6 ?_
  refine zj_callVi C F Z [.int (i32 x0)] [] cal_X12_isHouse calv_X12_isHouse ml_X12_268 zk_138 rfl rfl (by decide) (Nat.le_of_ble_eq_true rfl) rfl dX12_crowd_7 (fun q h => M_X12_isHouse l Γ F h_x0 m1 q h) (fun y2 m3 h_y2 => ?_)
  refine zj_if_eq C 31 h_y2 dX12_crowd_10 rfl (fun c4 => ?_) (fun c4 => ?_)
  · refine zj_iconst C (-1) dX12_crowd_31 ?_
    exact zrt_i C Z irc_m1 dX12_crowd_32
  · refine zj_aload_n (j := 0) (i := 0) C rfl 0 rfl dX12_crowd_13 ?_
    refine zj_iload_n (j := 2) (i := 2) C rfl 2 rfl dX12_crowd_14 ?_
    refine zj_callVi C F Z [.int (i32 x1)] [] cal_X12_isSun calv_X12_isSun ml_X12_322 zk_138 rfl rfl (by decide) (Nat.le_of_ble_eq_true rfl) rfl dX12_crowd_15 (fun q h => M_X12_isSun l Γ F h_x1 m3 q h) (fun y5 m6 h_y5 => ?_)
    refine zj_if_eq C 31 h_y5 dX12_crowd_18 rfl (fun c7 => ?_) (fun c7 => ?_)
    · refine zj_iconst C (-1) dX12_crowd_31 ?_
      exact zrt_i C Z irc_m1 dX12_crowd_32
    · refine zj_iload_n (j := 3) (i := 3) C rfl 3 rfl dX12_crowd_21 ?_
      refine zj_iconst C 0 dX12_crowd_22 ?_
      refine zj_bipush C 30 rfl dX12_crowd_23 ?_
      refine zj_callSi C Z [.int (i32 x2), .int (i32 0), .int (i32 30)] [] cal_X12_isIn sta_X12_isIn ml_X12_75 rfl (by decide) (Nat.le_of_ble_eq_true rfl) rfl dX12_crowd_25 (fun q h => M_X12_isIn l Γ F h_x2 irc_0 irc_30 m6 q h) (fun y8 m9 h_y8 => ?_)
      refine zj_if_ne C 33 h_y8 dX12_crowd_28 rfl (fun c10 => ?_) (fun c10 => ?_)
      · refine zj_iconst C (-1) dX12_crowd_31 ?_
        exact zrt_i C Z irc_m1 dX12_crowd_32
      · refine zj_aload_n (j := 0) (i := 0) C rfl 0 rfl dX12_crowd_33 ?_
        refine zj_iload_n (j := 1) (i := 1) C rfl 1 rfl dX12_crowd_34 ?_
        refine zj_iload_n (j := 2) (i := 2) C rfl 2 rfl dX12_crowd_35 ?_
        refine zj_callVl C F Z [.int (i32 x0), .int (i32 x1)] [] cal_X12_shadowOf calv_X12_shadowOf ml_X12_251 zk_138 rfl rfl (by decide) (Nat.le_of_ble_eq_true rfl) rfl dX12_crowd_36 (fun q h => M_X12_shadowOf l Γ F h_x0 h_x1 m9 q h) (fun y11 m12 h_y11 => ?_)
        refine zj_lstore C [(4, .long (i64 y11)), (0, .ref (zad Γ 138)), (1, .int (i32 x0)), (2, .int (i32 x1)), (3, .int (i32 x2))] dX12_crowd_39 (by decide) rfl ?_
        refine zj_iconst C 0 dX12_crowd_41 ?_
        refine zj_istore C [(6, .int (i32 0)), (4, .long (i64 y11)), (0, .ref (zad Γ 138)), (1, .int (i32 x0)), (2, .int (i32 x1)), (3, .int (i32 x2))] dX12_crowd_42 (by decide) rfl ?_
        exact zj_sub [2, 5, 1, 0] rfl ((L_X12_crowd_1 l F C Z zN) x2 y11 0 h_x2 h_y11 irc_0 m12)
noncomputable def f_X12_writeNext (x0 : Int) (mem : zMem) : Option (Int × zMem) := zbind (f_X12_write 32 mem) fun _ m1 => zbind (f_X12_writeWord x0 m1) fun _ m2 => some (0, m2)
set_option maxHeartbeats 4000000 in
theorem M_X12_writeNext (l : Launch) (Γ : zG) (F : zFull Γ)  {x0 : Int} (h_x0 : lr x0) (mem : zMem) (q : Int × zMem) (h : f_X12_writeNext x0 mem = some q) : zMet l yX12_writeNext cX12_writeNext 3 none 22 Γ 0 [.ref (zad Γ 138), .long (i64 x0)] mem q := by
  refine zMet_of (own := "ShadowHeirsModel") (by decide) rfl (Nat.le_of_ble_eq_true rfl) (fun X C Z => ?_)
  revert h
  show zJ X Γ 3 q (f_X12_writeNext x0 mem) 0 [(0, .ref (zad Γ 138)), (1, .long (i64 x0))] [] mem
  unfold f_X12_writeNext
  refine zj_aload_n (j := 0) (i := 0) C rfl 0 rfl dX12_writeNext_0 ?_
  refine zj_bipush C 32 rfl dX12_writeNext_1 ?_
  refine zj_callVv C F Z [.int (i32 32)] [] cal_X12_write calv_X12_write ml_X12_353 zk_138 rfl rfl (by decide) (Nat.le_of_ble_eq_true rfl) rfl dX12_writeNext_3 (fun q h => M_X12_write l Γ F irc_32 mem q h) (fun _ m1 _ => ?_)
  refine zj_aload_n (j := 0) (i := 0) C rfl 0 rfl dX12_writeNext_6 ?_
  refine zj_lload_n (j := 1) (i := 1) C rfl 1 rfl dX12_writeNext_7 ?_
  refine zj_callVv C F Z [.long (i64 x0)] [] cal_X12_writeWord calv_X12_writeWord ml_X12_349 zk_138 rfl rfl (by decide) (Nat.le_of_ble_eq_true rfl) rfl dX12_writeNext_8 (fun q h => M_X12_writeWord l Γ F h_x0 m1 q h) (fun _ m2 _ => ?_)
  exact zrt_v C Z dX12_writeNext_11
noncomputable def f_X12_writeCount (x0 : Int) (mem : zMem) : Option (Int × zMem) := zbind (f_X12_write 32 mem) fun _ m1 => zbind (f_X12_writeNumber x0 m1) fun _ m2 => some (0, m2)
set_option maxHeartbeats 4000000 in
theorem M_X12_writeCount (l : Launch) (Γ : zG) (F : zFull Γ)  {x0 : Int} (h_x0 : ir x0) (mem : zMem) (q : Int × zMem) (h : f_X12_writeCount x0 mem = some q) : zMet l yX12_writeCount cX12_writeCount 2 none 22 Γ 0 [.ref (zad Γ 138), .int (i32 x0)] mem q := by
  refine zMet_of (own := "ShadowHeirsModel") (by decide) rfl (Nat.le_of_ble_eq_true rfl) (fun X C Z => ?_)
  revert h
  show zJ X Γ 2 q (f_X12_writeCount x0 mem) 0 [(0, .ref (zad Γ 138)), (1, .int (i32 x0))] [] mem
  unfold f_X12_writeCount
  refine zj_aload_n (j := 0) (i := 0) C rfl 0 rfl dX12_writeCount_0 ?_
  refine zj_bipush C 32 rfl dX12_writeCount_1 ?_
  refine zj_callVv C F Z [.int (i32 32)] [] cal_X12_write calv_X12_write ml_X12_353 zk_138 rfl rfl (by decide) (Nat.le_of_ble_eq_true rfl) rfl dX12_writeCount_3 (fun q h => M_X12_write l Γ F irc_32 mem q h) (fun _ m1 _ => ?_)
  refine zj_aload_n (j := 0) (i := 0) C rfl 0 rfl dX12_writeCount_6 ?_
  refine zj_iload_n (j := 1) (i := 1) C rfl 1 rfl dX12_writeCount_7 ?_
  refine zj_callVv C F Z [.int (i32 x0)] [] cal_X12_writeNumber calv_X12_writeNumber ml_X12_356 zk_138 rfl rfl (by decide) (Nat.le_of_ble_eq_true rfl) rfl dX12_writeCount_8 (fun q h => M_X12_writeNumber l Γ F h_x0 m1 q h) (fun _ m2 _ => ?_)
  exact zrt_v C Z dX12_writeCount_11
noncomputable def b_X12_slip_0 (rec : Int → Int → zMem → Option (Int × zMem)) (v2 : Int) (v3 : Int) (mem : zMem) : Option (Int × zMem) := if v3 ≥ 5 then (if v3 = 5 then (some ((mem 138 36), mem)) else (zbind (f_X12_wordOf 19 mem) fun y4 m5 => zbind (f_X12_writeNext y4 m5) fun _ m6 => if ix 145 v3 then zbind (f_X12_writeNext (m6 145 v3) m6) fun _ m9 => some ((m9 138 36), m9) else none)) else (zbind (f_X12_has v2 v3 mem) fun y11 m12 => if y11 = 0 then (rec v2 (w32 (v3 + 1)) m12) else (if v3 = 5 then (some ((m12 138 36), m12)) else (zbind (f_X12_wordOf 19 m12) fun y16 m17 => zbind (f_X12_writeNext y16 m17) fun _ m18 => if ix 145 v3 then zbind (f_X12_writeNext (m18 145 v3) m18) fun _ m21 => some ((m21 138 36), m21) else none)))
noncomputable def f_X12_slip_0 : Nat → Int → Int → zMem → Option (Int × zMem) := zfuel (fun _ _ _ => none) (b_X12_slip_0)
set_option maxHeartbeats 4000000 in
theorem L_X12_slip_0 (l : Launch) {Γ : zG} (F : zFull Γ) {X : zM} {q : Int × zMem} (C : zC X Γ "ShadowHeirsModel" cX12_slip 4) (Z : zRt X l Γ 23 1 (some .int) q) : ∀ n : Nat, ∀ (v2 : Int) (v3 : Int) (h_v2 : ir v2) (h_v3 : ir v3) (mem : zMem), zJ X Γ 4 q (f_X12_slip_0 n v2 v3 mem) 134 [(0, .ref (zad Γ 138)), (2, .int (i32 v2)), (3, .int (i32 v3))] [] mem := by
  intro n
  induction n with
  | zero => intros; exact zj_none
  | succ n ih =>
    intro v2 v3 h_v2 h_v3 mem
    show zJ X Γ 4 q (b_X12_slip_0 (f_X12_slip_0 n) v2 v3 mem) _ _ _ _
    unfold b_X12_slip_0
    refine zj_iload_n (j := 3) (i := 3) C rfl 2 rfl dX12_slip_134 ?_
    refine zj_iconst C 5 dX12_slip_135 ?_
    refine zj_icmp_ge C 153 h_v3 irc_5 dX12_slip_136 rfl (fun c1 => ?_) (fun c1 => ?_)
    · refine zj_iload_n (j := 3) (i := 3) C rfl 2 rfl dX12_slip_153 ?_
      refine zj_iconst C 5 dX12_slip_154 ?_
      refine zj_icmp_ne C 163 h_v3 irc_5 dX12_slip_155 rfl (fun c2 => ?_) (fun c2 => ?_)
      · refine zj_aload_n (j := 0) (i := 0) C rfl 0 rfl dX12_slip_158 ?_
        refine zj_getI C F 36 rfl zk_138 fl_X12_346 rfl dX12_slip_159 (fun h3 => ?_)
        exact zrt_i C Z h3 dX12_slip_162
      · refine zj_aload_n (j := 0) (i := 0) C rfl 0 rfl dX12_slip_163 ?_
        refine zj_bipush C 19 rfl dX12_slip_164 ?_
        refine zj_callSl C Z [.int (i32 19)] [.ref (zad Γ 138)] cal_X12_wordOf sta_X12_wordOf ml_X12_62 rfl (by decide) (Nat.le_of_ble_eq_true rfl) rfl dX12_slip_166 (fun q h => M_X12_wordOf l Γ F irc_19 mem q h) (fun y4 m5 h_y4 => ?_)
        refine zj_callVv C F Z [.long (i64 y4)] [] cal_X12_writeNext calv_X12_writeNext ml_X12_359 zk_138 rfl rfl (by decide) (Nat.le_of_ble_eq_true rfl) rfl dX12_slip_169 (fun q h => M_X12_writeNext l Γ F h_y4 m5 q h) (fun _ m6 _ => ?_)
        refine zj_aload_n (j := 0) (i := 0) C rfl 0 rfl dX12_slip_172 ?_
        refine zj_aload_n (j := 0) (i := 0) C rfl 0 rfl dX12_slip_173 ?_
        refine zj_getR C F zk_138 fl_X12_113 rfl rf_138_19 dX12_slip_174 ?_
        refine zj_iload_n (j := 3) (i := 3) C rfl 2 rfl dX12_slip_177 ?_
        refine zj_laload C F zk_145 h_v3 dX12_slip_178 (fun c7 h8 => ?_)
        refine zj_callVv C F Z [.long (i64 (m6 145 v3))] [] cal_X12_writeNext calv_X12_writeNext ml_X12_359 zk_138 rfl rfl (by decide) (Nat.le_of_ble_eq_true rfl) rfl dX12_slip_179 (fun q h => M_X12_writeNext l Γ F h8 m6 q h) (fun _ m9 _ => ?_)
        refine zj_aload_n (j := 0) (i := 0) C rfl 0 rfl dX12_slip_182 ?_
        refine zj_getI C F 36 rfl zk_138 fl_X12_346 rfl dX12_slip_183 (fun h10 => ?_)
        exact zrt_i C Z h10 dX12_slip_186
    · refine zj_iload_n (j := 2) (i := 2) C rfl 1 rfl dX12_slip_139 ?_
      refine zj_iload_n (j := 3) (i := 3) C rfl 2 rfl dX12_slip_140 ?_
      refine zj_callSi C Z [.int (i32 v2), .int (i32 v3)] [] cal_X12_has sta_X12_has ml_X12_235 rfl (by decide) (Nat.le_of_ble_eq_true rfl) rfl dX12_slip_141 (fun q h => M_X12_has l Γ F h_v2 h_v3 mem q h) (fun y11 m12 h_y11 => ?_)
      refine zj_if_ne C 153 h_y11 dX12_slip_144 rfl (fun c13 => ?_) (fun c13 => ?_)
      · refine zj_iinc C 2 [(3, .int (i32 (w32 (v3 + 1)))), (0, .ref (zad Γ 138)), (2, .int (i32 v2))] rfl dX12_slip_147 (by decide) rfl ?_
        refine zj_goto (tgt := 134) C dX12_slip_150 rfl ?_
        exact zj_sub [1, 2, 0] rfl (ih v2 (w32 (v3 + 1)) h_v2 (ir_w _) m12)
      · refine zj_iload_n (j := 3) (i := 3) C rfl 2 rfl dX12_slip_153 ?_
        refine zj_iconst C 5 dX12_slip_154 ?_
        refine zj_icmp_ne C 163 h_v3 irc_5 dX12_slip_155 rfl (fun c14 => ?_) (fun c14 => ?_)
        · refine zj_aload_n (j := 0) (i := 0) C rfl 0 rfl dX12_slip_158 ?_
          refine zj_getI C F 36 rfl zk_138 fl_X12_346 rfl dX12_slip_159 (fun h15 => ?_)
          exact zrt_i C Z h15 dX12_slip_162
        · refine zj_aload_n (j := 0) (i := 0) C rfl 0 rfl dX12_slip_163 ?_
          refine zj_bipush C 19 rfl dX12_slip_164 ?_
          refine zj_callSl C Z [.int (i32 19)] [.ref (zad Γ 138)] cal_X12_wordOf sta_X12_wordOf ml_X12_62 rfl (by decide) (Nat.le_of_ble_eq_true rfl) rfl dX12_slip_166 (fun q h => M_X12_wordOf l Γ F irc_19 m12 q h) (fun y16 m17 h_y16 => ?_)
          refine zj_callVv C F Z [.long (i64 y16)] [] cal_X12_writeNext calv_X12_writeNext ml_X12_359 zk_138 rfl rfl (by decide) (Nat.le_of_ble_eq_true rfl) rfl dX12_slip_169 (fun q h => M_X12_writeNext l Γ F h_y16 m17 q h) (fun _ m18 _ => ?_)
          refine zj_aload_n (j := 0) (i := 0) C rfl 0 rfl dX12_slip_172 ?_
          refine zj_aload_n (j := 0) (i := 0) C rfl 0 rfl dX12_slip_173 ?_
          refine zj_getR C F zk_138 fl_X12_113 rfl rf_138_19 dX12_slip_174 ?_
          refine zj_iload_n (j := 3) (i := 3) C rfl 2 rfl dX12_slip_177 ?_
          refine zj_laload C F zk_145 h_v3 dX12_slip_178 (fun c19 h20 => ?_)
          refine zj_callVv C F Z [.long (i64 (m18 145 v3))] [] cal_X12_writeNext calv_X12_writeNext ml_X12_359 zk_138 rfl rfl (by decide) (Nat.le_of_ble_eq_true rfl) rfl dX12_slip_179 (fun q h => M_X12_writeNext l Γ F h20 m18 q h) (fun _ m21 _ => ?_)
          refine zj_aload_n (j := 0) (i := 0) C rfl 0 rfl dX12_slip_182 ?_
          refine zj_getI C F 36 rfl zk_138 fl_X12_346 rfl dX12_slip_183 (fun h22 => ?_)
          exact zrt_i C Z h22 dX12_slip_186
noncomputable def f_X12_slip (x0 : Int) (mem : zMem) : Option (Int × zMem) := pipe (zup mem 138 0 0) fun m1 => zbind (f_X12_isPerson x0 m1) fun y2 m3 => if y2 = 0 then (some ((-1), m3)) else (pipe (zup m3 138 36 0) fun m5 => if ix 145 (w32 (5 + x0)) then zbind (f_X12_writeWord (m5 145 (w32 (5 + x0))) m5) fun _ m8 => zbind (f_X12_spelt 97 116 0 0 0 0 m8) fun y9 m10 => zbind (f_X12_writeNext y9 m10) fun _ m11 => if ix 140 (w32 (116 + x0)) then zbind (f_X12_writeCount (zrem (m11 140 (w32 (116 + x0))) 8) m11) fun _ m14 => if ix 140 (w32 (116 + x0)) then zbind (f_X12_writeCount (zdiv (m14 140 (w32 (116 + x0))) 8) m14) fun _ m17 => zbind (f_X12_spelt 104 97 115 0 0 0 m17) fun y18 m19 => zbind (f_X12_writeNext y18 m19) fun _ m20 => if ix 140 (w32 (122 + x0)) then zbind (f_X12_writeCount (m20 140 (w32 (122 + x0))) m20) fun _ m23 => if ix 140 (w32 (116 + x0)) then zbind (f_X12_shadowsOn (m23 140 (w32 (116 + x0))) m23) fun y26 m27 => if ix 140 107 then pipe (zand y26 (zxor (m27 140 107) (-1))) fun y30 => f_X12_slip_0 zN y30 0 m27 else none else none else none else none else none else none)
set_option maxHeartbeats 4000000 in
theorem M_X12_slip (l : Launch) (Γ : zG) (F : zFull Γ)  {x0 : Int} (h_x0 : ir x0) (mem : zMem) (q : Int × zMem) (h : f_X12_slip x0 mem = some q) : zMet l yX12_slip cX12_slip 4 (some .int) 23 Γ 1 [.ref (zad Γ 138), .int (i32 x0)] mem q := by
  refine zMet_of (own := "ShadowHeirsModel") (by decide) rfl (Nat.le_of_ble_eq_true rfl) (fun X C Z => ?_)
  revert h
  show zJ X Γ 4 q (f_X12_slip x0 mem) 0 [(0, .ref (zad Γ 138)), (1, .int (i32 x0))] [] mem
  unfold f_X12_slip
  refine zj_aload_n (j := 0) (i := 0) C rfl 0 rfl dX12_slip_0 ?_
  refine zj_iconst C 0 dX12_slip_1 ?_
  refine zj_putI C F 0 rfl zk_138 fl_X12_1 rfl fp_12_0 irc_0 dX12_slip_2 ?_
  refine zj_pipeM (fun m1 e_m1 => ?_)
  refine zj_aload_n (j := 0) (i := 0) C rfl 0 rfl dX12_slip_5 ?_
  refine zj_iload_n (j := 1) (i := 1) C rfl 1 rfl dX12_slip_6 ?_
  refine zj_callVi C F Z [.int (i32 x0)] [] cal_X12_isPerson calv_X12_isPerson ml_X12_280 zk_138 rfl rfl (by decide) (Nat.le_of_ble_eq_true rfl) rfl dX12_slip_7 (fun q h => M_X12_isPerson l Γ F h_x0 m1 q h) (fun y2 m3 h_y2 => ?_)
  refine zj_if_ne C 15 h_y2 dX12_slip_10 rfl (fun c4 => ?_) (fun c4 => ?_)
  · refine zj_iconst C (-1) dX12_slip_13 ?_
    exact zrt_i C Z irc_m1 dX12_slip_14
  · refine zj_aload_n (j := 0) (i := 0) C rfl 0 rfl dX12_slip_15 ?_
    refine zj_iconst C 0 dX12_slip_16 ?_
    refine zj_putI C F 36 rfl zk_138 fl_X12_346 rfl fp_12_36 irc_0 dX12_slip_17 ?_
    refine zj_pipeM (fun m5 e_m5 => ?_)
    refine zj_aload_n (j := 0) (i := 0) C rfl 0 rfl dX12_slip_20 ?_
    refine zj_aload_n (j := 0) (i := 0) C rfl 0 rfl dX12_slip_21 ?_
    refine zj_getR C F zk_138 fl_X12_113 rfl rf_138_19 dX12_slip_22 ?_
    refine zj_iconst C 5 dX12_slip_25 ?_
    refine zj_iload_n (j := 1) (i := 1) C rfl 1 rfl dX12_slip_26 ?_
    refine zj_iadd C dX12_slip_27 ?_
    refine zj_laload C F zk_145 (ir_w _) dX12_slip_28 (fun c6 h7 => ?_)
    refine zj_callVv C F Z [.long (i64 (m5 145 (w32 (5 + x0))))] [] cal_X12_writeWord calv_X12_writeWord ml_X12_349 zk_138 rfl rfl (by decide) (Nat.le_of_ble_eq_true rfl) rfl dX12_slip_29 (fun q h => M_X12_writeWord l Γ F h7 m5 q h) (fun _ m8 _ => ?_)
    refine zj_aload_n (j := 0) (i := 0) C rfl 0 rfl dX12_slip_32 ?_
    refine zj_bipush C 97 rfl dX12_slip_33 ?_
    refine zj_bipush C 116 rfl dX12_slip_35 ?_
    refine zj_iconst C 0 dX12_slip_37 ?_
    refine zj_iconst C 0 dX12_slip_38 ?_
    refine zj_iconst C 0 dX12_slip_39 ?_
    refine zj_iconst C 0 dX12_slip_40 ?_
    refine zj_callSl C Z [.int (i32 97), .int (i32 116), .int (i32 0), .int (i32 0), .int (i32 0), .int (i32 0)] [.ref (zad Γ 138)] cal_X12_spelt sta_X12_spelt ml_X12_58 rfl (by decide) (Nat.le_of_ble_eq_true rfl) rfl dX12_slip_41 (fun q h => M_X12_spelt l Γ F irc_97 irc_116 irc_0 irc_0 irc_0 irc_0 m8 q h) (fun y9 m10 h_y9 => ?_)
    refine zj_callVv C F Z [.long (i64 y9)] [] cal_X12_writeNext calv_X12_writeNext ml_X12_359 zk_138 rfl rfl (by decide) (Nat.le_of_ble_eq_true rfl) rfl dX12_slip_44 (fun q h => M_X12_writeNext l Γ F h_y9 m10 q h) (fun _ m11 _ => ?_)
    refine zj_aload_n (j := 0) (i := 0) C rfl 0 rfl dX12_slip_47 ?_
    refine zj_aload_n (j := 0) (i := 0) C rfl 0 rfl dX12_slip_48 ?_
    refine zj_getR C F zk_138 fl_X12_98 rfl rf_138_14 dX12_slip_49 ?_
    refine zj_bipush C 116 rfl dX12_slip_52 ?_
    refine zj_iload_n (j := 1) (i := 1) C rfl 1 rfl dX12_slip_54 ?_
    refine zj_iadd C dX12_slip_55 ?_
    refine zj_iaload C F zk_140 (ir_w _) dX12_slip_56 (fun c12 h13 => ?_)
    refine zj_bipush C 8 rfl dX12_slip_57 ?_
    refine zj_iremc C (by decide) dX12_slip_59 ?_
    refine zj_callVv C F Z [.int (i32 (zrem (m11 140 (w32 (116 + x0))) 8))] [] cal_X12_writeCount calv_X12_writeCount ml_X12_362 zk_138 rfl rfl (by decide) (Nat.le_of_ble_eq_true rfl) rfl dX12_slip_60 (fun q h => M_X12_writeCount l Γ F (ir_toInt _) m11 q h) (fun _ m14 _ => ?_)
    refine zj_aload_n (j := 0) (i := 0) C rfl 0 rfl dX12_slip_63 ?_
    refine zj_aload_n (j := 0) (i := 0) C rfl 0 rfl dX12_slip_64 ?_
    refine zj_getR C F zk_138 fl_X12_98 rfl rf_138_14 dX12_slip_65 ?_
    refine zj_bipush C 116 rfl dX12_slip_68 ?_
    refine zj_iload_n (j := 1) (i := 1) C rfl 1 rfl dX12_slip_70 ?_
    refine zj_iadd C dX12_slip_71 ?_
    refine zj_iaload C F zk_140 (ir_w _) dX12_slip_72 (fun c15 h16 => ?_)
    refine zj_bipush C 8 rfl dX12_slip_73 ?_
    refine zj_idivc C (by decide) dX12_slip_75 ?_
    refine zj_callVv C F Z [.int (i32 (zdiv (m14 140 (w32 (116 + x0))) 8))] [] cal_X12_writeCount calv_X12_writeCount ml_X12_362 zk_138 rfl rfl (by decide) (Nat.le_of_ble_eq_true rfl) rfl dX12_slip_76 (fun q h => M_X12_writeCount l Γ F (ir_toInt _) m14 q h) (fun _ m17 _ => ?_)
    refine zj_aload_n (j := 0) (i := 0) C rfl 0 rfl dX12_slip_79 ?_
    refine zj_bipush C 104 rfl dX12_slip_80 ?_
    refine zj_bipush C 97 rfl dX12_slip_82 ?_
    refine zj_bipush C 115 rfl dX12_slip_84 ?_
    refine zj_iconst C 0 dX12_slip_86 ?_
    refine zj_iconst C 0 dX12_slip_87 ?_
    refine zj_iconst C 0 dX12_slip_88 ?_
    refine zj_callSl C Z [.int (i32 104), .int (i32 97), .int (i32 115), .int (i32 0), .int (i32 0), .int (i32 0)] [.ref (zad Γ 138)] cal_X12_spelt sta_X12_spelt ml_X12_58 rfl (by decide) (Nat.le_of_ble_eq_true rfl) rfl dX12_slip_89 (fun q h => M_X12_spelt l Γ F irc_104 irc_97 irc_115 irc_0 irc_0 irc_0 m17 q h) (fun y18 m19 h_y18 => ?_)
    refine zj_callVv C F Z [.long (i64 y18)] [] cal_X12_writeNext calv_X12_writeNext ml_X12_359 zk_138 rfl rfl (by decide) (Nat.le_of_ble_eq_true rfl) rfl dX12_slip_92 (fun q h => M_X12_writeNext l Γ F h_y18 m19 q h) (fun _ m20 _ => ?_)
    refine zj_aload_n (j := 0) (i := 0) C rfl 0 rfl dX12_slip_95 ?_
    refine zj_aload_n (j := 0) (i := 0) C rfl 0 rfl dX12_slip_96 ?_
    refine zj_getR C F zk_138 fl_X12_98 rfl rf_138_14 dX12_slip_97 ?_
    refine zj_bipush C 122 rfl dX12_slip_100 ?_
    refine zj_iload_n (j := 1) (i := 1) C rfl 1 rfl dX12_slip_102 ?_
    refine zj_iadd C dX12_slip_103 ?_
    refine zj_iaload C F zk_140 (ir_w _) dX12_slip_104 (fun c21 h22 => ?_)
    refine zj_callVv C F Z [.int (i32 (m20 140 (w32 (122 + x0))))] [] cal_X12_writeCount calv_X12_writeCount ml_X12_362 zk_138 rfl rfl (by decide) (Nat.le_of_ble_eq_true rfl) rfl dX12_slip_105 (fun q h => M_X12_writeCount l Γ F h22 m20 q h) (fun _ m23 _ => ?_)
    refine zj_aload_n (j := 0) (i := 0) C rfl 0 rfl dX12_slip_108 ?_
    refine zj_aload_n (j := 0) (i := 0) C rfl 0 rfl dX12_slip_109 ?_
    refine zj_getR C F zk_138 fl_X12_98 rfl rf_138_14 dX12_slip_110 ?_
    refine zj_bipush C 116 rfl dX12_slip_113 ?_
    refine zj_iload_n (j := 1) (i := 1) C rfl 1 rfl dX12_slip_115 ?_
    refine zj_iadd C dX12_slip_116 ?_
    refine zj_iaload C F zk_140 (ir_w _) dX12_slip_117 (fun c24 h25 => ?_)
    refine zj_callVi C F Z [.int (i32 (m23 140 (w32 (116 + x0))))] [] cal_X12_shadowsOn calv_X12_shadowsOn ml_X12_265 zk_138 rfl rfl (by decide) (Nat.le_of_ble_eq_true rfl) rfl dX12_slip_118 (fun q h => M_X12_shadowsOn l Γ F h25 m23 q h) (fun y26 m27 h_y26 => ?_)
    refine zj_aload_n (j := 0) (i := 0) C rfl 0 rfl dX12_slip_121 ?_
    refine zj_getR C F zk_138 fl_X12_98 rfl rf_138_14 dX12_slip_122 ?_
    refine zj_bipush C 107 rfl dX12_slip_125 ?_
    refine zj_iaload C F zk_140 irc_107 dX12_slip_127 (fun c28 h29 => ?_)
    refine zj_iconst C (-1) dX12_slip_128 ?_
    refine zj_ixor C dX12_slip_129 ?_
    refine zj_iand C dX12_slip_130 ?_
    refine zj_pipeI (fun y30 e_y30 => ?_)
    have h_y30 := ir_eq e_y30 (ir_toInt _)
    refine zj_istore_n (j := 2) (i := 2) C rfl [(2, .int (i32 y30)), (0, .ref (zad Γ 138)), (1, .int (i32 x0))] dX12_slip_131 (by decide) rfl ?_
    refine zj_iconst C 0 dX12_slip_132 ?_
    refine zj_istore_n (j := 3) (i := 3) C rfl [(3, .int (i32 0)), (2, .int (i32 y30)), (0, .ref (zad Γ 138)), (1, .int (i32 x0))] dX12_slip_133 (by decide) rfl ?_
    exact zj_sub [2, 1, 0] rfl ((L_X12_slip_0 l F C Z zN) y30 0 h_y30 irc_0 m27)
noncomputable def b_X12_book_0 (rec : Int → Int → Int → zMem → Option (Int × zMem)) (v1 : Int) (v2 : Int) (v3 : Int) (mem : zMem) : Option (Int × zMem) := if v2 ≥ (mem 138 40) then (if ix 155 0 then pipe (zup mem 155 0 v3) fun m4 => if ix 155 1 then pipe (zup m4 155 1 v2) fun m6 => if ix 140 106 then if ix 155 2 then pipe (zup m6 155 2 (m6 140 106)) fun m10 => zbind (f_X12_sum 122 6 m10) fun y11 m12 => if ix 155 3 then pipe (zup m12 155 3 y11) fun m14 => pipe (zup m14 138 41 1) fun m15 => if v1 = 1 then (if v2 ≤ 0 then (zbind (f_X12_stay 0 m15) fun _ m18 => if v3 = 0 then (some ((-1), m18)) else (some (v2, m18))) else (zbind (f_X12_stay 1 m15) fun _ m20 => if v3 = 0 then (some ((-1), m20)) else (some (v2, m20)))) else (zbind (f_X12_stay 0 m15) fun _ m22 => if v3 = 0 then (some ((-1), m22)) else (some (v2, m22))) else none else none else none else none else none) else (if v3 = 0 then (zbind (f_X12_goBy (w32 (3 * v2)) mem) fun y25 m26 => if y25 = 0 then (rec v1 (w32 (v2 + 1)) y25 m26) else (rec v1 v2 y25 m26)) else (if ix 155 0 then pipe (zup mem 155 0 v3) fun m29 => if ix 155 1 then pipe (zup m29 155 1 v2) fun m31 => if ix 140 106 then if ix 155 2 then pipe (zup m31 155 2 (m31 140 106)) fun m35 => zbind (f_X12_sum 122 6 m35) fun y36 m37 => if ix 155 3 then pipe (zup m37 155 3 y36) fun m39 => pipe (zup m39 138 41 1) fun m40 => if v1 = 1 then (if v2 ≤ 0 then (zbind (f_X12_stay 0 m40) fun _ m43 => if v3 = 0 then (some ((-1), m43)) else (some (v2, m43))) else (zbind (f_X12_stay 1 m40) fun _ m45 => if v3 = 0 then (some ((-1), m45)) else (some (v2, m45)))) else (zbind (f_X12_stay 0 m40) fun _ m47 => if v3 = 0 then (some ((-1), m47)) else (some (v2, m47))) else none else none else none else none else none))
noncomputable def f_X12_book_0 : Nat → Int → Int → Int → zMem → Option (Int × zMem) := zfuel (fun _ _ _ _ => none) (b_X12_book_0)
set_option maxHeartbeats 4000000 in
theorem L_X12_book_0 (l : Launch) {Γ : zG} (F : zFull Γ) {X : zM} {q : Int × zMem} (C : zC X Γ "ShadowHeirsModel" cX12_book 4) (Z : zRt X l Γ 9 1 (some .int) q) : ∀ n : Nat, ∀ (v1 : Int) (v2 : Int) (v3 : Int) (h_v1 : ir v1) (h_v2 : ir v2) (h_v3 : ir v3) (mem : zMem), zJ X Γ 4 q (f_X12_book_0 n v1 v2 v3 mem) 73 [(0, .ref (zad Γ 138)), (1, .int (i32 v1)), (2, .int (i32 v2)), (3, .int (i32 v3))] [] mem := by
  intro n
  induction n with
  | zero => intros; exact zj_none
  | succ n ih =>
    intro v1 v2 v3 h_v1 h_v2 h_v3 mem
    show zJ X Γ 4 q (b_X12_book_0 (f_X12_book_0 n) v1 v2 v3 mem) _ _ _ _
    unfold b_X12_book_0
    refine zj_iload_n (j := 2) (i := 2) C rfl 2 rfl dX12_book_73 ?_
    refine zj_aload_n (j := 0) (i := 0) C rfl 0 rfl dX12_book_74 ?_
    refine zj_getI C F 40 rfl zk_138 fl_X12_390 rfl dX12_book_75 (fun h1 => ?_)
    refine zj_icmp_ge C 103 h_v2 h1 dX12_book_78 rfl (fun c2 => ?_) (fun c2 => ?_)
    · refine zj_aload_n (j := 0) (i := 0) C rfl 0 rfl dX12_book_103 ?_
      refine zj_getR C F zk_138 fl_X12_157 rfl rf_138_39 dX12_book_104 ?_
      refine zj_iconst C 0 dX12_book_107 ?_
      refine zj_iload_n (j := 3) (i := 3) C rfl 3 rfl dX12_book_108 ?_
      refine zj_iastore C F zk_155 irc_0 h_v3 dX12_book_109 (fun c3 => ?_)
      refine zj_pipeM (fun m4 e_m4 => ?_)
      refine zj_aload_n (j := 0) (i := 0) C rfl 0 rfl dX12_book_110 ?_
      refine zj_getR C F zk_138 fl_X12_157 rfl rf_138_39 dX12_book_111 ?_
      refine zj_iconst C 1 dX12_book_114 ?_
      refine zj_iload_n (j := 2) (i := 2) C rfl 2 rfl dX12_book_115 ?_
      refine zj_iastore C F zk_155 irc_1 h_v2 dX12_book_116 (fun c5 => ?_)
      refine zj_pipeM (fun m6 e_m6 => ?_)
      refine zj_aload_n (j := 0) (i := 0) C rfl 0 rfl dX12_book_117 ?_
      refine zj_getR C F zk_138 fl_X12_157 rfl rf_138_39 dX12_book_118 ?_
      refine zj_iconst C 2 dX12_book_121 ?_
      refine zj_aload_n (j := 0) (i := 0) C rfl 0 rfl dX12_book_122 ?_
      refine zj_getR C F zk_138 fl_X12_98 rfl rf_138_14 dX12_book_123 ?_
      refine zj_bipush C 106 rfl dX12_book_126 ?_
      refine zj_iaload C F zk_140 irc_106 dX12_book_128 (fun c7 h8 => ?_)
      refine zj_iastore C F zk_155 irc_2 h8 dX12_book_129 (fun c9 => ?_)
      refine zj_pipeM (fun m10 e_m10 => ?_)
      refine zj_aload_n (j := 0) (i := 0) C rfl 0 rfl dX12_book_130 ?_
      refine zj_getR C F zk_138 fl_X12_157 rfl rf_138_39 dX12_book_131 ?_
      refine zj_iconst C 3 dX12_book_134 ?_
      refine zj_aload_n (j := 0) (i := 0) C rfl 0 rfl dX12_book_135 ?_
      refine zj_bipush C 122 rfl dX12_book_136 ?_
      refine zj_bipush C 6 rfl dX12_book_138 ?_
      refine zj_callVi C F Z [.int (i32 122), .int (i32 6)] [.int (i32 3), .ref (zad Γ 155)] cal_X12_sum calv_X12_sum ml_X12_286 zk_138 rfl rfl (by decide) (Nat.le_of_ble_eq_true rfl) rfl dX12_book_140 (fun q h => M_X12_sum l Γ F irc_122 irc_6 m10 q h) (fun y11 m12 h_y11 => ?_)
      refine zj_iastore C F zk_155 irc_3 h_y11 dX12_book_143 (fun c13 => ?_)
      refine zj_pipeM (fun m14 e_m14 => ?_)
      refine zj_aload_n (j := 0) (i := 0) C rfl 0 rfl dX12_book_144 ?_
      refine zj_iconst C 1 dX12_book_145 ?_
      refine zj_putZ C F 41 rfl zk_138 fl_X12_405 rfl fp_12_41 (Or.inr rfl) dX12_book_146 ?_
      refine zj_pipeM (fun m15 e_m15 => ?_)
      refine zj_aload_n (j := 0) (i := 0) C rfl 0 rfl dX12_book_149 ?_
      refine zj_iload_n (j := 1) (i := 1) C rfl 1 rfl dX12_book_150 ?_
      refine zj_iconst C 1 dX12_book_151 ?_
      refine zj_icmp_ne C 163 h_v1 irc_1 dX12_book_152 rfl (fun c16 => ?_) (fun c16 => ?_)
      · refine zj_iload_n (j := 2) (i := 2) C rfl 2 rfl dX12_book_155 ?_
        refine zj_if_le C 163 h_v2 dX12_book_156 rfl (fun c17 => ?_) (fun c17 => ?_)
        · refine zj_iconst C 0 dX12_book_163 ?_
          refine zj_callVv C F Z [.int (i32 0)] [] cal_X12_stay calv_X12_stay ml_X12_408 zk_138 rfl rfl (by decide) (Nat.le_of_ble_eq_true rfl) rfl dX12_book_164 (fun q h => M_X12_stay l Γ F irc_0 m15 q h) (fun _ m18 _ => ?_)
          refine zj_iload_n (j := 3) (i := 3) C rfl 3 rfl dX12_book_167 ?_
          refine zj_if_ne C 175 h_v3 dX12_book_168 rfl (fun c19 => ?_) (fun c19 => ?_)
          · refine zj_iconst C (-1) dX12_book_171 ?_
            refine zj_goto (tgt := 176) C dX12_book_172 rfl ?_
            exact zrt_i C Z irc_m1 dX12_book_176
          · refine zj_iload_n (j := 2) (i := 2) C rfl 2 rfl dX12_book_175 ?_
            exact zrt_i C Z h_v2 dX12_book_176
        · refine zj_iconst C 1 dX12_book_159 ?_
          refine zj_goto (tgt := 164) C dX12_book_160 rfl ?_
          refine zj_callVv C F Z [.int (i32 1)] [] cal_X12_stay calv_X12_stay ml_X12_408 zk_138 rfl rfl (by decide) (Nat.le_of_ble_eq_true rfl) rfl dX12_book_164 (fun q h => M_X12_stay l Γ F irc_1 m15 q h) (fun _ m20 _ => ?_)
          refine zj_iload_n (j := 3) (i := 3) C rfl 3 rfl dX12_book_167 ?_
          refine zj_if_ne C 175 h_v3 dX12_book_168 rfl (fun c21 => ?_) (fun c21 => ?_)
          · refine zj_iconst C (-1) dX12_book_171 ?_
            refine zj_goto (tgt := 176) C dX12_book_172 rfl ?_
            exact zrt_i C Z irc_m1 dX12_book_176
          · refine zj_iload_n (j := 2) (i := 2) C rfl 2 rfl dX12_book_175 ?_
            exact zrt_i C Z h_v2 dX12_book_176
      · refine zj_iconst C 0 dX12_book_163 ?_
        refine zj_callVv C F Z [.int (i32 0)] [] cal_X12_stay calv_X12_stay ml_X12_408 zk_138 rfl rfl (by decide) (Nat.le_of_ble_eq_true rfl) rfl dX12_book_164 (fun q h => M_X12_stay l Γ F irc_0 m15 q h) (fun _ m22 _ => ?_)
        refine zj_iload_n (j := 3) (i := 3) C rfl 3 rfl dX12_book_167 ?_
        refine zj_if_ne C 175 h_v3 dX12_book_168 rfl (fun c23 => ?_) (fun c23 => ?_)
        · refine zj_iconst C (-1) dX12_book_171 ?_
          refine zj_goto (tgt := 176) C dX12_book_172 rfl ?_
          exact zrt_i C Z irc_m1 dX12_book_176
        · refine zj_iload_n (j := 2) (i := 2) C rfl 2 rfl dX12_book_175 ?_
          exact zrt_i C Z h_v2 dX12_book_176
    · refine zj_iload_n (j := 3) (i := 3) C rfl 3 rfl dX12_book_81 ?_
      refine zj_if_ne C 103 h_v3 dX12_book_82 rfl (fun c24 => ?_) (fun c24 => ?_)
      · refine zj_aload_n (j := 0) (i := 0) C rfl 0 rfl dX12_book_85 ?_
        refine zj_iconst C 3 dX12_book_86 ?_
        refine zj_iload_n (j := 2) (i := 2) C rfl 2 rfl dX12_book_87 ?_
        refine zj_imul C dX12_book_88 ?_
        refine zj_callVi C F Z [.int (i32 (w32 (3 * v2)))] [] cal_X12_goBy calv_X12_goBy ml_X12_402 zk_138 rfl rfl (by decide) (Nat.le_of_ble_eq_true rfl) rfl dX12_book_89 (fun q h => M_X12_goBy l Γ F (ir_w _) mem q h) (fun y25 m26 h_y25 => ?_)
        refine zj_istore_n (j := 3) (i := 3) C rfl [(3, .int (i32 y25)), (0, .ref (zad Γ 138)), (1, .int (i32 v1)), (2, .int (i32 v2))] dX12_book_92 (by decide) rfl ?_
        refine zj_iload_n (j := 3) (i := 3) C rfl 0 rfl dX12_book_93 ?_
        refine zj_if_ne C 73 h_y25 dX12_book_94 rfl (fun c27 => ?_) (fun c27 => ?_)
        · refine zj_iinc C 3 [(2, .int (i32 (w32 (v2 + 1)))), (3, .int (i32 y25)), (0, .ref (zad Γ 138)), (1, .int (i32 v1))] rfl dX12_book_97 (by decide) rfl ?_
          refine zj_goto (tgt := 73) C dX12_book_100 rfl ?_
          exact zj_sub [2, 3, 0, 1] rfl (ih v1 (w32 (v2 + 1)) y25 h_v1 (ir_w _) h_y25 m26)
        · exact zj_sub [1, 2, 3, 0] rfl (ih v1 v2 y25 h_v1 h_v2 h_y25 m26)
      · refine zj_aload_n (j := 0) (i := 0) C rfl 0 rfl dX12_book_103 ?_
        refine zj_getR C F zk_138 fl_X12_157 rfl rf_138_39 dX12_book_104 ?_
        refine zj_iconst C 0 dX12_book_107 ?_
        refine zj_iload_n (j := 3) (i := 3) C rfl 3 rfl dX12_book_108 ?_
        refine zj_iastore C F zk_155 irc_0 h_v3 dX12_book_109 (fun c28 => ?_)
        refine zj_pipeM (fun m29 e_m29 => ?_)
        refine zj_aload_n (j := 0) (i := 0) C rfl 0 rfl dX12_book_110 ?_
        refine zj_getR C F zk_138 fl_X12_157 rfl rf_138_39 dX12_book_111 ?_
        refine zj_iconst C 1 dX12_book_114 ?_
        refine zj_iload_n (j := 2) (i := 2) C rfl 2 rfl dX12_book_115 ?_
        refine zj_iastore C F zk_155 irc_1 h_v2 dX12_book_116 (fun c30 => ?_)
        refine zj_pipeM (fun m31 e_m31 => ?_)
        refine zj_aload_n (j := 0) (i := 0) C rfl 0 rfl dX12_book_117 ?_
        refine zj_getR C F zk_138 fl_X12_157 rfl rf_138_39 dX12_book_118 ?_
        refine zj_iconst C 2 dX12_book_121 ?_
        refine zj_aload_n (j := 0) (i := 0) C rfl 0 rfl dX12_book_122 ?_
        refine zj_getR C F zk_138 fl_X12_98 rfl rf_138_14 dX12_book_123 ?_
        refine zj_bipush C 106 rfl dX12_book_126 ?_
        refine zj_iaload C F zk_140 irc_106 dX12_book_128 (fun c32 h33 => ?_)
        refine zj_iastore C F zk_155 irc_2 h33 dX12_book_129 (fun c34 => ?_)
        refine zj_pipeM (fun m35 e_m35 => ?_)
        refine zj_aload_n (j := 0) (i := 0) C rfl 0 rfl dX12_book_130 ?_
        refine zj_getR C F zk_138 fl_X12_157 rfl rf_138_39 dX12_book_131 ?_
        refine zj_iconst C 3 dX12_book_134 ?_
        refine zj_aload_n (j := 0) (i := 0) C rfl 0 rfl dX12_book_135 ?_
        refine zj_bipush C 122 rfl dX12_book_136 ?_
        refine zj_bipush C 6 rfl dX12_book_138 ?_
        refine zj_callVi C F Z [.int (i32 122), .int (i32 6)] [.int (i32 3), .ref (zad Γ 155)] cal_X12_sum calv_X12_sum ml_X12_286 zk_138 rfl rfl (by decide) (Nat.le_of_ble_eq_true rfl) rfl dX12_book_140 (fun q h => M_X12_sum l Γ F irc_122 irc_6 m35 q h) (fun y36 m37 h_y36 => ?_)
        refine zj_iastore C F zk_155 irc_3 h_y36 dX12_book_143 (fun c38 => ?_)
        refine zj_pipeM (fun m39 e_m39 => ?_)
        refine zj_aload_n (j := 0) (i := 0) C rfl 0 rfl dX12_book_144 ?_
        refine zj_iconst C 1 dX12_book_145 ?_
        refine zj_putZ C F 41 rfl zk_138 fl_X12_405 rfl fp_12_41 (Or.inr rfl) dX12_book_146 ?_
        refine zj_pipeM (fun m40 e_m40 => ?_)
        refine zj_aload_n (j := 0) (i := 0) C rfl 0 rfl dX12_book_149 ?_
        refine zj_iload_n (j := 1) (i := 1) C rfl 1 rfl dX12_book_150 ?_
        refine zj_iconst C 1 dX12_book_151 ?_
        refine zj_icmp_ne C 163 h_v1 irc_1 dX12_book_152 rfl (fun c41 => ?_) (fun c41 => ?_)
        · refine zj_iload_n (j := 2) (i := 2) C rfl 2 rfl dX12_book_155 ?_
          refine zj_if_le C 163 h_v2 dX12_book_156 rfl (fun c42 => ?_) (fun c42 => ?_)
          · refine zj_iconst C 0 dX12_book_163 ?_
            refine zj_callVv C F Z [.int (i32 0)] [] cal_X12_stay calv_X12_stay ml_X12_408 zk_138 rfl rfl (by decide) (Nat.le_of_ble_eq_true rfl) rfl dX12_book_164 (fun q h => M_X12_stay l Γ F irc_0 m40 q h) (fun _ m43 _ => ?_)
            refine zj_iload_n (j := 3) (i := 3) C rfl 3 rfl dX12_book_167 ?_
            refine zj_if_ne C 175 h_v3 dX12_book_168 rfl (fun c44 => ?_) (fun c44 => ?_)
            · refine zj_iconst C (-1) dX12_book_171 ?_
              refine zj_goto (tgt := 176) C dX12_book_172 rfl ?_
              exact zrt_i C Z irc_m1 dX12_book_176
            · refine zj_iload_n (j := 2) (i := 2) C rfl 2 rfl dX12_book_175 ?_
              exact zrt_i C Z h_v2 dX12_book_176
          · refine zj_iconst C 1 dX12_book_159 ?_
            refine zj_goto (tgt := 164) C dX12_book_160 rfl ?_
            refine zj_callVv C F Z [.int (i32 1)] [] cal_X12_stay calv_X12_stay ml_X12_408 zk_138 rfl rfl (by decide) (Nat.le_of_ble_eq_true rfl) rfl dX12_book_164 (fun q h => M_X12_stay l Γ F irc_1 m40 q h) (fun _ m45 _ => ?_)
            refine zj_iload_n (j := 3) (i := 3) C rfl 3 rfl dX12_book_167 ?_
            refine zj_if_ne C 175 h_v3 dX12_book_168 rfl (fun c46 => ?_) (fun c46 => ?_)
            · refine zj_iconst C (-1) dX12_book_171 ?_
              refine zj_goto (tgt := 176) C dX12_book_172 rfl ?_
              exact zrt_i C Z irc_m1 dX12_book_176
            · refine zj_iload_n (j := 2) (i := 2) C rfl 2 rfl dX12_book_175 ?_
              exact zrt_i C Z h_v2 dX12_book_176
        · refine zj_iconst C 0 dX12_book_163 ?_
          refine zj_callVv C F Z [.int (i32 0)] [] cal_X12_stay calv_X12_stay ml_X12_408 zk_138 rfl rfl (by decide) (Nat.le_of_ble_eq_true rfl) rfl dX12_book_164 (fun q h => M_X12_stay l Γ F irc_0 m40 q h) (fun _ m47 _ => ?_)
          refine zj_iload_n (j := 3) (i := 3) C rfl 3 rfl dX12_book_167 ?_
          refine zj_if_ne C 175 h_v3 dX12_book_168 rfl (fun c48 => ?_) (fun c48 => ?_)
          · refine zj_iconst C (-1) dX12_book_171 ?_
            refine zj_goto (tgt := 176) C dX12_book_172 rfl ?_
            exact zrt_i C Z irc_m1 dX12_book_176
          · refine zj_iload_n (j := 2) (i := 2) C rfl 2 rfl dX12_book_175 ?_
            exact zrt_i C Z h_v2 dX12_book_176
noncomputable def b_X12_book_1 (rec : Int → zMem → Option (Int × zMem)) (v1 : Int) (mem : zMem) : Option (Int × zMem) := if (mem 138 7) = 0 then (zbind (f_X12_layAside mem) fun _ m3 => f_X12_book_0 zN v1 0 0 m3) else (zbind (f_X12_readBookLine mem) fun y4 m5 => if y4 = 0 then (some ((w32 ((-2) - (m5 138 11))), m5)) else (pipe (zup m5 138 40 (w32 ((m5 138 40) + 1))) fun m9 => rec v1 m9))
noncomputable def f_X12_book_1 : Nat → Int → zMem → Option (Int × zMem) := zfuel (fun _ _ => none) (b_X12_book_1)
set_option maxHeartbeats 4000000 in
theorem L_X12_book_1 (l : Launch) {Γ : zG} (F : zFull Γ) {X : zM} {q : Int × zMem} (C : zC X Γ "ShadowHeirsModel" cX12_book 4) (Z : zRt X l Γ 9 1 (some .int) q) : ∀ n : Nat, ∀ (v1 : Int) (h_v1 : ir v1) (mem : zMem), zJ X Γ 4 q (f_X12_book_1 n v1 mem) 30 [(0, .ref (zad Γ 138)), (1, .int (i32 v1))] [] mem := by
  intro n
  induction n with
  | zero => intros; exact zj_none
  | succ n ih =>
    intro v1 h_v1 mem
    show zJ X Γ 4 q (b_X12_book_1 (f_X12_book_1 n) v1 mem) _ _ _ _
    unfold b_X12_book_1
    refine zj_aload_n (j := 0) (i := 0) C rfl 0 rfl dX12_book_30 ?_
    refine zj_getI C F 7 rfl zk_138 fl_X12_30 rfl dX12_book_31 (fun h1 => ?_)
    refine zj_if_eq C 65 h1 dX12_book_34 rfl (fun c2 => ?_) (fun c2 => ?_)
    · refine zj_aload_n (j := 0) (i := 0) C rfl 0 rfl dX12_book_65 ?_
      refine zj_callVv C F Z [] [] cal_X12_layAside calv_X12_layAside ml_X12_381 zk_138 rfl rfl (by decide) (Nat.le_of_ble_eq_true rfl) rfl dX12_book_66 (fun q h => M_X12_layAside l Γ F  mem q h) (fun _ m3 _ => ?_)
      refine zj_iconst C 0 dX12_book_69 ?_
      refine zj_istore_n (j := 2) (i := 2) C rfl [(2, .int (i32 0)), (0, .ref (zad Γ 138)), (1, .int (i32 v1))] dX12_book_70 (by decide) rfl ?_
      refine zj_iconst C 0 dX12_book_71 ?_
      refine zj_istore_n (j := 3) (i := 3) C rfl [(3, .int (i32 0)), (2, .int (i32 0)), (0, .ref (zad Γ 138)), (1, .int (i32 v1))] dX12_book_72 (by decide) rfl ?_
      exact zj_sub [2, 3, 1, 0] rfl ((L_X12_book_0 l F C Z zN) v1 0 0 h_v1 irc_0 irc_0 m3)
    · refine zj_aload_n (j := 0) (i := 0) C rfl 0 rfl dX12_book_37 ?_
      refine zj_callVi C F Z [] [] cal_X12_readBookLine calv_X12_readBookLine ml_X12_399 zk_138 rfl rfl (by decide) (Nat.le_of_ble_eq_true rfl) rfl dX12_book_38 (fun q h => M_X12_readBookLine l Γ F  mem q h) (fun y4 m5 h_y4 => ?_)
      refine zj_if_ne C 52 h_y4 dX12_book_41 rfl (fun c6 => ?_) (fun c6 => ?_)
      · refine zj_bipush C (-2) rfl dX12_book_44 ?_
        refine zj_aload_n (j := 0) (i := 0) C rfl 0 rfl dX12_book_46 ?_
        refine zj_getI C F 11 rfl zk_138 fl_X12_69 rfl dX12_book_47 (fun h7 => ?_)
        refine zj_isub C dX12_book_50 ?_
        exact zrt_i C Z (ir_w _) dX12_book_51
      · refine zj_aload_n (j := 0) (i := 0) C rfl 0 rfl dX12_book_52 ?_
        refine zj_dup C rfl dX12_book_53 ?_
        refine zj_getI C F 40 rfl zk_138 fl_X12_390 rfl dX12_book_54 (fun h8 => ?_)
        refine zj_iconst C 1 dX12_book_57 ?_
        refine zj_iadd C dX12_book_58 ?_
        refine zj_putI C F 40 rfl zk_138 fl_X12_390 rfl fp_12_40 (ir_w _) dX12_book_59 ?_
        refine zj_pipeM (fun m9 e_m9 => ?_)
        refine zj_goto (tgt := 30) C dX12_book_62 rfl ?_
        exact zj_sub [0, 1] rfl (ih v1 h_v1 m9)
noncomputable def f_X12_book (x0 : Int) (mem : zMem) : Option (Int × zMem) := pipe (zup mem 138 0 0) fun m1 => zbind (f_X12_isIn x0 0 1 m1) fun y2 m3 => if y2 = 0 then (some ((-1000), m3)) else (zbind (f_X12_begin 400 m3) fun _ m5 => pipe (zup m5 138 40 0) fun m6 => f_X12_book_1 zN x0 m6)
set_option maxHeartbeats 4000000 in
theorem M_X12_book (l : Launch) (Γ : zG) (F : zFull Γ)  {x0 : Int} (h_x0 : ir x0) (mem : zMem) (q : Int × zMem) (h : f_X12_book x0 mem = some q) : zMet l yX12_book cX12_book 4 (some .int) 9 Γ 1 [.ref (zad Γ 138), .int (i32 x0)] mem q := by
  refine zMet_of (own := "ShadowHeirsModel") (by decide) rfl (Nat.le_of_ble_eq_true rfl) (fun X C Z => ?_)
  revert h
  show zJ X Γ 4 q (f_X12_book x0 mem) 0 [(0, .ref (zad Γ 138)), (1, .int (i32 x0))] [] mem
  unfold f_X12_book
  refine zj_aload_n (j := 0) (i := 0) C rfl 0 rfl dX12_book_0 ?_
  refine zj_iconst C 0 dX12_book_1 ?_
  refine zj_putI C F 0 rfl zk_138 fl_X12_1 rfl fp_12_0 irc_0 dX12_book_2 ?_
  refine zj_pipeM (fun m1 e_m1 => ?_)
  refine zj_iload_n (j := 1) (i := 1) C rfl 1 rfl dX12_book_5 ?_
  refine zj_iconst C 0 dX12_book_6 ?_
  refine zj_iconst C 1 dX12_book_7 ?_
  refine zj_callSi C Z [.int (i32 x0), .int (i32 0), .int (i32 1)] [] cal_X12_isIn sta_X12_isIn ml_X12_75 rfl (by decide) (Nat.le_of_ble_eq_true rfl) rfl dX12_book_8 (fun q h => M_X12_isIn l Γ F h_x0 irc_0 irc_1 m1 q h) (fun y2 m3 h_y2 => ?_)
  refine zj_if_ne C 18 h_y2 dX12_book_11 rfl (fun c4 => ?_) (fun c4 => ?_)
  · refine zj_sipush C (-1000) rfl dX12_book_14 ?_
    exact zrt_i C Z irc_m1000 dX12_book_17
  · refine zj_aload_n (j := 0) (i := 0) C rfl 0 rfl dX12_book_18 ?_
    refine zj_sipush C 400 rfl dX12_book_19 ?_
    refine zj_callVv C F Z [.int (i32 400)] [] cal_X12_begin calv_X12_begin ml_X12_223 zk_138 rfl rfl (by decide) (Nat.le_of_ble_eq_true rfl) rfl dX12_book_22 (fun q h => M_X12_begin l Γ F irc_400 m3 q h) (fun _ m5 _ => ?_)
    refine zj_aload_n (j := 0) (i := 0) C rfl 0 rfl dX12_book_25 ?_
    refine zj_iconst C 0 dX12_book_26 ?_
    refine zj_putI C F 40 rfl zk_138 fl_X12_390 rfl fp_12_40 irc_0 dX12_book_27 ?_
    refine zj_pipeM (fun m6 e_m6 => ?_)
    exact zj_sub [0, 1] rfl ((L_X12_book_1 l F C Z zN) x0 h_x0 m6)
