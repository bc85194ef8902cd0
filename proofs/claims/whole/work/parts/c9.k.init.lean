def iX6 (mem : zMem) : zMem := (wr3 (kw32.drop 13) 13 (wr3 ((kw32.drop 9).take 4) 9 (wr3 (kw32.take 9) 0 (zup (zup (zup (zup (zup (zup (zup (zup (zup mem 1 2 0) 1 3 0) 1 4 0) 1 5 0) 1 6 0) 1 7 0) 1 8 (-1)) 1 9 0) 1 10 0))))
theorem kZ_X6 {mem : zMem} {M : Nat} (h : kZ mem M) (hq : 3 < M) : kZ (iX6 mem) M := by
  unfold iX6
  exact (kZ_wr (kZ_wr (kZ_wr (kZ_up (kZ_up (kZ_up (kZ_up (kZ_up (kZ_up (kZ_up (kZ_up (kZ_up h (by omega)) (by omega)) (by omega)) (by omega)) (by omega)) (by omega)) (by omega)) (by omega)) (by omega)) (by omega)) (by omega)) (by omega))
set_option maxHeartbeats 4000000 in
theorem K_X6 (l : Launch) {Γ : zG} {a : Nat} {mem : zMem}  (hN : gN Γ = 2) (ha : gD Γ 1 = a) (hz : kZ mem 2) : kMet l yX6_init cX6_init 2 6 2 964 Γ 1 4 [.ref a] mem (iX6 mem) := by
  refine kMet_of (own := "ShadowHeirs$Reader") (by decide) rfl rfl (Nat.le_of_ble_eq_true rfl) (fun X C Z => ?_)
  have hR := kRt_R Z
  have hl0 : X.2.1 = l := kRt_l Z
  show zg (kX X 0 0) Γ 2 0 [(0, .ref a)] [] mem
  refine zg_j (zj_aload_n (j := 0) (i := 0) C.1 rfl 0 rfl dX6_init_0 (j_zg ?_))
  refine kg_obj C (by rw [hR]; exact ⟨by decide, by simp [kRm, Value.category]⟩) moi_X6_3 oi_1 oi_2 dX6_init_1 ?_
  refine zg_j (zj_aload_n (j := 0) (i := 0) C.1 rfl 0 rfl dX6_init_4 (j_zg ?_))
  refine zg_j (zj_sipush C.1 940 rfl dX6_init_5 (j_zg ?_))
  refine kg_newI C hN (by decide +kernel) (L := 940) (by decide +kernel) (by decide) (by decide) (fun j => hz _ j (Nat.le_refl _)) (by rw [hR]; exact ⟨by decide, by decide⟩) arc_int dX6_init_8 (fun Γ1 a2 s3 n4 e5 C => ?_)
  have z6 : kZ mem 3 := kZ_le hz (Nat.le_succ _)
  have t7 := kS_t (kS_r Γ) s3
  have e8 : gD Γ1 1 = a := (s3.2.2.1 1 (by rw [hN]; exact (by decide))).trans ha
  refine kg_putR C (by rw [n4]; exact (by decide)) (by decide +kernel) e8 fl_X6_11 klk_X6_11 rfl kfin_6_0 (by rw [(by decide +kernel : sRf 1 0 = 2), n4]; decide) (by rw [(by decide +kernel : sRf 1 0 = 2)]; exact e5) dX6_init_10 (fun Γ12 s9 n10 f11 C => ?_)
  have n13 : gN Γ12 = 3 := n10.trans n4
  have t14 := kS_t t7 s9
  have e15 : gD Γ12 1 = a := (s9.2.2.1 1 (by rw [n4]; exact (by decide))).trans e8
  have e16 : gD Γ12 2 = a2 := (s9.2.2.1 2 (by rw [n4]; exact (by decide))).trans e5
  refine zg_j (zj_aload_n (j := 0) (i := 0) C.1 rfl 0 rfl dX6_init_13 (j_zg ?_))
  refine zg_j (zj_bipush C.1 24 rfl dX6_init_14 (j_zg ?_))
  refine kg_newL C n13 (by decide +kernel) (L := 24) (by decide +kernel) (by decide) (by decide) (fun j => z6 _ j (Nat.le_refl _)) (by rw [hR]; exact ⟨by decide, by decide⟩) arc_long dX6_init_16 (fun Γ17 a18 s19 n20 e21 C => ?_)
  have z22 : kZ mem 4 := kZ_le z6 (Nat.le_succ _)
  have t23 := kS_t t14 s19
  have e24 : gD Γ17 1 = a := (s19.2.2.1 1 (by rw [n13]; exact (by decide))).trans e15
  have f25 := s19.2.2.2 _ _ f11
  refine kg_putR C (by rw [n20]; exact (by decide)) (by decide +kernel) e24 fl_X6_15 klk_X6_15 rfl kfin_6_1 (by rw [(by decide +kernel : sRf 1 1 = 3), n20]; decide) (by rw [(by decide +kernel : sRf 1 1 = 3)]; exact e21) dX6_init_18 (fun Γ29 s26 n27 f28 C => ?_)
  have n30 : gN Γ29 = 4 := n27.trans n20
  have t31 := kS_t t23 s26
  have e32 : gD Γ29 1 = a := (s26.2.2.1 1 (by rw [n20]; exact (by decide))).trans e24
  have e33 : gD Γ29 3 = a18 := (s26.2.2.1 3 (by rw [n20]; exact (by decide))).trans e21
  have f34 := s26.2.2.2 _ _ f25
  refine zg_j (zj_aload_n (j := 0) (i := 0) C.1 rfl 0 rfl dX6_init_21 (j_zg ?_))
  refine zg_j (zj_iconst C.1 0 dX6_init_22 (j_zg ?_))
  refine kg_putI (k := 2) C 2 rfl (by rw [n30]; exact (by decide)) (by decide +kernel) e32 fl_X6_19 rfl fp_6_2 (by decide) dX6_init_23 ?_
  have z35 : kZ (zup mem 1 2 0) 4 := kZ_up z22 (by decide)
  refine zg_j (zj_aload_n (j := 0) (i := 0) C.1 rfl 0 rfl dX6_init_26 (j_zg ?_))
  refine zg_j (zj_iconst C.1 0 dX6_init_27 (j_zg ?_))
  refine kg_putI (k := 3) C 3 rfl (by rw [n30]; exact (by decide)) (by decide +kernel) e32 fl_X6_23 rfl fp_6_3 (by decide) dX6_init_28 ?_
  have z36 : kZ (zup (zup mem 1 2 0) 1 3 0) 4 := kZ_up z35 (by decide)
  refine zg_j (zj_aload_n (j := 0) (i := 0) C.1 rfl 0 rfl dX6_init_31 (j_zg ?_))
  refine zg_j (zj_iconst C.1 0 dX6_init_32 (j_zg ?_))
  refine kg_putI (k := 4) C 4 rfl (by rw [n30]; exact (by decide)) (by decide +kernel) e32 fl_X6_26 rfl fp_6_4 (by decide) dX6_init_33 ?_
  have z37 : kZ (zup (zup (zup mem 1 2 0) 1 3 0) 1 4 0) 4 := kZ_up z36 (by decide)
  refine zg_j (zj_aload_n (j := 0) (i := 0) C.1 rfl 0 rfl dX6_init_36 (j_zg ?_))
  refine zg_j (zj_iconst C.1 0 dX6_init_37 (j_zg ?_))
  refine kg_putI (k := 5) C 5 rfl (by rw [n30]; exact (by decide)) (by decide +kernel) e32 fl_X6_29 rfl fp_6_5 (by decide) dX6_init_38 ?_
  have z38 : kZ (zup (zup (zup (zup mem 1 2 0) 1 3 0) 1 4 0) 1 5 0) 4 := kZ_up z37 (by decide)
  refine zg_j (zj_aload_n (j := 0) (i := 0) C.1 rfl 0 rfl dX6_init_41 (j_zg ?_))
  refine zg_j (zj_iconst C.1 0 dX6_init_42 (j_zg ?_))
  refine kg_putI (k := 6) C 6 rfl (by rw [n30]; exact (by decide)) (by decide +kernel) e32 fl_X6_32 rfl fp_6_6 (by decide) dX6_init_43 ?_
  have z39 : kZ (zup (zup (zup (zup (zup mem 1 2 0) 1 3 0) 1 4 0) 1 5 0) 1 6 0) 4 := kZ_up z38 (by decide)
  refine zg_j (zj_aload_n (j := 0) (i := 0) C.1 rfl 0 rfl dX6_init_46 (j_zg ?_))
  refine zg_j (zj_lconst C.1 0 rfl dX6_init_47 (j_zg ?_))
  refine kg_putL (k := 7) C 7 rfl (by rw [n30]; exact (by decide)) (by decide +kernel) e32 fl_X6_35 rfl fp_6_7 (by decide) dX6_init_48 ?_
  have z40 : kZ (zup (zup (zup (zup (zup (zup mem 1 2 0) 1 3 0) 1 4 0) 1 5 0) 1 6 0) 1 7 0) 4 := kZ_up z39 (by decide)
  refine zg_j (zj_aload_n (j := 0) (i := 0) C.1 rfl 0 rfl dX6_init_51 (j_zg ?_))
  refine zg_j (zj_iconst C.1 (-1) dX6_init_52 (j_zg ?_))
  refine kg_putI (k := 8) C 8 rfl (by rw [n30]; exact (by decide)) (by decide +kernel) e32 fl_X6_39 rfl fp_6_8 (by decide) dX6_init_53 ?_
  have z41 : kZ (zup (zup (zup (zup (zup (zup (zup mem 1 2 0) 1 3 0) 1 4 0) 1 5 0) 1 6 0) 1 7 0) 1 8 (-1)) 4 := kZ_up z40 (by decide)
  refine zg_j (zj_aload_n (j := 0) (i := 0) C.1 rfl 0 rfl dX6_init_56 (j_zg ?_))
  refine zg_j (zj_iconst C.1 0 dX6_init_57 (j_zg ?_))
  refine kg_putI (k := 9) C 9 rfl (by rw [n30]; exact (by decide)) (by decide +kernel) e32 fl_X6_42 rfl fp_6_9 (by decide) dX6_init_58 ?_
  have z42 : kZ (zup (zup (zup (zup (zup (zup (zup (zup mem 1 2 0) 1 3 0) 1 4 0) 1 5 0) 1 6 0) 1 7 0) 1 8 (-1)) 1 9 0) 4 := kZ_up z41 (by decide)
  refine zg_j (zj_aload_n (j := 0) (i := 0) C.1 rfl 0 rfl dX6_init_61 (j_zg ?_))
  refine zg_j (zj_iconst C.1 0 dX6_init_62 (j_zg ?_))
  refine kg_putI (k := 10) C 10 rfl (by rw [n30]; exact (by decide)) (by decide +kernel) e32 fl_X6_45 rfl fp_6_10 (by decide) dX6_init_63 ?_
  have z43 : kZ (zup (zup (zup (zup (zup (zup (zup (zup (zup mem 1 2 0) 1 3 0) 1 4 0) 1 5 0) 1 6 0) 1 7 0) 1 8 (-1)) 1 9 0) 1 10 0) 4 := kZ_up z42 (by decide)
  refine zg_j (zj_aload_n (j := 0) (i := 0) C.1 rfl 0 rfl dX6_init_66 (j_zg ?_))
  refine zg_j (zj_ldcS C.1 0 (by decide) rfl dX6_init_67 (j_zg ?_))
  refine zg_j (zj_iconst C.1 0 dX6_init_69 (j_zg ?_))
  refine yg_callV (Γ := Γ29) (b := 1) (ci := 6) (k := 1) C.1 hl0 (As := [.ref (gS Γ29 (10 + 0)), .int (i32 0)]) (rest := []) (q := (9, wr3 (kw32.take 9) 0 (zup (zup (zup (zup (zup (zup (zup (zup (zup mem 1 2 0) 1 3 0) 1 4 0) 1 5 0) 1 6 0) 1 7 0) 1 8 (-1)) 1 9 0) 1 10 0))) cal_X6_packWords calv_X6_packWords ml_X6_50 ⟨(by rw [n30]; exact (by decide)), by decide +kernel⟩ rfl rfl (by rw [hR]; exact ⟨by decide, by decide, by decide, by decide⟩) (Nat.le_of_ble_eq_true rfl) dX6_init_70 (M_X6_packWords l Γ29 ⟨by rw [n30]; decide, f28⟩ (by decide) (by decide) _ _ (pack_0 (zup (zup (zup (zup (zup (zup (zup (zup (zup mem 1 2 0) 1 3 0) 1 4 0) 1 5 0) 1 6 0) 1 7 0) 1 8 (-1)) 1 9 0) 1 10 0))) (by show _ = [Value.int (i32 0), .ref (gS Γ29 (10 + 0)), .ref (gD Γ29 1)]; rw [e32]) (fun _ => ?_)
  show zg (kX X ((0 + 1) + 1) ((0 + 940) + 24)) Γ29 2 73 [(0, .ref a)] [.int (i32 9)] (wr3 (kw32.take 9) 0 (zup (zup (zup (zup (zup (zup (zup (zup (zup mem 1 2 0) 1 3 0) 1 4 0) 1 5 0) 1 6 0) 1 7 0) 1 8 (-1)) 1 9 0) 1 10 0))
  have z44 : kZ (wr3 (kw32.take 9) 0 (zup (zup (zup (zup (zup (zup (zup (zup (zup mem 1 2 0) 1 3 0) 1 4 0) 1 5 0) 1 6 0) 1 7 0) 1 8 (-1)) 1 9 0) 1 10 0)) 4 := kZ_wr z43 (by decide)
  refine zg_j (zj_istore_n (i := 1) (j := 1) C.1 rfl [(1, .int (i32 9)), (0, .ref a)] dX6_init_73 (by decide) rfl (j_zg ?_))
  refine zg_j (zj_aload_n (j := 0) (i := 0) C.1 rfl 1 rfl dX6_init_74 (j_zg ?_))
  refine zg_j (zj_ldcS C.1 1 (by decide) rfl dX6_init_75 (j_zg ?_))
  refine zg_j (zj_iload_n (j := 1) (i := 1) C.1 rfl 0 rfl dX6_init_77 (j_zg ?_))
  refine yg_callV (Γ := Γ29) (b := 1) (ci := 6) (k := 1) C.1 hl0 (As := [.ref (gS Γ29 (10 + 1)), .int (i32 9)]) (rest := []) (q := (13, wr3 ((kw32.drop 9).take 4) 9 (wr3 (kw32.take 9) 0 (zup (zup (zup (zup (zup (zup (zup (zup (zup mem 1 2 0) 1 3 0) 1 4 0) 1 5 0) 1 6 0) 1 7 0) 1 8 (-1)) 1 9 0) 1 10 0)))) cal_X6_packWords calv_X6_packWords ml_X6_50 ⟨(by rw [n30]; exact (by decide)), by decide +kernel⟩ rfl rfl (by rw [hR]; exact ⟨by decide, by decide, by decide, by decide⟩) (Nat.le_of_ble_eq_true rfl) dX6_init_78 (M_X6_packWords l Γ29 ⟨by rw [n30]; decide, f28⟩ (by decide) (by decide) _ _ (pack_1 (wr3 (kw32.take 9) 0 (zup (zup (zup (zup (zup (zup (zup (zup (zup mem 1 2 0) 1 3 0) 1 4 0) 1 5 0) 1 6 0) 1 7 0) 1 8 (-1)) 1 9 0) 1 10 0)))) (by show _ = [Value.int (i32 9), .ref (gS Γ29 (10 + 1)), .ref (gD Γ29 1)]; rw [e32]) (fun _ => ?_)
  show zg (kX X ((0 + 1) + 1) ((0 + 940) + 24)) Γ29 2 81 [(1, .int (i32 9)), (0, .ref a)] [.int (i32 13)] (wr3 ((kw32.drop 9).take 4) 9 (wr3 (kw32.take 9) 0 (zup (zup (zup (zup (zup (zup (zup (zup (zup mem 1 2 0) 1 3 0) 1 4 0) 1 5 0) 1 6 0) 1 7 0) 1 8 (-1)) 1 9 0) 1 10 0)))
  have z45 : kZ (wr3 ((kw32.drop 9).take 4) 9 (wr3 (kw32.take 9) 0 (zup (zup (zup (zup (zup (zup (zup (zup (zup mem 1 2 0) 1 3 0) 1 4 0) 1 5 0) 1 6 0) 1 7 0) 1 8 (-1)) 1 9 0) 1 10 0))) 4 := kZ_wr z44 (by decide)
  refine zg_j (zj_istore_n (i := 1) (j := 1) C.1 rfl [(1, .int (i32 13)), (0, .ref a)] dX6_init_81 (by decide) rfl (j_zg ?_))
  refine zg_j (zj_aload_n (j := 0) (i := 0) C.1 rfl 1 rfl dX6_init_82 (j_zg ?_))
  refine zg_j (zj_ldcS C.1 2 (by decide) rfl dX6_init_83 (j_zg ?_))
  refine zg_j (zj_iload_n (j := 1) (i := 1) C.1 rfl 0 rfl dX6_init_85 (j_zg ?_))
  refine yg_callV (Γ := Γ29) (b := 1) (ci := 6) (k := 1) C.1 hl0 (As := [.ref (gS Γ29 (10 + 2)), .int (i32 13)]) (rest := []) (q := (24, wr3 (kw32.drop 13) 13 (wr3 ((kw32.drop 9).take 4) 9 (wr3 (kw32.take 9) 0 (zup (zup (zup (zup (zup (zup (zup (zup (zup mem 1 2 0) 1 3 0) 1 4 0) 1 5 0) 1 6 0) 1 7 0) 1 8 (-1)) 1 9 0) 1 10 0))))) cal_X6_packWords calv_X6_packWords ml_X6_50 ⟨(by rw [n30]; exact (by decide)), by decide +kernel⟩ rfl rfl (by rw [hR]; exact ⟨by decide, by decide, by decide, by decide⟩) (Nat.le_of_ble_eq_true rfl) dX6_init_86 (M_X6_packWords l Γ29 ⟨by rw [n30]; decide, f28⟩ (by decide) (by decide) _ _ (pack_2 (wr3 ((kw32.drop 9).take 4) 9 (wr3 (kw32.take 9) 0 (zup (zup (zup (zup (zup (zup (zup (zup (zup mem 1 2 0) 1 3 0) 1 4 0) 1 5 0) 1 6 0) 1 7 0) 1 8 (-1)) 1 9 0) 1 10 0))))) (by show _ = [Value.int (i32 13), .ref (gS Γ29 (10 + 2)), .ref (gD Γ29 1)]; rw [e32]) (fun _ => ?_)
  show zg (kX X ((0 + 1) + 1) ((0 + 940) + 24)) Γ29 2 89 [(1, .int (i32 13)), (0, .ref a)] [.int (i32 24)] (wr3 (kw32.drop 13) 13 (wr3 ((kw32.drop 9).take 4) 9 (wr3 (kw32.take 9) 0 (zup (zup (zup (zup (zup (zup (zup (zup (zup mem 1 2 0) 1 3 0) 1 4 0) 1 5 0) 1 6 0) 1 7 0) 1 8 (-1)) 1 9 0) 1 10 0))))
  have z46 : kZ (wr3 (kw32.drop 13) 13 (wr3 ((kw32.drop 9).take 4) 9 (wr3 (kw32.take 9) 0 (zup (zup (zup (zup (zup (zup (zup (zup (zup mem 1 2 0) 1 3 0) 1 4 0) 1 5 0) 1 6 0) 1 7 0) 1 8 (-1)) 1 9 0) 1 10 0)))) 4 := kZ_wr z45 (by decide)
  refine zg_j (zj_pop C.1 rfl dX6_init_89 (j_zg ?_))
  refine kg_ret C Z t31 n30 (fun p k hr hp => ?_) ⟨by decide, by decide⟩ dX6_init_90
  rw [hN] at hp
  rcases (by omega : (p = 1) ∨ (p = 2) ∨ (p = 3)) with hp | hp | hp
  · subst hp
    obtain ⟨h1, h2⟩ := isR_o (ci := 6) (by decide +kernel) (by decide) hr
    have h3 : ∀ k, k < sNf 6 → sFk 6 k = 2 → k = 0 ∨ k = 1 := by decide +kernel
    rcases h3 k h1 h2 with rfl | rfl
    · exact f34
    · exact f28
  · subst hp
    exact absurd hr (fun h => isR_a (ci := 13) (by decide +kernel) (by decide) h)
  · subst hp
    exact absurd hr (fun h => isR_a (ci := 14) (by decide +kernel) (by decide) h)
