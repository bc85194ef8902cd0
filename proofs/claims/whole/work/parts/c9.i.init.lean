def iX2 (mem : zMem) : zMem := (iX7 90 (iX7 85 (iX7 80 (iX7 75 (iX7 70 (iX7 65 (iX7 60 (iX7 55 (zup (zup mem 53 1 0) 53 2 0)))))))))
theorem kZ_X2 {mem : zMem} {M : Nat} (h : kZ mem M) (hq : 94 < M) : kZ (iX2 mem) M := by
  unfold iX2
  exact (kZ_X7 (kZ_X7 (kZ_X7 (kZ_X7 (kZ_X7 (kZ_X7 (kZ_X7 (kZ_X7 (kZ_up (kZ_up h (by omega)) (by omega)) (by omega)) (by omega)) (by omega)) (by omega)) (by omega)) (by omega)) (by omega)) (by omega))
set_option maxHeartbeats 4000000 in
theorem K_X2 (l : Launch) {Γ : zG} {a : Nat} {mem : zMem}  (hN : gN Γ = 54) (ha : gD Γ 53 = a) (hz : kZ mem 54) : kMet l yX2_init cX2_init 2 2 41 728 Γ 53 95 [.ref a] mem (iX2 mem) := by
  refine kMet_of (own := "ShadowHeirs$History") (by decide) rfl rfl (Nat.le_of_ble_eq_true rfl) (fun X C Z => ?_)
  have hR := kRt_R Z
  have hl0 : X.2.1 = l := kRt_l Z
  show zg (kX X 0 0) Γ 2 0 [(0, .ref a)] [] mem
  refine zg_j (zj_aload_n (j := 0) (i := 0) C.1 rfl 0 rfl dX2_init_0 (j_zg ?_))
  refine kg_obj C (by rw [hR]; exact ⟨by decide, by simp [kRm, Value.category]⟩) moi_X2_1 oi_1 oi_2 dX2_init_1 ?_
  refine zg_j (zj_aload_n (j := 0) (i := 0) C.1 rfl 0 rfl dX2_init_4 (j_zg ?_))
  refine zg_j (zj_bipush C.1 8 rfl dX2_init_5 (j_zg ?_))
  refine kg_newQ C hN (by decide +kernel) (L := 8) (by decide +kernel) (by decide) (by decide) (fun j => hz _ j (Nat.le_refl _)) (by rw [hR]; exact ⟨by decide, by decide⟩) acl_X2_9 dX2_init_7 (fun Γ1 a2 s3 n4 e5 C => ?_)
  have z6 : kZ mem 55 := kZ_le hz (Nat.le_succ _)
  have t7 := kS_t (kS_r Γ) s3
  have e8 : gD Γ1 53 = a := (s3.2.2.1 53 (by rw [hN]; exact (by decide))).trans ha
  refine kg_putR C (by rw [n4]; exact (by decide)) (by decide +kernel) e8 fl_X2_11 klk_X2_11 rfl kfin_2_0 (by rw [(by decide +kernel : sRf 53 0 = 54), n4]; decide) (by rw [(by decide +kernel : sRf 53 0 = 54)]; exact e5) dX2_init_10 (fun Γ12 s9 n10 f11 C => ?_)
  have n13 : gN Γ12 = 55 := n10.trans n4
  have t14 := kS_t t7 s9
  have e15 : gD Γ12 53 = a := (s9.2.2.1 53 (by rw [n4]; exact (by decide))).trans e8
  have e16 : gD Γ12 54 = a2 := (s9.2.2.1 54 (by rw [n4]; exact (by decide))).trans e5
  refine zg_j (zj_aload_n (j := 0) (i := 0) C.1 rfl 0 rfl dX2_init_13 (j_zg ?_))
  refine zg_j (zj_iconst C.1 0 dX2_init_14 (j_zg ?_))
  refine kg_putI (k := 1) C 1 rfl (by rw [n13]; exact (by decide)) (by decide +kernel) e15 fl_X2_15 rfl fp_2_1 (by decide) dX2_init_15 ?_
  have z17 : kZ (zup mem 53 1 0) 55 := kZ_up z6 (by decide)
  refine zg_j (zj_aload_n (j := 0) (i := 0) C.1 rfl 0 rfl dX2_init_18 (j_zg ?_))
  refine zg_j (zj_iconst C.1 0 dX2_init_19 (j_zg ?_))
  refine kg_putI (k := 2) C 2 rfl (by rw [n13]; exact (by decide)) (by decide +kernel) e15 fl_X2_19 rfl fp_2_2 (by decide) dX2_init_20 ?_
  have z18 : kZ (zup (zup mem 53 1 0) 53 2 0) 55 := kZ_up z17 (by decide)
  refine zg_j (zj_iconst C.1 0 dX2_init_23 (j_zg ?_))
  refine zg_j (zj_istore_n (i := 1) (j := 1) C.1 rfl [(1, .int (i32 0)), (0, .ref a)] dX2_init_24 (by decide) rfl (j_zg ?_))
  refine zg_j (zj_iload_n (j := 1) (i := 1) C.1 rfl 0 rfl dX2_init_25 (j_zg ?_))
  refine zg_j (zj_aload_n (j := 0) (i := 0) C.1 rfl 1 rfl dX2_init_26 (j_zg ?_))
  obtain ⟨b19, hb20⟩ : ∃ b, gD Γ12 54 = b := ⟨_, rfl⟩
  refine kg_getR (q := 53) (b := b19) C (by rw [n13]; exact (by decide)) (by decide +kernel) e15 fl_X2_11 rfl f11 (by rw [(by decide +kernel : sRf 53 0 = 54)]; exact hb20) dX2_init_27 ?_
  refine kg_alen (q := 54) (k := 17) (n := 8) C (by rw [n13]; exact (by decide)) (by decide +kernel) (by decide) hb20 (by decide +kernel) dX2_init_30 ?_
  refine zg_j (zj_cneg (c := (0 : Int) ≥ 8) (A := none) (by decide) (zj_icmp_ge C.1 53 (by decide) (by decide) dX2_init_31 rfl (fun h => absurd h (by decide)) (fun _ => j_zg ?_)))
  refine zg_j (zj_aload_n (j := 0) (i := 0) C.1 rfl 1 rfl dX2_init_34 (j_zg ?_))
  obtain ⟨b21, hb22⟩ : ∃ b, gD Γ12 54 = b := ⟨_, rfl⟩
  refine kg_getR (q := 53) (b := b21) C (by rw [n13]; exact (by decide)) (by decide +kernel) e15 fl_X2_11 rfl f11 (by rw [(by decide +kernel : sRf 53 0 = 54)]; exact hb22) dX2_init_35 ?_
  refine zg_j (zj_iload_n (j := 1) (i := 1) C.1 rfl 0 rfl dX2_init_38 (j_zg ?_))
  refine kg_new C n13 (by decide +kernel) (L := 9) rfl kcl_X2_9 (fun j => z18 _ j (Nat.le_refl _)) (by rw [hR]; exact ⟨by decide, by decide⟩) dX2_init_39 (fun Γ23 a24 s25 n26 e27 C => ?_)
  have z28 : kZ (zup (zup mem 53 1 0) 53 2 0) 56 := kZ_le z18 (Nat.le_succ _)
  have t29 := kS_t t14 s25
  have e30 : gD Γ23 53 = a := (s25.2.2.1 53 (by rw [n13]; exact (by decide))).trans e15
  have e31 : gD Γ23 54 = b21 := (s25.2.2.1 54 (by rw [n13]; exact (by decide))).trans hb22
  have f32 := s25.2.2.2 _ _ f11
  refine zg_j (zj_dup C.1 rfl dX2_init_42 (j_zg ?_))
  refine kg_callI C (As := []) (rest := [.ref a24, .int (i32 0), .ref b21]) hl0 cal_X7_init rfl ins_X7_init ml_X2_22 rfl (by rw [hR]; exact ⟨by decide, by decide, by decide, by decide⟩) (Nat.le_of_ble_eq_true rfl) dX2_init_43 (K_X7 l (q := 55) (N := 56) (by decide +kernel) (by decide +kernel) (by decide +kernel) (by decide +kernel) (by decide +kernel) (by decide +kernel) (by decide +kernel) (by decide +kernel) (by decide +kernel) (by decide +kernel) (by decide +kernel) (by decide +kernel) (by decide +kernel) (by decide +kernel) n26 e27  z28) rfl (fun Γ33 s34 n35 kf36 C => ?_)
  have z37 : kZ (iX7 55 (zup (zup mem 53 1 0) 53 2 0)) 60 := kZ_X7 (kZ_le z28 (by decide)) (by decide)
  have t38 := kS_t t29 s34
  have e39 : gD Γ33 53 = a := (s34.2.2.1 53 (by rw [n26]; exact (by decide))).trans e30
  have e40 : gD Γ33 54 = b21 := (s34.2.2.1 54 (by rw [n26]; exact (by decide))).trans e31
  have e41 : gD Γ33 55 = a24 := (s34.2.2.1 55 (by rw [n26]; exact (by decide))).trans e27
  have f42 := s34.2.2.2 _ _ f32
  have Q43 : ∀ p k, isR p k = true → (p = 55 ∨ (56 ≤ p ∧ p < 60)) → gF Γ33 p k = true := fun p k h1 h2 => kf36 p k h1 (by rw [n26]; exact h2)
  refine kg_ast17 (q := 54) (i := 0) (w := 55) C (by rw [n35]; exact (by decide)) (by decide +kernel) e40 rfl (by decide +kernel) (by decide) (by decide +kernel) (by rw [n35]; exact (by decide)) (by decide +kernel) e41 dX2_init_46 (fun Γ44 s45 n46 f47 C => ?_)
  have n48 : gN Γ44 = 60 := n46.trans n35
  have t49 := kS_t t38 s45
  have e50 : gD Γ44 53 = a := (s45.2.2.1 53 (by rw [n35]; exact (by decide))).trans e39
  have e51 : gD Γ44 54 = b21 := (s45.2.2.1 54 (by rw [n35]; exact (by decide))).trans e40
  have e52 : gD Γ44 55 = a24 := (s45.2.2.1 55 (by rw [n35]; exact (by decide))).trans e41
  have f53 := s45.2.2.2 _ _ f42
  refine zg_j (zj_iinc C.1 0 [(1, .int (i32 (w32 (0 + 1)))), (0, .ref a)] rfl dX2_init_47 (by decide) rfl (j_zg ?_))
  have ew27 : w32 (0 + 1) = 1 := w32_id (by decide)
  rw [ew27]
  refine zg_j (zj_goto C.1 dX2_init_50 rfl (j_zg ?_))
  refine zg_j (zj_iload_n (j := 1) (i := 1) C.1 rfl 0 rfl dX2_init_25 (j_zg ?_))
  refine zg_j (zj_aload_n (j := 0) (i := 0) C.1 rfl 1 rfl dX2_init_26 (j_zg ?_))
  obtain ⟨b54, hb55⟩ : ∃ b, gD Γ44 54 = b := ⟨_, rfl⟩
  refine kg_getR (q := 53) (b := b54) C (by rw [n48]; exact (by decide)) (by decide +kernel) e50 fl_X2_11 rfl f53 (by rw [(by decide +kernel : sRf 53 0 = 54)]; exact hb55) dX2_init_27 ?_
  refine kg_alen (q := 54) (k := 17) (n := 8) C (by rw [n48]; exact (by decide)) (by decide +kernel) (by decide) hb55 (by decide +kernel) dX2_init_30 ?_
  refine zg_j (zj_cneg (c := (1 : Int) ≥ 8) (A := none) (by decide) (zj_icmp_ge C.1 53 (by decide) (by decide) dX2_init_31 rfl (fun h => absurd h (by decide)) (fun _ => j_zg ?_)))
  refine zg_j (zj_aload_n (j := 0) (i := 0) C.1 rfl 1 rfl dX2_init_34 (j_zg ?_))
  obtain ⟨b56, hb57⟩ : ∃ b, gD Γ44 54 = b := ⟨_, rfl⟩
  refine kg_getR (q := 53) (b := b56) C (by rw [n48]; exact (by decide)) (by decide +kernel) e50 fl_X2_11 rfl f53 (by rw [(by decide +kernel : sRf 53 0 = 54)]; exact hb57) dX2_init_35 ?_
  refine zg_j (zj_iload_n (j := 1) (i := 1) C.1 rfl 0 rfl dX2_init_38 (j_zg ?_))
  refine kg_new C n48 (by decide +kernel) (L := 9) rfl kcl_X2_9 (fun j => z37 _ j (Nat.le_refl _)) (by rw [hR]; exact ⟨by decide, by decide⟩) dX2_init_39 (fun Γ58 a59 s60 n61 e62 C => ?_)
  have z63 : kZ (iX7 55 (zup (zup mem 53 1 0) 53 2 0)) 61 := kZ_le z37 (Nat.le_succ _)
  have t64 := kS_t t49 s60
  have e65 : gD Γ58 53 = a := (s60.2.2.1 53 (by rw [n48]; exact (by decide))).trans e50
  have e66 : gD Γ58 54 = b56 := (s60.2.2.1 54 (by rw [n48]; exact (by decide))).trans hb57
  have f67 := s60.2.2.2 _ _ f53
  have f68 := s60.2.2.2 _ _ f47
  refine zg_j (zj_dup C.1 rfl dX2_init_42 (j_zg ?_))
  refine kg_callI C (As := []) (rest := [.ref a59, .int (i32 1), .ref b56]) hl0 cal_X7_init rfl ins_X7_init ml_X2_22 rfl (by rw [hR]; exact ⟨by decide, by decide, by decide, by decide⟩) (Nat.le_of_ble_eq_true rfl) dX2_init_43 (K_X7 l (q := 60) (N := 61) (by decide +kernel) (by decide +kernel) (by decide +kernel) (by decide +kernel) (by decide +kernel) (by decide +kernel) (by decide +kernel) (by decide +kernel) (by decide +kernel) (by decide +kernel) (by decide +kernel) (by decide +kernel) (by decide +kernel) (by decide +kernel) n61 e62  z63) rfl (fun Γ69 s70 n71 kf72 C => ?_)
  have z73 : kZ (iX7 60 (iX7 55 (zup (zup mem 53 1 0) 53 2 0))) 65 := kZ_X7 (kZ_le z63 (by decide)) (by decide)
  have t74 := kS_t t64 s70
  have e75 : gD Γ69 53 = a := (s70.2.2.1 53 (by rw [n61]; exact (by decide))).trans e65
  have e76 : gD Γ69 54 = b56 := (s70.2.2.1 54 (by rw [n61]; exact (by decide))).trans e66
  have e77 : gD Γ69 60 = a59 := (s70.2.2.1 60 (by rw [n61]; exact (by decide))).trans e62
  have f78 := s70.2.2.2 _ _ f67
  have f79 := s70.2.2.2 _ _ f68
  have Q80 : ∀ p k, isR p k = true → (p = 60 ∨ (61 ≤ p ∧ p < 65)) → gF Γ69 p k = true := fun p k h1 h2 => kf72 p k h1 (by rw [n61]; exact h2)
  refine kg_ast17 (q := 54) (i := 1) (w := 60) C (by rw [n71]; exact (by decide)) (by decide +kernel) e76 rfl (by decide +kernel) (by decide) (by decide +kernel) (by rw [n71]; exact (by decide)) (by decide +kernel) e77 dX2_init_46 (fun Γ81 s82 n83 f84 C => ?_)
  have n85 : gN Γ81 = 65 := n83.trans n71
  have t86 := kS_t t74 s82
  have e87 : gD Γ81 53 = a := (s82.2.2.1 53 (by rw [n71]; exact (by decide))).trans e75
  have e88 : gD Γ81 54 = b56 := (s82.2.2.1 54 (by rw [n71]; exact (by decide))).trans e76
  have e89 : gD Γ81 60 = a59 := (s82.2.2.1 60 (by rw [n71]; exact (by decide))).trans e77
  have f90 := s82.2.2.2 _ _ f78
  have f91 := s82.2.2.2 _ _ f79
  refine zg_j (zj_iinc C.1 0 [(1, .int (i32 (w32 (1 + 1)))), (0, .ref a)] rfl dX2_init_47 (by decide) rfl (j_zg ?_))
  have ew41 : w32 (1 + 1) = 2 := w32_id (by decide)
  rw [ew41]
  refine zg_j (zj_goto C.1 dX2_init_50 rfl (j_zg ?_))
  refine zg_j (zj_iload_n (j := 1) (i := 1) C.1 rfl 0 rfl dX2_init_25 (j_zg ?_))
  refine zg_j (zj_aload_n (j := 0) (i := 0) C.1 rfl 1 rfl dX2_init_26 (j_zg ?_))
  obtain ⟨b92, hb93⟩ : ∃ b, gD Γ81 54 = b := ⟨_, rfl⟩
  refine kg_getR (q := 53) (b := b92) C (by rw [n85]; exact (by decide)) (by decide +kernel) e87 fl_X2_11 rfl f90 (by rw [(by decide +kernel : sRf 53 0 = 54)]; exact hb93) dX2_init_27 ?_
  refine kg_alen (q := 54) (k := 17) (n := 8) C (by rw [n85]; exact (by decide)) (by decide +kernel) (by decide) hb93 (by decide +kernel) dX2_init_30 ?_
  refine zg_j (zj_cneg (c := (2 : Int) ≥ 8) (A := none) (by decide) (zj_icmp_ge C.1 53 (by decide) (by decide) dX2_init_31 rfl (fun h => absurd h (by decide)) (fun _ => j_zg ?_)))
  refine zg_j (zj_aload_n (j := 0) (i := 0) C.1 rfl 1 rfl dX2_init_34 (j_zg ?_))
  obtain ⟨b94, hb95⟩ : ∃ b, gD Γ81 54 = b := ⟨_, rfl⟩
  refine kg_getR (q := 53) (b := b94) C (by rw [n85]; exact (by decide)) (by decide +kernel) e87 fl_X2_11 rfl f90 (by rw [(by decide +kernel : sRf 53 0 = 54)]; exact hb95) dX2_init_35 ?_
  refine zg_j (zj_iload_n (j := 1) (i := 1) C.1 rfl 0 rfl dX2_init_38 (j_zg ?_))
  refine kg_new C n85 (by decide +kernel) (L := 9) rfl kcl_X2_9 (fun j => z73 _ j (Nat.le_refl _)) (by rw [hR]; exact ⟨by decide, by decide⟩) dX2_init_39 (fun Γ96 a97 s98 n99 e100 C => ?_)
  have z101 : kZ (iX7 60 (iX7 55 (zup (zup mem 53 1 0) 53 2 0))) 66 := kZ_le z73 (Nat.le_succ _)
  have t102 := kS_t t86 s98
  have e103 : gD Γ96 53 = a := (s98.2.2.1 53 (by rw [n85]; exact (by decide))).trans e87
  have e104 : gD Γ96 54 = b94 := (s98.2.2.1 54 (by rw [n85]; exact (by decide))).trans hb95
  have f105 := s98.2.2.2 _ _ f90
  have f106 := s98.2.2.2 _ _ f91
  have f107 := s98.2.2.2 _ _ f84
  refine zg_j (zj_dup C.1 rfl dX2_init_42 (j_zg ?_))
  refine kg_callI C (As := []) (rest := [.ref a97, .int (i32 2), .ref b94]) hl0 cal_X7_init rfl ins_X7_init ml_X2_22 rfl (by rw [hR]; exact ⟨by decide, by decide, by decide, by decide⟩) (Nat.le_of_ble_eq_true rfl) dX2_init_43 (K_X7 l (q := 65) (N := 66) (by decide +kernel) (by decide +kernel) (by decide +kernel) (by decide +kernel) (by decide +kernel) (by decide +kernel) (by decide +kernel) (by decide +kernel) (by decide +kernel) (by decide +kernel) (by decide +kernel) (by decide +kernel) (by decide +kernel) (by decide +kernel) n99 e100  z101) rfl (fun Γ108 s109 n110 kf111 C => ?_)
  have z112 : kZ (iX7 65 (iX7 60 (iX7 55 (zup (zup mem 53 1 0) 53 2 0)))) 70 := kZ_X7 (kZ_le z101 (by decide)) (by decide)
  have t113 := kS_t t102 s109
  have e114 : gD Γ108 53 = a := (s109.2.2.1 53 (by rw [n99]; exact (by decide))).trans e103
  have e115 : gD Γ108 54 = b94 := (s109.2.2.1 54 (by rw [n99]; exact (by decide))).trans e104
  have e116 : gD Γ108 65 = a97 := (s109.2.2.1 65 (by rw [n99]; exact (by decide))).trans e100
  have f117 := s109.2.2.2 _ _ f105
  have f118 := s109.2.2.2 _ _ f106
  have f119 := s109.2.2.2 _ _ f107
  have Q120 : ∀ p k, isR p k = true → (p = 65 ∨ (66 ≤ p ∧ p < 70)) → gF Γ108 p k = true := fun p k h1 h2 => kf111 p k h1 (by rw [n99]; exact h2)
  refine kg_ast17 (q := 54) (i := 2) (w := 65) C (by rw [n110]; exact (by decide)) (by decide +kernel) e115 rfl (by decide +kernel) (by decide) (by decide +kernel) (by rw [n110]; exact (by decide)) (by decide +kernel) e116 dX2_init_46 (fun Γ121 s122 n123 f124 C => ?_)
  have n125 : gN Γ121 = 70 := n123.trans n110
  have t126 := kS_t t113 s122
  have e127 : gD Γ121 53 = a := (s122.2.2.1 53 (by rw [n110]; exact (by decide))).trans e114
  have e128 : gD Γ121 54 = b94 := (s122.2.2.1 54 (by rw [n110]; exact (by decide))).trans e115
  have e129 : gD Γ121 65 = a97 := (s122.2.2.1 65 (by rw [n110]; exact (by decide))).trans e116
  have f130 := s122.2.2.2 _ _ f117
  have f131 := s122.2.2.2 _ _ f118
  have f132 := s122.2.2.2 _ _ f119
  refine zg_j (zj_iinc C.1 0 [(1, .int (i32 (w32 (2 + 1)))), (0, .ref a)] rfl dX2_init_47 (by decide) rfl (j_zg ?_))
  have ew55 : w32 (2 + 1) = 3 := w32_id (by decide)
  rw [ew55]
  refine zg_j (zj_goto C.1 dX2_init_50 rfl (j_zg ?_))
  refine zg_j (zj_iload_n (j := 1) (i := 1) C.1 rfl 0 rfl dX2_init_25 (j_zg ?_))
  refine zg_j (zj_aload_n (j := 0) (i := 0) C.1 rfl 1 rfl dX2_init_26 (j_zg ?_))
  obtain ⟨b133, hb134⟩ : ∃ b, gD Γ121 54 = b := ⟨_, rfl⟩
  refine kg_getR (q := 53) (b := b133) C (by rw [n125]; exact (by decide)) (by decide +kernel) e127 fl_X2_11 rfl f130 (by rw [(by decide +kernel : sRf 53 0 = 54)]; exact hb134) dX2_init_27 ?_
  refine kg_alen (q := 54) (k := 17) (n := 8) C (by rw [n125]; exact (by decide)) (by decide +kernel) (by decide) hb134 (by decide +kernel) dX2_init_30 ?_
  refine zg_j (zj_cneg (c := (3 : Int) ≥ 8) (A := none) (by decide) (zj_icmp_ge C.1 53 (by decide) (by decide) dX2_init_31 rfl (fun h => absurd h (by decide)) (fun _ => j_zg ?_)))
  refine zg_j (zj_aload_n (j := 0) (i := 0) C.1 rfl 1 rfl dX2_init_34 (j_zg ?_))
  obtain ⟨b135, hb136⟩ : ∃ b, gD Γ121 54 = b := ⟨_, rfl⟩
  refine kg_getR (q := 53) (b := b135) C (by rw [n125]; exact (by decide)) (by decide +kernel) e127 fl_X2_11 rfl f130 (by rw [(by decide +kernel : sRf 53 0 = 54)]; exact hb136) dX2_init_35 ?_
  refine zg_j (zj_iload_n (j := 1) (i := 1) C.1 rfl 0 rfl dX2_init_38 (j_zg ?_))
  refine kg_new C n125 (by decide +kernel) (L := 9) rfl kcl_X2_9 (fun j => z112 _ j (Nat.le_refl _)) (by rw [hR]; exact ⟨by decide, by decide⟩) dX2_init_39 (fun Γ137 a138 s139 n140 e141 C => ?_)
  have z142 : kZ (iX7 65 (iX7 60 (iX7 55 (zup (zup mem 53 1 0) 53 2 0)))) 71 := kZ_le z112 (Nat.le_succ _)
  have t143 := kS_t t126 s139
  have e144 : gD Γ137 53 = a := (s139.2.2.1 53 (by rw [n125]; exact (by decide))).trans e127
  have e145 : gD Γ137 54 = b135 := (s139.2.2.1 54 (by rw [n125]; exact (by decide))).trans hb136
  have f146 := s139.2.2.2 _ _ f130
  have f147 := s139.2.2.2 _ _ f131
  have f148 := s139.2.2.2 _ _ f132
  have f149 := s139.2.2.2 _ _ f124
  refine zg_j (zj_dup C.1 rfl dX2_init_42 (j_zg ?_))
  refine kg_callI C (As := []) (rest := [.ref a138, .int (i32 3), .ref b135]) hl0 cal_X7_init rfl ins_X7_init ml_X2_22 rfl (by rw [hR]; exact ⟨by decide, by decide, by decide, by decide⟩) (Nat.le_of_ble_eq_true rfl) dX2_init_43 (K_X7 l (q := 70) (N := 71) (by decide +kernel) (by decide +kernel) (by decide +kernel) (by decide +kernel) (by decide +kernel) (by decide +kernel) (by decide +kernel) (by decide +kernel) (by decide +kernel) (by decide +kernel) (by decide +kernel) (by decide +kernel) (by decide +kernel) (by decide +kernel) n140 e141  z142) rfl (fun Γ150 s151 n152 kf153 C => ?_)
  have z154 : kZ (iX7 70 (iX7 65 (iX7 60 (iX7 55 (zup (zup mem 53 1 0) 53 2 0))))) 75 := kZ_X7 (kZ_le z142 (by decide)) (by decide)
  have t155 := kS_t t143 s151
  have e156 : gD Γ150 53 = a := (s151.2.2.1 53 (by rw [n140]; exact (by decide))).trans e144
  have e157 : gD Γ150 54 = b135 := (s151.2.2.1 54 (by rw [n140]; exact (by decide))).trans e145
  have e158 : gD Γ150 70 = a138 := (s151.2.2.1 70 (by rw [n140]; exact (by decide))).trans e141
  have f159 := s151.2.2.2 _ _ f146
  have f160 := s151.2.2.2 _ _ f147
  have f161 := s151.2.2.2 _ _ f148
  have f162 := s151.2.2.2 _ _ f149
  have Q163 : ∀ p k, isR p k = true → (p = 70 ∨ (71 ≤ p ∧ p < 75)) → gF Γ150 p k = true := fun p k h1 h2 => kf153 p k h1 (by rw [n140]; exact h2)
  refine kg_ast17 (q := 54) (i := 3) (w := 70) C (by rw [n152]; exact (by decide)) (by decide +kernel) e157 rfl (by decide +kernel) (by decide) (by decide +kernel) (by rw [n152]; exact (by decide)) (by decide +kernel) e158 dX2_init_46 (fun Γ164 s165 n166 f167 C => ?_)
  have n168 : gN Γ164 = 75 := n166.trans n152
  have t169 := kS_t t155 s165
  have e170 : gD Γ164 53 = a := (s165.2.2.1 53 (by rw [n152]; exact (by decide))).trans e156
  have e171 : gD Γ164 54 = b135 := (s165.2.2.1 54 (by rw [n152]; exact (by decide))).trans e157
  have e172 : gD Γ164 70 = a138 := (s165.2.2.1 70 (by rw [n152]; exact (by decide))).trans e158
  have f173 := s165.2.2.2 _ _ f159
  have f174 := s165.2.2.2 _ _ f160
  have f175 := s165.2.2.2 _ _ f161
  have f176 := s165.2.2.2 _ _ f162
  refine zg_j (zj_iinc C.1 0 [(1, .int (i32 (w32 (3 + 1)))), (0, .ref a)] rfl dX2_init_47 (by decide) rfl (j_zg ?_))
  have ew69 : w32 (3 + 1) = 4 := w32_id (by decide)
  rw [ew69]
  refine zg_j (zj_goto C.1 dX2_init_50 rfl (j_zg ?_))
  refine zg_j (zj_iload_n (j := 1) (i := 1) C.1 rfl 0 rfl dX2_init_25 (j_zg ?_))
  refine zg_j (zj_aload_n (j := 0) (i := 0) C.1 rfl 1 rfl dX2_init_26 (j_zg ?_))
  obtain ⟨b177, hb178⟩ : ∃ b, gD Γ164 54 = b := ⟨_, rfl⟩
  refine kg_getR (q := 53) (b := b177) C (by rw [n168]; exact (by decide)) (by decide +kernel) e170 fl_X2_11 rfl f173 (by rw [(by decide +kernel : sRf 53 0 = 54)]; exact hb178) dX2_init_27 ?_
  refine kg_alen (q := 54) (k := 17) (n := 8) C (by rw [n168]; exact (by decide)) (by decide +kernel) (by decide) hb178 (by decide +kernel) dX2_init_30 ?_
  refine zg_j (zj_cneg (c := (4 : Int) ≥ 8) (A := none) (by decide) (zj_icmp_ge C.1 53 (by decide) (by decide) dX2_init_31 rfl (fun h => absurd h (by decide)) (fun _ => j_zg ?_)))
  refine zg_j (zj_aload_n (j := 0) (i := 0) C.1 rfl 1 rfl dX2_init_34 (j_zg ?_))
  obtain ⟨b179, hb180⟩ : ∃ b, gD Γ164 54 = b := ⟨_, rfl⟩
  refine kg_getR (q := 53) (b := b179) C (by rw [n168]; exact (by decide)) (by decide +kernel) e170 fl_X2_11 rfl f173 (by rw [(by decide +kernel : sRf 53 0 = 54)]; exact hb180) dX2_init_35 ?_
  refine zg_j (zj_iload_n (j := 1) (i := 1) C.1 rfl 0 rfl dX2_init_38 (j_zg ?_))
  refine kg_new C n168 (by decide +kernel) (L := 9) rfl kcl_X2_9 (fun j => z154 _ j (Nat.le_refl _)) (by rw [hR]; exact ⟨by decide, by decide⟩) dX2_init_39 (fun Γ181 a182 s183 n184 e185 C => ?_)
  have z186 : kZ (iX7 70 (iX7 65 (iX7 60 (iX7 55 (zup (zup mem 53 1 0) 53 2 0))))) 76 := kZ_le z154 (Nat.le_succ _)
  have t187 := kS_t t169 s183
  have e188 : gD Γ181 53 = a := (s183.2.2.1 53 (by rw [n168]; exact (by decide))).trans e170
  have e189 : gD Γ181 54 = b179 := (s183.2.2.1 54 (by rw [n168]; exact (by decide))).trans hb180
  have f190 := s183.2.2.2 _ _ f173
  have f191 := s183.2.2.2 _ _ f174
  have f192 := s183.2.2.2 _ _ f175
  have f193 := s183.2.2.2 _ _ f176
  have f194 := s183.2.2.2 _ _ f167
  refine zg_j (zj_dup C.1 rfl dX2_init_42 (j_zg ?_))
  refine kg_callI C (As := []) (rest := [.ref a182, .int (i32 4), .ref b179]) hl0 cal_X7_init rfl ins_X7_init ml_X2_22 rfl (by rw [hR]; exact ⟨by decide, by decide, by decide, by decide⟩) (Nat.le_of_ble_eq_true rfl) dX2_init_43 (K_X7 l (q := 75) (N := 76) (by decide +kernel) (by decide +kernel) (by decide +kernel) (by decide +kernel) (by decide +kernel) (by decide +kernel) (by decide +kernel) (by decide +kernel) (by decide +kernel) (by decide +kernel) (by decide +kernel) (by decide +kernel) (by decide +kernel) (by decide +kernel) n184 e185  z186) rfl (fun Γ195 s196 n197 kf198 C => ?_)
  have z199 : kZ (iX7 75 (iX7 70 (iX7 65 (iX7 60 (iX7 55 (zup (zup mem 53 1 0) 53 2 0)))))) 80 := kZ_X7 (kZ_le z186 (by decide)) (by decide)
  have t200 := kS_t t187 s196
  have e201 : gD Γ195 53 = a := (s196.2.2.1 53 (by rw [n184]; exact (by decide))).trans e188
  have e202 : gD Γ195 54 = b179 := (s196.2.2.1 54 (by rw [n184]; exact (by decide))).trans e189
  have e203 : gD Γ195 75 = a182 := (s196.2.2.1 75 (by rw [n184]; exact (by decide))).trans e185
  have f204 := s196.2.2.2 _ _ f190
  have f205 := s196.2.2.2 _ _ f191
  have f206 := s196.2.2.2 _ _ f192
  have f207 := s196.2.2.2 _ _ f193
  have f208 := s196.2.2.2 _ _ f194
  have Q209 : ∀ p k, isR p k = true → (p = 75 ∨ (76 ≤ p ∧ p < 80)) → gF Γ195 p k = true := fun p k h1 h2 => kf198 p k h1 (by rw [n184]; exact h2)
  refine kg_ast17 (q := 54) (i := 4) (w := 75) C (by rw [n197]; exact (by decide)) (by decide +kernel) e202 rfl (by decide +kernel) (by decide) (by decide +kernel) (by rw [n197]; exact (by decide)) (by decide +kernel) e203 dX2_init_46 (fun Γ210 s211 n212 f213 C => ?_)
  have n214 : gN Γ210 = 80 := n212.trans n197
  have t215 := kS_t t200 s211
  have e216 : gD Γ210 53 = a := (s211.2.2.1 53 (by rw [n197]; exact (by decide))).trans e201
  have e217 : gD Γ210 54 = b179 := (s211.2.2.1 54 (by rw [n197]; exact (by decide))).trans e202
  have e218 : gD Γ210 75 = a182 := (s211.2.2.1 75 (by rw [n197]; exact (by decide))).trans e203
  have f219 := s211.2.2.2 _ _ f204
  have f220 := s211.2.2.2 _ _ f205
  have f221 := s211.2.2.2 _ _ f206
  have f222 := s211.2.2.2 _ _ f207
  have f223 := s211.2.2.2 _ _ f208
  refine zg_j (zj_iinc C.1 0 [(1, .int (i32 (w32 (4 + 1)))), (0, .ref a)] rfl dX2_init_47 (by decide) rfl (j_zg ?_))
  have ew83 : w32 (4 + 1) = 5 := w32_id (by decide)
  rw [ew83]
  refine zg_j (zj_goto C.1 dX2_init_50 rfl (j_zg ?_))
  refine zg_j (zj_iload_n (j := 1) (i := 1) C.1 rfl 0 rfl dX2_init_25 (j_zg ?_))
  refine zg_j (zj_aload_n (j := 0) (i := 0) C.1 rfl 1 rfl dX2_init_26 (j_zg ?_))
  obtain ⟨b224, hb225⟩ : ∃ b, gD Γ210 54 = b := ⟨_, rfl⟩
  refine kg_getR (q := 53) (b := b224) C (by rw [n214]; exact (by decide)) (by decide +kernel) e216 fl_X2_11 rfl f219 (by rw [(by decide +kernel : sRf 53 0 = 54)]; exact hb225) dX2_init_27 ?_
  refine kg_alen (q := 54) (k := 17) (n := 8) C (by rw [n214]; exact (by decide)) (by decide +kernel) (by decide) hb225 (by decide +kernel) dX2_init_30 ?_
  refine zg_j (zj_cneg (c := (5 : Int) ≥ 8) (A := none) (by decide) (zj_icmp_ge C.1 53 (by decide) (by decide) dX2_init_31 rfl (fun h => absurd h (by decide)) (fun _ => j_zg ?_)))
  refine zg_j (zj_aload_n (j := 0) (i := 0) C.1 rfl 1 rfl dX2_init_34 (j_zg ?_))
  obtain ⟨b226, hb227⟩ : ∃ b, gD Γ210 54 = b := ⟨_, rfl⟩
  refine kg_getR (q := 53) (b := b226) C (by rw [n214]; exact (by decide)) (by decide +kernel) e216 fl_X2_11 rfl f219 (by rw [(by decide +kernel : sRf 53 0 = 54)]; exact hb227) dX2_init_35 ?_
  refine zg_j (zj_iload_n (j := 1) (i := 1) C.1 rfl 0 rfl dX2_init_38 (j_zg ?_))
  refine kg_new C n214 (by decide +kernel) (L := 9) rfl kcl_X2_9 (fun j => z199 _ j (Nat.le_refl _)) (by rw [hR]; exact ⟨by decide, by decide⟩) dX2_init_39 (fun Γ228 a229 s230 n231 e232 C => ?_)
  have z233 : kZ (iX7 75 (iX7 70 (iX7 65 (iX7 60 (iX7 55 (zup (zup mem 53 1 0) 53 2 0)))))) 81 := kZ_le z199 (Nat.le_succ _)
  have t234 := kS_t t215 s230
  have e235 : gD Γ228 53 = a := (s230.2.2.1 53 (by rw [n214]; exact (by decide))).trans e216
  have e236 : gD Γ228 54 = b226 := (s230.2.2.1 54 (by rw [n214]; exact (by decide))).trans hb227
  have f237 := s230.2.2.2 _ _ f219
  have f238 := s230.2.2.2 _ _ f220
  have f239 := s230.2.2.2 _ _ f221
  have f240 := s230.2.2.2 _ _ f222
  have f241 := s230.2.2.2 _ _ f223
  have f242 := s230.2.2.2 _ _ f213
  refine zg_j (zj_dup C.1 rfl dX2_init_42 (j_zg ?_))
  refine kg_callI C (As := []) (rest := [.ref a229, .int (i32 5), .ref b226]) hl0 cal_X7_init rfl ins_X7_init ml_X2_22 rfl (by rw [hR]; exact ⟨by decide, by decide, by decide, by decide⟩) (Nat.le_of_ble_eq_true rfl) dX2_init_43 (K_X7 l (q := 80) (N := 81) (by decide +kernel) (by decide +kernel) (by decide +kernel) (by decide +kernel) (by decide +kernel) (by decide +kernel) (by decide +kernel) (by decide +kernel) (by decide +kernel) (by decide +kernel) (by decide +kernel) (by decide +kernel) (by decide +kernel) (by decide +kernel) n231 e232  z233) rfl (fun Γ243 s244 n245 kf246 C => ?_)
  have z247 : kZ (iX7 80 (iX7 75 (iX7 70 (iX7 65 (iX7 60 (iX7 55 (zup (zup mem 53 1 0) 53 2 0))))))) 85 := kZ_X7 (kZ_le z233 (by decide)) (by decide)
  have t248 := kS_t t234 s244
  have e249 : gD Γ243 53 = a := (s244.2.2.1 53 (by rw [n231]; exact (by decide))).trans e235
  have e250 : gD Γ243 54 = b226 := (s244.2.2.1 54 (by rw [n231]; exact (by decide))).trans e236
  have e251 : gD Γ243 80 = a229 := (s244.2.2.1 80 (by rw [n231]; exact (by decide))).trans e232
  have f252 := s244.2.2.2 _ _ f237
  have f253 := s244.2.2.2 _ _ f238
  have f254 := s244.2.2.2 _ _ f239
  have f255 := s244.2.2.2 _ _ f240
  have f256 := s244.2.2.2 _ _ f241
  have f257 := s244.2.2.2 _ _ f242
  have Q258 : ∀ p k, isR p k = true → (p = 80 ∨ (81 ≤ p ∧ p < 85)) → gF Γ243 p k = true := fun p k h1 h2 => kf246 p k h1 (by rw [n231]; exact h2)
  refine kg_ast17 (q := 54) (i := 5) (w := 80) C (by rw [n245]; exact (by decide)) (by decide +kernel) e250 rfl (by decide +kernel) (by decide) (by decide +kernel) (by rw [n245]; exact (by decide)) (by decide +kernel) e251 dX2_init_46 (fun Γ259 s260 n261 f262 C => ?_)
  have n263 : gN Γ259 = 85 := n261.trans n245
  have t264 := kS_t t248 s260
  have e265 : gD Γ259 53 = a := (s260.2.2.1 53 (by rw [n245]; exact (by decide))).trans e249
  have e266 : gD Γ259 54 = b226 := (s260.2.2.1 54 (by rw [n245]; exact (by decide))).trans e250
  have e267 : gD Γ259 80 = a229 := (s260.2.2.1 80 (by rw [n245]; exact (by decide))).trans e251
  have f268 := s260.2.2.2 _ _ f252
  have f269 := s260.2.2.2 _ _ f253
  have f270 := s260.2.2.2 _ _ f254
  have f271 := s260.2.2.2 _ _ f255
  have f272 := s260.2.2.2 _ _ f256
  have f273 := s260.2.2.2 _ _ f257
  refine zg_j (zj_iinc C.1 0 [(1, .int (i32 (w32 (5 + 1)))), (0, .ref a)] rfl dX2_init_47 (by decide) rfl (j_zg ?_))
  have ew97 : w32 (5 + 1) = 6 := w32_id (by decide)
  rw [ew97]
  refine zg_j (zj_goto C.1 dX2_init_50 rfl (j_zg ?_))
  refine zg_j (zj_iload_n (j := 1) (i := 1) C.1 rfl 0 rfl dX2_init_25 (j_zg ?_))
  refine zg_j (zj_aload_n (j := 0) (i := 0) C.1 rfl 1 rfl dX2_init_26 (j_zg ?_))
  obtain ⟨b274, hb275⟩ : ∃ b, gD Γ259 54 = b := ⟨_, rfl⟩
  refine kg_getR (q := 53) (b := b274) C (by rw [n263]; exact (by decide)) (by decide +kernel) e265 fl_X2_11 rfl f268 (by rw [(by decide +kernel : sRf 53 0 = 54)]; exact hb275) dX2_init_27 ?_
  refine kg_alen (q := 54) (k := 17) (n := 8) C (by rw [n263]; exact (by decide)) (by decide +kernel) (by decide) hb275 (by decide +kernel) dX2_init_30 ?_
  refine zg_j (zj_cneg (c := (6 : Int) ≥ 8) (A := none) (by decide) (zj_icmp_ge C.1 53 (by decide) (by decide) dX2_init_31 rfl (fun h => absurd h (by decide)) (fun _ => j_zg ?_)))
  refine zg_j (zj_aload_n (j := 0) (i := 0) C.1 rfl 1 rfl dX2_init_34 (j_zg ?_))
  obtain ⟨b276, hb277⟩ : ∃ b, gD Γ259 54 = b := ⟨_, rfl⟩
  refine kg_getR (q := 53) (b := b276) C (by rw [n263]; exact (by decide)) (by decide +kernel) e265 fl_X2_11 rfl f268 (by rw [(by decide +kernel : sRf 53 0 = 54)]; exact hb277) dX2_init_35 ?_
  refine zg_j (zj_iload_n (j := 1) (i := 1) C.1 rfl 0 rfl dX2_init_38 (j_zg ?_))
  refine kg_new C n263 (by decide +kernel) (L := 9) rfl kcl_X2_9 (fun j => z247 _ j (Nat.le_refl _)) (by rw [hR]; exact ⟨by decide, by decide⟩) dX2_init_39 (fun Γ278 a279 s280 n281 e282 C => ?_)
  have z283 : kZ (iX7 80 (iX7 75 (iX7 70 (iX7 65 (iX7 60 (iX7 55 (zup (zup mem 53 1 0) 53 2 0))))))) 86 := kZ_le z247 (Nat.le_succ _)
  have t284 := kS_t t264 s280
  have e285 : gD Γ278 53 = a := (s280.2.2.1 53 (by rw [n263]; exact (by decide))).trans e265
  have e286 : gD Γ278 54 = b276 := (s280.2.2.1 54 (by rw [n263]; exact (by decide))).trans hb277
  have f287 := s280.2.2.2 _ _ f268
  have f288 := s280.2.2.2 _ _ f269
  have f289 := s280.2.2.2 _ _ f270
  have f290 := s280.2.2.2 _ _ f271
  have f291 := s280.2.2.2 _ _ f272
  have f292 := s280.2.2.2 _ _ f273
  have f293 := s280.2.2.2 _ _ f262
  refine zg_j (zj_dup C.1 rfl dX2_init_42 (j_zg ?_))
  refine kg_callI C (As := []) (rest := [.ref a279, .int (i32 6), .ref b276]) hl0 cal_X7_init rfl ins_X7_init ml_X2_22 rfl (by rw [hR]; exact ⟨by decide, by decide, by decide, by decide⟩) (Nat.le_of_ble_eq_true rfl) dX2_init_43 (K_X7 l (q := 85) (N := 86) (by decide +kernel) (by decide +kernel) (by decide +kernel) (by decide +kernel) (by decide +kernel) (by decide +kernel) (by decide +kernel) (by decide +kernel) (by decide +kernel) (by decide +kernel) (by decide +kernel) (by decide +kernel) (by decide +kernel) (by decide +kernel) n281 e282  z283) rfl (fun Γ294 s295 n296 kf297 C => ?_)
  have z298 : kZ (iX7 85 (iX7 80 (iX7 75 (iX7 70 (iX7 65 (iX7 60 (iX7 55 (zup (zup mem 53 1 0) 53 2 0)))))))) 90 := kZ_X7 (kZ_le z283 (by decide)) (by decide)
  have t299 := kS_t t284 s295
  have e300 : gD Γ294 53 = a := (s295.2.2.1 53 (by rw [n281]; exact (by decide))).trans e285
  have e301 : gD Γ294 54 = b276 := (s295.2.2.1 54 (by rw [n281]; exact (by decide))).trans e286
  have e302 : gD Γ294 85 = a279 := (s295.2.2.1 85 (by rw [n281]; exact (by decide))).trans e282
  have f303 := s295.2.2.2 _ _ f287
  have f304 := s295.2.2.2 _ _ f288
  have f305 := s295.2.2.2 _ _ f289
  have f306 := s295.2.2.2 _ _ f290
  have f307 := s295.2.2.2 _ _ f291
  have f308 := s295.2.2.2 _ _ f292
  have f309 := s295.2.2.2 _ _ f293
  have Q310 : ∀ p k, isR p k = true → (p = 85 ∨ (86 ≤ p ∧ p < 90)) → gF Γ294 p k = true := fun p k h1 h2 => kf297 p k h1 (by rw [n281]; exact h2)
  refine kg_ast17 (q := 54) (i := 6) (w := 85) C (by rw [n296]; exact (by decide)) (by decide +kernel) e301 rfl (by decide +kernel) (by decide) (by decide +kernel) (by rw [n296]; exact (by decide)) (by decide +kernel) e302 dX2_init_46 (fun Γ311 s312 n313 f314 C => ?_)
  have n315 : gN Γ311 = 90 := n313.trans n296
  have t316 := kS_t t299 s312
  have e317 : gD Γ311 53 = a := (s312.2.2.1 53 (by rw [n296]; exact (by decide))).trans e300
  have e318 : gD Γ311 54 = b276 := (s312.2.2.1 54 (by rw [n296]; exact (by decide))).trans e301
  have e319 : gD Γ311 85 = a279 := (s312.2.2.1 85 (by rw [n296]; exact (by decide))).trans e302
  have f320 := s312.2.2.2 _ _ f303
  have f321 := s312.2.2.2 _ _ f304
  have f322 := s312.2.2.2 _ _ f305
  have f323 := s312.2.2.2 _ _ f306
  have f324 := s312.2.2.2 _ _ f307
  have f325 := s312.2.2.2 _ _ f308
  have f326 := s312.2.2.2 _ _ f309
  refine zg_j (zj_iinc C.1 0 [(1, .int (i32 (w32 (6 + 1)))), (0, .ref a)] rfl dX2_init_47 (by decide) rfl (j_zg ?_))
  have ew111 : w32 (6 + 1) = 7 := w32_id (by decide)
  rw [ew111]
  refine zg_j (zj_goto C.1 dX2_init_50 rfl (j_zg ?_))
  refine zg_j (zj_iload_n (j := 1) (i := 1) C.1 rfl 0 rfl dX2_init_25 (j_zg ?_))
  refine zg_j (zj_aload_n (j := 0) (i := 0) C.1 rfl 1 rfl dX2_init_26 (j_zg ?_))
  obtain ⟨b327, hb328⟩ : ∃ b, gD Γ311 54 = b := ⟨_, rfl⟩
  refine kg_getR (q := 53) (b := b327) C (by rw [n315]; exact (by decide)) (by decide +kernel) e317 fl_X2_11 rfl f320 (by rw [(by decide +kernel : sRf 53 0 = 54)]; exact hb328) dX2_init_27 ?_
  refine kg_alen (q := 54) (k := 17) (n := 8) C (by rw [n315]; exact (by decide)) (by decide +kernel) (by decide) hb328 (by decide +kernel) dX2_init_30 ?_
  refine zg_j (zj_cneg (c := (7 : Int) ≥ 8) (A := none) (by decide) (zj_icmp_ge C.1 53 (by decide) (by decide) dX2_init_31 rfl (fun h => absurd h (by decide)) (fun _ => j_zg ?_)))
  refine zg_j (zj_aload_n (j := 0) (i := 0) C.1 rfl 1 rfl dX2_init_34 (j_zg ?_))
  obtain ⟨b329, hb330⟩ : ∃ b, gD Γ311 54 = b := ⟨_, rfl⟩
  refine kg_getR (q := 53) (b := b329) C (by rw [n315]; exact (by decide)) (by decide +kernel) e317 fl_X2_11 rfl f320 (by rw [(by decide +kernel : sRf 53 0 = 54)]; exact hb330) dX2_init_35 ?_
  refine zg_j (zj_iload_n (j := 1) (i := 1) C.1 rfl 0 rfl dX2_init_38 (j_zg ?_))
  refine kg_new C n315 (by decide +kernel) (L := 9) rfl kcl_X2_9 (fun j => z298 _ j (Nat.le_refl _)) (by rw [hR]; exact ⟨by decide, by decide⟩) dX2_init_39 (fun Γ331 a332 s333 n334 e335 C => ?_)
  have z336 : kZ (iX7 85 (iX7 80 (iX7 75 (iX7 70 (iX7 65 (iX7 60 (iX7 55 (zup (zup mem 53 1 0) 53 2 0)))))))) 91 := kZ_le z298 (Nat.le_succ _)
  have t337 := kS_t t316 s333
  have e338 : gD Γ331 53 = a := (s333.2.2.1 53 (by rw [n315]; exact (by decide))).trans e317
  have e339 : gD Γ331 54 = b329 := (s333.2.2.1 54 (by rw [n315]; exact (by decide))).trans hb330
  have f340 := s333.2.2.2 _ _ f320
  have f341 := s333.2.2.2 _ _ f321
  have f342 := s333.2.2.2 _ _ f322
  have f343 := s333.2.2.2 _ _ f323
  have f344 := s333.2.2.2 _ _ f324
  have f345 := s333.2.2.2 _ _ f325
  have f346 := s333.2.2.2 _ _ f326
  have f347 := s333.2.2.2 _ _ f314
  refine zg_j (zj_dup C.1 rfl dX2_init_42 (j_zg ?_))
  refine kg_callI C (As := []) (rest := [.ref a332, .int (i32 7), .ref b329]) hl0 cal_X7_init rfl ins_X7_init ml_X2_22 rfl (by rw [hR]; exact ⟨by decide, by decide, by decide, by decide⟩) (Nat.le_of_ble_eq_true rfl) dX2_init_43 (K_X7 l (q := 90) (N := 91) (by decide +kernel) (by decide +kernel) (by decide +kernel) (by decide +kernel) (by decide +kernel) (by decide +kernel) (by decide +kernel) (by decide +kernel) (by decide +kernel) (by decide +kernel) (by decide +kernel) (by decide +kernel) (by decide +kernel) (by decide +kernel) n334 e335  z336) rfl (fun Γ348 s349 n350 kf351 C => ?_)
  have z352 : kZ (iX7 90 (iX7 85 (iX7 80 (iX7 75 (iX7 70 (iX7 65 (iX7 60 (iX7 55 (zup (zup mem 53 1 0) 53 2 0))))))))) 95 := kZ_X7 (kZ_le z336 (by decide)) (by decide)
  have t353 := kS_t t337 s349
  have e354 : gD Γ348 53 = a := (s349.2.2.1 53 (by rw [n334]; exact (by decide))).trans e338
  have e355 : gD Γ348 54 = b329 := (s349.2.2.1 54 (by rw [n334]; exact (by decide))).trans e339
  have e356 : gD Γ348 90 = a332 := (s349.2.2.1 90 (by rw [n334]; exact (by decide))).trans e335
  have f357 := s349.2.2.2 _ _ f340
  have f358 := s349.2.2.2 _ _ f341
  have f359 := s349.2.2.2 _ _ f342
  have f360 := s349.2.2.2 _ _ f343
  have f361 := s349.2.2.2 _ _ f344
  have f362 := s349.2.2.2 _ _ f345
  have f363 := s349.2.2.2 _ _ f346
  have f364 := s349.2.2.2 _ _ f347
  have Q365 : ∀ p k, isR p k = true → (p = 90 ∨ (91 ≤ p ∧ p < 95)) → gF Γ348 p k = true := fun p k h1 h2 => kf351 p k h1 (by rw [n334]; exact h2)
  refine kg_ast17 (q := 54) (i := 7) (w := 90) C (by rw [n350]; exact (by decide)) (by decide +kernel) e355 rfl (by decide +kernel) (by decide) (by decide +kernel) (by rw [n350]; exact (by decide)) (by decide +kernel) e356 dX2_init_46 (fun Γ366 s367 n368 f369 C => ?_)
  have n370 : gN Γ366 = 95 := n368.trans n350
  have t371 := kS_t t353 s367
  have e372 : gD Γ366 53 = a := (s367.2.2.1 53 (by rw [n350]; exact (by decide))).trans e354
  have e373 : gD Γ366 54 = b329 := (s367.2.2.1 54 (by rw [n350]; exact (by decide))).trans e355
  have e374 : gD Γ366 90 = a332 := (s367.2.2.1 90 (by rw [n350]; exact (by decide))).trans e356
  have f375 := s367.2.2.2 _ _ f357
  have f376 := s367.2.2.2 _ _ f358
  have f377 := s367.2.2.2 _ _ f359
  have f378 := s367.2.2.2 _ _ f360
  have f379 := s367.2.2.2 _ _ f361
  have f380 := s367.2.2.2 _ _ f362
  have f381 := s367.2.2.2 _ _ f363
  have f382 := s367.2.2.2 _ _ f364
  refine zg_j (zj_iinc C.1 0 [(1, .int (i32 (w32 (7 + 1)))), (0, .ref a)] rfl dX2_init_47 (by decide) rfl (j_zg ?_))
  have ew125 : w32 (7 + 1) = 8 := w32_id (by decide)
  rw [ew125]
  refine zg_j (zj_goto C.1 dX2_init_50 rfl (j_zg ?_))
  refine zg_j (zj_iload_n (j := 1) (i := 1) C.1 rfl 0 rfl dX2_init_25 (j_zg ?_))
  refine zg_j (zj_aload_n (j := 0) (i := 0) C.1 rfl 1 rfl dX2_init_26 (j_zg ?_))
  obtain ⟨b383, hb384⟩ : ∃ b, gD Γ366 54 = b := ⟨_, rfl⟩
  refine kg_getR (q := 53) (b := b383) C (by rw [n370]; exact (by decide)) (by decide +kernel) e372 fl_X2_11 rfl f375 (by rw [(by decide +kernel : sRf 53 0 = 54)]; exact hb384) dX2_init_27 ?_
  refine kg_alen (q := 54) (k := 17) (n := 8) C (by rw [n370]; exact (by decide)) (by decide +kernel) (by decide) hb384 (by decide +kernel) dX2_init_30 ?_
  refine zg_j (zj_cpos (c := (8 : Int) ≥ 8) (B := none) (by decide) (zj_icmp_ge C.1 53 (by decide) (by decide) dX2_init_31 rfl (fun _ => j_zg ?_) (fun h => absurd (by decide) h)))
  refine kg_ret C Z t371 n370 (fun p k hr hp => ?_) ⟨by decide, by decide⟩ dX2_init_53
  rw [hN] at hp
  rcases (by omega : (p = 53) ∨ (p = 54) ∨ (p = 55 ∨ (56 ≤ p ∧ p < 60)) ∨ (p = 60 ∨ (61 ≤ p ∧ p < 65)) ∨ (p = 65 ∨ (66 ≤ p ∧ p < 70)) ∨ (p = 70 ∨ (71 ≤ p ∧ p < 75)) ∨ (p = 75 ∨ (76 ≤ p ∧ p < 80)) ∨ (p = 80 ∨ (81 ≤ p ∧ p < 85)) ∨ (p = 85 ∨ (86 ≤ p ∧ p < 90)) ∨ (p = 90 ∨ (91 ≤ p ∧ p < 95))) with hp | hp | hp | hp | hp | hp | hp | hp | hp | hp
  · subst hp
    obtain ⟨h1, h2⟩ := isR_o (ci := 2) (by decide +kernel) (by decide) hr
    have h3 : ∀ k, k < sNf 2 → sFk 2 k = 2 → k = 0 := by decide +kernel
    rcases h3 k h1 h2 with rfl
    · exact f375
  · subst hp
    have h1 := isR_q (by decide +kernel : sK 54 = 17) (by decide) hr
    have h3 : ∀ k, k < sLen 54 → k = 0 ∨ k = 1 ∨ k = 2 ∨ k = 3 ∨ k = 4 ∨ k = 5 ∨ k = 6 ∨ k = 7 := by decide +kernel
    rcases h3 k h1 with rfl | rfl | rfl | rfl | rfl | rfl | rfl | rfl
    · exact f376
    · exact f377
    · exact f378
    · exact f379
    · exact f380
    · exact f381
    · exact f382
    · exact f369
  · exact s367.2.2.2 _ _ (s349.2.2.2 _ _ (s333.2.2.2 _ _ (s312.2.2.2 _ _ (s295.2.2.2 _ _ (s280.2.2.2 _ _ (s260.2.2.2 _ _ (s244.2.2.2 _ _ (s230.2.2.2 _ _ (s211.2.2.2 _ _ (s196.2.2.2 _ _ (s183.2.2.2 _ _ (s165.2.2.2 _ _ (s151.2.2.2 _ _ (s139.2.2.2 _ _ (s122.2.2.2 _ _ (s109.2.2.2 _ _ (s98.2.2.2 _ _ (s82.2.2.2 _ _ (s70.2.2.2 _ _ (s60.2.2.2 _ _ (s45.2.2.2 _ _ (Q43 p k hr hp))))))))))))))))))))))
  · exact s367.2.2.2 _ _ (s349.2.2.2 _ _ (s333.2.2.2 _ _ (s312.2.2.2 _ _ (s295.2.2.2 _ _ (s280.2.2.2 _ _ (s260.2.2.2 _ _ (s244.2.2.2 _ _ (s230.2.2.2 _ _ (s211.2.2.2 _ _ (s196.2.2.2 _ _ (s183.2.2.2 _ _ (s165.2.2.2 _ _ (s151.2.2.2 _ _ (s139.2.2.2 _ _ (s122.2.2.2 _ _ (s109.2.2.2 _ _ (s98.2.2.2 _ _ (s82.2.2.2 _ _ (Q80 p k hr hp)))))))))))))))))))
  · exact s367.2.2.2 _ _ (s349.2.2.2 _ _ (s333.2.2.2 _ _ (s312.2.2.2 _ _ (s295.2.2.2 _ _ (s280.2.2.2 _ _ (s260.2.2.2 _ _ (s244.2.2.2 _ _ (s230.2.2.2 _ _ (s211.2.2.2 _ _ (s196.2.2.2 _ _ (s183.2.2.2 _ _ (s165.2.2.2 _ _ (s151.2.2.2 _ _ (s139.2.2.2 _ _ (s122.2.2.2 _ _ (Q120 p k hr hp))))))))))))))))
  · exact s367.2.2.2 _ _ (s349.2.2.2 _ _ (s333.2.2.2 _ _ (s312.2.2.2 _ _ (s295.2.2.2 _ _ (s280.2.2.2 _ _ (s260.2.2.2 _ _ (s244.2.2.2 _ _ (s230.2.2.2 _ _ (s211.2.2.2 _ _ (s196.2.2.2 _ _ (s183.2.2.2 _ _ (s165.2.2.2 _ _ (Q163 p k hr hp)))))))))))))
  · exact s367.2.2.2 _ _ (s349.2.2.2 _ _ (s333.2.2.2 _ _ (s312.2.2.2 _ _ (s295.2.2.2 _ _ (s280.2.2.2 _ _ (s260.2.2.2 _ _ (s244.2.2.2 _ _ (s230.2.2.2 _ _ (s211.2.2.2 _ _ (Q209 p k hr hp))))))))))
  · exact s367.2.2.2 _ _ (s349.2.2.2 _ _ (s333.2.2.2 _ _ (s312.2.2.2 _ _ (s295.2.2.2 _ _ (s280.2.2.2 _ _ (s260.2.2.2 _ _ (Q258 p k hr hp)))))))
  · exact s367.2.2.2 _ _ (s349.2.2.2 _ _ (s333.2.2.2 _ _ (s312.2.2.2 _ _ (Q310 p k hr hp))))
  · exact s367.2.2.2 _ _ (Q365 p k hr hp)
