def iX4 (mem : zMem) : zMem := (zup (zup (zup (iX3 40 (iX8 41 (iX7 35 (iX5 28 mem)))) 27 4 0) 27 5 0) 27 6 0)
theorem kZ_X4 {mem : zMem} {M : Nat} (h : kZ mem M) (hq : 44 < M) : kZ (iX4 mem) M := by
  unfold iX4
  exact (kZ_up (kZ_up (kZ_up (kZ_X3 (kZ_X8 (kZ_X7 (kZ_X5 h (by omega)) (by omega)) (by omega)) (by omega)) (by omega)) (by omega)) (by omega))
set_option maxHeartbeats 4000000 in
theorem K_X4 (l : Launch) {Γ : zG} {a : Nat} {b0 : Nat} {mem : zMem}  (hN : gN Γ = 28) (ha : gD Γ 27 = a) (hb0 : gD Γ 1 = b0) (hz : kZ mem 28) : kMet l yX4_init cX4_init 2 2 17 246 Γ 27 45 [.ref a, .ref b0] mem (iX4 mem) := by
  refine kMet_of (own := "ShadowHeirs$IslandText") (by decide) rfl rfl (Nat.le_of_ble_eq_true rfl) (fun X C Z => ?_)
  have hR := kRt_R Z
  have hl0 : X.2.1 = l := kRt_l Z
  show zg (kX X 0 0) Γ 2 0 [(0, .ref a), (1, .ref b0)] [] mem
  refine zg_j (zj_aload_n (j := 0) (i := 0) C.1 rfl 0 rfl dX4_init_0 (j_zg ?_))
  refine kg_obj C (by rw [hR]; exact ⟨by decide, by simp [kRm, Value.category]⟩) moi_X4_3 oi_1 oi_2 dX4_init_1 ?_
  refine zg_j (zj_aload_n (j := 0) (i := 0) C.1 rfl 0 rfl dX4_init_4 (j_zg ?_))
  refine kg_new C hN (by decide +kernel) (L := 11) rfl kcl_X4_9 (fun j => hz _ j (Nat.le_refl _)) (by rw [hR]; exact ⟨by decide, by decide⟩) dX4_init_5 (fun Γ1 a2 s3 n4 e5 C => ?_)
  have z6 : kZ mem 29 := kZ_le hz (Nat.le_succ _)
  have t7 := kS_t (kS_r Γ) s3
  have e8 : gD Γ1 27 = a := (s3.2.2.1 27 (by rw [hN]; exact (by decide))).trans ha
  have e9 : gD Γ1 1 = b0 := (s3.2.2.1 1 (by rw [hN]; exact (by decide))).trans hb0
  refine zg_j (zj_dup C.1 rfl dX4_init_8 (j_zg ?_))
  refine kg_callI C (As := []) (rest := [.ref a2, .ref a]) hl0 cal_X5_init rfl ins_X5_init ml_X4_11 rfl (by rw [hR]; exact ⟨by decide, by decide, by decide, by decide⟩) (Nat.le_of_ble_eq_true rfl) dX4_init_9 (K_X5 l (q := 28) (N := 29) (by decide +kernel) (by decide +kernel) (by decide +kernel) (by decide +kernel) (by decide +kernel) (by decide +kernel) (by decide +kernel) (by decide +kernel) (by decide +kernel) (by decide +kernel) (by decide +kernel) (by decide +kernel) (by decide +kernel) (by decide +kernel) (by decide +kernel) (by decide +kernel) (by decide +kernel) (by decide +kernel) (by decide +kernel) (by decide +kernel) n4 e5  z6) rfl (fun Γ10 s11 n12 kf13 C => ?_)
  have z14 : kZ (iX5 28 mem) 35 := kZ_X5 (kZ_le z6 (by decide)) (by decide)
  have t15 := kS_t t7 s11
  have e16 : gD Γ10 27 = a := (s11.2.2.1 27 (by rw [n4]; exact (by decide))).trans e8
  have e17 : gD Γ10 1 = b0 := (s11.2.2.1 1 (by rw [n4]; exact (by decide))).trans e9
  have e18 : gD Γ10 28 = a2 := (s11.2.2.1 28 (by rw [n4]; exact (by decide))).trans e5
  have Q19 : ∀ p k, isR p k = true → (p = 28 ∨ (29 ≤ p ∧ p < 35)) → gF Γ10 p k = true := fun p k h1 h2 => kf13 p k h1 (by rw [n4]; exact h2)
  refine kg_putR C (by rw [n12]; exact (by decide)) (by decide +kernel) e16 fl_X4_12 klk_X4_12 rfl kfin_4_1 (by rw [(by decide +kernel : sRf 27 1 = 28), n12]; decide) (by rw [(by decide +kernel : sRf 27 1 = 28)]; exact e18) dX4_init_12 (fun Γ23 s20 n21 f22 C => ?_)
  have n24 : gN Γ23 = 35 := n21.trans n12
  have t25 := kS_t t15 s20
  have e26 : gD Γ23 27 = a := (s20.2.2.1 27 (by rw [n12]; exact (by decide))).trans e16
  have e27 : gD Γ23 1 = b0 := (s20.2.2.1 1 (by rw [n12]; exact (by decide))).trans e17
  have e28 : gD Γ23 28 = a2 := (s20.2.2.1 28 (by rw [n12]; exact (by decide))).trans e18
  refine zg_j (zj_aload_n (j := 0) (i := 0) C.1 rfl 0 rfl dX4_init_15 (j_zg ?_))
  refine kg_new C n24 (by decide +kernel) (L := 9) rfl kcl_X4_18 (fun j => z14 _ j (Nat.le_refl _)) (by rw [hR]; exact ⟨by decide, by decide⟩) dX4_init_16 (fun Γ29 a30 s31 n32 e33 C => ?_)
  have z34 : kZ (iX5 28 mem) 36 := kZ_le z14 (Nat.le_succ _)
  have t35 := kS_t t25 s31
  have e36 : gD Γ29 27 = a := (s31.2.2.1 27 (by rw [n24]; exact (by decide))).trans e26
  have e37 : gD Γ29 1 = b0 := (s31.2.2.1 1 (by rw [n24]; exact (by decide))).trans e27
  have f38 := s31.2.2.2 _ _ f22
  refine zg_j (zj_dup C.1 rfl dX4_init_19 (j_zg ?_))
  refine kg_callI C (As := []) (rest := [.ref a30, .ref a]) hl0 cal_X7_init rfl ins_X7_init ml_X4_20 rfl (by rw [hR]; exact ⟨by decide, by decide, by decide, by decide⟩) (Nat.le_of_ble_eq_true rfl) dX4_init_20 (K_X7 l (q := 35) (N := 36) (by decide +kernel) (by decide +kernel) (by decide +kernel) (by decide +kernel) (by decide +kernel) (by decide +kernel) (by decide +kernel) (by decide +kernel) (by decide +kernel) (by decide +kernel) (by decide +kernel) (by decide +kernel) (by decide +kernel) (by decide +kernel) n32 e33  z34) rfl (fun Γ39 s40 n41 kf42 C => ?_)
  have z43 : kZ (iX7 35 (iX5 28 mem)) 40 := kZ_X7 (kZ_le z34 (by decide)) (by decide)
  have t44 := kS_t t35 s40
  have e45 : gD Γ39 27 = a := (s40.2.2.1 27 (by rw [n32]; exact (by decide))).trans e36
  have e46 : gD Γ39 1 = b0 := (s40.2.2.1 1 (by rw [n32]; exact (by decide))).trans e37
  have e47 : gD Γ39 35 = a30 := (s40.2.2.1 35 (by rw [n32]; exact (by decide))).trans e33
  have f48 := s40.2.2.2 _ _ f38
  have Q49 : ∀ p k, isR p k = true → (p = 35 ∨ (36 ≤ p ∧ p < 40)) → gF Γ39 p k = true := fun p k h1 h2 => kf42 p k h1 (by rw [n32]; exact h2)
  refine kg_putR C (by rw [n41]; exact (by decide)) (by decide +kernel) e45 fl_X4_21 klk_X4_21 rfl kfin_4_2 (by rw [(by decide +kernel : sRf 27 2 = 35), n41]; decide) (by rw [(by decide +kernel : sRf 27 2 = 35)]; exact e47) dX4_init_23 (fun Γ53 s50 n51 f52 C => ?_)
  have n54 : gN Γ53 = 40 := n51.trans n41
  have t55 := kS_t t44 s50
  have e56 : gD Γ53 27 = a := (s50.2.2.1 27 (by rw [n41]; exact (by decide))).trans e45
  have e57 : gD Γ53 1 = b0 := (s50.2.2.1 1 (by rw [n41]; exact (by decide))).trans e46
  have e58 : gD Γ53 35 = a30 := (s50.2.2.1 35 (by rw [n41]; exact (by decide))).trans e47
  have f59 := s50.2.2.2 _ _ f48
  refine zg_j (zj_aload_n (j := 0) (i := 0) C.1 rfl 0 rfl dX4_init_26 (j_zg ?_))
  refine kg_new C n54 (by decide +kernel) (L := 3) rfl kcl_X4_25 (fun j => z43 _ j (Nat.le_refl _)) (by rw [hR]; exact ⟨by decide, by decide⟩) dX4_init_27 (fun Γ60 a61 s62 n63 e64 C => ?_)
  have z65 : kZ (iX7 35 (iX5 28 mem)) 41 := kZ_le z43 (Nat.le_succ _)
  have t66 := kS_t t55 s62
  have e67 : gD Γ60 27 = a := (s62.2.2.1 27 (by rw [n54]; exact (by decide))).trans e56
  have e68 : gD Γ60 1 = b0 := (s62.2.2.1 1 (by rw [n54]; exact (by decide))).trans e57
  have f69 := s62.2.2.2 _ _ f59
  have f70 := s62.2.2.2 _ _ f52
  refine zg_j (zj_dup C.1 rfl dX4_init_30 (j_zg ?_))
  refine zg_j (zj_aload_n (j := 0) (i := 0) C.1 rfl 0 rfl dX4_init_31 (j_zg ?_))
  obtain ⟨b71, hb72⟩ : ∃ b, gD Γ60 28 = b := ⟨_, rfl⟩
  refine kg_getR (q := 27) (b := b71) C (by rw [n63]; exact (by decide)) (by decide +kernel) e67 fl_X4_12 rfl f69 (by rw [(by decide +kernel : sRf 27 1 = 28)]; exact hb72) dX4_init_32 ?_
  refine zg_j (zj_aload_n (j := 0) (i := 0) C.1 rfl 0 rfl dX4_init_35 (j_zg ?_))
  obtain ⟨b73, hb74⟩ : ∃ b, gD Γ60 35 = b := ⟨_, rfl⟩
  refine kg_getR (q := 27) (b := b73) C (by rw [n63]; exact (by decide)) (by decide +kernel) e67 fl_X4_21 rfl f70 (by rw [(by decide +kernel : sRf 27 2 = 35)]; exact hb74) dX4_init_36 ?_
  refine kg_new C n63 (by decide +kernel) (L := 5) rfl kcl_X4_27 (fun j => z65 _ j (Nat.le_refl _)) (by rw [hR]; exact ⟨by decide, by decide⟩) dX4_init_39 (fun Γ75 a76 s77 n78 e79 C => ?_)
  have z80 : kZ (iX7 35 (iX5 28 mem)) 42 := kZ_le z65 (Nat.le_succ _)
  have t81 := kS_t t66 s77
  have e82 : gD Γ75 27 = a := (s77.2.2.1 27 (by rw [n63]; exact (by decide))).trans e67
  have e83 : gD Γ75 1 = b0 := (s77.2.2.1 1 (by rw [n63]; exact (by decide))).trans e68
  have e84 : gD Γ75 40 = a61 := (s77.2.2.1 40 (by rw [n63]; exact (by decide))).trans e64
  have e85 : gD Γ75 28 = b71 := (s77.2.2.1 28 (by rw [n63]; exact (by decide))).trans hb72
  have e86 : gD Γ75 35 = b73 := (s77.2.2.1 35 (by rw [n63]; exact (by decide))).trans hb74
  have f87 := s77.2.2.2 _ _ f69
  have f88 := s77.2.2.2 _ _ f70
  refine zg_j (zj_dup C.1 rfl dX4_init_42 (j_zg ?_))
  refine kg_callI C (As := []) (rest := [.ref a76, .ref b73, .ref b71, .ref a61, .ref a61, .ref a]) hl0 cal_X8_init rfl ins_X8_init ml_X4_29 rfl (by rw [hR]; exact ⟨by decide, by decide, by decide, by decide⟩) (Nat.le_of_ble_eq_true rfl) dX4_init_43 (K_X8 l (q := 41) (N := 42) (by decide +kernel) (by decide +kernel) (by decide +kernel) (by decide +kernel) (by decide +kernel) (by decide +kernel) (by decide +kernel) (by decide +kernel) (by decide +kernel) (by decide +kernel) (by decide +kernel) n78 e79  z80) rfl (fun Γ89 s90 n91 kf92 C => ?_)
  have z93 : kZ (iX8 41 (iX7 35 (iX5 28 mem))) 45 := kZ_X8 (kZ_le z80 (by decide)) (by decide)
  have t94 := kS_t t81 s90
  have e95 : gD Γ89 27 = a := (s90.2.2.1 27 (by rw [n78]; exact (by decide))).trans e82
  have e96 : gD Γ89 1 = b0 := (s90.2.2.1 1 (by rw [n78]; exact (by decide))).trans e83
  have e97 : gD Γ89 40 = a61 := (s90.2.2.1 40 (by rw [n78]; exact (by decide))).trans e84
  have e98 : gD Γ89 28 = b71 := (s90.2.2.1 28 (by rw [n78]; exact (by decide))).trans e85
  have e99 : gD Γ89 35 = b73 := (s90.2.2.1 35 (by rw [n78]; exact (by decide))).trans e86
  have e100 : gD Γ89 41 = a76 := (s90.2.2.1 41 (by rw [n78]; exact (by decide))).trans e79
  have f101 := s90.2.2.2 _ _ f87
  have f102 := s90.2.2.2 _ _ f88
  have Q103 : ∀ p k, isR p k = true → (p = 41 ∨ (42 ≤ p ∧ p < 45)) → gF Γ89 p k = true := fun p k h1 h2 => kf92 p k h1 (by rw [n78]; exact h2)
  refine kg_callI C (As := [.ref b71, .ref b73, .ref a76]) (rest := [.ref a61, .ref a]) hl0 cal_X3_init rfl ins_X3_init ml_X4_30 rfl (by rw [hR]; exact ⟨by decide, by decide, by decide, by decide⟩) (Nat.le_of_ble_eq_true rfl) dX4_init_46 (K_X3 l (i0 := 28) (i1 := 35) (i2 := 41) (q := 40) (N := 45) (by decide +kernel) (by decide +kernel) (by decide +kernel) (by decide +kernel) (by decide +kernel) (by decide +kernel) (by decide +kernel) (by decide +kernel) n91 e97 e98 e99 e100 z93) rfl (fun Γ104 s105 n106 kf107 C => ?_)
  have z108 : kZ (iX3 40 (iX8 41 (iX7 35 (iX5 28 mem)))) 45 := kZ_X3 (kZ_le z93 (by decide)) (by decide)
  have t109 := kS_t t94 s105
  have e110 : gD Γ104 27 = a := (s105.2.2.1 27 (by rw [n91]; exact (by decide))).trans e95
  have e111 : gD Γ104 1 = b0 := (s105.2.2.1 1 (by rw [n91]; exact (by decide))).trans e96
  have e112 : gD Γ104 40 = a61 := (s105.2.2.1 40 (by rw [n91]; exact (by decide))).trans e97
  have e113 : gD Γ104 28 = b71 := (s105.2.2.1 28 (by rw [n91]; exact (by decide))).trans e98
  have e114 : gD Γ104 35 = b73 := (s105.2.2.1 35 (by rw [n91]; exact (by decide))).trans e99
  have e115 : gD Γ104 41 = a76 := (s105.2.2.1 41 (by rw [n91]; exact (by decide))).trans e100
  have f116 := s105.2.2.2 _ _ f101
  have f117 := s105.2.2.2 _ _ f102
  have Q118 : ∀ p k, isR p k = true → (p = 40 ∨ (45 ≤ p ∧ p < 45)) → gF Γ104 p k = true := fun p k h1 h2 => kf107 p k h1 (by rw [n91]; exact h2)
  refine kg_putR C (by rw [n106]; exact (by decide)) (by decide +kernel) e110 fl_X4_33 klk_X4_33 rfl kfin_4_3 (by rw [(by decide +kernel : sRf 27 3 = 40), n106]; decide) (by rw [(by decide +kernel : sRf 27 3 = 40)]; exact e112) dX4_init_49 (fun Γ122 s119 n120 f121 C => ?_)
  have n123 : gN Γ122 = 45 := n120.trans n106
  have t124 := kS_t t109 s119
  have e125 : gD Γ122 27 = a := (s119.2.2.1 27 (by rw [n106]; exact (by decide))).trans e110
  have e126 : gD Γ122 1 = b0 := (s119.2.2.1 1 (by rw [n106]; exact (by decide))).trans e111
  have e127 : gD Γ122 40 = a61 := (s119.2.2.1 40 (by rw [n106]; exact (by decide))).trans e112
  have f128 := s119.2.2.2 _ _ f116
  have f129 := s119.2.2.2 _ _ f117
  refine zg_j (zj_aload_n (j := 0) (i := 0) C.1 rfl 0 rfl dX4_init_52 (j_zg ?_))
  refine zg_j (zj_iconst C.1 0 dX4_init_53 (j_zg ?_))
  refine kg_putZ (k := 4) C 4 rfl (by rw [n123]; exact (by decide)) (by decide +kernel) e125 fl_X4_37 rfl fp_4_4 (by decide) dX4_init_54 ?_
  have z130 : kZ (zup (iX3 40 (iX8 41 (iX7 35 (iX5 28 mem)))) 27 4 0) 45 := kZ_up z108 (by decide)
  refine zg_j (zj_aload_n (j := 0) (i := 0) C.1 rfl 0 rfl dX4_init_57 (j_zg ?_))
  refine zg_j (zj_iconst C.1 0 dX4_init_58 (j_zg ?_))
  refine kg_putZ (k := 5) C 5 rfl (by rw [n123]; exact (by decide)) (by decide +kernel) e125 fl_X4_41 rfl fp_4_5 (by decide) dX4_init_59 ?_
  have z131 : kZ (zup (zup (iX3 40 (iX8 41 (iX7 35 (iX5 28 mem)))) 27 4 0) 27 5 0) 45 := kZ_up z130 (by decide)
  refine zg_j (zj_aload_n (j := 0) (i := 0) C.1 rfl 0 rfl dX4_init_62 (j_zg ?_))
  refine zg_j (zj_iconst C.1 0 dX4_init_63 (j_zg ?_))
  refine kg_putI (k := 6) C 6 rfl (by rw [n123]; exact (by decide)) (by decide +kernel) e125 fl_X4_44 rfl fp_4_6 (by decide) dX4_init_64 ?_
  have z132 : kZ (zup (zup (zup (iX3 40 (iX8 41 (iX7 35 (iX5 28 mem)))) 27 4 0) 27 5 0) 27 6 0) 45 := kZ_up z131 (by decide)
  refine zg_j (zj_aload_n (j := 0) (i := 0) C.1 rfl 0 rfl dX4_init_67 (j_zg ?_))
  refine zg_j (zj_aload_n (j := 1) (i := 1) C.1 rfl 1 rfl dX4_init_68 (j_zg ?_))
  refine kg_putR C (by rw [n123]; exact (by decide)) (by decide +kernel) e125 fl_X4_48 klk_X4_48 rfl kfin_4_0 (by rw [(by decide +kernel : sRf 27 0 = 1), n123]; decide) (by rw [(by decide +kernel : sRf 27 0 = 1)]; exact e126) dX4_init_69 (fun Γ136 s133 n134 f135 C => ?_)
  have n137 : gN Γ136 = 45 := n134.trans n123
  have t138 := kS_t t124 s133
  have e139 : gD Γ136 27 = a := (s133.2.2.1 27 (by rw [n123]; exact (by decide))).trans e125
  have e140 : gD Γ136 1 = b0 := (s133.2.2.1 1 (by rw [n123]; exact (by decide))).trans e126
  have f141 := s133.2.2.2 _ _ f128
  have f142 := s133.2.2.2 _ _ f129
  have f143 := s133.2.2.2 _ _ f121
  refine kg_ret C Z t138 n137 (fun p k hr hp => ?_) ⟨by decide, by decide⟩ dX4_init_72
  rw [hN] at hp
  rcases (by omega : (p = 27) ∨ (p = 28 ∨ (29 ≤ p ∧ p < 35)) ∨ (p = 35 ∨ (36 ≤ p ∧ p < 40)) ∨ (p = 41 ∨ (42 ≤ p ∧ p < 45)) ∨ (p = 40 ∨ (45 ≤ p ∧ p < 45))) with hp | hp | hp | hp | hp
  · subst hp
    obtain ⟨h1, h2⟩ := isR_o (ci := 4) (by decide +kernel) (by decide) hr
    have h3 : ∀ k, k < sNf 4 → sFk 4 k = 2 → k = 0 ∨ k = 1 ∨ k = 2 ∨ k = 3 := by decide +kernel
    rcases h3 k h1 h2 with rfl | rfl | rfl | rfl
    · exact f135
    · exact f141
    · exact f142
    · exact f143
  · exact s133.2.2.2 _ _ (s119.2.2.2 _ _ (s105.2.2.2 _ _ (s90.2.2.2 _ _ (s77.2.2.2 _ _ (s62.2.2.2 _ _ (s50.2.2.2 _ _ (s40.2.2.2 _ _ (s31.2.2.2 _ _ (s20.2.2.2 _ _ (Q19 p k hr hp))))))))))
  · exact s133.2.2.2 _ _ (s119.2.2.2 _ _ (s105.2.2.2 _ _ (s90.2.2.2 _ _ (s77.2.2.2 _ _ (s62.2.2.2 _ _ (s50.2.2.2 _ _ (Q49 p k hr hp)))))))
  · exact s133.2.2.2 _ _ (s119.2.2.2 _ _ (s105.2.2.2 _ _ (Q103 p k hr hp)))
  · exact s133.2.2.2 _ _ (s119.2.2.2 _ _ (Q118 p k hr hp))
