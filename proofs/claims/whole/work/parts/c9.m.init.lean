def iX11 (mem : zMem) : zMem := (iX3 121 (iX8 134 (iX7 129 (iX5 122 (iX3 104 (iX8 117 (iX7 112 (iX5 105 (zup (zup (zup (zup (zup (iX9 (iX1 (iX10 (iX2 (iX8 49 (iX0 (iX4 (iX3 21 (iX7 22 (iX3 20 (iX8 16 (iX7 11 (iX5 4 (iX6 mem)))))))))))))) 0 15 0) 0 16 (-1)) 0 17 (-1)) 0 18 (-1)) 0 19 (-1))))))))))
theorem kZ_X11 {mem : zMem} {M : Nat} (h : kZ mem M) (hq : 137 < M) : kZ (iX11 mem) M := by
  unfold iX11
  exact (kZ_X3 (kZ_X8 (kZ_X7 (kZ_X5 (kZ_X3 (kZ_X8 (kZ_X7 (kZ_X5 (kZ_up (kZ_up (kZ_up (kZ_up (kZ_up (kZ_X9 (kZ_X1 (kZ_X10 (kZ_X2 (kZ_X8 (kZ_X0 (kZ_X4 (kZ_X3 (kZ_X7 (kZ_X3 (kZ_X8 (kZ_X7 (kZ_X5 (kZ_X6 h (by omega)) (by omega)) (by omega)) (by omega)) (by omega)) (by omega)) (by omega)) (by omega)) (by omega)) (by omega)) (by omega)) (by omega)) (by omega)) (by omega)) (by omega)) (by omega)) (by omega)) (by omega)) (by omega)) (by omega)) (by omega)) (by omega)) (by omega)) (by omega)) (by omega)) (by omega)) (by omega))
set_option maxHeartbeats 4000000 in
theorem K_X11 (l : Launch) {Γ : zG} {a : Nat} {mem : zMem}  (hN : gN Γ = 1) (ha : gD Γ 0 = a) (hz : kZ mem 1) : kMet l yX11_init cX11_init 2 7 137 3332 Γ 0 138 [.ref a] mem (iX11 mem) := by
  refine kMet_of (own := "ShadowHeirs") (by decide) rfl rfl (Nat.le_of_ble_eq_true rfl) (fun X C Z => ?_)
  have hR := kRt_R Z
  have hl0 : X.2.1 = l := kRt_l Z
  show zg (kX X 0 0) Γ 2 0 [(0, .ref a)] [] mem
  refine zg_j (zj_aload_n (j := 0) (i := 0) C.1 rfl 0 rfl dX11_init_0 (j_zg ?_))
  refine kg_obj C (by rw [hR]; exact ⟨by decide, by simp [kRm, Value.category]⟩) moi_X11_1 oi_1 oi_2 dX11_init_1 ?_
  refine zg_j (zj_aload_n (j := 0) (i := 0) C.1 rfl 0 rfl dX11_init_4 (j_zg ?_))
  refine kg_new C hN (by decide +kernel) (L := 11) rfl kcl_X11_7 (fun j => hz _ j (Nat.le_refl _)) (by rw [hR]; exact ⟨by decide, by decide⟩) dX11_init_5 (fun Γ1 a2 s3 n4 e5 C => ?_)
  have z6 : kZ mem 2 := kZ_le hz (Nat.le_succ _)
  have t7 := kS_t (kS_r Γ) s3
  have e8 : gD Γ1 0 = a := (s3.2.2.1 0 (by rw [hN]; exact (by decide))).trans ha
  refine zg_j (zj_dup C.1 rfl dX11_init_8 (j_zg ?_))
  refine kg_callI C (As := []) (rest := [.ref a2, .ref a]) hl0 cal_X6_init rfl ins_X6_init ml_X11_9 rfl (by rw [hR]; exact ⟨by decide, by decide, by decide, by decide⟩) (Nat.le_of_ble_eq_true rfl) dX11_init_9 (K_X6 l  n4 e5  z6) rfl (fun Γ9 s10 n11 kf12 C => ?_)
  have z13 : kZ (iX6 mem) 4 := kZ_X6 (kZ_le z6 (by decide)) (by decide)
  have t14 := kS_t t7 s10
  have e15 : gD Γ9 0 = a := (s10.2.2.1 0 (by rw [n4]; exact (by decide))).trans e8
  have e16 : gD Γ9 1 = a2 := (s10.2.2.1 1 (by rw [n4]; exact (by decide))).trans e5
  have Q17 : ∀ p k, isR p k = true → (p = 1 ∨ (2 ≤ p ∧ p < 4)) → gF Γ9 p k = true := fun p k h1 h2 => kf12 p k h1 (by rw [n4]; exact h2)
  refine kg_putR C (by rw [n11]; exact (by decide)) (by decide +kernel) e15 fl_X11_10 klk_X11_10 rfl kfin_11_0 (by rw [(by decide +kernel : sRf 0 0 = 1), n11]; decide) (by rw [(by decide +kernel : sRf 0 0 = 1)]; exact e16) dX11_init_12 (fun Γ21 s18 n19 f20 C => ?_)
  have n22 : gN Γ21 = 4 := n19.trans n11
  have t23 := kS_t t14 s18
  have e24 : gD Γ21 0 = a := (s18.2.2.1 0 (by rw [n11]; exact (by decide))).trans e15
  have e25 : gD Γ21 1 = a2 := (s18.2.2.1 1 (by rw [n11]; exact (by decide))).trans e16
  refine zg_j (zj_aload_n (j := 0) (i := 0) C.1 rfl 0 rfl dX11_init_15 (j_zg ?_))
  refine kg_new C n22 (by decide +kernel) (L := 11) rfl kcl_X11_16 (fun j => z13 _ j (Nat.le_refl _)) (by rw [hR]; exact ⟨by decide, by decide⟩) dX11_init_16 (fun Γ26 a27 s28 n29 e30 C => ?_)
  have z31 : kZ (iX6 mem) 5 := kZ_le z13 (Nat.le_succ _)
  have t32 := kS_t t23 s28
  have e33 : gD Γ26 0 = a := (s28.2.2.1 0 (by rw [n22]; exact (by decide))).trans e24
  have f34 := s28.2.2.2 _ _ f20
  refine zg_j (zj_dup C.1 rfl dX11_init_19 (j_zg ?_))
  refine kg_callI C (As := []) (rest := [.ref a27, .ref a]) hl0 cal_X5_init rfl ins_X5_init ml_X11_18 rfl (by rw [hR]; exact ⟨by decide, by decide, by decide, by decide⟩) (Nat.le_of_ble_eq_true rfl) dX11_init_20 (K_X5 l (q := 4) (N := 5) (by decide +kernel) (by decide +kernel) (by decide +kernel) (by decide +kernel) (by decide +kernel) (by decide +kernel) (by decide +kernel) (by decide +kernel) (by decide +kernel) (by decide +kernel) (by decide +kernel) (by decide +kernel) (by decide +kernel) (by decide +kernel) (by decide +kernel) (by decide +kernel) (by decide +kernel) (by decide +kernel) (by decide +kernel) (by decide +kernel) n29 e30  z31) rfl (fun Γ35 s36 n37 kf38 C => ?_)
  have z39 : kZ (iX5 4 (iX6 mem)) 11 := kZ_X5 (kZ_le z31 (by decide)) (by decide)
  have t40 := kS_t t32 s36
  have e41 : gD Γ35 0 = a := (s36.2.2.1 0 (by rw [n29]; exact (by decide))).trans e33
  have e42 : gD Γ35 4 = a27 := (s36.2.2.1 4 (by rw [n29]; exact (by decide))).trans e30
  have f43 := s36.2.2.2 _ _ f34
  have Q44 : ∀ p k, isR p k = true → (p = 4 ∨ (5 ≤ p ∧ p < 11)) → gF Γ35 p k = true := fun p k h1 h2 => kf38 p k h1 (by rw [n29]; exact h2)
  refine kg_putR C (by rw [n37]; exact (by decide)) (by decide +kernel) e41 fl_X11_19 klk_X11_19 rfl kfin_11_1 (by rw [(by decide +kernel : sRf 0 1 = 4), n37]; decide) (by rw [(by decide +kernel : sRf 0 1 = 4)]; exact e42) dX11_init_23 (fun Γ48 s45 n46 f47 C => ?_)
  have n49 : gN Γ48 = 11 := n46.trans n37
  have t50 := kS_t t40 s45
  have e51 : gD Γ48 0 = a := (s45.2.2.1 0 (by rw [n37]; exact (by decide))).trans e41
  have e52 : gD Γ48 4 = a27 := (s45.2.2.1 4 (by rw [n37]; exact (by decide))).trans e42
  have f53 := s45.2.2.2 _ _ f43
  refine zg_j (zj_aload_n (j := 0) (i := 0) C.1 rfl 0 rfl dX11_init_26 (j_zg ?_))
  refine kg_new C n49 (by decide +kernel) (L := 9) rfl kcl_X11_23 (fun j => z39 _ j (Nat.le_refl _)) (by rw [hR]; exact ⟨by decide, by decide⟩) dX11_init_27 (fun Γ54 a55 s56 n57 e58 C => ?_)
  have z59 : kZ (iX5 4 (iX6 mem)) 12 := kZ_le z39 (Nat.le_succ _)
  have t60 := kS_t t50 s56
  have e61 : gD Γ54 0 = a := (s56.2.2.1 0 (by rw [n49]; exact (by decide))).trans e51
  have f62 := s56.2.2.2 _ _ f53
  have f63 := s56.2.2.2 _ _ f47
  refine zg_j (zj_dup C.1 rfl dX11_init_30 (j_zg ?_))
  refine kg_callI C (As := []) (rest := [.ref a55, .ref a]) hl0 cal_X7_init rfl ins_X7_init ml_X11_25 rfl (by rw [hR]; exact ⟨by decide, by decide, by decide, by decide⟩) (Nat.le_of_ble_eq_true rfl) dX11_init_31 (K_X7 l (q := 11) (N := 12) (by decide +kernel) (by decide +kernel) (by decide +kernel) (by decide +kernel) (by decide +kernel) (by decide +kernel) (by decide +kernel) (by decide +kernel) (by decide +kernel) (by decide +kernel) (by decide +kernel) (by decide +kernel) (by decide +kernel) (by decide +kernel) n57 e58  z59) rfl (fun Γ64 s65 n66 kf67 C => ?_)
  have z68 : kZ (iX7 11 (iX5 4 (iX6 mem))) 16 := kZ_X7 (kZ_le z59 (by decide)) (by decide)
  have t69 := kS_t t60 s65
  have e70 : gD Γ64 0 = a := (s65.2.2.1 0 (by rw [n57]; exact (by decide))).trans e61
  have e71 : gD Γ64 11 = a55 := (s65.2.2.1 11 (by rw [n57]; exact (by decide))).trans e58
  have f72 := s65.2.2.2 _ _ f62
  have f73 := s65.2.2.2 _ _ f63
  have Q74 : ∀ p k, isR p k = true → (p = 11 ∨ (12 ≤ p ∧ p < 16)) → gF Γ64 p k = true := fun p k h1 h2 => kf67 p k h1 (by rw [n57]; exact h2)
  refine kg_putR C (by rw [n66]; exact (by decide)) (by decide +kernel) e70 fl_X11_26 klk_X11_26 rfl kfin_11_2 (by rw [(by decide +kernel : sRf 0 2 = 11), n66]; decide) (by rw [(by decide +kernel : sRf 0 2 = 11)]; exact e71) dX11_init_34 (fun Γ78 s75 n76 f77 C => ?_)
  have n79 : gN Γ78 = 16 := n76.trans n66
  have t80 := kS_t t69 s75
  have e81 : gD Γ78 0 = a := (s75.2.2.1 0 (by rw [n66]; exact (by decide))).trans e70
  have e82 : gD Γ78 11 = a55 := (s75.2.2.1 11 (by rw [n66]; exact (by decide))).trans e71
  have f83 := s75.2.2.2 _ _ f72
  have f84 := s75.2.2.2 _ _ f73
  refine zg_j (zj_aload_n (j := 0) (i := 0) C.1 rfl 0 rfl dX11_init_37 (j_zg ?_))
  refine kg_new C n79 (by decide +kernel) (L := 5) rfl kcl_X11_30 (fun j => z68 _ j (Nat.le_refl _)) (by rw [hR]; exact ⟨by decide, by decide⟩) dX11_init_38 (fun Γ85 a86 s87 n88 e89 C => ?_)
  have z90 : kZ (iX7 11 (iX5 4 (iX6 mem))) 17 := kZ_le z68 (Nat.le_succ _)
  have t91 := kS_t t80 s87
  have e92 : gD Γ85 0 = a := (s87.2.2.1 0 (by rw [n79]; exact (by decide))).trans e81
  have f93 := s87.2.2.2 _ _ f83
  have f94 := s87.2.2.2 _ _ f84
  have f95 := s87.2.2.2 _ _ f77
  refine zg_j (zj_dup C.1 rfl dX11_init_41 (j_zg ?_))
  refine kg_callI C (As := []) (rest := [.ref a86, .ref a]) hl0 cal_X8_init rfl ins_X8_init ml_X11_32 rfl (by rw [hR]; exact ⟨by decide, by decide, by decide, by decide⟩) (Nat.le_of_ble_eq_true rfl) dX11_init_42 (K_X8 l (q := 16) (N := 17) (by decide +kernel) (by decide +kernel) (by decide +kernel) (by decide +kernel) (by decide +kernel) (by decide +kernel) (by decide +kernel) (by decide +kernel) (by decide +kernel) (by decide +kernel) (by decide +kernel) n88 e89  z90) rfl (fun Γ96 s97 n98 kf99 C => ?_)
  have z100 : kZ (iX8 16 (iX7 11 (iX5 4 (iX6 mem)))) 20 := kZ_X8 (kZ_le z90 (by decide)) (by decide)
  have t101 := kS_t t91 s97
  have e102 : gD Γ96 0 = a := (s97.2.2.1 0 (by rw [n88]; exact (by decide))).trans e92
  have e103 : gD Γ96 16 = a86 := (s97.2.2.1 16 (by rw [n88]; exact (by decide))).trans e89
  have f104 := s97.2.2.2 _ _ f93
  have f105 := s97.2.2.2 _ _ f94
  have f106 := s97.2.2.2 _ _ f95
  have Q107 : ∀ p k, isR p k = true → (p = 16 ∨ (17 ≤ p ∧ p < 20)) → gF Γ96 p k = true := fun p k h1 h2 => kf99 p k h1 (by rw [n88]; exact h2)
  refine kg_putR C (by rw [n98]; exact (by decide)) (by decide +kernel) e102 fl_X11_33 klk_X11_33 rfl kfin_11_3 (by rw [(by decide +kernel : sRf 0 3 = 16), n98]; decide) (by rw [(by decide +kernel : sRf 0 3 = 16)]; exact e103) dX11_init_45 (fun Γ111 s108 n109 f110 C => ?_)
  have n112 : gN Γ111 = 20 := n109.trans n98
  have t113 := kS_t t101 s108
  have e114 : gD Γ111 0 = a := (s108.2.2.1 0 (by rw [n98]; exact (by decide))).trans e102
  have e115 : gD Γ111 16 = a86 := (s108.2.2.1 16 (by rw [n98]; exact (by decide))).trans e103
  have f116 := s108.2.2.2 _ _ f104
  have f117 := s108.2.2.2 _ _ f105
  have f118 := s108.2.2.2 _ _ f106
  refine zg_j (zj_aload_n (j := 0) (i := 0) C.1 rfl 0 rfl dX11_init_48 (j_zg ?_))
  refine kg_new C n112 (by decide +kernel) (L := 3) rfl kcl_X11_37 (fun j => z100 _ j (Nat.le_refl _)) (by rw [hR]; exact ⟨by decide, by decide⟩) dX11_init_49 (fun Γ119 a120 s121 n122 e123 C => ?_)
  have z124 : kZ (iX8 16 (iX7 11 (iX5 4 (iX6 mem)))) 21 := kZ_le z100 (Nat.le_succ _)
  have t125 := kS_t t113 s121
  have e126 : gD Γ119 0 = a := (s121.2.2.1 0 (by rw [n112]; exact (by decide))).trans e114
  have f127 := s121.2.2.2 _ _ f116
  have f128 := s121.2.2.2 _ _ f117
  have f129 := s121.2.2.2 _ _ f118
  have f130 := s121.2.2.2 _ _ f110
  refine zg_j (zj_dup C.1 rfl dX11_init_52 (j_zg ?_))
  refine zg_j (zj_aload_n (j := 0) (i := 0) C.1 rfl 0 rfl dX11_init_53 (j_zg ?_))
  obtain ⟨b131, hb132⟩ : ∃ b, gD Γ119 4 = b := ⟨_, rfl⟩
  refine kg_getR (q := 0) (b := b131) C (by rw [n122]; exact (by decide)) (by decide +kernel) e126 fl_X11_19 rfl f128 (by rw [(by decide +kernel : sRf 0 1 = 4)]; exact hb132) dX11_init_54 ?_
  refine zg_j (zj_aload_n (j := 0) (i := 0) C.1 rfl 0 rfl dX11_init_57 (j_zg ?_))
  obtain ⟨b133, hb134⟩ : ∃ b, gD Γ119 11 = b := ⟨_, rfl⟩
  refine kg_getR (q := 0) (b := b133) C (by rw [n122]; exact (by decide)) (by decide +kernel) e126 fl_X11_26 rfl f129 (by rw [(by decide +kernel : sRf 0 2 = 11)]; exact hb134) dX11_init_58 ?_
  refine zg_j (zj_aload_n (j := 0) (i := 0) C.1 rfl 0 rfl dX11_init_61 (j_zg ?_))
  obtain ⟨b135, hb136⟩ : ∃ b, gD Γ119 16 = b := ⟨_, rfl⟩
  refine kg_getR (q := 0) (b := b135) C (by rw [n122]; exact (by decide)) (by decide +kernel) e126 fl_X11_33 rfl f130 (by rw [(by decide +kernel : sRf 0 3 = 16)]; exact hb136) dX11_init_62 ?_
  refine kg_callI C (As := [.ref b131, .ref b133, .ref b135]) (rest := [.ref a120, .ref a]) hl0 cal_X3_init rfl ins_X3_init ml_X11_39 rfl (by rw [hR]; exact ⟨by decide, by decide, by decide, by decide⟩) (Nat.le_of_ble_eq_true rfl) dX11_init_65 (K_X3 l (i0 := 4) (i1 := 11) (i2 := 16) (q := 20) (N := 21) (by decide +kernel) (by decide +kernel) (by decide +kernel) (by decide +kernel) (by decide +kernel) (by decide +kernel) (by decide +kernel) (by decide +kernel) n122 e123 hb132 hb134 hb136 z124) rfl (fun Γ137 s138 n139 kf140 C => ?_)
  have z141 : kZ (iX3 20 (iX8 16 (iX7 11 (iX5 4 (iX6 mem))))) 21 := kZ_X3 (kZ_le z124 (by decide)) (by decide)
  have t142 := kS_t t125 s138
  have e143 : gD Γ137 0 = a := (s138.2.2.1 0 (by rw [n122]; exact (by decide))).trans e126
  have e144 : gD Γ137 20 = a120 := (s138.2.2.1 20 (by rw [n122]; exact (by decide))).trans e123
  have e145 : gD Γ137 4 = b131 := (s138.2.2.1 4 (by rw [n122]; exact (by decide))).trans hb132
  have e146 : gD Γ137 11 = b133 := (s138.2.2.1 11 (by rw [n122]; exact (by decide))).trans hb134
  have e147 : gD Γ137 16 = b135 := (s138.2.2.1 16 (by rw [n122]; exact (by decide))).trans hb136
  have f148 := s138.2.2.2 _ _ f127
  have f149 := s138.2.2.2 _ _ f128
  have f150 := s138.2.2.2 _ _ f129
  have f151 := s138.2.2.2 _ _ f130
  have Q152 : ∀ p k, isR p k = true → (p = 20 ∨ (21 ≤ p ∧ p < 21)) → gF Γ137 p k = true := fun p k h1 h2 => kf140 p k h1 (by rw [n122]; exact h2)
  refine kg_putR C (by rw [n139]; exact (by decide)) (by decide +kernel) e143 fl_X11_42 klk_X11_42 rfl kfin_11_4 (by rw [(by decide +kernel : sRf 0 4 = 20), n139]; decide) (by rw [(by decide +kernel : sRf 0 4 = 20)]; exact e144) dX11_init_68 (fun Γ156 s153 n154 f155 C => ?_)
  have n157 : gN Γ156 = 21 := n154.trans n139
  have t158 := kS_t t142 s153
  have e159 : gD Γ156 0 = a := (s153.2.2.1 0 (by rw [n139]; exact (by decide))).trans e143
  have e160 : gD Γ156 20 = a120 := (s153.2.2.1 20 (by rw [n139]; exact (by decide))).trans e144
  have f161 := s153.2.2.2 _ _ f148
  have f162 := s153.2.2.2 _ _ f149
  have f163 := s153.2.2.2 _ _ f150
  have f164 := s153.2.2.2 _ _ f151
  refine zg_j (zj_aload_n (j := 0) (i := 0) C.1 rfl 0 rfl dX11_init_71 (j_zg ?_))
  refine kg_new C n157 (by decide +kernel) (L := 3) rfl kcl_X11_37 (fun j => z141 _ j (Nat.le_refl _)) (by rw [hR]; exact ⟨by decide, by decide⟩) dX11_init_72 (fun Γ165 a166 s167 n168 e169 C => ?_)
  have z170 : kZ (iX3 20 (iX8 16 (iX7 11 (iX5 4 (iX6 mem))))) 22 := kZ_le z141 (Nat.le_succ _)
  have t171 := kS_t t158 s167
  have e172 : gD Γ165 0 = a := (s167.2.2.1 0 (by rw [n157]; exact (by decide))).trans e159
  have f173 := s167.2.2.2 _ _ f161
  have f174 := s167.2.2.2 _ _ f162
  have f175 := s167.2.2.2 _ _ f163
  have f176 := s167.2.2.2 _ _ f164
  have f177 := s167.2.2.2 _ _ f155
  refine zg_j (zj_dup C.1 rfl dX11_init_75 (j_zg ?_))
  refine zg_j (zj_aload_n (j := 0) (i := 0) C.1 rfl 0 rfl dX11_init_76 (j_zg ?_))
  obtain ⟨b178, hb179⟩ : ∃ b, gD Γ165 4 = b := ⟨_, rfl⟩
  refine kg_getR (q := 0) (b := b178) C (by rw [n168]; exact (by decide)) (by decide +kernel) e172 fl_X11_19 rfl f174 (by rw [(by decide +kernel : sRf 0 1 = 4)]; exact hb179) dX11_init_77 ?_
  refine kg_new C n168 (by decide +kernel) (L := 9) rfl kcl_X11_23 (fun j => z170 _ j (Nat.le_refl _)) (by rw [hR]; exact ⟨by decide, by decide⟩) dX11_init_80 (fun Γ180 a181 s182 n183 e184 C => ?_)
  have z185 : kZ (iX3 20 (iX8 16 (iX7 11 (iX5 4 (iX6 mem))))) 23 := kZ_le z170 (Nat.le_succ _)
  have t186 := kS_t t171 s182
  have e187 : gD Γ180 0 = a := (s182.2.2.1 0 (by rw [n168]; exact (by decide))).trans e172
  have e188 : gD Γ180 21 = a166 := (s182.2.2.1 21 (by rw [n168]; exact (by decide))).trans e169
  have e189 : gD Γ180 4 = b178 := (s182.2.2.1 4 (by rw [n168]; exact (by decide))).trans hb179
  have f190 := s182.2.2.2 _ _ f173
  have f191 := s182.2.2.2 _ _ f174
  have f192 := s182.2.2.2 _ _ f175
  have f193 := s182.2.2.2 _ _ f176
  have f194 := s182.2.2.2 _ _ f177
  refine zg_j (zj_dup C.1 rfl dX11_init_83 (j_zg ?_))
  refine kg_callI C (As := []) (rest := [.ref a181, .ref b178, .ref a166, .ref a166, .ref a]) hl0 cal_X7_init rfl ins_X7_init ml_X11_25 rfl (by rw [hR]; exact ⟨by decide, by decide, by decide, by decide⟩) (Nat.le_of_ble_eq_true rfl) dX11_init_84 (K_X7 l (q := 22) (N := 23) (by decide +kernel) (by decide +kernel) (by decide +kernel) (by decide +kernel) (by decide +kernel) (by decide +kernel) (by decide +kernel) (by decide +kernel) (by decide +kernel) (by decide +kernel) (by decide +kernel) (by decide +kernel) (by decide +kernel) (by decide +kernel) n183 e184  z185) rfl (fun Γ195 s196 n197 kf198 C => ?_)
  have z199 : kZ (iX7 22 (iX3 20 (iX8 16 (iX7 11 (iX5 4 (iX6 mem)))))) 27 := kZ_X7 (kZ_le z185 (by decide)) (by decide)
  have t200 := kS_t t186 s196
  have e201 : gD Γ195 0 = a := (s196.2.2.1 0 (by rw [n183]; exact (by decide))).trans e187
  have e202 : gD Γ195 21 = a166 := (s196.2.2.1 21 (by rw [n183]; exact (by decide))).trans e188
  have e203 : gD Γ195 4 = b178 := (s196.2.2.1 4 (by rw [n183]; exact (by decide))).trans e189
  have e204 : gD Γ195 22 = a181 := (s196.2.2.1 22 (by rw [n183]; exact (by decide))).trans e184
  have f205 := s196.2.2.2 _ _ f190
  have f206 := s196.2.2.2 _ _ f191
  have f207 := s196.2.2.2 _ _ f192
  have f208 := s196.2.2.2 _ _ f193
  have f209 := s196.2.2.2 _ _ f194
  have Q210 : ∀ p k, isR p k = true → (p = 22 ∨ (23 ≤ p ∧ p < 27)) → gF Γ195 p k = true := fun p k h1 h2 => kf198 p k h1 (by rw [n183]; exact h2)
  refine zg_j (zj_aload_n (j := 0) (i := 0) C.1 rfl 0 rfl dX11_init_87 (j_zg ?_))
  obtain ⟨b211, hb212⟩ : ∃ b, gD Γ195 16 = b := ⟨_, rfl⟩
  refine kg_getR (q := 0) (b := b211) C (by rw [n197]; exact (by decide)) (by decide +kernel) e201 fl_X11_33 rfl f208 (by rw [(by decide +kernel : sRf 0 3 = 16)]; exact hb212) dX11_init_88 ?_
  refine kg_callI C (As := [.ref b178, .ref a181, .ref b211]) (rest := [.ref a166, .ref a]) hl0 cal_X3_init rfl ins_X3_init ml_X11_39 rfl (by rw [hR]; exact ⟨by decide, by decide, by decide, by decide⟩) (Nat.le_of_ble_eq_true rfl) dX11_init_91 (K_X3 l (i0 := 4) (i1 := 22) (i2 := 16) (q := 21) (N := 27) (by decide +kernel) (by decide +kernel) (by decide +kernel) (by decide +kernel) (by decide +kernel) (by decide +kernel) (by decide +kernel) (by decide +kernel) n197 e202 e203 e204 hb212 z199) rfl (fun Γ213 s214 n215 kf216 C => ?_)
  have z217 : kZ (iX3 21 (iX7 22 (iX3 20 (iX8 16 (iX7 11 (iX5 4 (iX6 mem))))))) 27 := kZ_X3 (kZ_le z199 (by decide)) (by decide)
  have t218 := kS_t t200 s214
  have e219 : gD Γ213 0 = a := (s214.2.2.1 0 (by rw [n197]; exact (by decide))).trans e201
  have e220 : gD Γ213 21 = a166 := (s214.2.2.1 21 (by rw [n197]; exact (by decide))).trans e202
  have e221 : gD Γ213 4 = b178 := (s214.2.2.1 4 (by rw [n197]; exact (by decide))).trans e203
  have e222 : gD Γ213 22 = a181 := (s214.2.2.1 22 (by rw [n197]; exact (by decide))).trans e204
  have e223 : gD Γ213 16 = b211 := (s214.2.2.1 16 (by rw [n197]; exact (by decide))).trans hb212
  have f224 := s214.2.2.2 _ _ f205
  have f225 := s214.2.2.2 _ _ f206
  have f226 := s214.2.2.2 _ _ f207
  have f227 := s214.2.2.2 _ _ f208
  have f228 := s214.2.2.2 _ _ f209
  have Q229 : ∀ p k, isR p k = true → (p = 21 ∨ (27 ≤ p ∧ p < 27)) → gF Γ213 p k = true := fun p k h1 h2 => kf216 p k h1 (by rw [n197]; exact h2)
  refine kg_putR C (by rw [n215]; exact (by decide)) (by decide +kernel) e219 fl_X11_46 klk_X11_46 rfl kfin_11_5 (by rw [(by decide +kernel : sRf 0 5 = 21), n215]; decide) (by rw [(by decide +kernel : sRf 0 5 = 21)]; exact e220) dX11_init_94 (fun Γ233 s230 n231 f232 C => ?_)
  have n234 : gN Γ233 = 27 := n231.trans n215
  have t235 := kS_t t218 s230
  have e236 : gD Γ233 0 = a := (s230.2.2.1 0 (by rw [n215]; exact (by decide))).trans e219
  have e237 : gD Γ233 21 = a166 := (s230.2.2.1 21 (by rw [n215]; exact (by decide))).trans e220
  have f238 := s230.2.2.2 _ _ f224
  have f239 := s230.2.2.2 _ _ f225
  have f240 := s230.2.2.2 _ _ f226
  have f241 := s230.2.2.2 _ _ f227
  have f242 := s230.2.2.2 _ _ f228
  refine zg_j (zj_aload_n (j := 0) (i := 0) C.1 rfl 0 rfl dX11_init_97 (j_zg ?_))
  refine kg_new C n234 (by decide +kernel) (L := 7) rfl kcl_X11_49 (fun j => z217 _ j (Nat.le_refl _)) (by rw [hR]; exact ⟨by decide, by decide⟩) dX11_init_98 (fun Γ243 a244 s245 n246 e247 C => ?_)
  have z248 : kZ (iX3 21 (iX7 22 (iX3 20 (iX8 16 (iX7 11 (iX5 4 (iX6 mem))))))) 28 := kZ_le z217 (Nat.le_succ _)
  have t249 := kS_t t235 s245
  have e250 : gD Γ243 0 = a := (s245.2.2.1 0 (by rw [n234]; exact (by decide))).trans e236
  have f251 := s245.2.2.2 _ _ f238
  have f252 := s245.2.2.2 _ _ f239
  have f253 := s245.2.2.2 _ _ f240
  have f254 := s245.2.2.2 _ _ f241
  have f255 := s245.2.2.2 _ _ f242
  have f256 := s245.2.2.2 _ _ f232
  refine zg_j (zj_dup C.1 rfl dX11_init_101 (j_zg ?_))
  refine zg_j (zj_aload_n (j := 0) (i := 0) C.1 rfl 0 rfl dX11_init_102 (j_zg ?_))
  obtain ⟨b257, hb258⟩ : ∃ b, gD Γ243 1 = b := ⟨_, rfl⟩
  refine kg_getR (q := 0) (b := b257) C (by rw [n246]; exact (by decide)) (by decide +kernel) e250 fl_X11_10 rfl f251 (by rw [(by decide +kernel : sRf 0 0 = 1)]; exact hb258) dX11_init_103 ?_
  refine kg_callI C (As := [.ref b257]) (rest := [.ref a244, .ref a]) hl0 cal_X4_init rfl ins_X4_init ml_X11_51 rfl (by rw [hR]; exact ⟨by decide, by decide, by decide, by decide⟩) (Nat.le_of_ble_eq_true rfl) dX11_init_106 (K_X4 l  n246 e247 hb258 z248) rfl (fun Γ259 s260 n261 kf262 C => ?_)
  have z263 : kZ (iX4 (iX3 21 (iX7 22 (iX3 20 (iX8 16 (iX7 11 (iX5 4 (iX6 mem)))))))) 45 := kZ_X4 (kZ_le z248 (by decide)) (by decide)
  have t264 := kS_t t249 s260
  have e265 : gD Γ259 0 = a := (s260.2.2.1 0 (by rw [n246]; exact (by decide))).trans e250
  have e266 : gD Γ259 27 = a244 := (s260.2.2.1 27 (by rw [n246]; exact (by decide))).trans e247
  have e267 : gD Γ259 1 = b257 := (s260.2.2.1 1 (by rw [n246]; exact (by decide))).trans hb258
  have f268 := s260.2.2.2 _ _ f251
  have f269 := s260.2.2.2 _ _ f252
  have f270 := s260.2.2.2 _ _ f253
  have f271 := s260.2.2.2 _ _ f254
  have f272 := s260.2.2.2 _ _ f255
  have f273 := s260.2.2.2 _ _ f256
  have Q274 : ∀ p k, isR p k = true → (p = 27 ∨ (28 ≤ p ∧ p < 45)) → gF Γ259 p k = true := fun p k h1 h2 => kf262 p k h1 (by rw [n246]; exact h2)
  refine kg_putR C (by rw [n261]; exact (by decide)) (by decide +kernel) e265 fl_X11_54 klk_X11_54 rfl kfin_11_6 (by rw [(by decide +kernel : sRf 0 6 = 27), n261]; decide) (by rw [(by decide +kernel : sRf 0 6 = 27)]; exact e266) dX11_init_109 (fun Γ278 s275 n276 f277 C => ?_)
  have n279 : gN Γ278 = 45 := n276.trans n261
  have t280 := kS_t t264 s275
  have e281 : gD Γ278 0 = a := (s275.2.2.1 0 (by rw [n261]; exact (by decide))).trans e265
  have e282 : gD Γ278 27 = a244 := (s275.2.2.1 27 (by rw [n261]; exact (by decide))).trans e266
  have f283 := s275.2.2.2 _ _ f268
  have f284 := s275.2.2.2 _ _ f269
  have f285 := s275.2.2.2 _ _ f270
  have f286 := s275.2.2.2 _ _ f271
  have f287 := s275.2.2.2 _ _ f272
  have f288 := s275.2.2.2 _ _ f273
  refine zg_j (zj_aload_n (j := 0) (i := 0) C.1 rfl 0 rfl dX11_init_112 (j_zg ?_))
  refine kg_new C n279 (by decide +kernel) (L := 10) rfl kcl_X11_58 (fun j => z263 _ j (Nat.le_refl _)) (by rw [hR]; exact ⟨by decide, by decide⟩) dX11_init_113 (fun Γ289 a290 s291 n292 e293 C => ?_)
  have z294 : kZ (iX4 (iX3 21 (iX7 22 (iX3 20 (iX8 16 (iX7 11 (iX5 4 (iX6 mem)))))))) 46 := kZ_le z263 (Nat.le_succ _)
  have t295 := kS_t t280 s291
  have e296 : gD Γ289 0 = a := (s291.2.2.1 0 (by rw [n279]; exact (by decide))).trans e281
  have f297 := s291.2.2.2 _ _ f283
  have f298 := s291.2.2.2 _ _ f284
  have f299 := s291.2.2.2 _ _ f285
  have f300 := s291.2.2.2 _ _ f286
  have f301 := s291.2.2.2 _ _ f287
  have f302 := s291.2.2.2 _ _ f288
  have f303 := s291.2.2.2 _ _ f277
  refine zg_j (zj_dup C.1 rfl dX11_init_116 (j_zg ?_))
  refine zg_j (zj_aload_n (j := 0) (i := 0) C.1 rfl 0 rfl dX11_init_117 (j_zg ?_))
  obtain ⟨b304, hb305⟩ : ∃ b, gD Γ289 1 = b := ⟨_, rfl⟩
  refine kg_getR (q := 0) (b := b304) C (by rw [n292]; exact (by decide)) (by decide +kernel) e296 fl_X11_10 rfl f297 (by rw [(by decide +kernel : sRf 0 0 = 1)]; exact hb305) dX11_init_118 ?_
  refine kg_callI C (As := [.ref b304]) (rest := [.ref a290, .ref a]) hl0 cal_X0_init rfl ins_X0_init ml_X11_60 rfl (by rw [hR]; exact ⟨by decide, by decide, by decide, by decide⟩) (Nat.le_of_ble_eq_true rfl) dX11_init_121 (K_X0 l  n292 e293 hb305 z294) rfl (fun Γ306 s307 n308 kf309 C => ?_)
  have z310 : kZ (iX0 (iX4 (iX3 21 (iX7 22 (iX3 20 (iX8 16 (iX7 11 (iX5 4 (iX6 mem))))))))) 49 := kZ_X0 (kZ_le z294 (by decide)) (by decide)
  have t311 := kS_t t295 s307
  have e312 : gD Γ306 0 = a := (s307.2.2.1 0 (by rw [n292]; exact (by decide))).trans e296
  have e313 : gD Γ306 45 = a290 := (s307.2.2.1 45 (by rw [n292]; exact (by decide))).trans e293
  have e314 : gD Γ306 1 = b304 := (s307.2.2.1 1 (by rw [n292]; exact (by decide))).trans hb305
  have f315 := s307.2.2.2 _ _ f297
  have f316 := s307.2.2.2 _ _ f298
  have f317 := s307.2.2.2 _ _ f299
  have f318 := s307.2.2.2 _ _ f300
  have f319 := s307.2.2.2 _ _ f301
  have f320 := s307.2.2.2 _ _ f302
  have f321 := s307.2.2.2 _ _ f303
  have Q322 : ∀ p k, isR p k = true → (p = 45 ∨ (46 ≤ p ∧ p < 49)) → gF Γ306 p k = true := fun p k h1 h2 => kf309 p k h1 (by rw [n292]; exact h2)
  refine kg_putR C (by rw [n308]; exact (by decide)) (by decide +kernel) e312 fl_X11_61 klk_X11_61 rfl kfin_11_7 (by rw [(by decide +kernel : sRf 0 7 = 45), n308]; decide) (by rw [(by decide +kernel : sRf 0 7 = 45)]; exact e313) dX11_init_124 (fun Γ326 s323 n324 f325 C => ?_)
  have n327 : gN Γ326 = 49 := n324.trans n308
  have t328 := kS_t t311 s323
  have e329 : gD Γ326 0 = a := (s323.2.2.1 0 (by rw [n308]; exact (by decide))).trans e312
  have e330 : gD Γ326 45 = a290 := (s323.2.2.1 45 (by rw [n308]; exact (by decide))).trans e313
  have f331 := s323.2.2.2 _ _ f315
  have f332 := s323.2.2.2 _ _ f316
  have f333 := s323.2.2.2 _ _ f317
  have f334 := s323.2.2.2 _ _ f318
  have f335 := s323.2.2.2 _ _ f319
  have f336 := s323.2.2.2 _ _ f320
  have f337 := s323.2.2.2 _ _ f321
  refine zg_j (zj_aload_n (j := 0) (i := 0) C.1 rfl 0 rfl dX11_init_127 (j_zg ?_))
  refine kg_new C n327 (by decide +kernel) (L := 5) rfl kcl_X11_30 (fun j => z310 _ j (Nat.le_refl _)) (by rw [hR]; exact ⟨by decide, by decide⟩) dX11_init_128 (fun Γ338 a339 s340 n341 e342 C => ?_)
  have z343 : kZ (iX0 (iX4 (iX3 21 (iX7 22 (iX3 20 (iX8 16 (iX7 11 (iX5 4 (iX6 mem))))))))) 50 := kZ_le z310 (Nat.le_succ _)
  have t344 := kS_t t328 s340
  have e345 : gD Γ338 0 = a := (s340.2.2.1 0 (by rw [n327]; exact (by decide))).trans e329
  have f346 := s340.2.2.2 _ _ f331
  have f347 := s340.2.2.2 _ _ f332
  have f348 := s340.2.2.2 _ _ f333
  have f349 := s340.2.2.2 _ _ f334
  have f350 := s340.2.2.2 _ _ f335
  have f351 := s340.2.2.2 _ _ f336
  have f352 := s340.2.2.2 _ _ f337
  have f353 := s340.2.2.2 _ _ f325
  refine zg_j (zj_dup C.1 rfl dX11_init_131 (j_zg ?_))
  refine kg_callI C (As := []) (rest := [.ref a339, .ref a]) hl0 cal_X8_init rfl ins_X8_init ml_X11_32 rfl (by rw [hR]; exact ⟨by decide, by decide, by decide, by decide⟩) (Nat.le_of_ble_eq_true rfl) dX11_init_132 (K_X8 l (q := 49) (N := 50) (by decide +kernel) (by decide +kernel) (by decide +kernel) (by decide +kernel) (by decide +kernel) (by decide +kernel) (by decide +kernel) (by decide +kernel) (by decide +kernel) (by decide +kernel) (by decide +kernel) n341 e342  z343) rfl (fun Γ354 s355 n356 kf357 C => ?_)
  have z358 : kZ (iX8 49 (iX0 (iX4 (iX3 21 (iX7 22 (iX3 20 (iX8 16 (iX7 11 (iX5 4 (iX6 mem)))))))))) 53 := kZ_X8 (kZ_le z343 (by decide)) (by decide)
  have t359 := kS_t t344 s355
  have e360 : gD Γ354 0 = a := (s355.2.2.1 0 (by rw [n341]; exact (by decide))).trans e345
  have e361 : gD Γ354 49 = a339 := (s355.2.2.1 49 (by rw [n341]; exact (by decide))).trans e342
  have f362 := s355.2.2.2 _ _ f346
  have f363 := s355.2.2.2 _ _ f347
  have f364 := s355.2.2.2 _ _ f348
  have f365 := s355.2.2.2 _ _ f349
  have f366 := s355.2.2.2 _ _ f350
  have f367 := s355.2.2.2 _ _ f351
  have f368 := s355.2.2.2 _ _ f352
  have f369 := s355.2.2.2 _ _ f353
  have Q370 : ∀ p k, isR p k = true → (p = 49 ∨ (50 ≤ p ∧ p < 53)) → gF Γ354 p k = true := fun p k h1 h2 => kf357 p k h1 (by rw [n341]; exact h2)
  refine kg_putR C (by rw [n356]; exact (by decide)) (by decide +kernel) e360 fl_X11_65 klk_X11_65 rfl kfin_11_8 (by rw [(by decide +kernel : sRf 0 8 = 49), n356]; decide) (by rw [(by decide +kernel : sRf 0 8 = 49)]; exact e361) dX11_init_135 (fun Γ374 s371 n372 f373 C => ?_)
  have n375 : gN Γ374 = 53 := n372.trans n356
  have t376 := kS_t t359 s371
  have e377 : gD Γ374 0 = a := (s371.2.2.1 0 (by rw [n356]; exact (by decide))).trans e360
  have e378 : gD Γ374 49 = a339 := (s371.2.2.1 49 (by rw [n356]; exact (by decide))).trans e361
  have f379 := s371.2.2.2 _ _ f362
  have f380 := s371.2.2.2 _ _ f363
  have f381 := s371.2.2.2 _ _ f364
  have f382 := s371.2.2.2 _ _ f365
  have f383 := s371.2.2.2 _ _ f366
  have f384 := s371.2.2.2 _ _ f367
  have f385 := s371.2.2.2 _ _ f368
  have f386 := s371.2.2.2 _ _ f369
  refine zg_j (zj_aload_n (j := 0) (i := 0) C.1 rfl 0 rfl dX11_init_138 (j_zg ?_))
  refine kg_new C n375 (by decide +kernel) (L := 3) rfl kcl_X11_68 (fun j => z358 _ j (Nat.le_refl _)) (by rw [hR]; exact ⟨by decide, by decide⟩) dX11_init_139 (fun Γ387 a388 s389 n390 e391 C => ?_)
  have z392 : kZ (iX8 49 (iX0 (iX4 (iX3 21 (iX7 22 (iX3 20 (iX8 16 (iX7 11 (iX5 4 (iX6 mem)))))))))) 54 := kZ_le z358 (Nat.le_succ _)
  have t393 := kS_t t376 s389
  have e394 : gD Γ387 0 = a := (s389.2.2.1 0 (by rw [n375]; exact (by decide))).trans e377
  have f395 := s389.2.2.2 _ _ f379
  have f396 := s389.2.2.2 _ _ f380
  have f397 := s389.2.2.2 _ _ f381
  have f398 := s389.2.2.2 _ _ f382
  have f399 := s389.2.2.2 _ _ f383
  have f400 := s389.2.2.2 _ _ f384
  have f401 := s389.2.2.2 _ _ f385
  have f402 := s389.2.2.2 _ _ f386
  have f403 := s389.2.2.2 _ _ f373
  refine zg_j (zj_dup C.1 rfl dX11_init_142 (j_zg ?_))
  refine kg_callI C (As := []) (rest := [.ref a388, .ref a]) hl0 cal_X2_init rfl ins_X2_init ml_X11_70 rfl (by rw [hR]; exact ⟨by decide, by decide, by decide, by decide⟩) (Nat.le_of_ble_eq_true rfl) dX11_init_143 (K_X2 l  n390 e391  z392) rfl (fun Γ404 s405 n406 kf407 C => ?_)
  have z408 : kZ (iX2 (iX8 49 (iX0 (iX4 (iX3 21 (iX7 22 (iX3 20 (iX8 16 (iX7 11 (iX5 4 (iX6 mem))))))))))) 95 := kZ_X2 (kZ_le z392 (by decide)) (by decide)
  have t409 := kS_t t393 s405
  have e410 : gD Γ404 0 = a := (s405.2.2.1 0 (by rw [n390]; exact (by decide))).trans e394
  have e411 : gD Γ404 53 = a388 := (s405.2.2.1 53 (by rw [n390]; exact (by decide))).trans e391
  have f412 := s405.2.2.2 _ _ f395
  have f413 := s405.2.2.2 _ _ f396
  have f414 := s405.2.2.2 _ _ f397
  have f415 := s405.2.2.2 _ _ f398
  have f416 := s405.2.2.2 _ _ f399
  have f417 := s405.2.2.2 _ _ f400
  have f418 := s405.2.2.2 _ _ f401
  have f419 := s405.2.2.2 _ _ f402
  have f420 := s405.2.2.2 _ _ f403
  have Q421 : ∀ p k, isR p k = true → (p = 53 ∨ (54 ≤ p ∧ p < 95)) → gF Γ404 p k = true := fun p k h1 h2 => kf407 p k h1 (by rw [n390]; exact h2)
  refine kg_putR C (by rw [n406]; exact (by decide)) (by decide +kernel) e410 fl_X11_71 klk_X11_71 rfl kfin_11_9 (by rw [(by decide +kernel : sRf 0 9 = 53), n406]; decide) (by rw [(by decide +kernel : sRf 0 9 = 53)]; exact e411) dX11_init_146 (fun Γ425 s422 n423 f424 C => ?_)
  have n426 : gN Γ425 = 95 := n423.trans n406
  have t427 := kS_t t409 s422
  have e428 : gD Γ425 0 = a := (s422.2.2.1 0 (by rw [n406]; exact (by decide))).trans e410
  have e429 : gD Γ425 53 = a388 := (s422.2.2.1 53 (by rw [n406]; exact (by decide))).trans e411
  have f430 := s422.2.2.2 _ _ f412
  have f431 := s422.2.2.2 _ _ f413
  have f432 := s422.2.2.2 _ _ f414
  have f433 := s422.2.2.2 _ _ f415
  have f434 := s422.2.2.2 _ _ f416
  have f435 := s422.2.2.2 _ _ f417
  have f436 := s422.2.2.2 _ _ f418
  have f437 := s422.2.2.2 _ _ f419
  have f438 := s422.2.2.2 _ _ f420
  refine zg_j (zj_aload_n (j := 0) (i := 0) C.1 rfl 0 rfl dX11_init_149 (j_zg ?_))
  refine zg_j (zj_iconst C.1 2 dX11_init_150 (j_zg ?_))
  refine kg_newW C n426 (by decide +kernel) (L := 2) (by decide +kernel) (by decide) (by decide) (fun j => z408 _ j (Nat.le_refl _)) (by rw [hR]; exact ⟨by decide, by decide⟩) acl_X11_37 dX11_init_151 (fun Γ439 a440 s441 n442 e443 C => ?_)
  have z444 : kZ (iX2 (iX8 49 (iX0 (iX4 (iX3 21 (iX7 22 (iX3 20 (iX8 16 (iX7 11 (iX5 4 (iX6 mem))))))))))) 96 := kZ_le z408 (Nat.le_succ _)
  have t445 := kS_t t427 s441
  have e446 : gD Γ439 0 = a := (s441.2.2.1 0 (by rw [n426]; exact (by decide))).trans e428
  have f447 := s441.2.2.2 _ _ f430
  have f448 := s441.2.2.2 _ _ f431
  have f449 := s441.2.2.2 _ _ f432
  have f450 := s441.2.2.2 _ _ f433
  have f451 := s441.2.2.2 _ _ f434
  have f452 := s441.2.2.2 _ _ f435
  have f453 := s441.2.2.2 _ _ f436
  have f454 := s441.2.2.2 _ _ f437
  have f455 := s441.2.2.2 _ _ f438
  have f456 := s441.2.2.2 _ _ f424
  refine kg_putR C (by rw [n442]; exact (by decide)) (by decide +kernel) e446 fl_X11_75 klk_X11_75 rfl kfin_11_10 (by rw [(by decide +kernel : sRf 0 10 = 95), n442]; decide) (by rw [(by decide +kernel : sRf 0 10 = 95)]; exact e443) dX11_init_154 (fun Γ460 s457 n458 f459 C => ?_)
  have n461 : gN Γ460 = 96 := n458.trans n442
  have t462 := kS_t t445 s457
  have e463 : gD Γ460 0 = a := (s457.2.2.1 0 (by rw [n442]; exact (by decide))).trans e446
  have e464 : gD Γ460 95 = a440 := (s457.2.2.1 95 (by rw [n442]; exact (by decide))).trans e443
  have f465 := s457.2.2.2 _ _ f447
  have f466 := s457.2.2.2 _ _ f448
  have f467 := s457.2.2.2 _ _ f449
  have f468 := s457.2.2.2 _ _ f450
  have f469 := s457.2.2.2 _ _ f451
  have f470 := s457.2.2.2 _ _ f452
  have f471 := s457.2.2.2 _ _ f453
  have f472 := s457.2.2.2 _ _ f454
  have f473 := s457.2.2.2 _ _ f455
  have f474 := s457.2.2.2 _ _ f456
  refine zg_j (zj_aload_n (j := 0) (i := 0) C.1 rfl 0 rfl dX11_init_157 (j_zg ?_))
  refine zg_j (zj_iconst C.1 2 dX11_init_158 (j_zg ?_))
  refine kg_newZ C n461 (by decide +kernel) (L := 2) (by decide +kernel) (by decide) (by decide) (fun j => z444 _ j (Nat.le_refl _)) (by rw [hR]; exact ⟨by decide, by decide⟩) arc_boolean dX11_init_159 (fun Γ475 a476 s477 n478 e479 C => ?_)
  have z480 : kZ (iX2 (iX8 49 (iX0 (iX4 (iX3 21 (iX7 22 (iX3 20 (iX8 16 (iX7 11 (iX5 4 (iX6 mem))))))))))) 97 := kZ_le z444 (Nat.le_succ _)
  have t481 := kS_t t462 s477
  have e482 : gD Γ475 0 = a := (s477.2.2.1 0 (by rw [n461]; exact (by decide))).trans e463
  have f483 := s477.2.2.2 _ _ f465
  have f484 := s477.2.2.2 _ _ f466
  have f485 := s477.2.2.2 _ _ f467
  have f486 := s477.2.2.2 _ _ f468
  have f487 := s477.2.2.2 _ _ f469
  have f488 := s477.2.2.2 _ _ f470
  have f489 := s477.2.2.2 _ _ f471
  have f490 := s477.2.2.2 _ _ f472
  have f491 := s477.2.2.2 _ _ f473
  have f492 := s477.2.2.2 _ _ f474
  have f493 := s477.2.2.2 _ _ f459
  refine kg_putR C (by rw [n478]; exact (by decide)) (by decide +kernel) e482 fl_X11_79 klk_X11_79 rfl kfin_11_11 (by rw [(by decide +kernel : sRf 0 11 = 96), n478]; decide) (by rw [(by decide +kernel : sRf 0 11 = 96)]; exact e479) dX11_init_161 (fun Γ497 s494 n495 f496 C => ?_)
  have n498 : gN Γ497 = 97 := n495.trans n478
  have t499 := kS_t t481 s494
  have e500 : gD Γ497 0 = a := (s494.2.2.1 0 (by rw [n478]; exact (by decide))).trans e482
  have e501 : gD Γ497 96 = a476 := (s494.2.2.1 96 (by rw [n478]; exact (by decide))).trans e479
  have f502 := s494.2.2.2 _ _ f483
  have f503 := s494.2.2.2 _ _ f484
  have f504 := s494.2.2.2 _ _ f485
  have f505 := s494.2.2.2 _ _ f486
  have f506 := s494.2.2.2 _ _ f487
  have f507 := s494.2.2.2 _ _ f488
  have f508 := s494.2.2.2 _ _ f489
  have f509 := s494.2.2.2 _ _ f490
  have f510 := s494.2.2.2 _ _ f491
  have f511 := s494.2.2.2 _ _ f492
  have f512 := s494.2.2.2 _ _ f493
  refine zg_j (zj_aload_n (j := 0) (i := 0) C.1 rfl 0 rfl dX11_init_164 (j_zg ?_))
  refine kg_new C n498 (by decide +kernel) (L := 4) rfl kcl_X11_83 (fun j => z480 _ j (Nat.le_refl _)) (by rw [hR]; exact ⟨by decide, by decide⟩) dX11_init_165 (fun Γ513 a514 s515 n516 e517 C => ?_)
  have z518 : kZ (iX2 (iX8 49 (iX0 (iX4 (iX3 21 (iX7 22 (iX3 20 (iX8 16 (iX7 11 (iX5 4 (iX6 mem))))))))))) 98 := kZ_le z480 (Nat.le_succ _)
  have t519 := kS_t t499 s515
  have e520 : gD Γ513 0 = a := (s515.2.2.1 0 (by rw [n498]; exact (by decide))).trans e500
  have f521 := s515.2.2.2 _ _ f502
  have f522 := s515.2.2.2 _ _ f503
  have f523 := s515.2.2.2 _ _ f504
  have f524 := s515.2.2.2 _ _ f505
  have f525 := s515.2.2.2 _ _ f506
  have f526 := s515.2.2.2 _ _ f507
  have f527 := s515.2.2.2 _ _ f508
  have f528 := s515.2.2.2 _ _ f509
  have f529 := s515.2.2.2 _ _ f510
  have f530 := s515.2.2.2 _ _ f511
  have f531 := s515.2.2.2 _ _ f512
  have f532 := s515.2.2.2 _ _ f496
  refine zg_j (zj_dup C.1 rfl dX11_init_168 (j_zg ?_))
  refine zg_j (zj_aload_n (j := 0) (i := 0) C.1 rfl 0 rfl dX11_init_169 (j_zg ?_))
  obtain ⟨b533, hb534⟩ : ∃ b, gD Γ513 20 = b := ⟨_, rfl⟩
  refine kg_getR (q := 0) (b := b533) C (by rw [n516]; exact (by decide)) (by decide +kernel) e520 fl_X11_42 rfl f525 (by rw [(by decide +kernel : sRf 0 4 = 20)]; exact hb534) dX11_init_170 ?_
  refine kg_callI C (As := [.ref b533]) (rest := [.ref a514, .ref a]) hl0 cal_X10_init rfl ins_X10_init ml_X11_85 rfl (by rw [hR]; exact ⟨by decide, by decide, by decide, by decide⟩) (Nat.le_of_ble_eq_true rfl) dX11_init_173 (K_X10 l  n516 e517 hb534 z518) rfl (fun Γ535 s536 n537 kf538 C => ?_)
  have z539 : kZ (iX10 (iX2 (iX8 49 (iX0 (iX4 (iX3 21 (iX7 22 (iX3 20 (iX8 16 (iX7 11 (iX5 4 (iX6 mem)))))))))))) 101 := kZ_X10 (kZ_le z518 (by decide)) (by decide)
  have t540 := kS_t t519 s536
  have e541 : gD Γ535 0 = a := (s536.2.2.1 0 (by rw [n516]; exact (by decide))).trans e520
  have e542 : gD Γ535 97 = a514 := (s536.2.2.1 97 (by rw [n516]; exact (by decide))).trans e517
  have e543 : gD Γ535 20 = b533 := (s536.2.2.1 20 (by rw [n516]; exact (by decide))).trans hb534
  have f544 := s536.2.2.2 _ _ f521
  have f545 := s536.2.2.2 _ _ f522
  have f546 := s536.2.2.2 _ _ f523
  have f547 := s536.2.2.2 _ _ f524
  have f548 := s536.2.2.2 _ _ f525
  have f549 := s536.2.2.2 _ _ f526
  have f550 := s536.2.2.2 _ _ f527
  have f551 := s536.2.2.2 _ _ f528
  have f552 := s536.2.2.2 _ _ f529
  have f553 := s536.2.2.2 _ _ f530
  have f554 := s536.2.2.2 _ _ f531
  have f555 := s536.2.2.2 _ _ f532
  have Q556 : ∀ p k, isR p k = true → (p = 97 ∨ (98 ≤ p ∧ p < 101)) → gF Γ535 p k = true := fun p k h1 h2 => kf538 p k h1 (by rw [n516]; exact h2)
  refine kg_putR C (by rw [n537]; exact (by decide)) (by decide +kernel) e541 fl_X11_88 klk_X11_88 rfl kfin_11_12 (by rw [(by decide +kernel : sRf 0 12 = 97), n537]; decide) (by rw [(by decide +kernel : sRf 0 12 = 97)]; exact e542) dX11_init_176 (fun Γ560 s557 n558 f559 C => ?_)
  have n561 : gN Γ560 = 101 := n558.trans n537
  have t562 := kS_t t540 s557
  have e563 : gD Γ560 0 = a := (s557.2.2.1 0 (by rw [n537]; exact (by decide))).trans e541
  have e564 : gD Γ560 97 = a514 := (s557.2.2.1 97 (by rw [n537]; exact (by decide))).trans e542
  have f565 := s557.2.2.2 _ _ f544
  have f566 := s557.2.2.2 _ _ f545
  have f567 := s557.2.2.2 _ _ f546
  have f568 := s557.2.2.2 _ _ f547
  have f569 := s557.2.2.2 _ _ f548
  have f570 := s557.2.2.2 _ _ f549
  have f571 := s557.2.2.2 _ _ f550
  have f572 := s557.2.2.2 _ _ f551
  have f573 := s557.2.2.2 _ _ f552
  have f574 := s557.2.2.2 _ _ f553
  have f575 := s557.2.2.2 _ _ f554
  have f576 := s557.2.2.2 _ _ f555
  refine zg_j (zj_aload_n (j := 0) (i := 0) C.1 rfl 0 rfl dX11_init_179 (j_zg ?_))
  refine kg_new C n561 (by decide +kernel) (L := 1) rfl kcl_X11_92 (fun j => z539 _ j (Nat.le_refl _)) (by rw [hR]; exact ⟨by decide, by decide⟩) dX11_init_180 (fun Γ577 a578 s579 n580 e581 C => ?_)
  have z582 : kZ (iX10 (iX2 (iX8 49 (iX0 (iX4 (iX3 21 (iX7 22 (iX3 20 (iX8 16 (iX7 11 (iX5 4 (iX6 mem)))))))))))) 102 := kZ_le z539 (Nat.le_succ _)
  have t583 := kS_t t562 s579
  have e584 : gD Γ577 0 = a := (s579.2.2.1 0 (by rw [n561]; exact (by decide))).trans e563
  have f585 := s579.2.2.2 _ _ f565
  have f586 := s579.2.2.2 _ _ f566
  have f587 := s579.2.2.2 _ _ f567
  have f588 := s579.2.2.2 _ _ f568
  have f589 := s579.2.2.2 _ _ f569
  have f590 := s579.2.2.2 _ _ f570
  have f591 := s579.2.2.2 _ _ f571
  have f592 := s579.2.2.2 _ _ f572
  have f593 := s579.2.2.2 _ _ f573
  have f594 := s579.2.2.2 _ _ f574
  have f595 := s579.2.2.2 _ _ f575
  have f596 := s579.2.2.2 _ _ f576
  have f597 := s579.2.2.2 _ _ f559
  refine zg_j (zj_dup C.1 rfl dX11_init_183 (j_zg ?_))
  refine kg_callI C (As := []) (rest := [.ref a578, .ref a]) hl0 cal_X1_init rfl ins_X1_init ml_X11_94 rfl (by rw [hR]; exact ⟨by decide, by decide, by decide, by decide⟩) (Nat.le_of_ble_eq_true rfl) dX11_init_184 (K_X1 l  n580 e581  z582) rfl (fun Γ598 s599 n600 kf601 C => ?_)
  have z602 : kZ (iX1 (iX10 (iX2 (iX8 49 (iX0 (iX4 (iX3 21 (iX7 22 (iX3 20 (iX8 16 (iX7 11 (iX5 4 (iX6 mem))))))))))))) 102 := kZ_X1 (kZ_le z582 (by decide)) (by decide)
  have t603 := kS_t t583 s599
  have e604 : gD Γ598 0 = a := (s599.2.2.1 0 (by rw [n580]; exact (by decide))).trans e584
  have e605 : gD Γ598 101 = a578 := (s599.2.2.1 101 (by rw [n580]; exact (by decide))).trans e581
  have f606 := s599.2.2.2 _ _ f585
  have f607 := s599.2.2.2 _ _ f586
  have f608 := s599.2.2.2 _ _ f587
  have f609 := s599.2.2.2 _ _ f588
  have f610 := s599.2.2.2 _ _ f589
  have f611 := s599.2.2.2 _ _ f590
  have f612 := s599.2.2.2 _ _ f591
  have f613 := s599.2.2.2 _ _ f592
  have f614 := s599.2.2.2 _ _ f593
  have f615 := s599.2.2.2 _ _ f594
  have f616 := s599.2.2.2 _ _ f595
  have f617 := s599.2.2.2 _ _ f596
  have f618 := s599.2.2.2 _ _ f597
  have Q619 : ∀ p k, isR p k = true → (p = 101 ∨ (102 ≤ p ∧ p < 102)) → gF Γ598 p k = true := fun p k h1 h2 => kf601 p k h1 (by rw [n580]; exact h2)
  refine kg_putR C (by rw [n600]; exact (by decide)) (by decide +kernel) e604 fl_X11_95 klk_X11_95 rfl kfin_11_13 (by rw [(by decide +kernel : sRf 0 13 = 101), n600]; decide) (by rw [(by decide +kernel : sRf 0 13 = 101)]; exact e605) dX11_init_187 (fun Γ623 s620 n621 f622 C => ?_)
  have n624 : gN Γ623 = 102 := n621.trans n600
  have t625 := kS_t t603 s620
  have e626 : gD Γ623 0 = a := (s620.2.2.1 0 (by rw [n600]; exact (by decide))).trans e604
  have e627 : gD Γ623 101 = a578 := (s620.2.2.1 101 (by rw [n600]; exact (by decide))).trans e605
  have f628 := s620.2.2.2 _ _ f606
  have f629 := s620.2.2.2 _ _ f607
  have f630 := s620.2.2.2 _ _ f608
  have f631 := s620.2.2.2 _ _ f609
  have f632 := s620.2.2.2 _ _ f610
  have f633 := s620.2.2.2 _ _ f611
  have f634 := s620.2.2.2 _ _ f612
  have f635 := s620.2.2.2 _ _ f613
  have f636 := s620.2.2.2 _ _ f614
  have f637 := s620.2.2.2 _ _ f615
  have f638 := s620.2.2.2 _ _ f616
  have f639 := s620.2.2.2 _ _ f617
  have f640 := s620.2.2.2 _ _ f618
  refine zg_j (zj_aload_n (j := 0) (i := 0) C.1 rfl 0 rfl dX11_init_190 (j_zg ?_))
  refine kg_new C n624 (by decide +kernel) (L := 2) rfl kcl_X11_99 (fun j => z602 _ j (Nat.le_refl _)) (by rw [hR]; exact ⟨by decide, by decide⟩) dX11_init_191 (fun Γ641 a642 s643 n644 e645 C => ?_)
  have z646 : kZ (iX1 (iX10 (iX2 (iX8 49 (iX0 (iX4 (iX3 21 (iX7 22 (iX3 20 (iX8 16 (iX7 11 (iX5 4 (iX6 mem))))))))))))) 103 := kZ_le z602 (Nat.le_succ _)
  have t647 := kS_t t625 s643
  have e648 : gD Γ641 0 = a := (s643.2.2.1 0 (by rw [n624]; exact (by decide))).trans e626
  have f649 := s643.2.2.2 _ _ f628
  have f650 := s643.2.2.2 _ _ f629
  have f651 := s643.2.2.2 _ _ f630
  have f652 := s643.2.2.2 _ _ f631
  have f653 := s643.2.2.2 _ _ f632
  have f654 := s643.2.2.2 _ _ f633
  have f655 := s643.2.2.2 _ _ f634
  have f656 := s643.2.2.2 _ _ f635
  have f657 := s643.2.2.2 _ _ f636
  have f658 := s643.2.2.2 _ _ f637
  have f659 := s643.2.2.2 _ _ f638
  have f660 := s643.2.2.2 _ _ f639
  have f661 := s643.2.2.2 _ _ f640
  have f662 := s643.2.2.2 _ _ f622
  refine zg_j (zj_dup C.1 rfl dX11_init_194 (j_zg ?_))
  refine kg_callI C (As := []) (rest := [.ref a642, .ref a]) hl0 cal_X9_init rfl ins_X9_init ml_X11_101 rfl (by rw [hR]; exact ⟨by decide, by decide, by decide, by decide⟩) (Nat.le_of_ble_eq_true rfl) dX11_init_195 (K_X9 l  n644 e645  z646) rfl (fun Γ663 s664 n665 kf666 C => ?_)
  have z667 : kZ (iX9 (iX1 (iX10 (iX2 (iX8 49 (iX0 (iX4 (iX3 21 (iX7 22 (iX3 20 (iX8 16 (iX7 11 (iX5 4 (iX6 mem)))))))))))))) 104 := kZ_X9 (kZ_le z646 (by decide)) (by decide)
  have t668 := kS_t t647 s664
  have e669 : gD Γ663 0 = a := (s664.2.2.1 0 (by rw [n644]; exact (by decide))).trans e648
  have e670 : gD Γ663 102 = a642 := (s664.2.2.1 102 (by rw [n644]; exact (by decide))).trans e645
  have f671 := s664.2.2.2 _ _ f649
  have f672 := s664.2.2.2 _ _ f650
  have f673 := s664.2.2.2 _ _ f651
  have f674 := s664.2.2.2 _ _ f652
  have f675 := s664.2.2.2 _ _ f653
  have f676 := s664.2.2.2 _ _ f654
  have f677 := s664.2.2.2 _ _ f655
  have f678 := s664.2.2.2 _ _ f656
  have f679 := s664.2.2.2 _ _ f657
  have f680 := s664.2.2.2 _ _ f658
  have f681 := s664.2.2.2 _ _ f659
  have f682 := s664.2.2.2 _ _ f660
  have f683 := s664.2.2.2 _ _ f661
  have f684 := s664.2.2.2 _ _ f662
  have Q685 : ∀ p k, isR p k = true → (p = 102 ∨ (103 ≤ p ∧ p < 104)) → gF Γ663 p k = true := fun p k h1 h2 => kf666 p k h1 (by rw [n644]; exact h2)
  refine kg_putR C (by rw [n665]; exact (by decide)) (by decide +kernel) e669 fl_X11_102 klk_X11_102 rfl kfin_11_14 (by rw [(by decide +kernel : sRf 0 14 = 102), n665]; decide) (by rw [(by decide +kernel : sRf 0 14 = 102)]; exact e670) dX11_init_198 (fun Γ689 s686 n687 f688 C => ?_)
  have n690 : gN Γ689 = 104 := n687.trans n665
  have t691 := kS_t t668 s686
  have e692 : gD Γ689 0 = a := (s686.2.2.1 0 (by rw [n665]; exact (by decide))).trans e669
  have e693 : gD Γ689 102 = a642 := (s686.2.2.1 102 (by rw [n665]; exact (by decide))).trans e670
  have f694 := s686.2.2.2 _ _ f671
  have f695 := s686.2.2.2 _ _ f672
  have f696 := s686.2.2.2 _ _ f673
  have f697 := s686.2.2.2 _ _ f674
  have f698 := s686.2.2.2 _ _ f675
  have f699 := s686.2.2.2 _ _ f676
  have f700 := s686.2.2.2 _ _ f677
  have f701 := s686.2.2.2 _ _ f678
  have f702 := s686.2.2.2 _ _ f679
  have f703 := s686.2.2.2 _ _ f680
  have f704 := s686.2.2.2 _ _ f681
  have f705 := s686.2.2.2 _ _ f682
  have f706 := s686.2.2.2 _ _ f683
  have f707 := s686.2.2.2 _ _ f684
  refine zg_j (zj_aload_n (j := 0) (i := 0) C.1 rfl 0 rfl dX11_init_201 (j_zg ?_))
  refine zg_j (zj_iconst C.1 0 dX11_init_202 (j_zg ?_))
  refine kg_putI (k := 15) C 15 rfl (by rw [n690]; exact (by decide)) (by decide +kernel) e692 fl_X11_106 rfl fp_11_15 (by decide) dX11_init_203 ?_
  have z708 : kZ (zup (iX9 (iX1 (iX10 (iX2 (iX8 49 (iX0 (iX4 (iX3 21 (iX7 22 (iX3 20 (iX8 16 (iX7 11 (iX5 4 (iX6 mem)))))))))))))) 0 15 0) 104 := kZ_up z667 (by decide)
  refine zg_j (zj_aload_n (j := 0) (i := 0) C.1 rfl 0 rfl dX11_init_206 (j_zg ?_))
  refine zg_j (zj_iconst C.1 (-1) dX11_init_207 (j_zg ?_))
  refine kg_putI (k := 16) C 16 rfl (by rw [n690]; exact (by decide)) (by decide +kernel) e692 fl_X11_110 rfl fp_11_16 (by decide) dX11_init_208 ?_
  have z709 : kZ (zup (zup (iX9 (iX1 (iX10 (iX2 (iX8 49 (iX0 (iX4 (iX3 21 (iX7 22 (iX3 20 (iX8 16 (iX7 11 (iX5 4 (iX6 mem)))))))))))))) 0 15 0) 0 16 (-1)) 104 := kZ_up z708 (by decide)
  refine zg_j (zj_aload_n (j := 0) (i := 0) C.1 rfl 0 rfl dX11_init_211 (j_zg ?_))
  refine zg_j (zj_iconst C.1 (-1) dX11_init_212 (j_zg ?_))
  refine kg_putI (k := 17) C 17 rfl (by rw [n690]; exact (by decide)) (by decide +kernel) e692 fl_X11_113 rfl fp_11_17 (by decide) dX11_init_213 ?_
  have z710 : kZ (zup (zup (zup (iX9 (iX1 (iX10 (iX2 (iX8 49 (iX0 (iX4 (iX3 21 (iX7 22 (iX3 20 (iX8 16 (iX7 11 (iX5 4 (iX6 mem)))))))))))))) 0 15 0) 0 16 (-1)) 0 17 (-1)) 104 := kZ_up z709 (by decide)
  refine zg_j (zj_aload_n (j := 0) (i := 0) C.1 rfl 0 rfl dX11_init_216 (j_zg ?_))
  refine zg_j (zj_iconst C.1 (-1) dX11_init_217 (j_zg ?_))
  refine kg_putI (k := 18) C 18 rfl (by rw [n690]; exact (by decide)) (by decide +kernel) e692 fl_X11_116 rfl fp_11_18 (by decide) dX11_init_218 ?_
  have z711 : kZ (zup (zup (zup (zup (iX9 (iX1 (iX10 (iX2 (iX8 49 (iX0 (iX4 (iX3 21 (iX7 22 (iX3 20 (iX8 16 (iX7 11 (iX5 4 (iX6 mem)))))))))))))) 0 15 0) 0 16 (-1)) 0 17 (-1)) 0 18 (-1)) 104 := kZ_up z710 (by decide)
  refine zg_j (zj_aload_n (j := 0) (i := 0) C.1 rfl 0 rfl dX11_init_221 (j_zg ?_))
  refine zg_j (zj_iconst C.1 (-1) dX11_init_222 (j_zg ?_))
  refine kg_putI (k := 19) C 19 rfl (by rw [n690]; exact (by decide)) (by decide +kernel) e692 fl_X11_119 rfl fp_11_19 (by decide) dX11_init_223 ?_
  have z712 : kZ (zup (zup (zup (zup (zup (iX9 (iX1 (iX10 (iX2 (iX8 49 (iX0 (iX4 (iX3 21 (iX7 22 (iX3 20 (iX8 16 (iX7 11 (iX5 4 (iX6 mem)))))))))))))) 0 15 0) 0 16 (-1)) 0 17 (-1)) 0 18 (-1)) 0 19 (-1)) 104 := kZ_up z711 (by decide)
  refine zg_j (zj_iconst C.1 0 dX11_init_226 (j_zg ?_))
  refine zg_j (zj_istore_n (i := 1) (j := 1) C.1 rfl [(1, .int (i32 0)), (0, .ref a)] dX11_init_227 (by decide) rfl (j_zg ?_))
  refine zg_j (zj_iload_n (j := 1) (i := 1) C.1 rfl 0 rfl dX11_init_228 (j_zg ?_))
  refine zg_j (zj_aload_n (j := 0) (i := 0) C.1 rfl 1 rfl dX11_init_229 (j_zg ?_))
  obtain ⟨b713, hb714⟩ : ∃ b, gD Γ689 95 = b := ⟨_, rfl⟩
  refine kg_getR (q := 0) (b := b713) C (by rw [n690]; exact (by decide)) (by decide +kernel) e692 fl_X11_75 rfl f704 (by rw [(by decide +kernel : sRf 0 10 = 95)]; exact hb714) dX11_init_230 ?_
  refine kg_alen (q := 95) (k := 16) (n := 2) C (by rw [n690]; exact (by decide)) (by decide +kernel) (by decide) hb714 (by decide +kernel) dX11_init_233 ?_
  refine zg_j (zj_cneg (c := (0 : Int) ≥ 2) (A := none) (by decide) (zj_icmp_ge C.1 277 (by decide) (by decide) dX11_init_234 rfl (fun h => absurd h (by decide)) (fun _ => j_zg ?_)))
  refine zg_j (zj_aload_n (j := 0) (i := 0) C.1 rfl 1 rfl dX11_init_237 (j_zg ?_))
  obtain ⟨b715, hb716⟩ : ∃ b, gD Γ689 95 = b := ⟨_, rfl⟩
  refine kg_getR (q := 0) (b := b715) C (by rw [n690]; exact (by decide)) (by decide +kernel) e692 fl_X11_75 rfl f704 (by rw [(by decide +kernel : sRf 0 10 = 95)]; exact hb716) dX11_init_238 ?_
  refine zg_j (zj_iload_n (j := 1) (i := 1) C.1 rfl 0 rfl dX11_init_241 (j_zg ?_))
  refine kg_new C n690 (by decide +kernel) (L := 3) rfl kcl_X11_37 (fun j => z712 _ j (Nat.le_refl _)) (by rw [hR]; exact ⟨by decide, by decide⟩) dX11_init_242 (fun Γ717 a718 s719 n720 e721 C => ?_)
  have z722 : kZ (zup (zup (zup (zup (zup (iX9 (iX1 (iX10 (iX2 (iX8 49 (iX0 (iX4 (iX3 21 (iX7 22 (iX3 20 (iX8 16 (iX7 11 (iX5 4 (iX6 mem)))))))))))))) 0 15 0) 0 16 (-1)) 0 17 (-1)) 0 18 (-1)) 0 19 (-1)) 105 := kZ_le z712 (Nat.le_succ _)
  have t723 := kS_t t691 s719
  have e724 : gD Γ717 0 = a := (s719.2.2.1 0 (by rw [n690]; exact (by decide))).trans e692
  have e725 : gD Γ717 95 = b715 := (s719.2.2.1 95 (by rw [n690]; exact (by decide))).trans hb716
  have f726 := s719.2.2.2 _ _ f694
  have f727 := s719.2.2.2 _ _ f695
  have f728 := s719.2.2.2 _ _ f696
  have f729 := s719.2.2.2 _ _ f697
  have f730 := s719.2.2.2 _ _ f698
  have f731 := s719.2.2.2 _ _ f699
  have f732 := s719.2.2.2 _ _ f700
  have f733 := s719.2.2.2 _ _ f701
  have f734 := s719.2.2.2 _ _ f702
  have f735 := s719.2.2.2 _ _ f703
  have f736 := s719.2.2.2 _ _ f704
  have f737 := s719.2.2.2 _ _ f705
  have f738 := s719.2.2.2 _ _ f706
  have f739 := s719.2.2.2 _ _ f707
  have f740 := s719.2.2.2 _ _ f688
  refine zg_j (zj_dup C.1 rfl dX11_init_245 (j_zg ?_))
  refine kg_new C n720 (by decide +kernel) (L := 11) rfl kcl_X11_16 (fun j => z722 _ j (Nat.le_refl _)) (by rw [hR]; exact ⟨by decide, by decide⟩) dX11_init_246 (fun Γ741 a742 s743 n744 e745 C => ?_)
  have z746 : kZ (zup (zup (zup (zup (zup (iX9 (iX1 (iX10 (iX2 (iX8 49 (iX0 (iX4 (iX3 21 (iX7 22 (iX3 20 (iX8 16 (iX7 11 (iX5 4 (iX6 mem)))))))))))))) 0 15 0) 0 16 (-1)) 0 17 (-1)) 0 18 (-1)) 0 19 (-1)) 106 := kZ_le z722 (Nat.le_succ _)
  have t747 := kS_t t723 s743
  have e748 : gD Γ741 0 = a := (s743.2.2.1 0 (by rw [n720]; exact (by decide))).trans e724
  have e749 : gD Γ741 95 = b715 := (s743.2.2.1 95 (by rw [n720]; exact (by decide))).trans e725
  have e750 : gD Γ741 104 = a718 := (s743.2.2.1 104 (by rw [n720]; exact (by decide))).trans e721
  have f751 := s743.2.2.2 _ _ f726
  have f752 := s743.2.2.2 _ _ f727
  have f753 := s743.2.2.2 _ _ f728
  have f754 := s743.2.2.2 _ _ f729
  have f755 := s743.2.2.2 _ _ f730
  have f756 := s743.2.2.2 _ _ f731
  have f757 := s743.2.2.2 _ _ f732
  have f758 := s743.2.2.2 _ _ f733
  have f759 := s743.2.2.2 _ _ f734
  have f760 := s743.2.2.2 _ _ f735
  have f761 := s743.2.2.2 _ _ f736
  have f762 := s743.2.2.2 _ _ f737
  have f763 := s743.2.2.2 _ _ f738
  have f764 := s743.2.2.2 _ _ f739
  have f765 := s743.2.2.2 _ _ f740
  refine zg_j (zj_dup C.1 rfl dX11_init_249 (j_zg ?_))
  refine kg_callI C (As := []) (rest := [.ref a742, .ref a718, .ref a718, .int (i32 0), .ref b715]) hl0 cal_X5_init rfl ins_X5_init ml_X11_18 rfl (by rw [hR]; exact ⟨by decide, by decide, by decide, by decide⟩) (Nat.le_of_ble_eq_true rfl) dX11_init_250 (K_X5 l (q := 105) (N := 106) (by decide +kernel) (by decide +kernel) (by decide +kernel) (by decide +kernel) (by decide +kernel) (by decide +kernel) (by decide +kernel) (by decide +kernel) (by decide +kernel) (by decide +kernel) (by decide +kernel) (by decide +kernel) (by decide +kernel) (by decide +kernel) (by decide +kernel) (by decide +kernel) (by decide +kernel) (by decide +kernel) (by decide +kernel) (by decide +kernel) n744 e745  z746) rfl (fun Γ766 s767 n768 kf769 C => ?_)
  have z770 : kZ (iX5 105 (zup (zup (zup (zup (zup (iX9 (iX1 (iX10 (iX2 (iX8 49 (iX0 (iX4 (iX3 21 (iX7 22 (iX3 20 (iX8 16 (iX7 11 (iX5 4 (iX6 mem)))))))))))))) 0 15 0) 0 16 (-1)) 0 17 (-1)) 0 18 (-1)) 0 19 (-1))) 112 := kZ_X5 (kZ_le z746 (by decide)) (by decide)
  have t771 := kS_t t747 s767
  have e772 : gD Γ766 0 = a := (s767.2.2.1 0 (by rw [n744]; exact (by decide))).trans e748
  have e773 : gD Γ766 95 = b715 := (s767.2.2.1 95 (by rw [n744]; exact (by decide))).trans e749
  have e774 : gD Γ766 104 = a718 := (s767.2.2.1 104 (by rw [n744]; exact (by decide))).trans e750
  have e775 : gD Γ766 105 = a742 := (s767.2.2.1 105 (by rw [n744]; exact (by decide))).trans e745
  have f776 := s767.2.2.2 _ _ f751
  have f777 := s767.2.2.2 _ _ f752
  have f778 := s767.2.2.2 _ _ f753
  have f779 := s767.2.2.2 _ _ f754
  have f780 := s767.2.2.2 _ _ f755
  have f781 := s767.2.2.2 _ _ f756
  have f782 := s767.2.2.2 _ _ f757
  have f783 := s767.2.2.2 _ _ f758
  have f784 := s767.2.2.2 _ _ f759
  have f785 := s767.2.2.2 _ _ f760
  have f786 := s767.2.2.2 _ _ f761
  have f787 := s767.2.2.2 _ _ f762
  have f788 := s767.2.2.2 _ _ f763
  have f789 := s767.2.2.2 _ _ f764
  have f790 := s767.2.2.2 _ _ f765
  have Q791 : ∀ p k, isR p k = true → (p = 105 ∨ (106 ≤ p ∧ p < 112)) → gF Γ766 p k = true := fun p k h1 h2 => kf769 p k h1 (by rw [n744]; exact h2)
  refine kg_new C n768 (by decide +kernel) (L := 9) rfl kcl_X11_23 (fun j => z770 _ j (Nat.le_refl _)) (by rw [hR]; exact ⟨by decide, by decide⟩) dX11_init_253 (fun Γ792 a793 s794 n795 e796 C => ?_)
  have z797 : kZ (iX5 105 (zup (zup (zup (zup (zup (iX9 (iX1 (iX10 (iX2 (iX8 49 (iX0 (iX4 (iX3 21 (iX7 22 (iX3 20 (iX8 16 (iX7 11 (iX5 4 (iX6 mem)))))))))))))) 0 15 0) 0 16 (-1)) 0 17 (-1)) 0 18 (-1)) 0 19 (-1))) 113 := kZ_le z770 (Nat.le_succ _)
  have t798 := kS_t t771 s794
  have e799 : gD Γ792 0 = a := (s794.2.2.1 0 (by rw [n768]; exact (by decide))).trans e772
  have e800 : gD Γ792 95 = b715 := (s794.2.2.1 95 (by rw [n768]; exact (by decide))).trans e773
  have e801 : gD Γ792 104 = a718 := (s794.2.2.1 104 (by rw [n768]; exact (by decide))).trans e774
  have e802 : gD Γ792 105 = a742 := (s794.2.2.1 105 (by rw [n768]; exact (by decide))).trans e775
  have f803 := s794.2.2.2 _ _ f776
  have f804 := s794.2.2.2 _ _ f777
  have f805 := s794.2.2.2 _ _ f778
  have f806 := s794.2.2.2 _ _ f779
  have f807 := s794.2.2.2 _ _ f780
  have f808 := s794.2.2.2 _ _ f781
  have f809 := s794.2.2.2 _ _ f782
  have f810 := s794.2.2.2 _ _ f783
  have f811 := s794.2.2.2 _ _ f784
  have f812 := s794.2.2.2 _ _ f785
  have f813 := s794.2.2.2 _ _ f786
  have f814 := s794.2.2.2 _ _ f787
  have f815 := s794.2.2.2 _ _ f788
  have f816 := s794.2.2.2 _ _ f789
  have f817 := s794.2.2.2 _ _ f790
  refine zg_j (zj_dup C.1 rfl dX11_init_256 (j_zg ?_))
  refine kg_callI C (As := []) (rest := [.ref a793, .ref a742, .ref a718, .ref a718, .int (i32 0), .ref b715]) hl0 cal_X7_init rfl ins_X7_init ml_X11_25 rfl (by rw [hR]; exact ⟨by decide, by decide, by decide, by decide⟩) (Nat.le_of_ble_eq_true rfl) dX11_init_257 (K_X7 l (q := 112) (N := 113) (by decide +kernel) (by decide +kernel) (by decide +kernel) (by decide +kernel) (by decide +kernel) (by decide +kernel) (by decide +kernel) (by decide +kernel) (by decide +kernel) (by decide +kernel) (by decide +kernel) (by decide +kernel) (by decide +kernel) (by decide +kernel) n795 e796  z797) rfl (fun Γ818 s819 n820 kf821 C => ?_)
  have z822 : kZ (iX7 112 (iX5 105 (zup (zup (zup (zup (zup (iX9 (iX1 (iX10 (iX2 (iX8 49 (iX0 (iX4 (iX3 21 (iX7 22 (iX3 20 (iX8 16 (iX7 11 (iX5 4 (iX6 mem)))))))))))))) 0 15 0) 0 16 (-1)) 0 17 (-1)) 0 18 (-1)) 0 19 (-1)))) 117 := kZ_X7 (kZ_le z797 (by decide)) (by decide)
  have t823 := kS_t t798 s819
  have e824 : gD Γ818 0 = a := (s819.2.2.1 0 (by rw [n795]; exact (by decide))).trans e799
  have e825 : gD Γ818 95 = b715 := (s819.2.2.1 95 (by rw [n795]; exact (by decide))).trans e800
  have e826 : gD Γ818 104 = a718 := (s819.2.2.1 104 (by rw [n795]; exact (by decide))).trans e801
  have e827 : gD Γ818 105 = a742 := (s819.2.2.1 105 (by rw [n795]; exact (by decide))).trans e802
  have e828 : gD Γ818 112 = a793 := (s819.2.2.1 112 (by rw [n795]; exact (by decide))).trans e796
  have f829 := s819.2.2.2 _ _ f803
  have f830 := s819.2.2.2 _ _ f804
  have f831 := s819.2.2.2 _ _ f805
  have f832 := s819.2.2.2 _ _ f806
  have f833 := s819.2.2.2 _ _ f807
  have f834 := s819.2.2.2 _ _ f808
  have f835 := s819.2.2.2 _ _ f809
  have f836 := s819.2.2.2 _ _ f810
  have f837 := s819.2.2.2 _ _ f811
  have f838 := s819.2.2.2 _ _ f812
  have f839 := s819.2.2.2 _ _ f813
  have f840 := s819.2.2.2 _ _ f814
  have f841 := s819.2.2.2 _ _ f815
  have f842 := s819.2.2.2 _ _ f816
  have f843 := s819.2.2.2 _ _ f817
  have Q844 : ∀ p k, isR p k = true → (p = 112 ∨ (113 ≤ p ∧ p < 117)) → gF Γ818 p k = true := fun p k h1 h2 => kf821 p k h1 (by rw [n795]; exact h2)
  refine kg_new C n820 (by decide +kernel) (L := 5) rfl kcl_X11_30 (fun j => z822 _ j (Nat.le_refl _)) (by rw [hR]; exact ⟨by decide, by decide⟩) dX11_init_260 (fun Γ845 a846 s847 n848 e849 C => ?_)
  have z850 : kZ (iX7 112 (iX5 105 (zup (zup (zup (zup (zup (iX9 (iX1 (iX10 (iX2 (iX8 49 (iX0 (iX4 (iX3 21 (iX7 22 (iX3 20 (iX8 16 (iX7 11 (iX5 4 (iX6 mem)))))))))))))) 0 15 0) 0 16 (-1)) 0 17 (-1)) 0 18 (-1)) 0 19 (-1)))) 118 := kZ_le z822 (Nat.le_succ _)
  have t851 := kS_t t823 s847
  have e852 : gD Γ845 0 = a := (s847.2.2.1 0 (by rw [n820]; exact (by decide))).trans e824
  have e853 : gD Γ845 95 = b715 := (s847.2.2.1 95 (by rw [n820]; exact (by decide))).trans e825
  have e854 : gD Γ845 104 = a718 := (s847.2.2.1 104 (by rw [n820]; exact (by decide))).trans e826
  have e855 : gD Γ845 105 = a742 := (s847.2.2.1 105 (by rw [n820]; exact (by decide))).trans e827
  have e856 : gD Γ845 112 = a793 := (s847.2.2.1 112 (by rw [n820]; exact (by decide))).trans e828
  have f857 := s847.2.2.2 _ _ f829
  have f858 := s847.2.2.2 _ _ f830
  have f859 := s847.2.2.2 _ _ f831
  have f860 := s847.2.2.2 _ _ f832
  have f861 := s847.2.2.2 _ _ f833
  have f862 := s847.2.2.2 _ _ f834
  have f863 := s847.2.2.2 _ _ f835
  have f864 := s847.2.2.2 _ _ f836
  have f865 := s847.2.2.2 _ _ f837
  have f866 := s847.2.2.2 _ _ f838
  have f867 := s847.2.2.2 _ _ f839
  have f868 := s847.2.2.2 _ _ f840
  have f869 := s847.2.2.2 _ _ f841
  have f870 := s847.2.2.2 _ _ f842
  have f871 := s847.2.2.2 _ _ f843
  refine zg_j (zj_dup C.1 rfl dX11_init_263 (j_zg ?_))
  refine kg_callI C (As := []) (rest := [.ref a846, .ref a793, .ref a742, .ref a718, .ref a718, .int (i32 0), .ref b715]) hl0 cal_X8_init rfl ins_X8_init ml_X11_32 rfl (by rw [hR]; exact ⟨by decide, by decide, by decide, by decide⟩) (Nat.le_of_ble_eq_true rfl) dX11_init_264 (K_X8 l (q := 117) (N := 118) (by decide +kernel) (by decide +kernel) (by decide +kernel) (by decide +kernel) (by decide +kernel) (by decide +kernel) (by decide +kernel) (by decide +kernel) (by decide +kernel) (by decide +kernel) (by decide +kernel) n848 e849  z850) rfl (fun Γ872 s873 n874 kf875 C => ?_)
  have z876 : kZ (iX8 117 (iX7 112 (iX5 105 (zup (zup (zup (zup (zup (iX9 (iX1 (iX10 (iX2 (iX8 49 (iX0 (iX4 (iX3 21 (iX7 22 (iX3 20 (iX8 16 (iX7 11 (iX5 4 (iX6 mem)))))))))))))) 0 15 0) 0 16 (-1)) 0 17 (-1)) 0 18 (-1)) 0 19 (-1))))) 121 := kZ_X8 (kZ_le z850 (by decide)) (by decide)
  have t877 := kS_t t851 s873
  have e878 : gD Γ872 0 = a := (s873.2.2.1 0 (by rw [n848]; exact (by decide))).trans e852
  have e879 : gD Γ872 95 = b715 := (s873.2.2.1 95 (by rw [n848]; exact (by decide))).trans e853
  have e880 : gD Γ872 104 = a718 := (s873.2.2.1 104 (by rw [n848]; exact (by decide))).trans e854
  have e881 : gD Γ872 105 = a742 := (s873.2.2.1 105 (by rw [n848]; exact (by decide))).trans e855
  have e882 : gD Γ872 112 = a793 := (s873.2.2.1 112 (by rw [n848]; exact (by decide))).trans e856
  have e883 : gD Γ872 117 = a846 := (s873.2.2.1 117 (by rw [n848]; exact (by decide))).trans e849
  have f884 := s873.2.2.2 _ _ f857
  have f885 := s873.2.2.2 _ _ f858
  have f886 := s873.2.2.2 _ _ f859
  have f887 := s873.2.2.2 _ _ f860
  have f888 := s873.2.2.2 _ _ f861
  have f889 := s873.2.2.2 _ _ f862
  have f890 := s873.2.2.2 _ _ f863
  have f891 := s873.2.2.2 _ _ f864
  have f892 := s873.2.2.2 _ _ f865
  have f893 := s873.2.2.2 _ _ f866
  have f894 := s873.2.2.2 _ _ f867
  have f895 := s873.2.2.2 _ _ f868
  have f896 := s873.2.2.2 _ _ f869
  have f897 := s873.2.2.2 _ _ f870
  have f898 := s873.2.2.2 _ _ f871
  have Q899 : ∀ p k, isR p k = true → (p = 117 ∨ (118 ≤ p ∧ p < 121)) → gF Γ872 p k = true := fun p k h1 h2 => kf875 p k h1 (by rw [n848]; exact h2)
  refine kg_callI C (As := [.ref a742, .ref a793, .ref a846]) (rest := [.ref a718, .int (i32 0), .ref b715]) hl0 cal_X3_init rfl ins_X3_init ml_X11_39 rfl (by rw [hR]; exact ⟨by decide, by decide, by decide, by decide⟩) (Nat.le_of_ble_eq_true rfl) dX11_init_267 (K_X3 l (i0 := 105) (i1 := 112) (i2 := 117) (q := 104) (N := 121) (by decide +kernel) (by decide +kernel) (by decide +kernel) (by decide +kernel) (by decide +kernel) (by decide +kernel) (by decide +kernel) (by decide +kernel) n874 e880 e881 e882 e883 z876) rfl (fun Γ900 s901 n902 kf903 C => ?_)
  have z904 : kZ (iX3 104 (iX8 117 (iX7 112 (iX5 105 (zup (zup (zup (zup (zup (iX9 (iX1 (iX10 (iX2 (iX8 49 (iX0 (iX4 (iX3 21 (iX7 22 (iX3 20 (iX8 16 (iX7 11 (iX5 4 (iX6 mem)))))))))))))) 0 15 0) 0 16 (-1)) 0 17 (-1)) 0 18 (-1)) 0 19 (-1)))))) 121 := kZ_X3 (kZ_le z876 (by decide)) (by decide)
  have t905 := kS_t t877 s901
  have e906 : gD Γ900 0 = a := (s901.2.2.1 0 (by rw [n874]; exact (by decide))).trans e878
  have e907 : gD Γ900 95 = b715 := (s901.2.2.1 95 (by rw [n874]; exact (by decide))).trans e879
  have e908 : gD Γ900 104 = a718 := (s901.2.2.1 104 (by rw [n874]; exact (by decide))).trans e880
  have e909 : gD Γ900 105 = a742 := (s901.2.2.1 105 (by rw [n874]; exact (by decide))).trans e881
  have e910 : gD Γ900 112 = a793 := (s901.2.2.1 112 (by rw [n874]; exact (by decide))).trans e882
  have e911 : gD Γ900 117 = a846 := (s901.2.2.1 117 (by rw [n874]; exact (by decide))).trans e883
  have f912 := s901.2.2.2 _ _ f884
  have f913 := s901.2.2.2 _ _ f885
  have f914 := s901.2.2.2 _ _ f886
  have f915 := s901.2.2.2 _ _ f887
  have f916 := s901.2.2.2 _ _ f888
  have f917 := s901.2.2.2 _ _ f889
  have f918 := s901.2.2.2 _ _ f890
  have f919 := s901.2.2.2 _ _ f891
  have f920 := s901.2.2.2 _ _ f892
  have f921 := s901.2.2.2 _ _ f893
  have f922 := s901.2.2.2 _ _ f894
  have f923 := s901.2.2.2 _ _ f895
  have f924 := s901.2.2.2 _ _ f896
  have f925 := s901.2.2.2 _ _ f897
  have f926 := s901.2.2.2 _ _ f898
  have Q927 : ∀ p k, isR p k = true → (p = 104 ∨ (121 ≤ p ∧ p < 121)) → gF Γ900 p k = true := fun p k h1 h2 => kf903 p k h1 (by rw [n874]; exact h2)
  refine kg_ast16 (q := 95) (i := 0) (w := 104) C (by rw [n902]; exact (by decide)) (by decide +kernel) e907 rfl (by decide +kernel) (by decide) (by decide +kernel) (by rw [n902]; exact (by decide)) (by decide +kernel) e908 dX11_init_270 (fun Γ928 s929 n930 f931 C => ?_)
  have n932 : gN Γ928 = 121 := n930.trans n902
  have t933 := kS_t t905 s929
  have e934 : gD Γ928 0 = a := (s929.2.2.1 0 (by rw [n902]; exact (by decide))).trans e906
  have e935 : gD Γ928 95 = b715 := (s929.2.2.1 95 (by rw [n902]; exact (by decide))).trans e907
  have e936 : gD Γ928 104 = a718 := (s929.2.2.1 104 (by rw [n902]; exact (by decide))).trans e908
  have f937 := s929.2.2.2 _ _ f912
  have f938 := s929.2.2.2 _ _ f913
  have f939 := s929.2.2.2 _ _ f914
  have f940 := s929.2.2.2 _ _ f915
  have f941 := s929.2.2.2 _ _ f916
  have f942 := s929.2.2.2 _ _ f917
  have f943 := s929.2.2.2 _ _ f918
  have f944 := s929.2.2.2 _ _ f919
  have f945 := s929.2.2.2 _ _ f920
  have f946 := s929.2.2.2 _ _ f921
  have f947 := s929.2.2.2 _ _ f922
  have f948 := s929.2.2.2 _ _ f923
  have f949 := s929.2.2.2 _ _ f924
  have f950 := s929.2.2.2 _ _ f925
  have f951 := s929.2.2.2 _ _ f926
  refine zg_j (zj_iinc C.1 0 [(1, .int (i32 (w32 (0 + 1)))), (0, .ref a)] rfl dX11_init_271 (by decide) rfl (j_zg ?_))
  have ew133 : w32 (0 + 1) = 1 := w32_id (by decide)
  rw [ew133]
  refine zg_j (zj_goto C.1 dX11_init_274 rfl (j_zg ?_))
  refine zg_j (zj_iload_n (j := 1) (i := 1) C.1 rfl 0 rfl dX11_init_228 (j_zg ?_))
  refine zg_j (zj_aload_n (j := 0) (i := 0) C.1 rfl 1 rfl dX11_init_229 (j_zg ?_))
  obtain ⟨b952, hb953⟩ : ∃ b, gD Γ928 95 = b := ⟨_, rfl⟩
  refine kg_getR (q := 0) (b := b952) C (by rw [n932]; exact (by decide)) (by decide +kernel) e934 fl_X11_75 rfl f947 (by rw [(by decide +kernel : sRf 0 10 = 95)]; exact hb953) dX11_init_230 ?_
  refine kg_alen (q := 95) (k := 16) (n := 2) C (by rw [n932]; exact (by decide)) (by decide +kernel) (by decide) hb953 (by decide +kernel) dX11_init_233 ?_
  refine zg_j (zj_cneg (c := (1 : Int) ≥ 2) (A := none) (by decide) (zj_icmp_ge C.1 277 (by decide) (by decide) dX11_init_234 rfl (fun h => absurd h (by decide)) (fun _ => j_zg ?_)))
  refine zg_j (zj_aload_n (j := 0) (i := 0) C.1 rfl 1 rfl dX11_init_237 (j_zg ?_))
  obtain ⟨b954, hb955⟩ : ∃ b, gD Γ928 95 = b := ⟨_, rfl⟩
  refine kg_getR (q := 0) (b := b954) C (by rw [n932]; exact (by decide)) (by decide +kernel) e934 fl_X11_75 rfl f947 (by rw [(by decide +kernel : sRf 0 10 = 95)]; exact hb955) dX11_init_238 ?_
  refine zg_j (zj_iload_n (j := 1) (i := 1) C.1 rfl 0 rfl dX11_init_241 (j_zg ?_))
  refine kg_new C n932 (by decide +kernel) (L := 3) rfl kcl_X11_37 (fun j => z904 _ j (Nat.le_refl _)) (by rw [hR]; exact ⟨by decide, by decide⟩) dX11_init_242 (fun Γ956 a957 s958 n959 e960 C => ?_)
  have z961 : kZ (iX3 104 (iX8 117 (iX7 112 (iX5 105 (zup (zup (zup (zup (zup (iX9 (iX1 (iX10 (iX2 (iX8 49 (iX0 (iX4 (iX3 21 (iX7 22 (iX3 20 (iX8 16 (iX7 11 (iX5 4 (iX6 mem)))))))))))))) 0 15 0) 0 16 (-1)) 0 17 (-1)) 0 18 (-1)) 0 19 (-1)))))) 122 := kZ_le z904 (Nat.le_succ _)
  have t962 := kS_t t933 s958
  have e963 : gD Γ956 0 = a := (s958.2.2.1 0 (by rw [n932]; exact (by decide))).trans e934
  have e964 : gD Γ956 95 = b954 := (s958.2.2.1 95 (by rw [n932]; exact (by decide))).trans hb955
  have f965 := s958.2.2.2 _ _ f937
  have f966 := s958.2.2.2 _ _ f938
  have f967 := s958.2.2.2 _ _ f939
  have f968 := s958.2.2.2 _ _ f940
  have f969 := s958.2.2.2 _ _ f941
  have f970 := s958.2.2.2 _ _ f942
  have f971 := s958.2.2.2 _ _ f943
  have f972 := s958.2.2.2 _ _ f944
  have f973 := s958.2.2.2 _ _ f945
  have f974 := s958.2.2.2 _ _ f946
  have f975 := s958.2.2.2 _ _ f947
  have f976 := s958.2.2.2 _ _ f948
  have f977 := s958.2.2.2 _ _ f949
  have f978 := s958.2.2.2 _ _ f950
  have f979 := s958.2.2.2 _ _ f951
  have f980 := s958.2.2.2 _ _ f931
  refine zg_j (zj_dup C.1 rfl dX11_init_245 (j_zg ?_))
  refine kg_new C n959 (by decide +kernel) (L := 11) rfl kcl_X11_16 (fun j => z961 _ j (Nat.le_refl _)) (by rw [hR]; exact ⟨by decide, by decide⟩) dX11_init_246 (fun Γ981 a982 s983 n984 e985 C => ?_)
  have z986 : kZ (iX3 104 (iX8 117 (iX7 112 (iX5 105 (zup (zup (zup (zup (zup (iX9 (iX1 (iX10 (iX2 (iX8 49 (iX0 (iX4 (iX3 21 (iX7 22 (iX3 20 (iX8 16 (iX7 11 (iX5 4 (iX6 mem)))))))))))))) 0 15 0) 0 16 (-1)) 0 17 (-1)) 0 18 (-1)) 0 19 (-1)))))) 123 := kZ_le z961 (Nat.le_succ _)
  have t987 := kS_t t962 s983
  have e988 : gD Γ981 0 = a := (s983.2.2.1 0 (by rw [n959]; exact (by decide))).trans e963
  have e989 : gD Γ981 95 = b954 := (s983.2.2.1 95 (by rw [n959]; exact (by decide))).trans e964
  have e990 : gD Γ981 121 = a957 := (s983.2.2.1 121 (by rw [n959]; exact (by decide))).trans e960
  have f991 := s983.2.2.2 _ _ f965
  have f992 := s983.2.2.2 _ _ f966
  have f993 := s983.2.2.2 _ _ f967
  have f994 := s983.2.2.2 _ _ f968
  have f995 := s983.2.2.2 _ _ f969
  have f996 := s983.2.2.2 _ _ f970
  have f997 := s983.2.2.2 _ _ f971
  have f998 := s983.2.2.2 _ _ f972
  have f999 := s983.2.2.2 _ _ f973
  have f1000 := s983.2.2.2 _ _ f974
  have f1001 := s983.2.2.2 _ _ f975
  have f1002 := s983.2.2.2 _ _ f976
  have f1003 := s983.2.2.2 _ _ f977
  have f1004 := s983.2.2.2 _ _ f978
  have f1005 := s983.2.2.2 _ _ f979
  have f1006 := s983.2.2.2 _ _ f980
  refine zg_j (zj_dup C.1 rfl dX11_init_249 (j_zg ?_))
  refine kg_callI C (As := []) (rest := [.ref a982, .ref a957, .ref a957, .int (i32 1), .ref b954]) hl0 cal_X5_init rfl ins_X5_init ml_X11_18 rfl (by rw [hR]; exact ⟨by decide, by decide, by decide, by decide⟩) (Nat.le_of_ble_eq_true rfl) dX11_init_250 (K_X5 l (q := 122) (N := 123) (by decide +kernel) (by decide +kernel) (by decide +kernel) (by decide +kernel) (by decide +kernel) (by decide +kernel) (by decide +kernel) (by decide +kernel) (by decide +kernel) (by decide +kernel) (by decide +kernel) (by decide +kernel) (by decide +kernel) (by decide +kernel) (by decide +kernel) (by decide +kernel) (by decide +kernel) (by decide +kernel) (by decide +kernel) (by decide +kernel) n984 e985  z986) rfl (fun Γ1007 s1008 n1009 kf1010 C => ?_)
  have z1011 : kZ (iX5 122 (iX3 104 (iX8 117 (iX7 112 (iX5 105 (zup (zup (zup (zup (zup (iX9 (iX1 (iX10 (iX2 (iX8 49 (iX0 (iX4 (iX3 21 (iX7 22 (iX3 20 (iX8 16 (iX7 11 (iX5 4 (iX6 mem)))))))))))))) 0 15 0) 0 16 (-1)) 0 17 (-1)) 0 18 (-1)) 0 19 (-1))))))) 129 := kZ_X5 (kZ_le z986 (by decide)) (by decide)
  have t1012 := kS_t t987 s1008
  have e1013 : gD Γ1007 0 = a := (s1008.2.2.1 0 (by rw [n984]; exact (by decide))).trans e988
  have e1014 : gD Γ1007 95 = b954 := (s1008.2.2.1 95 (by rw [n984]; exact (by decide))).trans e989
  have e1015 : gD Γ1007 121 = a957 := (s1008.2.2.1 121 (by rw [n984]; exact (by decide))).trans e990
  have e1016 : gD Γ1007 122 = a982 := (s1008.2.2.1 122 (by rw [n984]; exact (by decide))).trans e985
  have f1017 := s1008.2.2.2 _ _ f991
  have f1018 := s1008.2.2.2 _ _ f992
  have f1019 := s1008.2.2.2 _ _ f993
  have f1020 := s1008.2.2.2 _ _ f994
  have f1021 := s1008.2.2.2 _ _ f995
  have f1022 := s1008.2.2.2 _ _ f996
  have f1023 := s1008.2.2.2 _ _ f997
  have f1024 := s1008.2.2.2 _ _ f998
  have f1025 := s1008.2.2.2 _ _ f999
  have f1026 := s1008.2.2.2 _ _ f1000
  have f1027 := s1008.2.2.2 _ _ f1001
  have f1028 := s1008.2.2.2 _ _ f1002
  have f1029 := s1008.2.2.2 _ _ f1003
  have f1030 := s1008.2.2.2 _ _ f1004
  have f1031 := s1008.2.2.2 _ _ f1005
  have f1032 := s1008.2.2.2 _ _ f1006
  have Q1033 : ∀ p k, isR p k = true → (p = 122 ∨ (123 ≤ p ∧ p < 129)) → gF Γ1007 p k = true := fun p k h1 h2 => kf1010 p k h1 (by rw [n984]; exact h2)
  refine kg_new C n1009 (by decide +kernel) (L := 9) rfl kcl_X11_23 (fun j => z1011 _ j (Nat.le_refl _)) (by rw [hR]; exact ⟨by decide, by decide⟩) dX11_init_253 (fun Γ1034 a1035 s1036 n1037 e1038 C => ?_)
  have z1039 : kZ (iX5 122 (iX3 104 (iX8 117 (iX7 112 (iX5 105 (zup (zup (zup (zup (zup (iX9 (iX1 (iX10 (iX2 (iX8 49 (iX0 (iX4 (iX3 21 (iX7 22 (iX3 20 (iX8 16 (iX7 11 (iX5 4 (iX6 mem)))))))))))))) 0 15 0) 0 16 (-1)) 0 17 (-1)) 0 18 (-1)) 0 19 (-1))))))) 130 := kZ_le z1011 (Nat.le_succ _)
  have t1040 := kS_t t1012 s1036
  have e1041 : gD Γ1034 0 = a := (s1036.2.2.1 0 (by rw [n1009]; exact (by decide))).trans e1013
  have e1042 : gD Γ1034 95 = b954 := (s1036.2.2.1 95 (by rw [n1009]; exact (by decide))).trans e1014
  have e1043 : gD Γ1034 121 = a957 := (s1036.2.2.1 121 (by rw [n1009]; exact (by decide))).trans e1015
  have e1044 : gD Γ1034 122 = a982 := (s1036.2.2.1 122 (by rw [n1009]; exact (by decide))).trans e1016
  have f1045 := s1036.2.2.2 _ _ f1017
  have f1046 := s1036.2.2.2 _ _ f1018
  have f1047 := s1036.2.2.2 _ _ f1019
  have f1048 := s1036.2.2.2 _ _ f1020
  have f1049 := s1036.2.2.2 _ _ f1021
  have f1050 := s1036.2.2.2 _ _ f1022
  have f1051 := s1036.2.2.2 _ _ f1023
  have f1052 := s1036.2.2.2 _ _ f1024
  have f1053 := s1036.2.2.2 _ _ f1025
  have f1054 := s1036.2.2.2 _ _ f1026
  have f1055 := s1036.2.2.2 _ _ f1027
  have f1056 := s1036.2.2.2 _ _ f1028
  have f1057 := s1036.2.2.2 _ _ f1029
  have f1058 := s1036.2.2.2 _ _ f1030
  have f1059 := s1036.2.2.2 _ _ f1031
  have f1060 := s1036.2.2.2 _ _ f1032
  refine zg_j (zj_dup C.1 rfl dX11_init_256 (j_zg ?_))
  refine kg_callI C (As := []) (rest := [.ref a1035, .ref a982, .ref a957, .ref a957, .int (i32 1), .ref b954]) hl0 cal_X7_init rfl ins_X7_init ml_X11_25 rfl (by rw [hR]; exact ⟨by decide, by decide, by decide, by decide⟩) (Nat.le_of_ble_eq_true rfl) dX11_init_257 (K_X7 l (q := 129) (N := 130) (by decide +kernel) (by decide +kernel) (by decide +kernel) (by decide +kernel) (by decide +kernel) (by decide +kernel) (by decide +kernel) (by decide +kernel) (by decide +kernel) (by decide +kernel) (by decide +kernel) (by decide +kernel) (by decide +kernel) (by decide +kernel) n1037 e1038  z1039) rfl (fun Γ1061 s1062 n1063 kf1064 C => ?_)
  have z1065 : kZ (iX7 129 (iX5 122 (iX3 104 (iX8 117 (iX7 112 (iX5 105 (zup (zup (zup (zup (zup (iX9 (iX1 (iX10 (iX2 (iX8 49 (iX0 (iX4 (iX3 21 (iX7 22 (iX3 20 (iX8 16 (iX7 11 (iX5 4 (iX6 mem)))))))))))))) 0 15 0) 0 16 (-1)) 0 17 (-1)) 0 18 (-1)) 0 19 (-1)))))))) 134 := kZ_X7 (kZ_le z1039 (by decide)) (by decide)
  have t1066 := kS_t t1040 s1062
  have e1067 : gD Γ1061 0 = a := (s1062.2.2.1 0 (by rw [n1037]; exact (by decide))).trans e1041
  have e1068 : gD Γ1061 95 = b954 := (s1062.2.2.1 95 (by rw [n1037]; exact (by decide))).trans e1042
  have e1069 : gD Γ1061 121 = a957 := (s1062.2.2.1 121 (by rw [n1037]; exact (by decide))).trans e1043
  have e1070 : gD Γ1061 122 = a982 := (s1062.2.2.1 122 (by rw [n1037]; exact (by decide))).trans e1044
  have e1071 : gD Γ1061 129 = a1035 := (s1062.2.2.1 129 (by rw [n1037]; exact (by decide))).trans e1038
  have f1072 := s1062.2.2.2 _ _ f1045
  have f1073 := s1062.2.2.2 _ _ f1046
  have f1074 := s1062.2.2.2 _ _ f1047
  have f1075 := s1062.2.2.2 _ _ f1048
  have f1076 := s1062.2.2.2 _ _ f1049
  have f1077 := s1062.2.2.2 _ _ f1050
  have f1078 := s1062.2.2.2 _ _ f1051
  have f1079 := s1062.2.2.2 _ _ f1052
  have f1080 := s1062.2.2.2 _ _ f1053
  have f1081 := s1062.2.2.2 _ _ f1054
  have f1082 := s1062.2.2.2 _ _ f1055
  have f1083 := s1062.2.2.2 _ _ f1056
  have f1084 := s1062.2.2.2 _ _ f1057
  have f1085 := s1062.2.2.2 _ _ f1058
  have f1086 := s1062.2.2.2 _ _ f1059
  have f1087 := s1062.2.2.2 _ _ f1060
  have Q1088 : ∀ p k, isR p k = true → (p = 129 ∨ (130 ≤ p ∧ p < 134)) → gF Γ1061 p k = true := fun p k h1 h2 => kf1064 p k h1 (by rw [n1037]; exact h2)
  refine kg_new C n1063 (by decide +kernel) (L := 5) rfl kcl_X11_30 (fun j => z1065 _ j (Nat.le_refl _)) (by rw [hR]; exact ⟨by decide, by decide⟩) dX11_init_260 (fun Γ1089 a1090 s1091 n1092 e1093 C => ?_)
  have z1094 : kZ (iX7 129 (iX5 122 (iX3 104 (iX8 117 (iX7 112 (iX5 105 (zup (zup (zup (zup (zup (iX9 (iX1 (iX10 (iX2 (iX8 49 (iX0 (iX4 (iX3 21 (iX7 22 (iX3 20 (iX8 16 (iX7 11 (iX5 4 (iX6 mem)))))))))))))) 0 15 0) 0 16 (-1)) 0 17 (-1)) 0 18 (-1)) 0 19 (-1)))))))) 135 := kZ_le z1065 (Nat.le_succ _)
  have t1095 := kS_t t1066 s1091
  have e1096 : gD Γ1089 0 = a := (s1091.2.2.1 0 (by rw [n1063]; exact (by decide))).trans e1067
  have e1097 : gD Γ1089 95 = b954 := (s1091.2.2.1 95 (by rw [n1063]; exact (by decide))).trans e1068
  have e1098 : gD Γ1089 121 = a957 := (s1091.2.2.1 121 (by rw [n1063]; exact (by decide))).trans e1069
  have e1099 : gD Γ1089 122 = a982 := (s1091.2.2.1 122 (by rw [n1063]; exact (by decide))).trans e1070
  have e1100 : gD Γ1089 129 = a1035 := (s1091.2.2.1 129 (by rw [n1063]; exact (by decide))).trans e1071
  have f1101 := s1091.2.2.2 _ _ f1072
  have f1102 := s1091.2.2.2 _ _ f1073
  have f1103 := s1091.2.2.2 _ _ f1074
  have f1104 := s1091.2.2.2 _ _ f1075
  have f1105 := s1091.2.2.2 _ _ f1076
  have f1106 := s1091.2.2.2 _ _ f1077
  have f1107 := s1091.2.2.2 _ _ f1078
  have f1108 := s1091.2.2.2 _ _ f1079
  have f1109 := s1091.2.2.2 _ _ f1080
  have f1110 := s1091.2.2.2 _ _ f1081
  have f1111 := s1091.2.2.2 _ _ f1082
  have f1112 := s1091.2.2.2 _ _ f1083
  have f1113 := s1091.2.2.2 _ _ f1084
  have f1114 := s1091.2.2.2 _ _ f1085
  have f1115 := s1091.2.2.2 _ _ f1086
  have f1116 := s1091.2.2.2 _ _ f1087
  refine zg_j (zj_dup C.1 rfl dX11_init_263 (j_zg ?_))
  refine kg_callI C (As := []) (rest := [.ref a1090, .ref a1035, .ref a982, .ref a957, .ref a957, .int (i32 1), .ref b954]) hl0 cal_X8_init rfl ins_X8_init ml_X11_32 rfl (by rw [hR]; exact ⟨by decide, by decide, by decide, by decide⟩) (Nat.le_of_ble_eq_true rfl) dX11_init_264 (K_X8 l (q := 134) (N := 135) (by decide +kernel) (by decide +kernel) (by decide +kernel) (by decide +kernel) (by decide +kernel) (by decide +kernel) (by decide +kernel) (by decide +kernel) (by decide +kernel) (by decide +kernel) (by decide +kernel) n1092 e1093  z1094) rfl (fun Γ1117 s1118 n1119 kf1120 C => ?_)
  have z1121 : kZ (iX8 134 (iX7 129 (iX5 122 (iX3 104 (iX8 117 (iX7 112 (iX5 105 (zup (zup (zup (zup (zup (iX9 (iX1 (iX10 (iX2 (iX8 49 (iX0 (iX4 (iX3 21 (iX7 22 (iX3 20 (iX8 16 (iX7 11 (iX5 4 (iX6 mem)))))))))))))) 0 15 0) 0 16 (-1)) 0 17 (-1)) 0 18 (-1)) 0 19 (-1))))))))) 138 := kZ_X8 (kZ_le z1094 (by decide)) (by decide)
  have t1122 := kS_t t1095 s1118
  have e1123 : gD Γ1117 0 = a := (s1118.2.2.1 0 (by rw [n1092]; exact (by decide))).trans e1096
  have e1124 : gD Γ1117 95 = b954 := (s1118.2.2.1 95 (by rw [n1092]; exact (by decide))).trans e1097
  have e1125 : gD Γ1117 121 = a957 := (s1118.2.2.1 121 (by rw [n1092]; exact (by decide))).trans e1098
  have e1126 : gD Γ1117 122 = a982 := (s1118.2.2.1 122 (by rw [n1092]; exact (by decide))).trans e1099
  have e1127 : gD Γ1117 129 = a1035 := (s1118.2.2.1 129 (by rw [n1092]; exact (by decide))).trans e1100
  have e1128 : gD Γ1117 134 = a1090 := (s1118.2.2.1 134 (by rw [n1092]; exact (by decide))).trans e1093
  have f1129 := s1118.2.2.2 _ _ f1101
  have f1130 := s1118.2.2.2 _ _ f1102
  have f1131 := s1118.2.2.2 _ _ f1103
  have f1132 := s1118.2.2.2 _ _ f1104
  have f1133 := s1118.2.2.2 _ _ f1105
  have f1134 := s1118.2.2.2 _ _ f1106
  have f1135 := s1118.2.2.2 _ _ f1107
  have f1136 := s1118.2.2.2 _ _ f1108
  have f1137 := s1118.2.2.2 _ _ f1109
  have f1138 := s1118.2.2.2 _ _ f1110
  have f1139 := s1118.2.2.2 _ _ f1111
  have f1140 := s1118.2.2.2 _ _ f1112
  have f1141 := s1118.2.2.2 _ _ f1113
  have f1142 := s1118.2.2.2 _ _ f1114
  have f1143 := s1118.2.2.2 _ _ f1115
  have f1144 := s1118.2.2.2 _ _ f1116
  have Q1145 : ∀ p k, isR p k = true → (p = 134 ∨ (135 ≤ p ∧ p < 138)) → gF Γ1117 p k = true := fun p k h1 h2 => kf1120 p k h1 (by rw [n1092]; exact h2)
  refine kg_callI C (As := [.ref a982, .ref a1035, .ref a1090]) (rest := [.ref a957, .int (i32 1), .ref b954]) hl0 cal_X3_init rfl ins_X3_init ml_X11_39 rfl (by rw [hR]; exact ⟨by decide, by decide, by decide, by decide⟩) (Nat.le_of_ble_eq_true rfl) dX11_init_267 (K_X3 l (i0 := 122) (i1 := 129) (i2 := 134) (q := 121) (N := 138) (by decide +kernel) (by decide +kernel) (by decide +kernel) (by decide +kernel) (by decide +kernel) (by decide +kernel) (by decide +kernel) (by decide +kernel) n1119 e1125 e1126 e1127 e1128 z1121) rfl (fun Γ1146 s1147 n1148 kf1149 C => ?_)
  have z1150 : kZ (iX3 121 (iX8 134 (iX7 129 (iX5 122 (iX3 104 (iX8 117 (iX7 112 (iX5 105 (zup (zup (zup (zup (zup (iX9 (iX1 (iX10 (iX2 (iX8 49 (iX0 (iX4 (iX3 21 (iX7 22 (iX3 20 (iX8 16 (iX7 11 (iX5 4 (iX6 mem)))))))))))))) 0 15 0) 0 16 (-1)) 0 17 (-1)) 0 18 (-1)) 0 19 (-1)))))))))) 138 := kZ_X3 (kZ_le z1121 (by decide)) (by decide)
  have t1151 := kS_t t1122 s1147
  have e1152 : gD Γ1146 0 = a := (s1147.2.2.1 0 (by rw [n1119]; exact (by decide))).trans e1123
  have e1153 : gD Γ1146 95 = b954 := (s1147.2.2.1 95 (by rw [n1119]; exact (by decide))).trans e1124
  have e1154 : gD Γ1146 121 = a957 := (s1147.2.2.1 121 (by rw [n1119]; exact (by decide))).trans e1125
  have e1155 : gD Γ1146 122 = a982 := (s1147.2.2.1 122 (by rw [n1119]; exact (by decide))).trans e1126
  have e1156 : gD Γ1146 129 = a1035 := (s1147.2.2.1 129 (by rw [n1119]; exact (by decide))).trans e1127
  have e1157 : gD Γ1146 134 = a1090 := (s1147.2.2.1 134 (by rw [n1119]; exact (by decide))).trans e1128
  have f1158 := s1147.2.2.2 _ _ f1129
  have f1159 := s1147.2.2.2 _ _ f1130
  have f1160 := s1147.2.2.2 _ _ f1131
  have f1161 := s1147.2.2.2 _ _ f1132
  have f1162 := s1147.2.2.2 _ _ f1133
  have f1163 := s1147.2.2.2 _ _ f1134
  have f1164 := s1147.2.2.2 _ _ f1135
  have f1165 := s1147.2.2.2 _ _ f1136
  have f1166 := s1147.2.2.2 _ _ f1137
  have f1167 := s1147.2.2.2 _ _ f1138
  have f1168 := s1147.2.2.2 _ _ f1139
  have f1169 := s1147.2.2.2 _ _ f1140
  have f1170 := s1147.2.2.2 _ _ f1141
  have f1171 := s1147.2.2.2 _ _ f1142
  have f1172 := s1147.2.2.2 _ _ f1143
  have f1173 := s1147.2.2.2 _ _ f1144
  have Q1174 : ∀ p k, isR p k = true → (p = 121 ∨ (138 ≤ p ∧ p < 138)) → gF Γ1146 p k = true := fun p k h1 h2 => kf1149 p k h1 (by rw [n1119]; exact h2)
  refine kg_ast16 (q := 95) (i := 1) (w := 121) C (by rw [n1148]; exact (by decide)) (by decide +kernel) e1153 rfl (by decide +kernel) (by decide) (by decide +kernel) (by rw [n1148]; exact (by decide)) (by decide +kernel) e1154 dX11_init_270 (fun Γ1175 s1176 n1177 f1178 C => ?_)
  have n1179 : gN Γ1175 = 138 := n1177.trans n1148
  have t1180 := kS_t t1151 s1176
  have e1181 : gD Γ1175 0 = a := (s1176.2.2.1 0 (by rw [n1148]; exact (by decide))).trans e1152
  have e1182 : gD Γ1175 95 = b954 := (s1176.2.2.1 95 (by rw [n1148]; exact (by decide))).trans e1153
  have e1183 : gD Γ1175 121 = a957 := (s1176.2.2.1 121 (by rw [n1148]; exact (by decide))).trans e1154
  have f1184 := s1176.2.2.2 _ _ f1158
  have f1185 := s1176.2.2.2 _ _ f1159
  have f1186 := s1176.2.2.2 _ _ f1160
  have f1187 := s1176.2.2.2 _ _ f1161
  have f1188 := s1176.2.2.2 _ _ f1162
  have f1189 := s1176.2.2.2 _ _ f1163
  have f1190 := s1176.2.2.2 _ _ f1164
  have f1191 := s1176.2.2.2 _ _ f1165
  have f1192 := s1176.2.2.2 _ _ f1166
  have f1193 := s1176.2.2.2 _ _ f1167
  have f1194 := s1176.2.2.2 _ _ f1168
  have f1195 := s1176.2.2.2 _ _ f1169
  have f1196 := s1176.2.2.2 _ _ f1170
  have f1197 := s1176.2.2.2 _ _ f1171
  have f1198 := s1176.2.2.2 _ _ f1172
  have f1199 := s1176.2.2.2 _ _ f1173
  refine zg_j (zj_iinc C.1 0 [(1, .int (i32 (w32 (1 + 1)))), (0, .ref a)] rfl dX11_init_271 (by decide) rfl (j_zg ?_))
  have ew156 : w32 (1 + 1) = 2 := w32_id (by decide)
  rw [ew156]
  refine zg_j (zj_goto C.1 dX11_init_274 rfl (j_zg ?_))
  refine zg_j (zj_iload_n (j := 1) (i := 1) C.1 rfl 0 rfl dX11_init_228 (j_zg ?_))
  refine zg_j (zj_aload_n (j := 0) (i := 0) C.1 rfl 1 rfl dX11_init_229 (j_zg ?_))
  obtain ⟨b1200, hb1201⟩ : ∃ b, gD Γ1175 95 = b := ⟨_, rfl⟩
  refine kg_getR (q := 0) (b := b1200) C (by rw [n1179]; exact (by decide)) (by decide +kernel) e1181 fl_X11_75 rfl f1194 (by rw [(by decide +kernel : sRf 0 10 = 95)]; exact hb1201) dX11_init_230 ?_
  refine kg_alen (q := 95) (k := 16) (n := 2) C (by rw [n1179]; exact (by decide)) (by decide +kernel) (by decide) hb1201 (by decide +kernel) dX11_init_233 ?_
  refine zg_j (zj_cpos (c := (2 : Int) ≥ 2) (B := none) (by decide) (zj_icmp_ge C.1 277 (by decide) (by decide) dX11_init_234 rfl (fun _ => j_zg ?_) (fun h => absurd (by decide) h)))
  refine kg_ret C Z t1180 n1179 (fun p k hr hp => ?_) ⟨by decide, by decide⟩ dX11_init_277
  rw [hN] at hp
  rcases (by omega : (p = 0) ∨ (p = 1 ∨ (2 ≤ p ∧ p < 4)) ∨ (p = 4 ∨ (5 ≤ p ∧ p < 11)) ∨ (p = 11 ∨ (12 ≤ p ∧ p < 16)) ∨ (p = 16 ∨ (17 ≤ p ∧ p < 20)) ∨ (p = 20 ∨ (21 ≤ p ∧ p < 21)) ∨ (p = 22 ∨ (23 ≤ p ∧ p < 27)) ∨ (p = 21 ∨ (27 ≤ p ∧ p < 27)) ∨ (p = 27 ∨ (28 ≤ p ∧ p < 45)) ∨ (p = 45 ∨ (46 ≤ p ∧ p < 49)) ∨ (p = 49 ∨ (50 ≤ p ∧ p < 53)) ∨ (p = 53 ∨ (54 ≤ p ∧ p < 95)) ∨ (p = 95) ∨ (p = 96) ∨ (p = 97 ∨ (98 ≤ p ∧ p < 101)) ∨ (p = 101 ∨ (102 ≤ p ∧ p < 102)) ∨ (p = 102 ∨ (103 ≤ p ∧ p < 104)) ∨ (p = 105 ∨ (106 ≤ p ∧ p < 112)) ∨ (p = 112 ∨ (113 ≤ p ∧ p < 117)) ∨ (p = 117 ∨ (118 ≤ p ∧ p < 121)) ∨ (p = 104 ∨ (121 ≤ p ∧ p < 121)) ∨ (p = 122 ∨ (123 ≤ p ∧ p < 129)) ∨ (p = 129 ∨ (130 ≤ p ∧ p < 134)) ∨ (p = 134 ∨ (135 ≤ p ∧ p < 138)) ∨ (p = 121 ∨ (138 ≤ p ∧ p < 138))) with hp | hp | hp | hp | hp | hp | hp | hp | hp | hp | hp | hp | hp | hp | hp | hp | hp | hp | hp | hp | hp | hp | hp | hp | hp
  · subst hp
    obtain ⟨h1, h2⟩ := isR_o (ci := 11) (by decide +kernel) (by decide) hr
    have h3 : ∀ k, k < sNf 11 → sFk 11 k = 2 → k ∈ [0, 1, 2, 3, 4, 5, 6, 7, 8, 9, 10, 11, 12, 13, 14] := by decide +kernel
    have h4 := h3 k h1 h2
    simp only [List.mem_cons, List.not_mem_nil, or_false] at h4
    rcases h4 with rfl | rfl | rfl | rfl | rfl | rfl | rfl | rfl | rfl | rfl | rfl | rfl | rfl | rfl | rfl
    · exact f1184
    · exact f1185
    · exact f1186
    · exact f1187
    · exact f1188
    · exact f1189
    · exact f1190
    · exact f1191
    · exact f1192
    · exact f1193
    · exact f1194
    · exact f1195
    · exact f1196
    · exact f1197
    · exact f1198
  · exact s1176.2.2.2 _ _ (s1147.2.2.2 _ _ (s1118.2.2.2 _ _ (s1091.2.2.2 _ _ (s1062.2.2.2 _ _ (s1036.2.2.2 _ _ (s1008.2.2.2 _ _ (s983.2.2.2 _ _ (s958.2.2.2 _ _ (s929.2.2.2 _ _ (s901.2.2.2 _ _ (s873.2.2.2 _ _ (s847.2.2.2 _ _ (s819.2.2.2 _ _ (s794.2.2.2 _ _ (s767.2.2.2 _ _ (s743.2.2.2 _ _ (s719.2.2.2 _ _ (s686.2.2.2 _ _ (s664.2.2.2 _ _ (s643.2.2.2 _ _ (s620.2.2.2 _ _ (s599.2.2.2 _ _ (s579.2.2.2 _ _ (s557.2.2.2 _ _ (s536.2.2.2 _ _ (s515.2.2.2 _ _ (s494.2.2.2 _ _ (s477.2.2.2 _ _ (s457.2.2.2 _ _ (s441.2.2.2 _ _ (s422.2.2.2 _ _ (s405.2.2.2 _ _ (s389.2.2.2 _ _ (s371.2.2.2 _ _ (s355.2.2.2 _ _ (s340.2.2.2 _ _ (s323.2.2.2 _ _ (s307.2.2.2 _ _ (s291.2.2.2 _ _ (s275.2.2.2 _ _ (s260.2.2.2 _ _ (s245.2.2.2 _ _ (s230.2.2.2 _ _ (s214.2.2.2 _ _ (s196.2.2.2 _ _ (s182.2.2.2 _ _ (s167.2.2.2 _ _ (s153.2.2.2 _ _ (s138.2.2.2 _ _ (s121.2.2.2 _ _ (s108.2.2.2 _ _ (s97.2.2.2 _ _ (s87.2.2.2 _ _ (s75.2.2.2 _ _ (s65.2.2.2 _ _ (s56.2.2.2 _ _ (s45.2.2.2 _ _ (s36.2.2.2 _ _ (s28.2.2.2 _ _ (s18.2.2.2 _ _ (Q17 p k hr hp)))))))))))))))))))))))))))))))))))))))))))))))))))))))))))))
  · exact s1176.2.2.2 _ _ (s1147.2.2.2 _ _ (s1118.2.2.2 _ _ (s1091.2.2.2 _ _ (s1062.2.2.2 _ _ (s1036.2.2.2 _ _ (s1008.2.2.2 _ _ (s983.2.2.2 _ _ (s958.2.2.2 _ _ (s929.2.2.2 _ _ (s901.2.2.2 _ _ (s873.2.2.2 _ _ (s847.2.2.2 _ _ (s819.2.2.2 _ _ (s794.2.2.2 _ _ (s767.2.2.2 _ _ (s743.2.2.2 _ _ (s719.2.2.2 _ _ (s686.2.2.2 _ _ (s664.2.2.2 _ _ (s643.2.2.2 _ _ (s620.2.2.2 _ _ (s599.2.2.2 _ _ (s579.2.2.2 _ _ (s557.2.2.2 _ _ (s536.2.2.2 _ _ (s515.2.2.2 _ _ (s494.2.2.2 _ _ (s477.2.2.2 _ _ (s457.2.2.2 _ _ (s441.2.2.2 _ _ (s422.2.2.2 _ _ (s405.2.2.2 _ _ (s389.2.2.2 _ _ (s371.2.2.2 _ _ (s355.2.2.2 _ _ (s340.2.2.2 _ _ (s323.2.2.2 _ _ (s307.2.2.2 _ _ (s291.2.2.2 _ _ (s275.2.2.2 _ _ (s260.2.2.2 _ _ (s245.2.2.2 _ _ (s230.2.2.2 _ _ (s214.2.2.2 _ _ (s196.2.2.2 _ _ (s182.2.2.2 _ _ (s167.2.2.2 _ _ (s153.2.2.2 _ _ (s138.2.2.2 _ _ (s121.2.2.2 _ _ (s108.2.2.2 _ _ (s97.2.2.2 _ _ (s87.2.2.2 _ _ (s75.2.2.2 _ _ (s65.2.2.2 _ _ (s56.2.2.2 _ _ (s45.2.2.2 _ _ (Q44 p k hr hp))))))))))))))))))))))))))))))))))))))))))))))))))))))))))
  · exact s1176.2.2.2 _ _ (s1147.2.2.2 _ _ (s1118.2.2.2 _ _ (s1091.2.2.2 _ _ (s1062.2.2.2 _ _ (s1036.2.2.2 _ _ (s1008.2.2.2 _ _ (s983.2.2.2 _ _ (s958.2.2.2 _ _ (s929.2.2.2 _ _ (s901.2.2.2 _ _ (s873.2.2.2 _ _ (s847.2.2.2 _ _ (s819.2.2.2 _ _ (s794.2.2.2 _ _ (s767.2.2.2 _ _ (s743.2.2.2 _ _ (s719.2.2.2 _ _ (s686.2.2.2 _ _ (s664.2.2.2 _ _ (s643.2.2.2 _ _ (s620.2.2.2 _ _ (s599.2.2.2 _ _ (s579.2.2.2 _ _ (s557.2.2.2 _ _ (s536.2.2.2 _ _ (s515.2.2.2 _ _ (s494.2.2.2 _ _ (s477.2.2.2 _ _ (s457.2.2.2 _ _ (s441.2.2.2 _ _ (s422.2.2.2 _ _ (s405.2.2.2 _ _ (s389.2.2.2 _ _ (s371.2.2.2 _ _ (s355.2.2.2 _ _ (s340.2.2.2 _ _ (s323.2.2.2 _ _ (s307.2.2.2 _ _ (s291.2.2.2 _ _ (s275.2.2.2 _ _ (s260.2.2.2 _ _ (s245.2.2.2 _ _ (s230.2.2.2 _ _ (s214.2.2.2 _ _ (s196.2.2.2 _ _ (s182.2.2.2 _ _ (s167.2.2.2 _ _ (s153.2.2.2 _ _ (s138.2.2.2 _ _ (s121.2.2.2 _ _ (s108.2.2.2 _ _ (s97.2.2.2 _ _ (s87.2.2.2 _ _ (s75.2.2.2 _ _ (Q74 p k hr hp)))))))))))))))))))))))))))))))))))))))))))))))))))))))
  · exact s1176.2.2.2 _ _ (s1147.2.2.2 _ _ (s1118.2.2.2 _ _ (s1091.2.2.2 _ _ (s1062.2.2.2 _ _ (s1036.2.2.2 _ _ (s1008.2.2.2 _ _ (s983.2.2.2 _ _ (s958.2.2.2 _ _ (s929.2.2.2 _ _ (s901.2.2.2 _ _ (s873.2.2.2 _ _ (s847.2.2.2 _ _ (s819.2.2.2 _ _ (s794.2.2.2 _ _ (s767.2.2.2 _ _ (s743.2.2.2 _ _ (s719.2.2.2 _ _ (s686.2.2.2 _ _ (s664.2.2.2 _ _ (s643.2.2.2 _ _ (s620.2.2.2 _ _ (s599.2.2.2 _ _ (s579.2.2.2 _ _ (s557.2.2.2 _ _ (s536.2.2.2 _ _ (s515.2.2.2 _ _ (s494.2.2.2 _ _ (s477.2.2.2 _ _ (s457.2.2.2 _ _ (s441.2.2.2 _ _ (s422.2.2.2 _ _ (s405.2.2.2 _ _ (s389.2.2.2 _ _ (s371.2.2.2 _ _ (s355.2.2.2 _ _ (s340.2.2.2 _ _ (s323.2.2.2 _ _ (s307.2.2.2 _ _ (s291.2.2.2 _ _ (s275.2.2.2 _ _ (s260.2.2.2 _ _ (s245.2.2.2 _ _ (s230.2.2.2 _ _ (s214.2.2.2 _ _ (s196.2.2.2 _ _ (s182.2.2.2 _ _ (s167.2.2.2 _ _ (s153.2.2.2 _ _ (s138.2.2.2 _ _ (s121.2.2.2 _ _ (s108.2.2.2 _ _ (Q107 p k hr hp))))))))))))))))))))))))))))))))))))))))))))))))))))
  · exact s1176.2.2.2 _ _ (s1147.2.2.2 _ _ (s1118.2.2.2 _ _ (s1091.2.2.2 _ _ (s1062.2.2.2 _ _ (s1036.2.2.2 _ _ (s1008.2.2.2 _ _ (s983.2.2.2 _ _ (s958.2.2.2 _ _ (s929.2.2.2 _ _ (s901.2.2.2 _ _ (s873.2.2.2 _ _ (s847.2.2.2 _ _ (s819.2.2.2 _ _ (s794.2.2.2 _ _ (s767.2.2.2 _ _ (s743.2.2.2 _ _ (s719.2.2.2 _ _ (s686.2.2.2 _ _ (s664.2.2.2 _ _ (s643.2.2.2 _ _ (s620.2.2.2 _ _ (s599.2.2.2 _ _ (s579.2.2.2 _ _ (s557.2.2.2 _ _ (s536.2.2.2 _ _ (s515.2.2.2 _ _ (s494.2.2.2 _ _ (s477.2.2.2 _ _ (s457.2.2.2 _ _ (s441.2.2.2 _ _ (s422.2.2.2 _ _ (s405.2.2.2 _ _ (s389.2.2.2 _ _ (s371.2.2.2 _ _ (s355.2.2.2 _ _ (s340.2.2.2 _ _ (s323.2.2.2 _ _ (s307.2.2.2 _ _ (s291.2.2.2 _ _ (s275.2.2.2 _ _ (s260.2.2.2 _ _ (s245.2.2.2 _ _ (s230.2.2.2 _ _ (s214.2.2.2 _ _ (s196.2.2.2 _ _ (s182.2.2.2 _ _ (s167.2.2.2 _ _ (s153.2.2.2 _ _ (Q152 p k hr hp)))))))))))))))))))))))))))))))))))))))))))))))))
  · exact s1176.2.2.2 _ _ (s1147.2.2.2 _ _ (s1118.2.2.2 _ _ (s1091.2.2.2 _ _ (s1062.2.2.2 _ _ (s1036.2.2.2 _ _ (s1008.2.2.2 _ _ (s983.2.2.2 _ _ (s958.2.2.2 _ _ (s929.2.2.2 _ _ (s901.2.2.2 _ _ (s873.2.2.2 _ _ (s847.2.2.2 _ _ (s819.2.2.2 _ _ (s794.2.2.2 _ _ (s767.2.2.2 _ _ (s743.2.2.2 _ _ (s719.2.2.2 _ _ (s686.2.2.2 _ _ (s664.2.2.2 _ _ (s643.2.2.2 _ _ (s620.2.2.2 _ _ (s599.2.2.2 _ _ (s579.2.2.2 _ _ (s557.2.2.2 _ _ (s536.2.2.2 _ _ (s515.2.2.2 _ _ (s494.2.2.2 _ _ (s477.2.2.2 _ _ (s457.2.2.2 _ _ (s441.2.2.2 _ _ (s422.2.2.2 _ _ (s405.2.2.2 _ _ (s389.2.2.2 _ _ (s371.2.2.2 _ _ (s355.2.2.2 _ _ (s340.2.2.2 _ _ (s323.2.2.2 _ _ (s307.2.2.2 _ _ (s291.2.2.2 _ _ (s275.2.2.2 _ _ (s260.2.2.2 _ _ (s245.2.2.2 _ _ (s230.2.2.2 _ _ (s214.2.2.2 _ _ (Q210 p k hr hp)))))))))))))))))))))))))))))))))))))))))))))
  · exact s1176.2.2.2 _ _ (s1147.2.2.2 _ _ (s1118.2.2.2 _ _ (s1091.2.2.2 _ _ (s1062.2.2.2 _ _ (s1036.2.2.2 _ _ (s1008.2.2.2 _ _ (s983.2.2.2 _ _ (s958.2.2.2 _ _ (s929.2.2.2 _ _ (s901.2.2.2 _ _ (s873.2.2.2 _ _ (s847.2.2.2 _ _ (s819.2.2.2 _ _ (s794.2.2.2 _ _ (s767.2.2.2 _ _ (s743.2.2.2 _ _ (s719.2.2.2 _ _ (s686.2.2.2 _ _ (s664.2.2.2 _ _ (s643.2.2.2 _ _ (s620.2.2.2 _ _ (s599.2.2.2 _ _ (s579.2.2.2 _ _ (s557.2.2.2 _ _ (s536.2.2.2 _ _ (s515.2.2.2 _ _ (s494.2.2.2 _ _ (s477.2.2.2 _ _ (s457.2.2.2 _ _ (s441.2.2.2 _ _ (s422.2.2.2 _ _ (s405.2.2.2 _ _ (s389.2.2.2 _ _ (s371.2.2.2 _ _ (s355.2.2.2 _ _ (s340.2.2.2 _ _ (s323.2.2.2 _ _ (s307.2.2.2 _ _ (s291.2.2.2 _ _ (s275.2.2.2 _ _ (s260.2.2.2 _ _ (s245.2.2.2 _ _ (s230.2.2.2 _ _ (Q229 p k hr hp))))))))))))))))))))))))))))))))))))))))))))
  · exact s1176.2.2.2 _ _ (s1147.2.2.2 _ _ (s1118.2.2.2 _ _ (s1091.2.2.2 _ _ (s1062.2.2.2 _ _ (s1036.2.2.2 _ _ (s1008.2.2.2 _ _ (s983.2.2.2 _ _ (s958.2.2.2 _ _ (s929.2.2.2 _ _ (s901.2.2.2 _ _ (s873.2.2.2 _ _ (s847.2.2.2 _ _ (s819.2.2.2 _ _ (s794.2.2.2 _ _ (s767.2.2.2 _ _ (s743.2.2.2 _ _ (s719.2.2.2 _ _ (s686.2.2.2 _ _ (s664.2.2.2 _ _ (s643.2.2.2 _ _ (s620.2.2.2 _ _ (s599.2.2.2 _ _ (s579.2.2.2 _ _ (s557.2.2.2 _ _ (s536.2.2.2 _ _ (s515.2.2.2 _ _ (s494.2.2.2 _ _ (s477.2.2.2 _ _ (s457.2.2.2 _ _ (s441.2.2.2 _ _ (s422.2.2.2 _ _ (s405.2.2.2 _ _ (s389.2.2.2 _ _ (s371.2.2.2 _ _ (s355.2.2.2 _ _ (s340.2.2.2 _ _ (s323.2.2.2 _ _ (s307.2.2.2 _ _ (s291.2.2.2 _ _ (s275.2.2.2 _ _ (Q274 p k hr hp)))))))))))))))))))))))))))))))))))))))))
  · exact s1176.2.2.2 _ _ (s1147.2.2.2 _ _ (s1118.2.2.2 _ _ (s1091.2.2.2 _ _ (s1062.2.2.2 _ _ (s1036.2.2.2 _ _ (s1008.2.2.2 _ _ (s983.2.2.2 _ _ (s958.2.2.2 _ _ (s929.2.2.2 _ _ (s901.2.2.2 _ _ (s873.2.2.2 _ _ (s847.2.2.2 _ _ (s819.2.2.2 _ _ (s794.2.2.2 _ _ (s767.2.2.2 _ _ (s743.2.2.2 _ _ (s719.2.2.2 _ _ (s686.2.2.2 _ _ (s664.2.2.2 _ _ (s643.2.2.2 _ _ (s620.2.2.2 _ _ (s599.2.2.2 _ _ (s579.2.2.2 _ _ (s557.2.2.2 _ _ (s536.2.2.2 _ _ (s515.2.2.2 _ _ (s494.2.2.2 _ _ (s477.2.2.2 _ _ (s457.2.2.2 _ _ (s441.2.2.2 _ _ (s422.2.2.2 _ _ (s405.2.2.2 _ _ (s389.2.2.2 _ _ (s371.2.2.2 _ _ (s355.2.2.2 _ _ (s340.2.2.2 _ _ (s323.2.2.2 _ _ (Q322 p k hr hp))))))))))))))))))))))))))))))))))))))
  · exact s1176.2.2.2 _ _ (s1147.2.2.2 _ _ (s1118.2.2.2 _ _ (s1091.2.2.2 _ _ (s1062.2.2.2 _ _ (s1036.2.2.2 _ _ (s1008.2.2.2 _ _ (s983.2.2.2 _ _ (s958.2.2.2 _ _ (s929.2.2.2 _ _ (s901.2.2.2 _ _ (s873.2.2.2 _ _ (s847.2.2.2 _ _ (s819.2.2.2 _ _ (s794.2.2.2 _ _ (s767.2.2.2 _ _ (s743.2.2.2 _ _ (s719.2.2.2 _ _ (s686.2.2.2 _ _ (s664.2.2.2 _ _ (s643.2.2.2 _ _ (s620.2.2.2 _ _ (s599.2.2.2 _ _ (s579.2.2.2 _ _ (s557.2.2.2 _ _ (s536.2.2.2 _ _ (s515.2.2.2 _ _ (s494.2.2.2 _ _ (s477.2.2.2 _ _ (s457.2.2.2 _ _ (s441.2.2.2 _ _ (s422.2.2.2 _ _ (s405.2.2.2 _ _ (s389.2.2.2 _ _ (s371.2.2.2 _ _ (Q370 p k hr hp)))))))))))))))))))))))))))))))))))
  · exact s1176.2.2.2 _ _ (s1147.2.2.2 _ _ (s1118.2.2.2 _ _ (s1091.2.2.2 _ _ (s1062.2.2.2 _ _ (s1036.2.2.2 _ _ (s1008.2.2.2 _ _ (s983.2.2.2 _ _ (s958.2.2.2 _ _ (s929.2.2.2 _ _ (s901.2.2.2 _ _ (s873.2.2.2 _ _ (s847.2.2.2 _ _ (s819.2.2.2 _ _ (s794.2.2.2 _ _ (s767.2.2.2 _ _ (s743.2.2.2 _ _ (s719.2.2.2 _ _ (s686.2.2.2 _ _ (s664.2.2.2 _ _ (s643.2.2.2 _ _ (s620.2.2.2 _ _ (s599.2.2.2 _ _ (s579.2.2.2 _ _ (s557.2.2.2 _ _ (s536.2.2.2 _ _ (s515.2.2.2 _ _ (s494.2.2.2 _ _ (s477.2.2.2 _ _ (s457.2.2.2 _ _ (s441.2.2.2 _ _ (s422.2.2.2 _ _ (Q421 p k hr hp))))))))))))))))))))))))))))))))
  · subst hp
    have h1 := isR_q (by decide +kernel : sK 95 = 16) (by decide) hr
    have h3 : ∀ k, k < sLen 95 → k = 0 ∨ k = 1 := by decide +kernel
    rcases h3 k h1 with rfl | rfl
    · exact f1199
    · exact f1178
  · subst hp
    exact absurd hr (fun h => isR_a (ci := 15) (by decide +kernel) (by decide) h)
  · exact s1176.2.2.2 _ _ (s1147.2.2.2 _ _ (s1118.2.2.2 _ _ (s1091.2.2.2 _ _ (s1062.2.2.2 _ _ (s1036.2.2.2 _ _ (s1008.2.2.2 _ _ (s983.2.2.2 _ _ (s958.2.2.2 _ _ (s929.2.2.2 _ _ (s901.2.2.2 _ _ (s873.2.2.2 _ _ (s847.2.2.2 _ _ (s819.2.2.2 _ _ (s794.2.2.2 _ _ (s767.2.2.2 _ _ (s743.2.2.2 _ _ (s719.2.2.2 _ _ (s686.2.2.2 _ _ (s664.2.2.2 _ _ (s643.2.2.2 _ _ (s620.2.2.2 _ _ (s599.2.2.2 _ _ (s579.2.2.2 _ _ (s557.2.2.2 _ _ (Q556 p k hr hp)))))))))))))))))))))))))
  · exact s1176.2.2.2 _ _ (s1147.2.2.2 _ _ (s1118.2.2.2 _ _ (s1091.2.2.2 _ _ (s1062.2.2.2 _ _ (s1036.2.2.2 _ _ (s1008.2.2.2 _ _ (s983.2.2.2 _ _ (s958.2.2.2 _ _ (s929.2.2.2 _ _ (s901.2.2.2 _ _ (s873.2.2.2 _ _ (s847.2.2.2 _ _ (s819.2.2.2 _ _ (s794.2.2.2 _ _ (s767.2.2.2 _ _ (s743.2.2.2 _ _ (s719.2.2.2 _ _ (s686.2.2.2 _ _ (s664.2.2.2 _ _ (s643.2.2.2 _ _ (s620.2.2.2 _ _ (Q619 p k hr hp))))))))))))))))))))))
  · exact s1176.2.2.2 _ _ (s1147.2.2.2 _ _ (s1118.2.2.2 _ _ (s1091.2.2.2 _ _ (s1062.2.2.2 _ _ (s1036.2.2.2 _ _ (s1008.2.2.2 _ _ (s983.2.2.2 _ _ (s958.2.2.2 _ _ (s929.2.2.2 _ _ (s901.2.2.2 _ _ (s873.2.2.2 _ _ (s847.2.2.2 _ _ (s819.2.2.2 _ _ (s794.2.2.2 _ _ (s767.2.2.2 _ _ (s743.2.2.2 _ _ (s719.2.2.2 _ _ (s686.2.2.2 _ _ (Q685 p k hr hp)))))))))))))))))))
  · exact s1176.2.2.2 _ _ (s1147.2.2.2 _ _ (s1118.2.2.2 _ _ (s1091.2.2.2 _ _ (s1062.2.2.2 _ _ (s1036.2.2.2 _ _ (s1008.2.2.2 _ _ (s983.2.2.2 _ _ (s958.2.2.2 _ _ (s929.2.2.2 _ _ (s901.2.2.2 _ _ (s873.2.2.2 _ _ (s847.2.2.2 _ _ (s819.2.2.2 _ _ (s794.2.2.2 _ _ (Q791 p k hr hp)))))))))))))))
  · exact s1176.2.2.2 _ _ (s1147.2.2.2 _ _ (s1118.2.2.2 _ _ (s1091.2.2.2 _ _ (s1062.2.2.2 _ _ (s1036.2.2.2 _ _ (s1008.2.2.2 _ _ (s983.2.2.2 _ _ (s958.2.2.2 _ _ (s929.2.2.2 _ _ (s901.2.2.2 _ _ (s873.2.2.2 _ _ (s847.2.2.2 _ _ (Q844 p k hr hp)))))))))))))
  · exact s1176.2.2.2 _ _ (s1147.2.2.2 _ _ (s1118.2.2.2 _ _ (s1091.2.2.2 _ _ (s1062.2.2.2 _ _ (s1036.2.2.2 _ _ (s1008.2.2.2 _ _ (s983.2.2.2 _ _ (s958.2.2.2 _ _ (s929.2.2.2 _ _ (s901.2.2.2 _ _ (Q899 p k hr hp)))))))))))
  · exact s1176.2.2.2 _ _ (s1147.2.2.2 _ _ (s1118.2.2.2 _ _ (s1091.2.2.2 _ _ (s1062.2.2.2 _ _ (s1036.2.2.2 _ _ (s1008.2.2.2 _ _ (s983.2.2.2 _ _ (s958.2.2.2 _ _ (s929.2.2.2 _ _ (Q927 p k hr hp))))))))))
  · exact s1176.2.2.2 _ _ (s1147.2.2.2 _ _ (s1118.2.2.2 _ _ (s1091.2.2.2 _ _ (s1062.2.2.2 _ _ (s1036.2.2.2 _ _ (Q1033 p k hr hp))))))
  · exact s1176.2.2.2 _ _ (s1147.2.2.2 _ _ (s1118.2.2.2 _ _ (s1091.2.2.2 _ _ (Q1088 p k hr hp))))
  · exact s1176.2.2.2 _ _ (s1147.2.2.2 _ _ (Q1145 p k hr hp))
  · exact s1176.2.2.2 _ _ (Q1174 p k hr hp)
