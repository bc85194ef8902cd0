theorem spl_X5 {p q N : Nat} (h : p = q ∨ (N ≤ p ∧ p < (N + 6))) : (p = q) ∨ (p = N) ∨ (p = (N + 1)) ∨ (p = (N + 2)) ∨ (p = (N + 3)) ∨ (p = (N + 4)) ∨ (p = (N + 5)) := by omega
def iX5 (q : Nat) (mem : zMem) : zMem := (zup (zup (zup (zup (zup mem q 0 5) q 1 5) q 2 0) q 3 0) q 4 0)
theorem kZ_X5 {mem : zMem} {q M : Nat} (h : kZ mem M) (hq : q < M) : kZ (iX5 q mem) M := by
  unfold iX5
  exact (kZ_up (kZ_up (kZ_up (kZ_up (kZ_up h (by omega)) (by omega)) (by omega)) (by omega)) (by omega))
set_option maxHeartbeats 4000000 in
theorem K_X5 (l : Launch) {Γ : zG} {q N : Nat} {a : Nat} {mem : zMem} (hq : q < N) (k_q : sK q = 5) (k_N : sK N = 13) (l_N : sLen N = 5) (r_q_5 : sRf q 5 = N) (k_N_1 : sK (N + 1) = 13) (l_N_1 : sLen (N + 1) = 5) (r_q_6 : sRf q 6 = (N + 1)) (k_N_2 : sK (N + 2) = 14) (l_N_2 : sLen (N + 2) = 5) (r_q_7 : sRf q 7 = (N + 2)) (k_N_3 : sK (N + 3) = 14) (l_N_3 : sLen (N + 3) = 6) (r_q_8 : sRf q 8 = (N + 3)) (k_N_4 : sK (N + 4) = 13) (l_N_4 : sLen (N + 4) = 8) (r_q_9 : sRf q 9 = (N + 4)) (k_N_5 : sK (N + 5) = 13) (l_N_5 : sLen (N + 5) = 8) (r_q_10 : sRf q 10 = (N + 5)) (hN : gN Γ = N) (ha : gD Γ q = a) (hz : kZ mem N) : kMet l yX5_init cX5_init 1 1 6 37 Γ q (N + 6) [.ref a] mem (iX5 q mem) := by
  refine kMet_of (own := "ShadowHeirs$Plan") (by decide) rfl rfl (Nat.le_of_ble_eq_true rfl) (fun X C Z => ?_)
  have hR := kRt_R Z
  have hl0 : X.2.1 = l := kRt_l Z
  show zg (kX X 0 0) Γ 1 0 [(0, .ref a)] [] mem
  refine zg_j (zj_aload_n (j := 0) (i := 0) C.1 rfl 0 rfl dX5_init_0 (j_zg ?_))
  refine kg_obj C (by rw [hR]; exact ⟨by decide, by simp [kRm, Value.category]⟩) moi_X5_3 oi_1 oi_2 dX5_init_1 ?_
  refine zg_j (zj_aload_n (j := 0) (i := 0) C.1 rfl 0 rfl dX5_init_4 (j_zg ?_))
  refine zg_j (zj_iconst C.1 5 dX5_init_5 (j_zg ?_))
  refine kg_putI (k := 0) C 0 rfl (by rw [hN]; exact hq) k_q ha fl_X5_11 rfl fp_5_0 (by decide) dX5_init_6 ?_
  have z1 : kZ (zup mem q 0 5) N := kZ_up hz hq
  refine zg_j (zj_aload_n (j := 0) (i := 0) C.1 rfl 0 rfl dX5_init_9 (j_zg ?_))
  refine zg_j (zj_iconst C.1 5 dX5_init_10 (j_zg ?_))
  refine kg_putI (k := 1) C 1 rfl (by rw [hN]; exact hq) k_q ha fl_X5_15 rfl fp_5_1 (by decide) dX5_init_11 ?_
  have z2 : kZ (zup (zup mem q 0 5) q 1 5) N := kZ_up z1 hq
  refine zg_j (zj_aload_n (j := 0) (i := 0) C.1 rfl 0 rfl dX5_init_14 (j_zg ?_))
  refine zg_j (zj_iconst C.1 0 dX5_init_15 (j_zg ?_))
  refine kg_putI (k := 2) C 2 rfl (by rw [hN]; exact hq) k_q ha fl_X5_18 rfl fp_5_2 (by decide) dX5_init_16 ?_
  have z3 : kZ (zup (zup (zup mem q 0 5) q 1 5) q 2 0) N := kZ_up z2 hq
  refine zg_j (zj_aload_n (j := 0) (i := 0) C.1 rfl 0 rfl dX5_init_19 (j_zg ?_))
  refine zg_j (zj_iconst C.1 0 dX5_init_20 (j_zg ?_))
  refine kg_putI (k := 3) C 3 rfl (by rw [hN]; exact hq) k_q ha fl_X5_21 rfl fp_5_3 (by decide) dX5_init_21 ?_
  have z4 : kZ (zup (zup (zup (zup mem q 0 5) q 1 5) q 2 0) q 3 0) N := kZ_up z3 hq
  refine zg_j (zj_aload_n (j := 0) (i := 0) C.1 rfl 0 rfl dX5_init_24 (j_zg ?_))
  refine zg_j (zj_iconst C.1 0 dX5_init_25 (j_zg ?_))
  refine kg_putI (k := 4) C 4 rfl (by rw [hN]; exact hq) k_q ha fl_X5_24 rfl fp_5_4 (by decide) dX5_init_26 ?_
  have z5 : kZ (zup (zup (zup (zup (zup mem q 0 5) q 1 5) q 2 0) q 3 0) q 4 0) N := kZ_up z4 hq
  refine zg_j (zj_aload_n (j := 0) (i := 0) C.1 rfl 0 rfl dX5_init_29 (j_zg ?_))
  refine zg_j (zj_iconst C.1 5 dX5_init_30 (j_zg ?_))
  refine kg_newI C hN k_N (L := 5) l_N (by decide) (by decide) (fun j => z5 _ j (Nat.le_refl _)) (by rw [hR]; exact ⟨by decide, by decide⟩) arc_int dX5_init_31 (fun Γ6 a7 s8 n9 e10 C => ?_)
  have z11 : kZ (zup (zup (zup (zup (zup mem q 0 5) q 1 5) q 2 0) q 3 0) q 4 0) (N + 1) := kZ_le z5 (Nat.le_succ _)
  have t12 := kS_t (kS_r Γ) s8
  have e13 : gD Γ6 q = a := (s8.2.2.1 q (by rw [hN]; exact hq)).trans ha
  refine kg_putR C (by rw [n9]; exact (Nat.lt_of_lt_of_le hq (Nat.le_add_right _ _))) k_q e13 fl_X5_27 klk_X5_27 rfl kfin_5_5 (by rw [r_q_5, n9]; exact (Nat.lt_add_of_pos_right (by decide))) (by rw [r_q_5]; exact e10) dX5_init_33 (fun Γ17 s14 n15 f16 C => ?_)
  have n18 : gN Γ17 = (N + 1) := n15.trans n9
  have t19 := kS_t t12 s14
  have e20 : gD Γ17 q = a := (s14.2.2.1 q (by rw [n9]; exact (Nat.lt_of_lt_of_le hq (Nat.le_add_right _ _)))).trans e13
  have e21 : gD Γ17 N = a7 := (s14.2.2.1 N (by rw [n9]; exact (Nat.lt_add_of_pos_right (by decide)))).trans e10
  refine zg_j (zj_aload_n (j := 0) (i := 0) C.1 rfl 0 rfl dX5_init_36 (j_zg ?_))
  refine zg_j (zj_iconst C.1 5 dX5_init_37 (j_zg ?_))
  refine kg_newI C n18 k_N_1 (L := 5) l_N_1 (by decide) (by decide) (fun j => z11 _ j (Nat.le_refl _)) (by rw [hR]; exact ⟨by decide, by decide⟩) arc_int dX5_init_38 (fun Γ22 a23 s24 n25 e26 C => ?_)
  have z27 : kZ (zup (zup (zup (zup (zup mem q 0 5) q 1 5) q 2 0) q 3 0) q 4 0) (N + 2) := kZ_le z11 (Nat.le_succ _)
  have n28 : gN Γ22 = (N + 2) := n25
  have t29 := kS_t t19 s24
  have e30 : gD Γ22 q = a := (s24.2.2.1 q (by rw [n18]; exact (Nat.lt_of_lt_of_le hq (Nat.le_add_right _ _)))).trans e20
  have f31 := s24.2.2.2 _ _ f16
  refine kg_putR C (by rw [n28]; exact (Nat.lt_of_lt_of_le hq (Nat.le_add_right _ _))) k_q e30 fl_X5_31 klk_X5_31 rfl kfin_5_6 (by rw [r_q_6, n28]; exact (Nat.add_lt_add_left (by decide) _)) (by rw [r_q_6]; exact e26) dX5_init_40 (fun Γ35 s32 n33 f34 C => ?_)
  have n36 : gN Γ35 = (N + 2) := n33.trans n28
  have t37 := kS_t t29 s32
  have e38 : gD Γ35 q = a := (s32.2.2.1 q (by rw [n28]; exact (Nat.lt_of_lt_of_le hq (Nat.le_add_right _ _)))).trans e30
  have e39 : gD Γ35 (N + 1) = a23 := (s32.2.2.1 (N + 1) (by rw [n28]; exact (Nat.add_lt_add_left (by decide) _))).trans e26
  have f40 := s32.2.2.2 _ _ f31
  refine zg_j (zj_aload_n (j := 0) (i := 0) C.1 rfl 0 rfl dX5_init_43 (j_zg ?_))
  refine zg_j (zj_iconst C.1 5 dX5_init_44 (j_zg ?_))
  refine kg_newL C n36 k_N_2 (L := 5) l_N_2 (by decide) (by decide) (fun j => z27 _ j (Nat.le_refl _)) (by rw [hR]; exact ⟨by decide, by decide⟩) arc_long dX5_init_45 (fun Γ41 a42 s43 n44 e45 C => ?_)
  have z46 : kZ (zup (zup (zup (zup (zup mem q 0 5) q 1 5) q 2 0) q 3 0) q 4 0) (N + 3) := kZ_le z27 (Nat.le_succ _)
  have n47 : gN Γ41 = (N + 3) := n44
  have t48 := kS_t t37 s43
  have e49 : gD Γ41 q = a := (s43.2.2.1 q (by rw [n36]; exact (Nat.lt_of_lt_of_le hq (Nat.le_add_right _ _)))).trans e38
  have f50 := s43.2.2.2 _ _ f40
  have f51 := s43.2.2.2 _ _ f34
  refine kg_putR C (by rw [n47]; exact (Nat.lt_of_lt_of_le hq (Nat.le_add_right _ _))) k_q e49 fl_X5_34 klk_X5_34 rfl kfin_5_7 (by rw [r_q_7, n47]; exact (Nat.add_lt_add_left (by decide) _)) (by rw [r_q_7]; exact e45) dX5_init_47 (fun Γ55 s52 n53 f54 C => ?_)
  have n56 : gN Γ55 = (N + 3) := n53.trans n47
  have t57 := kS_t t48 s52
  have e58 : gD Γ55 q = a := (s52.2.2.1 q (by rw [n47]; exact (Nat.lt_of_lt_of_le hq (Nat.le_add_right _ _)))).trans e49
  have e59 : gD Γ55 (N + 2) = a42 := (s52.2.2.1 (N + 2) (by rw [n47]; exact (Nat.add_lt_add_left (by decide) _))).trans e45
  have f60 := s52.2.2.2 _ _ f50
  have f61 := s52.2.2.2 _ _ f51
  refine zg_j (zj_aload_n (j := 0) (i := 0) C.1 rfl 0 rfl dX5_init_50 (j_zg ?_))
  refine zg_j (zj_bipush C.1 6 rfl dX5_init_51 (j_zg ?_))
  refine kg_newL C n56 k_N_3 (L := 6) l_N_3 (by decide) (by decide) (fun j => z46 _ j (Nat.le_refl _)) (by rw [hR]; exact ⟨by decide, by decide⟩) arc_long dX5_init_53 (fun Γ62 a63 s64 n65 e66 C => ?_)
  have z67 : kZ (zup (zup (zup (zup (zup mem q 0 5) q 1 5) q 2 0) q 3 0) q 4 0) (N + 4) := kZ_le z46 (Nat.le_succ _)
  have n68 : gN Γ62 = (N + 4) := n65
  have t69 := kS_t t57 s64
  have e70 : gD Γ62 q = a := (s64.2.2.1 q (by rw [n56]; exact (Nat.lt_of_lt_of_le hq (Nat.le_add_right _ _)))).trans e58
  have f71 := s64.2.2.2 _ _ f60
  have f72 := s64.2.2.2 _ _ f61
  have f73 := s64.2.2.2 _ _ f54
  refine kg_putR C (by rw [n68]; exact (Nat.lt_of_lt_of_le hq (Nat.le_add_right _ _))) k_q e70 fl_X5_38 klk_X5_38 rfl kfin_5_8 (by rw [r_q_8, n68]; exact (Nat.add_lt_add_left (by decide) _)) (by rw [r_q_8]; exact e66) dX5_init_55 (fun Γ77 s74 n75 f76 C => ?_)
  have n78 : gN Γ77 = (N + 4) := n75.trans n68
  have t79 := kS_t t69 s74
  have e80 : gD Γ77 q = a := (s74.2.2.1 q (by rw [n68]; exact (Nat.lt_of_lt_of_le hq (Nat.le_add_right _ _)))).trans e70
  have e81 : gD Γ77 (N + 3) = a63 := (s74.2.2.1 (N + 3) (by rw [n68]; exact (Nat.add_lt_add_left (by decide) _))).trans e66
  have f82 := s74.2.2.2 _ _ f71
  have f83 := s74.2.2.2 _ _ f72
  have f84 := s74.2.2.2 _ _ f73
  refine zg_j (zj_aload_n (j := 0) (i := 0) C.1 rfl 0 rfl dX5_init_58 (j_zg ?_))
  refine zg_j (zj_bipush C.1 8 rfl dX5_init_59 (j_zg ?_))
  refine kg_newI C n78 k_N_4 (L := 8) l_N_4 (by decide) (by decide) (fun j => z67 _ j (Nat.le_refl _)) (by rw [hR]; exact ⟨by decide, by decide⟩) arc_int dX5_init_61 (fun Γ85 a86 s87 n88 e89 C => ?_)
  have z90 : kZ (zup (zup (zup (zup (zup mem q 0 5) q 1 5) q 2 0) q 3 0) q 4 0) (N + 5) := kZ_le z67 (Nat.le_succ _)
  have n91 : gN Γ85 = (N + 5) := n88
  have t92 := kS_t t79 s87
  have e93 : gD Γ85 q = a := (s87.2.2.1 q (by rw [n78]; exact (Nat.lt_of_lt_of_le hq (Nat.le_add_right _ _)))).trans e80
  have f94 := s87.2.2.2 _ _ f82
  have f95 := s87.2.2.2 _ _ f83
  have f96 := s87.2.2.2 _ _ f84
  have f97 := s87.2.2.2 _ _ f76
  refine kg_putR C (by rw [n91]; exact (Nat.lt_of_lt_of_le hq (Nat.le_add_right _ _))) k_q e93 fl_X5_41 klk_X5_41 rfl kfin_5_9 (by rw [r_q_9, n91]; exact (Nat.add_lt_add_left (by decide) _)) (by rw [r_q_9]; exact e89) dX5_init_63 (fun Γ101 s98 n99 f100 C => ?_)
  have n102 : gN Γ101 = (N + 5) := n99.trans n91
  have t103 := kS_t t92 s98
  have e104 : gD Γ101 q = a := (s98.2.2.1 q (by rw [n91]; exact (Nat.lt_of_lt_of_le hq (Nat.le_add_right _ _)))).trans e93
  have e105 : gD Γ101 (N + 4) = a86 := (s98.2.2.1 (N + 4) (by rw [n91]; exact (Nat.add_lt_add_left (by decide) _))).trans e89
  have f106 := s98.2.2.2 _ _ f94
  have f107 := s98.2.2.2 _ _ f95
  have f108 := s98.2.2.2 _ _ f96
  have f109 := s98.2.2.2 _ _ f97
  refine zg_j (zj_aload_n (j := 0) (i := 0) C.1 rfl 0 rfl dX5_init_66 (j_zg ?_))
  refine zg_j (zj_bipush C.1 8 rfl dX5_init_67 (j_zg ?_))
  refine kg_newI C n102 k_N_5 (L := 8) l_N_5 (by decide) (by decide) (fun j => z90 _ j (Nat.le_refl _)) (by rw [hR]; exact ⟨by decide, by decide⟩) arc_int dX5_init_69 (fun Γ110 a111 s112 n113 e114 C => ?_)
  have z115 : kZ (zup (zup (zup (zup (zup mem q 0 5) q 1 5) q 2 0) q 3 0) q 4 0) (N + 6) := kZ_le z90 (Nat.le_succ _)
  have n116 : gN Γ110 = (N + 6) := n113
  have t117 := kS_t t103 s112
  have e118 : gD Γ110 q = a := (s112.2.2.1 q (by rw [n102]; exact (Nat.lt_of_lt_of_le hq (Nat.le_add_right _ _)))).trans e104
  have f119 := s112.2.2.2 _ _ f106
  have f120 := s112.2.2.2 _ _ f107
  have f121 := s112.2.2.2 _ _ f108
  have f122 := s112.2.2.2 _ _ f109
  have f123 := s112.2.2.2 _ _ f100
  refine kg_putR C (by rw [n116]; exact (Nat.lt_of_lt_of_le hq (Nat.le_add_right _ _))) k_q e118 fl_X5_44 klk_X5_44 rfl kfin_5_10 (by rw [r_q_10, n116]; exact (Nat.add_lt_add_left (by decide) _)) (by rw [r_q_10]; exact e114) dX5_init_71 (fun Γ127 s124 n125 f126 C => ?_)
  have n128 : gN Γ127 = (N + 6) := n125.trans n116
  have t129 := kS_t t117 s124
  have e130 : gD Γ127 q = a := (s124.2.2.1 q (by rw [n116]; exact (Nat.lt_of_lt_of_le hq (Nat.le_add_right _ _)))).trans e118
  have e131 : gD Γ127 (N + 5) = a111 := (s124.2.2.1 (N + 5) (by rw [n116]; exact (Nat.add_lt_add_left (by decide) _))).trans e114
  have f132 := s124.2.2.2 _ _ f119
  have f133 := s124.2.2.2 _ _ f120
  have f134 := s124.2.2.2 _ _ f121
  have f135 := s124.2.2.2 _ _ f122
  have f136 := s124.2.2.2 _ _ f123
  refine kg_ret C Z t129 n128 (fun p k hr hp => ?_) ⟨by decide, by decide⟩ dX5_init_74
  rw [hN] at hp
  rcases spl_X5 hp with hp | hp | hp | hp | hp | hp | hp
  · subst hp
    obtain ⟨h1, h2⟩ := isR_o (ci := 5) k_q (by decide) hr
    have h3 : ∀ k, k < sNf 5 → sFk 5 k = 2 → k = 5 ∨ k = 6 ∨ k = 7 ∨ k = 8 ∨ k = 9 ∨ k = 10 := by decide +kernel
    rcases h3 k h1 h2 with rfl | rfl | rfl | rfl | rfl | rfl
    · exact f132
    · exact f133
    · exact f134
    · exact f135
    · exact f136
    · exact f126
  · subst hp
    exact absurd hr (fun h => isR_a (ci := 13) k_N (by decide) h)
  · subst hp
    exact absurd hr (fun h => isR_a (ci := 13) k_N_1 (by decide) h)
  · subst hp
    exact absurd hr (fun h => isR_a (ci := 14) k_N_2 (by decide) h)
  · subst hp
    exact absurd hr (fun h => isR_a (ci := 14) k_N_3 (by decide) h)
  · subst hp
    exact absurd hr (fun h => isR_a (ci := 13) k_N_4 (by decide) h)
  · subst hp
    exact absurd hr (fun h => isR_a (ci := 13) k_N_5 (by decide) h)
