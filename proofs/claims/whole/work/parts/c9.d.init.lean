theorem spl_X7 {p q N : Nat} (h : p = q ∨ (N ≤ p ∧ p < (N + 4))) : (p = q) ∨ (p = N) ∨ (p = (N + 1)) ∨ (p = (N + 2)) ∨ (p = (N + 3)) := by omega
def iX7 (q : Nat) (mem : zMem) : zMem := (zup (zup (zup (zup (zup mem q 4 0) q 5 0) q 6 0) q 7 0) q 8 0)
theorem kZ_X7 {mem : zMem} {q M : Nat} (h : kZ mem M) (hq : q < M) : kZ (iX7 q mem) M := by
  unfold iX7
  exact (kZ_up (kZ_up (kZ_up (kZ_up (kZ_up h (by omega)) (by omega)) (by omega)) (by omega)) (by omega))
set_option maxHeartbeats 4000000 in
theorem K_X7 (l : Launch) {Γ : zG} {q N : Nat} {a : Nat} {mem : zMem} (hq : q < N) (k_N : sK N = 13) (l_N : sLen N = 64) (k_q : sK q = 7) (r_q_0 : sRf q 0 = N) (k_N_1 : sK (N + 1) = 13) (l_N_1 : sLen (N + 1) = 6) (r_q_1 : sRf q 1 = (N + 1)) (k_N_2 : sK (N + 2) = 13) (l_N_2 : sLen (N + 2) = 6) (r_q_2 : sRf q 2 = (N + 2)) (k_N_3 : sK (N + 3) = 13) (l_N_3 : sLen (N + 3) = 5) (r_q_3 : sRf q 3 = (N + 3)) (hN : gN Γ = N) (ha : gD Γ q = a) (hz : kZ mem N) : kMet l yX7_init cX7_init 1 1 4 81 Γ q (N + 4) [.ref a] mem (iX7 q mem) := by
  refine kMet_of (own := "ShadowHeirs$Scene") (by decide) rfl rfl (Nat.le_of_ble_eq_true rfl) (fun X C Z => ?_)
  have hR := kRt_R Z
  have hl0 : X.2.1 = l := kRt_l Z
  show zg (kX X 0 0) Γ 1 0 [(0, .ref a)] [] mem
  refine zg_j (zj_aload_n (j := 0) (i := 0) C.1 rfl 0 rfl dX7_init_0 (j_zg ?_))
  refine kg_obj C (by rw [hR]; exact ⟨by decide, by simp [kRm, Value.category]⟩) moi_X7_3 oi_1 oi_2 dX7_init_1 ?_
  refine zg_j (zj_aload_n (j := 0) (i := 0) C.1 rfl 0 rfl dX7_init_4 (j_zg ?_))
  refine zg_j (zj_bipush C.1 64 rfl dX7_init_5 (j_zg ?_))
  refine kg_newI C hN k_N (L := 64) l_N (by decide) (by decide) (fun j => hz _ j (Nat.le_refl _)) (by rw [hR]; exact ⟨by decide, by decide⟩) arc_int dX7_init_7 (fun Γ1 a2 s3 n4 e5 C => ?_)
  have z6 : kZ mem (N + 1) := kZ_le hz (Nat.le_succ _)
  have t7 := kS_t (kS_r Γ) s3
  have e8 : gD Γ1 q = a := (s3.2.2.1 q (by rw [hN]; exact hq)).trans ha
  refine kg_putR C (by rw [n4]; exact (Nat.lt_of_lt_of_le hq (Nat.le_add_right _ _))) k_q e8 fl_X7_9 klk_X7_9 rfl kfin_7_0 (by rw [r_q_0, n4]; exact (Nat.lt_add_of_pos_right (by decide))) (by rw [r_q_0]; exact e5) dX7_init_9 (fun Γ12 s9 n10 f11 C => ?_)
  have n13 : gN Γ12 = (N + 1) := n10.trans n4
  have t14 := kS_t t7 s9
  have e15 : gD Γ12 q = a := (s9.2.2.1 q (by rw [n4]; exact (Nat.lt_of_lt_of_le hq (Nat.le_add_right _ _)))).trans e8
  have e16 : gD Γ12 N = a2 := (s9.2.2.1 N (by rw [n4]; exact (Nat.lt_add_of_pos_right (by decide)))).trans e5
  refine zg_j (zj_aload_n (j := 0) (i := 0) C.1 rfl 0 rfl dX7_init_12 (j_zg ?_))
  refine zg_j (zj_bipush C.1 6 rfl dX7_init_13 (j_zg ?_))
  refine kg_newI C n13 k_N_1 (L := 6) l_N_1 (by decide) (by decide) (fun j => z6 _ j (Nat.le_refl _)) (by rw [hR]; exact ⟨by decide, by decide⟩) arc_int dX7_init_15 (fun Γ17 a18 s19 n20 e21 C => ?_)
  have z22 : kZ mem (N + 2) := kZ_le z6 (Nat.le_succ _)
  have n23 : gN Γ17 = (N + 2) := n20
  have t24 := kS_t t14 s19
  have e25 : gD Γ17 q = a := (s19.2.2.1 q (by rw [n13]; exact (Nat.lt_of_lt_of_le hq (Nat.le_add_right _ _)))).trans e15
  have f26 := s19.2.2.2 _ _ f11
  refine kg_putR C (by rw [n23]; exact (Nat.lt_of_lt_of_le hq (Nat.le_add_right _ _))) k_q e25 fl_X7_15 klk_X7_15 rfl kfin_7_1 (by rw [r_q_1, n23]; exact (Nat.add_lt_add_left (by decide) _)) (by rw [r_q_1]; exact e21) dX7_init_17 (fun Γ30 s27 n28 f29 C => ?_)
  have n31 : gN Γ30 = (N + 2) := n28.trans n23
  have t32 := kS_t t24 s27
  have e33 : gD Γ30 q = a := (s27.2.2.1 q (by rw [n23]; exact (Nat.lt_of_lt_of_le hq (Nat.le_add_right _ _)))).trans e25
  have e34 : gD Γ30 (N + 1) = a18 := (s27.2.2.1 (N + 1) (by rw [n23]; exact (Nat.add_lt_add_left (by decide) _))).trans e21
  have f35 := s27.2.2.2 _ _ f26
  refine zg_j (zj_aload_n (j := 0) (i := 0) C.1 rfl 0 rfl dX7_init_20 (j_zg ?_))
  refine zg_j (zj_bipush C.1 6 rfl dX7_init_21 (j_zg ?_))
  refine kg_newI C n31 k_N_2 (L := 6) l_N_2 (by decide) (by decide) (fun j => z22 _ j (Nat.le_refl _)) (by rw [hR]; exact ⟨by decide, by decide⟩) arc_int dX7_init_23 (fun Γ36 a37 s38 n39 e40 C => ?_)
  have z41 : kZ mem (N + 3) := kZ_le z22 (Nat.le_succ _)
  have n42 : gN Γ36 = (N + 3) := n39
  have t43 := kS_t t32 s38
  have e44 : gD Γ36 q = a := (s38.2.2.1 q (by rw [n31]; exact (Nat.lt_of_lt_of_le hq (Nat.le_add_right _ _)))).trans e33
  have f45 := s38.2.2.2 _ _ f35
  have f46 := s38.2.2.2 _ _ f29
  refine kg_putR C (by rw [n42]; exact (Nat.lt_of_lt_of_le hq (Nat.le_add_right _ _))) k_q e44 fl_X7_18 klk_X7_18 rfl kfin_7_2 (by rw [r_q_2, n42]; exact (Nat.add_lt_add_left (by decide) _)) (by rw [r_q_2]; exact e40) dX7_init_25 (fun Γ50 s47 n48 f49 C => ?_)
  have n51 : gN Γ50 = (N + 3) := n48.trans n42
  have t52 := kS_t t43 s47
  have e53 : gD Γ50 q = a := (s47.2.2.1 q (by rw [n42]; exact (Nat.lt_of_lt_of_le hq (Nat.le_add_right _ _)))).trans e44
  have e54 : gD Γ50 (N + 2) = a37 := (s47.2.2.1 (N + 2) (by rw [n42]; exact (Nat.add_lt_add_left (by decide) _))).trans e40
  have f55 := s47.2.2.2 _ _ f45
  have f56 := s47.2.2.2 _ _ f46
  refine zg_j (zj_aload_n (j := 0) (i := 0) C.1 rfl 0 rfl dX7_init_28 (j_zg ?_))
  refine zg_j (zj_iconst C.1 5 dX7_init_29 (j_zg ?_))
  refine kg_newI C n51 k_N_3 (L := 5) l_N_3 (by decide) (by decide) (fun j => z41 _ j (Nat.le_refl _)) (by rw [hR]; exact ⟨by decide, by decide⟩) arc_int dX7_init_30 (fun Γ57 a58 s59 n60 e61 C => ?_)
  have z62 : kZ mem (N + 4) := kZ_le z41 (Nat.le_succ _)
  have n63 : gN Γ57 = (N + 4) := n60
  have t64 := kS_t t52 s59
  have e65 : gD Γ57 q = a := (s59.2.2.1 q (by rw [n51]; exact (Nat.lt_of_lt_of_le hq (Nat.le_add_right _ _)))).trans e53
  have f66 := s59.2.2.2 _ _ f55
  have f67 := s59.2.2.2 _ _ f56
  have f68 := s59.2.2.2 _ _ f49
  refine kg_putR C (by rw [n63]; exact (Nat.lt_of_lt_of_le hq (Nat.le_add_right _ _))) k_q e65 fl_X7_21 klk_X7_21 rfl kfin_7_3 (by rw [r_q_3, n63]; exact (Nat.add_lt_add_left (by decide) _)) (by rw [r_q_3]; exact e61) dX7_init_32 (fun Γ72 s69 n70 f71 C => ?_)
  have n73 : gN Γ72 = (N + 4) := n70.trans n63
  have t74 := kS_t t64 s69
  have e75 : gD Γ72 q = a := (s69.2.2.1 q (by rw [n63]; exact (Nat.lt_of_lt_of_le hq (Nat.le_add_right _ _)))).trans e65
  have e76 : gD Γ72 (N + 3) = a58 := (s69.2.2.1 (N + 3) (by rw [n63]; exact (Nat.add_lt_add_left (by decide) _))).trans e61
  have f77 := s69.2.2.2 _ _ f66
  have f78 := s69.2.2.2 _ _ f67
  have f79 := s69.2.2.2 _ _ f68
  refine zg_j (zj_aload_n (j := 0) (i := 0) C.1 rfl 0 rfl dX7_init_35 (j_zg ?_))
  refine zg_j (zj_iconst C.1 0 dX7_init_36 (j_zg ?_))
  refine kg_putI (k := 4) C 4 rfl (by rw [n73]; exact (Nat.lt_of_lt_of_le hq (Nat.le_add_right _ _))) k_q e75 fl_X7_24 rfl fp_7_4 (by decide) dX7_init_37 ?_
  have z80 : kZ (zup mem q 4 0) (N + 4) := kZ_up z62 (Nat.lt_of_lt_of_le hq (Nat.le_add_right _ _))
  refine zg_j (zj_aload_n (j := 0) (i := 0) C.1 rfl 0 rfl dX7_init_40 (j_zg ?_))
  refine zg_j (zj_iconst C.1 0 dX7_init_41 (j_zg ?_))
  refine kg_putI (k := 5) C 5 rfl (by rw [n73]; exact (Nat.lt_of_lt_of_le hq (Nat.le_add_right _ _))) k_q e75 fl_X7_28 rfl fp_7_5 (by decide) dX7_init_42 ?_
  have z81 : kZ (zup (zup mem q 4 0) q 5 0) (N + 4) := kZ_up z80 (Nat.lt_of_lt_of_le hq (Nat.le_add_right _ _))
  refine zg_j (zj_aload_n (j := 0) (i := 0) C.1 rfl 0 rfl dX7_init_45 (j_zg ?_))
  refine zg_j (zj_iconst C.1 0 dX7_init_46 (j_zg ?_))
  refine kg_putI (k := 6) C 6 rfl (by rw [n73]; exact (Nat.lt_of_lt_of_le hq (Nat.le_add_right _ _))) k_q e75 fl_X7_31 rfl fp_7_6 (by decide) dX7_init_47 ?_
  have z82 : kZ (zup (zup (zup mem q 4 0) q 5 0) q 6 0) (N + 4) := kZ_up z81 (Nat.lt_of_lt_of_le hq (Nat.le_add_right _ _))
  refine zg_j (zj_aload_n (j := 0) (i := 0) C.1 rfl 0 rfl dX7_init_50 (j_zg ?_))
  refine zg_j (zj_iconst C.1 0 dX7_init_51 (j_zg ?_))
  refine kg_putI (k := 7) C 7 rfl (by rw [n73]; exact (Nat.lt_of_lt_of_le hq (Nat.le_add_right _ _))) k_q e75 fl_X7_34 rfl fp_7_7 (by decide) dX7_init_52 ?_
  have z83 : kZ (zup (zup (zup (zup mem q 4 0) q 5 0) q 6 0) q 7 0) (N + 4) := kZ_up z82 (Nat.lt_of_lt_of_le hq (Nat.le_add_right _ _))
  refine zg_j (zj_aload_n (j := 0) (i := 0) C.1 rfl 0 rfl dX7_init_55 (j_zg ?_))
  refine zg_j (zj_iconst C.1 0 dX7_init_56 (j_zg ?_))
  refine kg_putI (k := 8) C 8 rfl (by rw [n73]; exact (Nat.lt_of_lt_of_le hq (Nat.le_add_right _ _))) k_q e75 fl_X7_37 rfl fp_7_8 (by decide) dX7_init_57 ?_
  have z84 : kZ (zup (zup (zup (zup (zup mem q 4 0) q 5 0) q 6 0) q 7 0) q 8 0) (N + 4) := kZ_up z83 (Nat.lt_of_lt_of_le hq (Nat.le_add_right _ _))
  refine kg_ret C Z t74 n73 (fun p k hr hp => ?_) ⟨by decide, by decide⟩ dX7_init_60
  rw [hN] at hp
  rcases spl_X7 hp with hp | hp | hp | hp | hp
  · subst hp
    obtain ⟨h1, h2⟩ := isR_o (ci := 7) k_q (by decide) hr
    have h3 : ∀ k, k < sNf 7 → sFk 7 k = 2 → k = 0 ∨ k = 1 ∨ k = 2 ∨ k = 3 := by decide +kernel
    rcases h3 k h1 h2 with rfl | rfl | rfl | rfl
    · exact f77
    · exact f78
    · exact f79
    · exact f71
  · subst hp
    exact absurd hr (fun h => isR_a (ci := 13) k_N (by decide) h)
  · subst hp
    exact absurd hr (fun h => isR_a (ci := 13) k_N_1 (by decide) h)
  · subst hp
    exact absurd hr (fun h => isR_a (ci := 13) k_N_2 (by decide) h)
  · subst hp
    exact absurd hr (fun h => isR_a (ci := 13) k_N_3 (by decide) h)
