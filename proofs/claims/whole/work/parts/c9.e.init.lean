theorem spl_X8 {p q N : Nat} (h : p = q ∨ (N ≤ p ∧ p < (N + 3))) : (p = q) ∨ (p = N) ∨ (p = (N + 1)) ∨ (p = (N + 2)) := by omega
def iX8 (q : Nat) (mem : zMem) : zMem := (zup (zup mem q 3 0) q 4 0)
theorem kZ_X8 {mem : zMem} {q M : Nat} (h : kZ mem M) (hq : q < M) : kZ (iX8 q mem) M := by
  unfold iX8
  exact (kZ_up (kZ_up h (by omega)) (by omega))
set_option maxHeartbeats 4000000 in
theorem K_X8 (l : Launch) {Γ : zG} {q N : Nat} {a : Nat} {mem : zMem} (hq : q < N) (k_N : sK N = 13) (l_N : sLen N = 40) (k_q : sK q = 8) (r_q_0 : sRf q 0 = N) (k_N_1 : sK (N + 1) = 13) (l_N_1 : sLen (N + 1) = 40) (r_q_1 : sRf q 1 = (N + 1)) (k_N_2 : sK (N + 2) = 13) (l_N_2 : sLen (N + 2) = 20) (r_q_2 : sRf q 2 = (N + 2)) (hN : gN Γ = N) (ha : gD Γ q = a) (hz : kZ mem N) : kMet l yX8_init cX8_init 1 1 3 100 Γ q (N + 3) [.ref a] mem (iX8 q mem) := by
  refine kMet_of (own := "ShadowHeirs$Sentence") (by decide) rfl rfl (Nat.le_of_ble_eq_true rfl) (fun X C Z => ?_)
  have hR := kRt_R Z
  have hl0 : X.2.1 = l := kRt_l Z
  show zg (kX X 0 0) Γ 1 0 [(0, .ref a)] [] mem
  refine zg_j (zj_aload_n (j := 0) (i := 0) C.1 rfl 0 rfl dX8_init_0 (j_zg ?_))
  refine kg_obj C (by rw [hR]; exact ⟨by decide, by simp [kRm, Value.category]⟩) moi_X8_3 oi_1 oi_2 dX8_init_1 ?_
  refine zg_j (zj_aload_n (j := 0) (i := 0) C.1 rfl 0 rfl dX8_init_4 (j_zg ?_))
  refine zg_j (zj_bipush C.1 40 rfl dX8_init_5 (j_zg ?_))
  refine kg_newI C hN k_N (L := 40) l_N (by decide) (by decide) (fun j => hz _ j (Nat.le_refl _)) (by rw [hR]; exact ⟨by decide, by decide⟩) arc_int dX8_init_7 (fun Γ1 a2 s3 n4 e5 C => ?_)
  have z6 : kZ mem (N + 1) := kZ_le hz (Nat.le_succ _)
  have t7 := kS_t (kS_r Γ) s3
  have e8 : gD Γ1 q = a := (s3.2.2.1 q (by rw [hN]; exact hq)).trans ha
  refine kg_putR C (by rw [n4]; exact (Nat.lt_of_lt_of_le hq (Nat.le_add_right _ _))) k_q e8 fl_X8_11 klk_X8_11 rfl kfin_8_0 (by rw [r_q_0, n4]; exact (Nat.lt_add_of_pos_right (by decide))) (by rw [r_q_0]; exact e5) dX8_init_9 (fun Γ12 s9 n10 f11 C => ?_)
  have n13 : gN Γ12 = (N + 1) := n10.trans n4
  have t14 := kS_t t7 s9
  have e15 : gD Γ12 q = a := (s9.2.2.1 q (by rw [n4]; exact (Nat.lt_of_lt_of_le hq (Nat.le_add_right _ _)))).trans e8
  have e16 : gD Γ12 N = a2 := (s9.2.2.1 N (by rw [n4]; exact (Nat.lt_add_of_pos_right (by decide)))).trans e5
  refine zg_j (zj_aload_n (j := 0) (i := 0) C.1 rfl 0 rfl dX8_init_12 (j_zg ?_))
  refine zg_j (zj_bipush C.1 40 rfl dX8_init_13 (j_zg ?_))
  refine kg_newI C n13 k_N_1 (L := 40) l_N_1 (by decide) (by decide) (fun j => z6 _ j (Nat.le_refl _)) (by rw [hR]; exact ⟨by decide, by decide⟩) arc_int dX8_init_15 (fun Γ17 a18 s19 n20 e21 C => ?_)
  have z22 : kZ mem (N + 2) := kZ_le z6 (Nat.le_succ _)
  have n23 : gN Γ17 = (N + 2) := n20
  have t24 := kS_t t14 s19
  have e25 : gD Γ17 q = a := (s19.2.2.1 q (by rw [n13]; exact (Nat.lt_of_lt_of_le hq (Nat.le_add_right _ _)))).trans e15
  have f26 := s19.2.2.2 _ _ f11
  refine kg_putR C (by rw [n23]; exact (Nat.lt_of_lt_of_le hq (Nat.le_add_right _ _))) k_q e25 fl_X8_15 klk_X8_15 rfl kfin_8_1 (by rw [r_q_1, n23]; exact (Nat.add_lt_add_left (by decide) _)) (by rw [r_q_1]; exact e21) dX8_init_17 (fun Γ30 s27 n28 f29 C => ?_)
  have n31 : gN Γ30 = (N + 2) := n28.trans n23
  have t32 := kS_t t24 s27
  have e33 : gD Γ30 q = a := (s27.2.2.1 q (by rw [n23]; exact (Nat.lt_of_lt_of_le hq (Nat.le_add_right _ _)))).trans e25
  have e34 : gD Γ30 (N + 1) = a18 := (s27.2.2.1 (N + 1) (by rw [n23]; exact (Nat.add_lt_add_left (by decide) _))).trans e21
  have f35 := s27.2.2.2 _ _ f26
  refine zg_j (zj_aload_n (j := 0) (i := 0) C.1 rfl 0 rfl dX8_init_20 (j_zg ?_))
  refine zg_j (zj_bipush C.1 20 rfl dX8_init_21 (j_zg ?_))
  refine kg_newI C n31 k_N_2 (L := 20) l_N_2 (by decide) (by decide) (fun j => z22 _ j (Nat.le_refl _)) (by rw [hR]; exact ⟨by decide, by decide⟩) arc_int dX8_init_23 (fun Γ36 a37 s38 n39 e40 C => ?_)
  have z41 : kZ mem (N + 3) := kZ_le z22 (Nat.le_succ _)
  have n42 : gN Γ36 = (N + 3) := n39
  have t43 := kS_t t32 s38
  have e44 : gD Γ36 q = a := (s38.2.2.1 q (by rw [n31]; exact (Nat.lt_of_lt_of_le hq (Nat.le_add_right _ _)))).trans e33
  have f45 := s38.2.2.2 _ _ f35
  have f46 := s38.2.2.2 _ _ f29
  refine kg_putR C (by rw [n42]; exact (Nat.lt_of_lt_of_le hq (Nat.le_add_right _ _))) k_q e44 fl_X8_18 klk_X8_18 rfl kfin_8_2 (by rw [r_q_2, n42]; exact (Nat.add_lt_add_left (by decide) _)) (by rw [r_q_2]; exact e40) dX8_init_25 (fun Γ50 s47 n48 f49 C => ?_)
  have n51 : gN Γ50 = (N + 3) := n48.trans n42
  have t52 := kS_t t43 s47
  have e53 : gD Γ50 q = a := (s47.2.2.1 q (by rw [n42]; exact (Nat.lt_of_lt_of_le hq (Nat.le_add_right _ _)))).trans e44
  have e54 : gD Γ50 (N + 2) = a37 := (s47.2.2.1 (N + 2) (by rw [n42]; exact (Nat.add_lt_add_left (by decide) _))).trans e40
  have f55 := s47.2.2.2 _ _ f45
  have f56 := s47.2.2.2 _ _ f46
  refine zg_j (zj_aload_n (j := 0) (i := 0) C.1 rfl 0 rfl dX8_init_28 (j_zg ?_))
  refine zg_j (zj_iconst C.1 0 dX8_init_29 (j_zg ?_))
  refine kg_putI (k := 3) C 3 rfl (by rw [n51]; exact (Nat.lt_of_lt_of_le hq (Nat.le_add_right _ _))) k_q e53 fl_X8_21 rfl fp_8_3 (by decide) dX8_init_30 ?_
  have z57 : kZ (zup mem q 3 0) (N + 3) := kZ_up z41 (Nat.lt_of_lt_of_le hq (Nat.le_add_right _ _))
  refine zg_j (zj_aload_n (j := 0) (i := 0) C.1 rfl 0 rfl dX8_init_33 (j_zg ?_))
  refine zg_j (zj_iconst C.1 0 dX8_init_34 (j_zg ?_))
  refine kg_putI (k := 4) C 4 rfl (by rw [n51]; exact (Nat.lt_of_lt_of_le hq (Nat.le_add_right _ _))) k_q e53 fl_X8_25 rfl fp_8_4 (by decide) dX8_init_35 ?_
  have z58 : kZ (zup (zup mem q 3 0) q 4 0) (N + 3) := kZ_up z57 (Nat.lt_of_lt_of_le hq (Nat.le_add_right _ _))
  refine kg_ret C Z t52 n51 (fun p k hr hp => ?_) ⟨by decide, by decide⟩ dX8_init_38
  rw [hN] at hp
  rcases spl_X8 hp with hp | hp | hp | hp
  · subst hp
    obtain ⟨h1, h2⟩ := isR_o (ci := 8) k_q (by decide) hr
    have h3 : ∀ k, k < sNf 8 → sFk 8 k = 2 → k = 0 ∨ k = 1 ∨ k = 2 := by decide +kernel
    rcases h3 k h1 h2 with rfl | rfl | rfl
    · exact f55
    · exact f56
    · exact f49
  · subst hp
    exact absurd hr (fun h => isR_a (ci := 13) k_N (by decide) h)
  · subst hp
    exact absurd hr (fun h => isR_a (ci := 13) k_N_1 (by decide) h)
  · subst hp
    exact absurd hr (fun h => isR_a (ci := 13) k_N_2 (by decide) h)
