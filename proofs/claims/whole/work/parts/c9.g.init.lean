def iX0 (mem : zMem) : zMem := (zup (zup (zup (zup (zup (zup mem 45 4 0) 45 5 0) 45 6 0) 45 7 0) 45 8 0) 45 9 0)
theorem kZ_X0 {mem : zMem} {M : Nat} (h : kZ mem M) (hq : 48 < M) : kZ (iX0 mem) M := by
  unfold iX0
  exact (kZ_up (kZ_up (kZ_up (kZ_up (kZ_up (kZ_up h (by omega)) (by omega)) (by omega)) (by omega)) (by omega)) (by omega))
set_option maxHeartbeats 4000000 in
theorem K_X0 (l : Launch) {Γ : zG} {a : Nat} {b0 : Nat} {mem : zMem}  (hN : gN Γ = 46) (ha : gD Γ 45 = a) (hb0 : gD Γ 1 = b0) (hz : kZ mem 46) : kMet l yX0_init cX0_init 2 1 3 120 Γ 45 49 [.ref a, .ref b0] mem (iX0 mem) := by
  refine kMet_of (own := "ShadowHeirs$Book") (by decide) rfl rfl (Nat.le_of_ble_eq_true rfl) (fun X C Z => ?_)
  have hR := kRt_R Z
  have hl0 : X.2.1 = l := kRt_l Z
  show zg (kX X 0 0) Γ 2 0 [(0, .ref a), (1, .ref b0)] [] mem
  refine zg_j (zj_aload_n (j := 0) (i := 0) C.1 rfl 0 rfl dX0_init_0 (j_zg ?_))
  refine kg_obj C (by rw [hR]; exact ⟨by decide, by simp [kRm, Value.category]⟩) moi_X0_3 oi_1 oi_2 dX0_init_1 ?_
  refine zg_j (zj_aload_n (j := 0) (i := 0) C.1 rfl 0 rfl dX0_init_4 (j_zg ?_))
  refine zg_j (zj_bipush C.1 40 rfl dX0_init_5 (j_zg ?_))
  refine kg_newI C hN (by decide +kernel) (L := 40) (by decide +kernel) (by decide) (by decide) (fun j => hz _ j (Nat.le_refl _)) (by rw [hR]; exact ⟨by decide, by decide⟩) arc_int dX0_init_7 (fun Γ1 a2 s3 n4 e5 C => ?_)
  have z6 : kZ mem 47 := kZ_le hz (Nat.le_succ _)
  have t7 := kS_t (kS_r Γ) s3
  have e8 : gD Γ1 45 = a := (s3.2.2.1 45 (by rw [hN]; exact (by decide))).trans ha
  have e9 : gD Γ1 1 = b0 := (s3.2.2.1 1 (by rw [hN]; exact (by decide))).trans hb0
  refine kg_putR C (by rw [n4]; exact (by decide)) (by decide +kernel) e8 fl_X0_11 klk_X0_11 rfl kfin_0_1 (by rw [(by decide +kernel : sRf 45 1 = 46), n4]; decide) (by rw [(by decide +kernel : sRf 45 1 = 46)]; exact e5) dX0_init_9 (fun Γ13 s10 n11 f12 C => ?_)
  have n14 : gN Γ13 = 47 := n11.trans n4
  have t15 := kS_t t7 s10
  have e16 : gD Γ13 45 = a := (s10.2.2.1 45 (by rw [n4]; exact (by decide))).trans e8
  have e17 : gD Γ13 1 = b0 := (s10.2.2.1 1 (by rw [n4]; exact (by decide))).trans e9
  have e18 : gD Γ13 46 = a2 := (s10.2.2.1 46 (by rw [n4]; exact (by decide))).trans e5
  refine zg_j (zj_aload_n (j := 0) (i := 0) C.1 rfl 0 rfl dX0_init_12 (j_zg ?_))
  refine zg_j (zj_bipush C.1 40 rfl dX0_init_13 (j_zg ?_))
  refine kg_newI C n14 (by decide +kernel) (L := 40) (by decide +kernel) (by decide) (by decide) (fun j => z6 _ j (Nat.le_refl _)) (by rw [hR]; exact ⟨by decide, by decide⟩) arc_int dX0_init_15 (fun Γ19 a20 s21 n22 e23 C => ?_)
  have z24 : kZ mem 48 := kZ_le z6 (Nat.le_succ _)
  have t25 := kS_t t15 s21
  have e26 : gD Γ19 45 = a := (s21.2.2.1 45 (by rw [n14]; exact (by decide))).trans e16
  have e27 : gD Γ19 1 = b0 := (s21.2.2.1 1 (by rw [n14]; exact (by decide))).trans e17
  have f28 := s21.2.2.2 _ _ f12
  refine kg_putR C (by rw [n22]; exact (by decide)) (by decide +kernel) e26 fl_X0_15 klk_X0_15 rfl kfin_0_2 (by rw [(by decide +kernel : sRf 45 2 = 47), n22]; decide) (by rw [(by decide +kernel : sRf 45 2 = 47)]; exact e23) dX0_init_17 (fun Γ32 s29 n30 f31 C => ?_)
  have n33 : gN Γ32 = 48 := n30.trans n22
  have t34 := kS_t t25 s29
  have e35 : gD Γ32 45 = a := (s29.2.2.1 45 (by rw [n22]; exact (by decide))).trans e26
  have e36 : gD Γ32 1 = b0 := (s29.2.2.1 1 (by rw [n22]; exact (by decide))).trans e27
  have e37 : gD Γ32 47 = a20 := (s29.2.2.1 47 (by rw [n22]; exact (by decide))).trans e23
  have f38 := s29.2.2.2 _ _ f28
  refine zg_j (zj_aload_n (j := 0) (i := 0) C.1 rfl 0 rfl dX0_init_20 (j_zg ?_))
  refine zg_j (zj_bipush C.1 40 rfl dX0_init_21 (j_zg ?_))
  refine kg_newI C n33 (by decide +kernel) (L := 40) (by decide +kernel) (by decide) (by decide) (fun j => z24 _ j (Nat.le_refl _)) (by rw [hR]; exact ⟨by decide, by decide⟩) arc_int dX0_init_23 (fun Γ39 a40 s41 n42 e43 C => ?_)
  have z44 : kZ mem 49 := kZ_le z24 (Nat.le_succ _)
  have t45 := kS_t t34 s41
  have e46 : gD Γ39 45 = a := (s41.2.2.1 45 (by rw [n33]; exact (by decide))).trans e35
  have e47 : gD Γ39 1 = b0 := (s41.2.2.1 1 (by rw [n33]; exact (by decide))).trans e36
  have f48 := s41.2.2.2 _ _ f38
  have f49 := s41.2.2.2 _ _ f31
  refine kg_putR C (by rw [n42]; exact (by decide)) (by decide +kernel) e46 fl_X0_18 klk_X0_18 rfl kfin_0_3 (by rw [(by decide +kernel : sRf 45 3 = 48), n42]; decide) (by rw [(by decide +kernel : sRf 45 3 = 48)]; exact e43) dX0_init_25 (fun Γ53 s50 n51 f52 C => ?_)
  have n54 : gN Γ53 = 49 := n51.trans n42
  have t55 := kS_t t45 s50
  have e56 : gD Γ53 45 = a := (s50.2.2.1 45 (by rw [n42]; exact (by decide))).trans e46
  have e57 : gD Γ53 1 = b0 := (s50.2.2.1 1 (by rw [n42]; exact (by decide))).trans e47
  have e58 : gD Γ53 48 = a40 := (s50.2.2.1 48 (by rw [n42]; exact (by decide))).trans e43
  have f59 := s50.2.2.2 _ _ f48
  have f60 := s50.2.2.2 _ _ f49
  refine zg_j (zj_aload_n (j := 0) (i := 0) C.1 rfl 0 rfl dX0_init_28 (j_zg ?_))
  refine zg_j (zj_iconst C.1 0 dX0_init_29 (j_zg ?_))
  refine kg_putI (k := 4) C 4 rfl (by rw [n54]; exact (by decide)) (by decide +kernel) e56 fl_X0_21 rfl fp_0_4 (by decide) dX0_init_30 ?_
  have z61 : kZ (zup mem 45 4 0) 49 := kZ_up z44 (by decide)
  refine zg_j (zj_aload_n (j := 0) (i := 0) C.1 rfl 0 rfl dX0_init_33 (j_zg ?_))
  refine zg_j (zj_iconst C.1 0 dX0_init_34 (j_zg ?_))
  refine kg_putZ (k := 5) C 5 rfl (by rw [n54]; exact (by decide)) (by decide +kernel) e56 fl_X0_25 rfl fp_0_5 (by decide) dX0_init_35 ?_
  have z62 : kZ (zup (zup mem 45 4 0) 45 5 0) 49 := kZ_up z61 (by decide)
  refine zg_j (zj_aload_n (j := 0) (i := 0) C.1 rfl 0 rfl dX0_init_38 (j_zg ?_))
  refine zg_j (zj_iconst C.1 0 dX0_init_39 (j_zg ?_))
  refine kg_putI (k := 6) C 6 rfl (by rw [n54]; exact (by decide)) (by decide +kernel) e56 fl_X0_29 rfl fp_0_6 (by decide) dX0_init_40 ?_
  have z63 : kZ (zup (zup (zup mem 45 4 0) 45 5 0) 45 6 0) 49 := kZ_up z62 (by decide)
  refine zg_j (zj_aload_n (j := 0) (i := 0) C.1 rfl 0 rfl dX0_init_43 (j_zg ?_))
  refine zg_j (zj_iconst C.1 0 dX0_init_44 (j_zg ?_))
  refine kg_putI (k := 7) C 7 rfl (by rw [n54]; exact (by decide)) (by decide +kernel) e56 fl_X0_32 rfl fp_0_7 (by decide) dX0_init_45 ?_
  have z64 : kZ (zup (zup (zup (zup mem 45 4 0) 45 5 0) 45 6 0) 45 7 0) 49 := kZ_up z63 (by decide)
  refine zg_j (zj_aload_n (j := 0) (i := 0) C.1 rfl 0 rfl dX0_init_48 (j_zg ?_))
  refine zg_j (zj_iconst C.1 0 dX0_init_49 (j_zg ?_))
  refine kg_putI (k := 8) C 8 rfl (by rw [n54]; exact (by decide)) (by decide +kernel) e56 fl_X0_35 rfl fp_0_8 (by decide) dX0_init_50 ?_
  have z65 : kZ (zup (zup (zup (zup (zup mem 45 4 0) 45 5 0) 45 6 0) 45 7 0) 45 8 0) 49 := kZ_up z64 (by decide)
  refine zg_j (zj_aload_n (j := 0) (i := 0) C.1 rfl 0 rfl dX0_init_53 (j_zg ?_))
  refine zg_j (zj_iconst C.1 0 dX0_init_54 (j_zg ?_))
  refine kg_putI (k := 9) C 9 rfl (by rw [n54]; exact (by decide)) (by decide +kernel) e56 fl_X0_38 rfl fp_0_9 (by decide) dX0_init_55 ?_
  have z66 : kZ (zup (zup (zup (zup (zup (zup mem 45 4 0) 45 5 0) 45 6 0) 45 7 0) 45 8 0) 45 9 0) 49 := kZ_up z65 (by decide)
  refine zg_j (zj_aload_n (j := 0) (i := 0) C.1 rfl 0 rfl dX0_init_58 (j_zg ?_))
  refine zg_j (zj_aload_n (j := 1) (i := 1) C.1 rfl 1 rfl dX0_init_59 (j_zg ?_))
  refine kg_putR C (by rw [n54]; exact (by decide)) (by decide +kernel) e56 fl_X0_41 klk_X0_41 rfl kfin_0_0 (by rw [(by decide +kernel : sRf 45 0 = 1), n54]; decide) (by rw [(by decide +kernel : sRf 45 0 = 1)]; exact e57) dX0_init_60 (fun Γ70 s67 n68 f69 C => ?_)
  have n71 : gN Γ70 = 49 := n68.trans n54
  have t72 := kS_t t55 s67
  have e73 : gD Γ70 45 = a := (s67.2.2.1 45 (by rw [n54]; exact (by decide))).trans e56
  have e74 : gD Γ70 1 = b0 := (s67.2.2.1 1 (by rw [n54]; exact (by decide))).trans e57
  have f75 := s67.2.2.2 _ _ f59
  have f76 := s67.2.2.2 _ _ f60
  have f77 := s67.2.2.2 _ _ f52
  refine kg_ret C Z t72 n71 (fun p k hr hp => ?_) ⟨by decide, by decide⟩ dX0_init_63
  rw [hN] at hp
  rcases (by omega : (p = 45) ∨ (p = 46) ∨ (p = 47) ∨ (p = 48)) with hp | hp | hp | hp
  · subst hp
    obtain ⟨h1, h2⟩ := isR_o (ci := 0) (by decide +kernel) (by decide) hr
    have h3 : ∀ k, k < sNf 0 → sFk 0 k = 2 → k = 0 ∨ k = 1 ∨ k = 2 ∨ k = 3 := by decide +kernel
    rcases h3 k h1 h2 with rfl | rfl | rfl | rfl
    · exact f69
    · exact f75
    · exact f76
    · exact f77
  · subst hp
    exact absurd hr (fun h => isR_a (ci := 13) (by decide +kernel) (by decide) h)
  · subst hp
    exact absurd hr (fun h => isR_a (ci := 13) (by decide +kernel) (by decide) h)
  · subst hp
    exact absurd hr (fun h => isR_a (ci := 13) (by decide +kernel) (by decide) h)
