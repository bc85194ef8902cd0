def iX10 (mem : zMem) : zMem := mem
theorem kZ_X10 {mem : zMem} {M : Nat} (h : kZ mem M) (hq : 100 < M) : kZ (iX10 mem) M := by
  unfold iX10
  exact h
set_option maxHeartbeats 4000000 in
theorem K_X10 (l : Launch) {Γ : zG} {a : Nat} {b0 : Nat} {mem : zMem}  (hN : gN Γ = 98) (ha : gD Γ 97 = a) (hb0 : gD Γ 20 = b0) (hz : kZ mem 98) : kMet l yX10_init cX10_init 2 1 3 256 Γ 97 101 [.ref a, .ref b0] mem (iX10 mem) := by
  refine kMet_of (own := "ShadowHeirs$Walk") (by decide) rfl rfl (Nat.le_of_ble_eq_true rfl) (fun X C Z => ?_)
  have hR := kRt_R Z
  have hl0 : X.2.1 = l := kRt_l Z
  show zg (kX X 0 0) Γ 2 0 [(0, .ref a), (1, .ref b0)] [] mem
  refine zg_j (zj_aload_n (j := 0) (i := 0) C.1 rfl 0 rfl dX10_init_0 (j_zg ?_))
  refine kg_obj C (by rw [hR]; exact ⟨by decide, by simp [kRm, Value.category]⟩) moi_X10_3 oi_1 oi_2 dX10_init_1 ?_
  refine zg_j (zj_aload_n (j := 0) (i := 0) C.1 rfl 0 rfl dX10_init_4 (j_zg ?_))
  refine zg_j (zj_bipush C.1 64 rfl dX10_init_5 (j_zg ?_))
  refine kg_newI C hN (by decide +kernel) (L := 64) (by decide +kernel) (by decide) (by decide) (fun j => hz _ j (Nat.le_refl _)) (by rw [hR]; exact ⟨by decide, by decide⟩) arc_int dX10_init_7 (fun Γ1 a2 s3 n4 e5 C => ?_)
  have z6 : kZ mem 99 := kZ_le hz (Nat.le_succ _)
  have t7 := kS_t (kS_r Γ) s3
  have e8 : gD Γ1 97 = a := (s3.2.2.1 97 (by rw [hN]; exact (by decide))).trans ha
  have e9 : gD Γ1 20 = b0 := (s3.2.2.1 20 (by rw [hN]; exact (by decide))).trans hb0
  refine kg_putR C (by rw [n4]; exact (by decide)) (by decide +kernel) e8 fl_X10_9 klk_X10_9 rfl kfin_10_1 (by rw [(by decide +kernel : sRf 97 1 = 98), n4]; decide) (by rw [(by decide +kernel : sRf 97 1 = 98)]; exact e5) dX10_init_9 (fun Γ13 s10 n11 f12 C => ?_)
  have n14 : gN Γ13 = 99 := n11.trans n4
  have t15 := kS_t t7 s10
  have e16 : gD Γ13 97 = a := (s10.2.2.1 97 (by rw [n4]; exact (by decide))).trans e8
  have e17 : gD Γ13 20 = b0 := (s10.2.2.1 20 (by rw [n4]; exact (by decide))).trans e9
  have e18 : gD Γ13 98 = a2 := (s10.2.2.1 98 (by rw [n4]; exact (by decide))).trans e5
  refine zg_j (zj_aload_n (j := 0) (i := 0) C.1 rfl 0 rfl dX10_init_12 (j_zg ?_))
  refine zg_j (zj_bipush C.1 64 rfl dX10_init_13 (j_zg ?_))
  refine kg_newI C n14 (by decide +kernel) (L := 64) (by decide +kernel) (by decide) (by decide) (fun j => z6 _ j (Nat.le_refl _)) (by rw [hR]; exact ⟨by decide, by decide⟩) arc_int dX10_init_15 (fun Γ19 a20 s21 n22 e23 C => ?_)
  have z24 : kZ mem 100 := kZ_le z6 (Nat.le_succ _)
  have t25 := kS_t t15 s21
  have e26 : gD Γ19 97 = a := (s21.2.2.1 97 (by rw [n14]; exact (by decide))).trans e16
  have e27 : gD Γ19 20 = b0 := (s21.2.2.1 20 (by rw [n14]; exact (by decide))).trans e17
  have f28 := s21.2.2.2 _ _ f12
  refine kg_putR C (by rw [n22]; exact (by decide)) (by decide +kernel) e26 fl_X10_15 klk_X10_15 rfl kfin_10_2 (by rw [(by decide +kernel : sRf 97 2 = 99), n22]; decide) (by rw [(by decide +kernel : sRf 97 2 = 99)]; exact e23) dX10_init_17 (fun Γ32 s29 n30 f31 C => ?_)
  have n33 : gN Γ32 = 100 := n30.trans n22
  have t34 := kS_t t25 s29
  have e35 : gD Γ32 97 = a := (s29.2.2.1 97 (by rw [n22]; exact (by decide))).trans e26
  have e36 : gD Γ32 20 = b0 := (s29.2.2.1 20 (by rw [n22]; exact (by decide))).trans e27
  have e37 : gD Γ32 99 = a20 := (s29.2.2.1 99 (by rw [n22]; exact (by decide))).trans e23
  have f38 := s29.2.2.2 _ _ f28
  refine zg_j (zj_aload_n (j := 0) (i := 0) C.1 rfl 0 rfl dX10_init_20 (j_zg ?_))
  refine zg_j (zj_sipush C.1 128 rfl dX10_init_21 (j_zg ?_))
  refine kg_newZ C n33 (by decide +kernel) (L := 128) (by decide +kernel) (by decide) (by decide) (fun j => z24 _ j (Nat.le_refl _)) (by rw [hR]; exact ⟨by decide, by decide⟩) arc_boolean dX10_init_24 (fun Γ39 a40 s41 n42 e43 C => ?_)
  have z44 : kZ mem 101 := kZ_le z24 (Nat.le_succ _)
  have t45 := kS_t t34 s41
  have e46 : gD Γ39 97 = a := (s41.2.2.1 97 (by rw [n33]; exact (by decide))).trans e35
  have e47 : gD Γ39 20 = b0 := (s41.2.2.1 20 (by rw [n33]; exact (by decide))).trans e36
  have f48 := s41.2.2.2 _ _ f38
  have f49 := s41.2.2.2 _ _ f31
  refine kg_putR C (by rw [n42]; exact (by decide)) (by decide +kernel) e46 fl_X10_18 klk_X10_18 rfl kfin_10_3 (by rw [(by decide +kernel : sRf 97 3 = 100), n42]; decide) (by rw [(by decide +kernel : sRf 97 3 = 100)]; exact e43) dX10_init_26 (fun Γ53 s50 n51 f52 C => ?_)
  have n54 : gN Γ53 = 101 := n51.trans n42
  have t55 := kS_t t45 s50
  have e56 : gD Γ53 97 = a := (s50.2.2.1 97 (by rw [n42]; exact (by decide))).trans e46
  have e57 : gD Γ53 20 = b0 := (s50.2.2.1 20 (by rw [n42]; exact (by decide))).trans e47
  have e58 : gD Γ53 100 = a40 := (s50.2.2.1 100 (by rw [n42]; exact (by decide))).trans e43
  have f59 := s50.2.2.2 _ _ f48
  have f60 := s50.2.2.2 _ _ f49
  refine zg_j (zj_aload_n (j := 0) (i := 0) C.1 rfl 0 rfl dX10_init_29 (j_zg ?_))
  refine zg_j (zj_aload_n (j := 1) (i := 1) C.1 rfl 1 rfl dX10_init_30 (j_zg ?_))
  refine kg_putR C (by rw [n54]; exact (by decide)) (by decide +kernel) e56 fl_X10_22 klk_X10_22 rfl kfin_10_0 (by rw [(by decide +kernel : sRf 97 0 = 20), n54]; decide) (by rw [(by decide +kernel : sRf 97 0 = 20)]; exact e57) dX10_init_31 (fun Γ64 s61 n62 f63 C => ?_)
  have n65 : gN Γ64 = 101 := n62.trans n54
  have t66 := kS_t t55 s61
  have e67 : gD Γ64 97 = a := (s61.2.2.1 97 (by rw [n54]; exact (by decide))).trans e56
  have e68 : gD Γ64 20 = b0 := (s61.2.2.1 20 (by rw [n54]; exact (by decide))).trans e57
  have f69 := s61.2.2.2 _ _ f59
  have f70 := s61.2.2.2 _ _ f60
  have f71 := s61.2.2.2 _ _ f52
  refine kg_ret C Z t66 n65 (fun p k hr hp => ?_) ⟨by decide, by decide⟩ dX10_init_34
  rw [hN] at hp
  rcases (by omega : (p = 97) ∨ (p = 98) ∨ (p = 99) ∨ (p = 100)) with hp | hp | hp | hp
  · subst hp
    obtain ⟨h1, h2⟩ := isR_o (ci := 10) (by decide +kernel) (by decide) hr
    have h3 : ∀ k, k < sNf 10 → sFk 10 k = 2 → k = 0 ∨ k = 1 ∨ k = 2 ∨ k = 3 := by decide +kernel
    rcases h3 k h1 h2 with rfl | rfl | rfl | rfl
    · exact f63
    · exact f69
    · exact f70
    · exact f71
  · subst hp
    exact absurd hr (fun h => isR_a (ci := 13) (by decide +kernel) (by decide) h)
  · subst hp
    exact absurd hr (fun h => isR_a (ci := 13) (by decide +kernel) (by decide) h)
  · subst hp
    exact absurd hr (fun h => isR_a (ci := 15) (by decide +kernel) (by decide) h)
