theorem spl_X3 {p q N : Nat} (h : p = q ∨ (N ≤ p ∧ p < N)) : (p = q) := by omega
def iX3 (q : Nat) (mem : zMem) : zMem := mem
theorem kZ_X3 {mem : zMem} {q M : Nat} (h : kZ mem M) (hq : q < M) : kZ (iX3 q mem) M := by
  unfold iX3
  exact h
set_option maxHeartbeats 4000000 in
theorem K_X3 (l : Launch) {Γ : zG} {q N : Nat} {a : Nat} {i0 : Nat} {b0 : Nat} {i1 : Nat} {b1 : Nat} {i2 : Nat} {b2 : Nat} {mem : zMem} (hq : q < N) (hi0 : i0 < N) (hi1 : i1 < N) (hi2 : i2 < N) (k_q : sK q = 3) (r_q_0 : sRf q 0 = i0) (r_q_1 : sRf q 1 = i1) (r_q_2 : sRf q 2 = i2) (hN : gN Γ = N) (ha : gD Γ q = a) (hb0 : gD Γ i0 = b0) (hb1 : gD Γ i1 = b1) (hb2 : gD Γ i2 = b2) (hz : kZ mem N) : kMet l yX3_init cX3_init 4 1 0 0 Γ q N [.ref a, .ref b0, .ref b1, .ref b2] mem (iX3 q mem) := by
  refine kMet_of (own := "ShadowHeirs$Island") (by decide) rfl rfl (Nat.le_of_ble_eq_true rfl) (fun X C Z => ?_)
  have hR := kRt_R Z
  have hl0 : X.2.1 = l := kRt_l Z
  show zg (kX X 0 0) Γ 4 0 [(0, .ref a), (1, .ref b0), (2, .ref b1), (3, .ref b2)] [] mem
  refine zg_j (zj_aload_n (j := 0) (i := 0) C.1 rfl 0 rfl dX3_init_0 (j_zg ?_))
  refine kg_obj C (by rw [hR]; exact ⟨by decide, by simp [kRm, Value.category]⟩) moi_X3_3 oi_1 oi_2 dX3_init_1 ?_
  refine zg_j (zj_aload_n (j := 0) (i := 0) C.1 rfl 0 rfl dX3_init_4 (j_zg ?_))
  refine zg_j (zj_aload_n (j := 1) (i := 1) C.1 rfl 1 rfl dX3_init_5 (j_zg ?_))
  refine kg_putR C (by rw [hN]; exact hq) k_q ha fl_X3_9 klk_X3_9 rfl kfin_3_0 (by rw [r_q_0, hN]; exact hi0) (by rw [r_q_0]; exact hb0) dX3_init_6 (fun Γ4 s1 n2 f3 C => ?_)
  have n5 : gN Γ4 = N := n2.trans hN
  have t6 := kS_t (kS_r Γ) s1
  have e7 : gD Γ4 q = a := (s1.2.2.1 q (by rw [hN]; exact hq)).trans ha
  have e8 : gD Γ4 i0 = b0 := (s1.2.2.1 i0 (by rw [hN]; exact hi0)).trans hb0
  have e9 : gD Γ4 i1 = b1 := (s1.2.2.1 i1 (by rw [hN]; exact hi1)).trans hb1
  have e10 : gD Γ4 i2 = b2 := (s1.2.2.1 i2 (by rw [hN]; exact hi2)).trans hb2
  refine zg_j (zj_aload_n (j := 0) (i := 0) C.1 rfl 0 rfl dX3_init_9 (j_zg ?_))
  refine zg_j (zj_aload_n (j := 2) (i := 2) C.1 rfl 2 rfl dX3_init_10 (j_zg ?_))
  refine kg_putR C (by rw [n5]; exact hq) k_q e7 fl_X3_15 klk_X3_15 rfl kfin_3_1 (by rw [r_q_1, n5]; exact hi1) (by rw [r_q_1]; exact e9) dX3_init_11 (fun Γ14 s11 n12 f13 C => ?_)
  have n15 : gN Γ14 = N := n12.trans n5
  have t16 := kS_t t6 s11
  have e17 : gD Γ14 q = a := (s11.2.2.1 q (by rw [n5]; exact hq)).trans e7
  have e18 : gD Γ14 i0 = b0 := (s11.2.2.1 i0 (by rw [n5]; exact hi0)).trans e8
  have e19 : gD Γ14 i1 = b1 := (s11.2.2.1 i1 (by rw [n5]; exact hi1)).trans e9
  have e20 : gD Γ14 i2 = b2 := (s11.2.2.1 i2 (by rw [n5]; exact hi2)).trans e10
  have f21 := s11.2.2.2 _ _ f3
  refine zg_j (zj_aload_n (j := 0) (i := 0) C.1 rfl 0 rfl dX3_init_14 (j_zg ?_))
  refine zg_j (zj_aload_n (j := 3) (i := 3) C.1 rfl 3 rfl dX3_init_15 (j_zg ?_))
  refine kg_putR C (by rw [n15]; exact hq) k_q e17 fl_X3_19 klk_X3_19 rfl kfin_3_2 (by rw [r_q_2, n15]; exact hi2) (by rw [r_q_2]; exact e20) dX3_init_16 (fun Γ25 s22 n23 f24 C => ?_)
  have n26 : gN Γ25 = N := n23.trans n15
  have t27 := kS_t t16 s22
  have e28 : gD Γ25 q = a := (s22.2.2.1 q (by rw [n15]; exact hq)).trans e17
  have e29 : gD Γ25 i0 = b0 := (s22.2.2.1 i0 (by rw [n15]; exact hi0)).trans e18
  have e30 : gD Γ25 i1 = b1 := (s22.2.2.1 i1 (by rw [n15]; exact hi1)).trans e19
  have e31 : gD Γ25 i2 = b2 := (s22.2.2.1 i2 (by rw [n15]; exact hi2)).trans e20
  have f32 := s22.2.2.2 _ _ f21
  have f33 := s22.2.2.2 _ _ f13
  refine kg_ret C Z t27 n26 (fun p k hr hp => ?_) ⟨by decide, by decide⟩ dX3_init_19
  rw [hN] at hp
  rcases spl_X3 hp with hp
  · subst hp
    obtain ⟨h1, h2⟩ := isR_o (ci := 3) k_q (by decide) hr
    have h3 : ∀ k, k < sNf 3 → sFk 3 k = 2 → k = 0 ∨ k = 1 ∨ k = 2 := by decide +kernel
    rcases h3 k h1 h2 with rfl | rfl | rfl
    · exact f32
    · exact f33
    · exact f24
