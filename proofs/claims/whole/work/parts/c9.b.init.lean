def iX9 (mem : zMem) : zMem := (zup mem 102 1 0)
theorem kZ_X9 {mem : zMem} {M : Nat} (h : kZ mem M) (hq : 103 < M) : kZ (iX9 mem) M := by
  unfold iX9
  exact (kZ_up h (by omega))
set_option maxHeartbeats 4000000 in
theorem K_X9 (l : Launch) {Γ : zG} {a : Nat} {mem : zMem}  (hN : gN Γ = 103) (ha : gD Γ 102 = a) (hz : kZ mem 103) : kMet l yX9_init cX9_init 1 1 1 40 Γ 102 104 [.ref a] mem (iX9 mem) := by
  refine kMet_of (own := "ShadowHeirs$Slip") (by decide) rfl rfl (Nat.le_of_ble_eq_true rfl) (fun X C Z => ?_)
  have hR := kRt_R Z
  have hl0 : X.2.1 = l := kRt_l Z
  show zg (kX X 0 0) Γ 1 0 [(0, .ref a)] [] mem
  refine zg_j (zj_aload_n (j := 0) (i := 0) C.1 rfl 0 rfl dX9_init_0 (j_zg ?_))
  refine kg_obj C (by rw [hR]; exact ⟨by decide, by simp [kRm, Value.category]⟩) moi_X9_3 oi_1 oi_2 dX9_init_1 ?_
  refine zg_j (zj_aload_n (j := 0) (i := 0) C.1 rfl 0 rfl dX9_init_4 (j_zg ?_))
  refine zg_j (zj_bipush C.1 40 rfl dX9_init_5 (j_zg ?_))
  refine kg_newI C hN (by decide +kernel) (L := 40) (by decide +kernel) (by decide) (by decide) (fun j => hz _ j (Nat.le_refl _)) (by rw [hR]; exact ⟨by decide, by decide⟩) arc_int dX9_init_7 (fun Γ1 a2 s3 n4 e5 C => ?_)
  have z6 : kZ mem 104 := kZ_le hz (Nat.le_succ _)
  have t7 := kS_t (kS_r Γ) s3
  have e8 : gD Γ1 102 = a := (s3.2.2.1 102 (by rw [hN]; decide)).trans ha
  refine kg_putR C (by rw [n4]; decide) (by decide +kernel) e8 fl_X9_11 klk_X9_11 rfl kfin_9_0 (by rw [(by decide +kernel : sRf 102 0 = 103), n4]; decide) (by rw [(by decide +kernel : sRf 102 0 = 103)]; exact e5) dX9_init_9 (fun Γ12 s9 n10 f11 C => ?_)
  have n13 : gN Γ12 = 104 := n10.trans n4
  have t14 := kS_t t7 s9
  have e15 : gD Γ12 102 = a := (s9.2.2.1 102 (by rw [n4]; decide)).trans e8
  have e16 : gD Γ12 103 = a2 := (s9.2.2.1 103 (by rw [n4]; decide)).trans e5
  refine zg_j (zj_aload_n (j := 0) (i := 0) C.1 rfl 0 rfl dX9_init_12 (j_zg ?_))
  refine zg_j (zj_iconst C.1 0 dX9_init_13 (j_zg ?_))
  refine kg_putI (k := 1) C 1 rfl (by rw [n13]; decide) (by decide +kernel) e15 fl_X9_15 rfl fp_9_1 (by decide) dX9_init_14 ?_
  have z17 : kZ (zup mem 102 1 0) 104 := kZ_up z6 (by decide)
  refine kg_ret C Z t14 n13 (fun p k hr hp => ?_) ⟨by decide, by decide⟩ dX9_init_17
  rw [hN] at hp
  rcases (by omega : (p = 102) ∨ (p = 103)) with hp | hp
  · subst hp
    obtain ⟨h1, h2⟩ := isR_o (ci := 9) (by decide +kernel) (by decide) hr
    have h3 : ∀ k, k < sNf 9 → sFk 9 k = 2 → k = 0 := by decide +kernel
    rcases h3 k h1 h2 with rfl
    · exact f11
  · subst hp
    exact absurd hr (fun h => isR_a (ci := 13) (by decide +kernel) (by decide) h)
