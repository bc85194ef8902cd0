def iX1 (mem : zMem) : zMem := (zup mem 101 0 0)
theorem kZ_X1 {mem : zMem} {M : Nat} (h : kZ mem M) (hq : 101 < M) : kZ (iX1 mem) M := by
  unfold iX1
  exact (kZ_up h (by omega))
set_option maxHeartbeats 4000000 in
theorem K_X1 (l : Launch) {Γ : zG} {a : Nat} {mem : zMem}  (hN : gN Γ = 102) (ha : gD Γ 101 = a) (hz : kZ mem 102) : kMet l yX1_init cX1_init 1 1 0 0 Γ 101 102 [.ref a] mem (iX1 mem) := by
  refine kMet_of (own := "ShadowHeirs$Draws") (by decide) rfl rfl (Nat.le_of_ble_eq_true rfl) (fun X C Z => ?_)
  have hR := kRt_R Z
  have hl0 : X.2.1 = l := kRt_l Z
  show zg (kX X 0 0) Γ 1 0 [(0, .ref a)] [] mem
  refine zg_j (zj_aload_n (j := 0) (i := 0) C.1 rfl 0 rfl dX1_init_0 (j_zg ?_))
  refine kg_obj C (by rw [hR]; exact ⟨by decide, by simp [kRm, Value.category]⟩) moi_X1_3 oi_1 oi_2 dX1_init_1 ?_
  refine zg_j (zj_aload_n (j := 0) (i := 0) C.1 rfl 0 rfl dX1_init_4 (j_zg ?_))
  refine zg_j (zj_iconst C.1 0 dX1_init_5 (j_zg ?_))
  refine kg_putI (k := 0) C 0 rfl (by rw [hN]; decide) (by decide +kernel) ha fl_X1_9 rfl fp_1_0 (by decide) dX1_init_6 ?_
  have z1 : kZ (zup mem 101 0 0) 102 := kZ_up hz (by decide)
  refine kg_ret C Z (kS_r Γ) hN (fun p k hr hp => ?_) ⟨by decide, by decide⟩ dX1_init_9
  rw [hN] at hp
  rcases (by omega : (p = 101)) with hp
  · subst hp
    obtain ⟨h1, h2⟩ := isR_o (ci := 1) (by decide +kernel) (by decide) hr
    have h3 : ∀ k, k < sNf 1 → sFk 1 k = 2 → False := by decide +kernel
    exact absurd (h3 k h1 h2) (fun h => h)
