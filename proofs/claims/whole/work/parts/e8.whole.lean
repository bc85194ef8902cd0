/-! the law from its entry -/
theorem kdf_11 : ∀ j, j < 20 → defaultValue (tyX11 j) = vp_V ((List.range (sNf 11)).map (zdf 11)) j := by
  intro j hj
  match j, hj with
  | 0, _ => rfl
  | 1, _ => rfl
  | 2, _ => rfl
  | 3, _ => rfl
  | 4, _ => rfl
  | 5, _ => rfl
  | 6, _ => rfl
  | 7, _ => rfl
  | 8, _ => rfl
  | 9, _ => rfl
  | 10, _ => rfl
  | 11, _ => rfl
  | 12, _ => rfl
  | 13, _ => rfl
  | 14, _ => rfl
  | 15, _ => rfl
  | 16, _ => rfl
  | 17, _ => rfl
  | 18, _ => rfl
  | 19, _ => rfl
  | j + 20, h => exact absurd h (by omega)
theorem kcl_L_8 : kCl "ShadowHeirsLaw" 8 11 := ⟨RX11, TX11, 20, tyX11, rfl, by decide, rfl, clw_11, tyX11_ok, (gw_1 (List.mem_of_getElem? (i := 25) (by decide +kernel)) rfl), (gw_1 (List.mem_of_getElem? (i := 26) (by decide +kernel)) rfl), (gw_1 (List.mem_of_getElem? (i := 1) (by decide +kernel)) rfl), kdf_11⟩
theorem kdf_12 : ∀ j, j < 47 → defaultValue (tyX12 j) = vp_V ((List.range (sNf 12)).map (zdf 12)) j := by
  intro j hj
  match j, hj with
  | 0, _ => rfl
  | 1, _ => rfl
  | 2, _ => rfl
  | 3, _ => rfl
  | 4, _ => rfl
  | 5, _ => rfl
  | 6, _ => rfl
  | 7, _ => rfl
  | 8, _ => rfl
  | 9, _ => rfl
  | 10, _ => rfl
  | 11, _ => rfl
  | 12, _ => rfl
  | 13, _ => rfl
  | 14, _ => rfl
  | 15, _ => rfl
  | 16, _ => rfl
  | 17, _ => rfl
  | 18, _ => rfl
  | 19, _ => rfl
  | 20, _ => rfl
  | 21, _ => rfl
  | 22, _ => rfl
  | 23, _ => rfl
  | 24, _ => rfl
  | 25, _ => rfl
  | 26, _ => rfl
  | 27, _ => rfl
  | 28, _ => rfl
  | 29, _ => rfl
  | 30, _ => rfl
  | 31, _ => rfl
  | 32, _ => rfl
  | 33, _ => rfl
  | 34, _ => rfl
  | 35, _ => rfl
  | 36, _ => rfl
  | 37, _ => rfl
  | 38, _ => rfl
  | 39, _ => rfl
  | 40, _ => rfl
  | 41, _ => rfl
  | 42, _ => rfl
  | 43, _ => rfl
  | 44, _ => rfl
  | 45, _ => rfl
  | 46, _ => rfl
  | j + 47, h => exact absurd h (by omega)
theorem kcl_L_23 : kCl "ShadowHeirsLaw" 23 12 := ⟨RX12, TX12, 47, tyX12, rfl, by decide, rfl, clw_12, tyX12_ok, (gw_6 (List.mem_of_getElem? (i := 80) (by decide +kernel)) rfl), (gw_6 (List.mem_of_getElem? (i := 74) (by decide +kernel)) rfl), (gw_1 (List.mem_of_getElem? (i := 17) (by decide +kernel)) rfl), kdf_12⟩
set_option maxRecDepth 100000 in
theorem cal_X11_init : zCal yX11_init cX11_init 2 none 0 := ⟨(gw_1 (List.mem_of_getElem? (i := 29) rfl) rfl), (gw_1 (List.mem_of_getElem? (i := 1) (by decide +kernel)) rfl), by decide +kernel⟩
theorem ins_X11_init : Cond.instanceMethod yX11_init ∈ gw_tbl := (gw_1 (List.mem_of_getElem? (i := 28) (by decide +kernel)) rfl)
theorem ml_ShadowHeirsLaw_22 : zMl "ShadowHeirsLaw" 22 yX11_init := Or.inl (gw_1 (List.mem_of_getElem? (i := 27) (by decide +kernel)) rfl)
set_option maxRecDepth 100000 in
theorem cal_X12_init : zCal yX12_init cX12_init 1 none 0 := ⟨(gw_6 (List.mem_of_getElem? (i := 83) rfl) rfl), (gw_1 (List.mem_of_getElem? (i := 17) (by decide +kernel)) rfl), by decide +kernel⟩
theorem ins_X12_init : Cond.instanceMethod yX12_init ∈ gw_tbl := (gw_6 (List.mem_of_getElem? (i := 82) (by decide +kernel)) rfl)
theorem ml_ShadowHeirsLaw_25 : zMl "ShadowHeirsLaw" 25 yX12_init := Or.inl (gw_6 (List.mem_of_getElem? (i := 81) (by decide +kernel)) rfl)
theorem arL : Cond.arrayClass .long ∈ gw_tbl := (gw_1 (List.mem_of_getElem? (i := 142) (by decide +kernel)) rfl)
theorem zad_at (Γ : zG) (q : Nat) : zad Γ q = gD Γ q := rfl
theorem zA_s {Γ Γ' : zG} (h : kS Γ Γ') : zA Γ' = zA Γ := by unfold zA; rw [h.1.2.2.2.1]
theorem sCx_s {X : zM} {Γ Γ' : zG} {b L : Nat} {xs : Nat → Int32} (h : kS Γ Γ') (S : sCx X Γ b L xs) : sCx X Γ' b L xs := by
  unfold sCx at S ⊢
  rw [zA_s h]
  exact S
theorem xE_s {Γ Γ' : zG} {U : State} {H : Heap} (h : kS Γ Γ') (S : xE Γ U H) : xE Γ' U H := by
  unfold xE at S ⊢
  rw [zA_s h]
  exact S
theorem kS_full {Γ : zG} : kS Γ (gFull Γ) := ⟨⟨rfl, rfl, rfl, rfl, rfl, rfl⟩, Nat.le_refl _, fun _ _ => rfl, fun _ _ _ => rfl⟩
theorem isR157 {k : Nat} (h : isR 157 k = true) : False := isR_a (ci := 14) sK157 (by decide) h
theorem law_run {X : zM} {Γ : zG} {l : Launch} {b L : Nat} {xs : Nat → Int32} (C : lC (kX X 0 0) Γ "ShadowHeirsLaw" code 7) (g0 : gN Γ = 0) (hl : X.2.1 = l) (hR : kR X = room_1) (S : sCx X Γ b L xs) (hx : xE Γ X.2.2.2.2.1 X.2.2.2.2.1.heap) (hs : l.stackTraces = false) (hend : ∀ Γ' : zG, kS Γ Γ' → ∀ (cs sl : Nat) (lv : List (Nat × Value)) (mem : zMem), cs ≤ 900 → sl ≤ 10000 → zg (kX X cs sl) Γ' 7 1445 lv [.int (i32 1)] mem) : zg (kX X 0 0) Γ 7 0 [(0, .ref b)] [] mz := by
  obtain ⟨m1, r1, r2, -⟩ := mStart mA
  obtain ⟨m1', r3, R1⟩ := first_Rel
  have em : m1' = m1 := congrArg Prod.snd (Option.some.inj (r3.symm.trans r1))
  subst em
  have hz157 : ∀ j, m1' 157 j = 0 := fun j => by
    rw [r2 157 (by decide)]
    exact kZ_X12 (kZ_X11 (kZ_mz 157) (by decide)) (by decide) 157 j (Nat.le_refl _)
  refine lg_new C g0 sK0 (L := 20) rfl kcl_L_8 (fun j => rfl) (by rw [hR]; exact ⟨by decide, by decide⟩) (by decide +kernel) (fun Γ1 a0 s1 n1 e1 C1 => ?_)
  refine zg_j (zj_dup C1.1 rfl (by decide +kernel) (j_zg ?_))
  refine lg_callI C1 (As := []) (rest := [.ref a0]) hl cal_X11_init rfl ins_X11_init ml_ShadowHeirsLaw_22 rfl (by rw [hR]; exact ⟨by decide, by decide, by decide, by decide⟩) (Nat.le_of_ble_eq_true rfl) (by decide +kernel) (K_X11 l n1 e1 (kZ_mz 1)) rfl (fun Γ2 s2 n2 kf2 C2 => ?_)
  refine zg_j (zj_astore_n (j := 1) (i := 1) C2.1 rfl [(1, .ref a0), (0, .ref b)] (by decide +kernel) (by decide) rfl (j_zg ?_))
  refine lg_new C2 n2 sK138 (L := 47) rfl kcl_L_23 (fun j => kZ_X11 (kZ_mz 138) (by decide) 138 j (Nat.le_refl _)) (by rw [hR]; exact ⟨by decide, by decide⟩) (by decide +kernel) (fun Γ3 a1 s3 n3 e3 C3 => ?_)
  have hf3 : ∀ p k, p < 138 → isR p k = true → gF Γ3 p k = true := fun p k hp hr => s3.2.2.2 p k (kf2 p k hr (by
    by_cases h : p = 0
    · exact Or.inl h
    · exact Or.inr ⟨by rw [n1]; exact Nat.pos_of_ne_zero h, hp⟩))
  refine zg_j (zj_dup C3.1 rfl (by decide +kernel) (j_zg ?_))
  refine lg_callI C3 (As := []) (rest := [.ref a1]) hl cal_X12_init rfl ins_X12_init ml_ShadowHeirsLaw_25 rfl (by rw [hR]; exact ⟨by decide, by decide, by decide, by decide⟩) (Nat.le_of_ble_eq_true rfl) (by decide +kernel) (K_X12 l n3 e3 (kZ_X11 (kZ_mz 139) (by decide)) hf3 r1) rfl (fun Γ4 s4 n4 kf4 C4 => ?_)
  refine zg_j (zj_astore_n (j := 2) (i := 2) C4.1 rfl [(2, .ref a1), (1, .ref a0), (0, .ref b)] (by decide +kernel) (by decide) rfl ?_)
  refine zj_iconst C4.1 1 (by decide +kernel) (j_zg ?_)
  refine lg_newL C4 n4 sK157 (L := 1) (by decide +kernel) rfl (by decide) hz157 (by rw [hR]; exact ⟨by decide, by decide⟩) arL (by decide +kernel) (fun Γ5 a2 s5 n5 e5 C5 => ?_)
  have hf5 : ∀ p k, p < gN Γ5 → isR p k = true → gF Γ5 p k = true := by
    intro p k hp hr
    rw [n5] at hp
    rcases Nat.lt_or_ge p 138 with h | h
    · exact s5.2.2.2 p k (s4.2.2.2 p k (hf3 p k h hr))
    · rcases Nat.lt_or_ge p 157 with h2 | h2
      · refine s5.2.2.2 p k (kf4 p k hr ?_)
        rcases Nat.eq_or_lt_of_le h with h3 | h3
        · exact Or.inl h3.symm
        · exact Or.inr ⟨by rw [n3]; exact h3, h2⟩
      · have h3 : p = 157 := Nat.le_antisymm (Nat.lt_succ_iff.mp hp) h2
        rw [h3] at hr
        exact (isR157 hr).elim
  refine zg_j (zj_astore_n (j := 3) (i := 3) C5.1 rfl [(3, .ref a2), (2, .ref a1), (1, .ref a0), (0, .ref b)] (by decide +kernel) (by decide) rfl ?_)
  refine zj_iconst C5.1 0 (by decide +kernel) ?_
  refine zj_istore (i := 4) C5.1 [(4, .int (i32 0)), (3, .ref a2), (2, .ref a1), (1, .ref a0), (0, .ref b)] (by decide +kernel) (by decide) rfl (j_zg ?_)
  have d0 : gD Γ5 0 = a0 := (s5.2.2.1 0 (by rw [n4]; decide)).trans ((s4.2.2.1 0 (by rw [n3]; decide)).trans ((s3.2.2.1 0 (by rw [n2]; decide)).trans ((s2.2.2.1 0 (by rw [n1]; decide)).trans e1)))
  have d1 : gD Γ5 138 = a1 := (s5.2.2.1 138 (by rw [n4]; decide)).trans ((s4.2.2.1 138 (by rw [n3]; decide)).trans e3)
  have sA : kS Γ (gFull Γ5) := kS_t (kS_t s1 (kS_t s2 (kS_t s3 (kS_t s4 s5)))) kS_full
  have Cf : zC (kX X 0 0) (gFull Γ5) "ShadowHeirsLaw" code 7 := zC_full (zC_x _ _ 0 0 C5.1)
  refine (zg_full (by rw [n5]; decide) hf5).mpr ?_
  refine zg_wide (cs' := 200 + 0) (sl' := 9000 + 6 * 0) (by decide) (by decide) ?_
  refine zg_lv (fun x h => ?_) (law_loop Cf hl hR (gFull_ok n5 (by decide)) (sCx_s sA S) (xE_s sA hx) (by show 157 < gN Γ5; rw [n5]; decide) hs (fun cs sl lv mem h1 h2 => zg_j (zj_iconst (zC_x 0 0 cs sl Cf) 1 (by decide +kernel) (j_zg (hend _ sA cs sl lv mem h1 h2)))) 65 0 m1' rfl R1)
  have q0 : zad (gFull Γ5) 0 = a0 := d0
  have q1 : zad (gFull Γ5) 138 = a1 := d1
  have q2 : zad (gFull Γ5) 157 = a2 := e5
  unfold lLv at h
  rw [q0, q1, q2] at h
  simp only [List.mem_cons, List.not_mem_nil, or_false] at h ⊢
  rcases h with h | h | h | h | h
  · exact Or.inr (Or.inr (Or.inr (Or.inr h)))
  · exact Or.inr (Or.inr (Or.inr (Or.inl h)))
  · exact Or.inr (Or.inr (Or.inl h))
  · exact Or.inr (Or.inl h)
  · exact Or.inl h
theorem whole_start {p : Program} {e : Env} {s : State} {m : MethodId} {below : List Frame} {meth : Method} {c : Code} (l : Launch) (hflags : l.flags = flags0) {b L : Nat} {xs : Nat → Int32} (hL : L ≤ 384) (C0 : lw_At p s m meth c b L xs) : W p l e room_1 s m #[Value.ref b] below meth c s.heap [] 0 0 (lw_Z below #[Value.ref b] s) (entryFrame m ([Value.ref b] : List Value).toArray 7) := by
  obtain ⟨hex, hb, hret, hml, hown, hts, hX, hbl, hlk, hgv⟩ := C0
  obtain ⟨Γ, g0, gb, gf, hK, hE, hx, ha1, ha2⟩ := law_at hts hgv
  have gts : ∀ w ∈ gw_tbl, w.before #[Value.ref b] s = true := fun w hw => hts w (List.mem_filter.mp hw).1
  have hs : l.stackTraces = false := by
    unfold Launch.stackTraces
    rw [hflags]
    decide +kernel
  have hI : kI Γ := fun p k h => by rw [gf] at h; cases h
  have hInj : zInj Γ := ⟨fun i j hi => absurd hi (by rw [g0]; exact Nat.not_lt_zero _), fun i hi => absurd hi (by rw [g0]; exact Nat.not_lt_zero _)⟩
  have hl := lv_entry [Value.ref b] (n := 7) (Nat.le_of_ble_eq_true rfl)
  have hP : va_P (gC Γ, gI Γ) vwCl (zwl Γ mz) s.heap := by
    intro k q hk
    unfold zwl at hk
    rw [g0] at hk
    cases hk
  have hC : zCn mz := fun p j => by
    unfold mz
    unfold zrg
    split <;> decide
  rw [lg_entry_eq]
  refine law_run (X := (p, l, e, room_1, s, m, #[Value.ref b], below, meth, c, 0, 0, lw_Z below #[Value.ref b] s)) (Γ := Γ) (l := l) (b := b) (L := L) (xs := xs) ⟨⟨hex, hb, hml, hown, gts, hK, hE, Nat.le_of_eq gb, hInj⟩, hI, ha1, ha2⟩ g0 rfl rfl ⟨hX, hbl, fun h => absurd (show s.heap.size ≤ b from gb ▸ h) (Nat.not_le.mpr hbl), hL⟩ hx hs (fun Γ' hS cs sl lv mem h1 h2 ls H locs a1 a2 a3 a4 => ?_) _ _ _ hl va_S.rf hP hC
  have eB : gB Γ' = s.heap.size := hS.1.2.2.2.1.trans gb
  exact W.widen (Nat.le_trans h1 (by decide)) (Nat.le_trans h2 (by decide)) (va_forget (fun q hq => eB ▸ a2.2.2 q hq) (lw_ret hex hb hret hlk (by decide +kernel)))
