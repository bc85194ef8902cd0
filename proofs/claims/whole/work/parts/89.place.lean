/-! a line of the book: a place -/
theorem ao_place {T : Int → Int} {n lim q k f0 a : Int} {A N : Int → Int} (ok : okTx T n) (hl : 0 ≤ lim) (h0 : 0 ≤ q) (h1 : q ≤ n) (k0 : 0 ≤ k) (k1 : k < 40) (ha : a = 1 ∨ a = 2) : AO T n lim q k a f0 A N (fun m => zbind (f_X0_readNumber 47 0 7 m) fun y58 m59 => if y58 = 0 then (some (0, m59)) else (zbind (f_X0_readNumber 48 0 7 m59) fun y61 m62 => if y61 = 0 then (some (0, m62)) else (some (1, m62)))) (fun r => f_X12_readPlace (3 * k) r) := by
  have lr := lexT_r (T := T) (n := n) (lim := lim) hl h0 h1
  by_cases g : (lexT T n lim q).2.2.1 = 3 ∧ 0 ≤ (lexT T n lim q).2.2.2.1 ∧ (lexT T n lim q).2.2.2.1 ≤ 7
  · have lr2 := lexT_r (T := T) (n := n) (lim := lim) (p := (lexT T n lim q).2.1) hl (by omega) lr.2.1
    generalize hq : (lexT T n lim q).2.1 = q2 at *
    generalize hx : (lexT T n lim q).2.2.2.1 = x at *
    have cl : ∀ m, CU T n lim m q → m 45 4 = k → ∃ m2, CU T n lim (zup m2 47 k x) q2 ∧ FXF m m2 ∧ (zup m2 47 k x) 45 4 = k ∧ (zbind (f_X0_readNumber 47 0 7 m) fun y58 m59 => if y58 = 0 then (some (0, m59)) else (zbind (f_X0_readNumber 48 0 7 m59) fun y61 m62 => if y61 = 0 then (some (0, m62)) else (some (1, m62)) : Option (Int × zMem))) = (zbind (f_X0_readNumber 48 0 7 (zup m2 47 k x)) fun y61 m62 => if y61 = 0 then (some (0, m62)) else (some (1, m62))) := by
      intro m c e4
      obtain ⟨m2, x1, x2, x3⟩ := (cNumB (lo := 0) (hi := 7) (q := 47) ok hl h0 h1 (by omega) c e4 k0 k1).1 (by rw [hx]; exact g)
      rw [hx] at x1
      have cu := CT_U (CT_up (q := 47) (i := k) (v := x) x2 (by omega))
      rw [hq] at cu
      refine ⟨m2, cu, x3, by rw [zup_off (by omega), x3.1 45 (by omega), e4], ?_⟩
      rw [x1]
      simp only [zbind]
      rw [if_neg (by omega)]
    have rl : ∀ r, RU T n lim r q → ∃ r2, RU T n lim (zup r2 154 (3 * k + 1) x) q2 ∧ FYF r r2 ∧ f_X12_readPlace (3 * k) r = (zbind (f_X12_readNumber 0 7 (zup r2 154 (3 * k + 1) x)) fun y6 m7 => zbind (f_X12_keep (3 * k + 2) y6 m7) fun y8 m9 => if y8 = 0 then (some (0, m9)) else (some (1, m9))) := by
      intro r c
      obtain ⟨r2, x1, x2, x3, x4⟩ := (mNumber (lo := 0) (hi := 7) ok hl h0 h1 c).1 (by rw [hx]; exact g)
      rw [hq] at x2
      rw [hx] at x3
      refine ⟨r2, RU_up x2 (by omega), x4, ?_⟩
      unfold f_X12_readPlace
      rw [x1, w32_id (x := 3 * k + 1) ⟨by omega, by omega⟩, w32_id (x := 3 * k + 2) ⟨by omega, by omega⟩]
      simp only [zbind]
      rw [mKeep_1 (by omega), x3]
      simp only
      rw [if_neg (by omega)]
    by_cases g2 : (lexT T n lim q2).2.2.1 = 3 ∧ 0 ≤ (lexT T n lim q2).2.2.2.1 ∧ (lexT T n lim q2).2.2.2.1 ≤ 7
    · refine Or.inr ⟨(lexT T n lim q2).2.1, x, (lexT T n lim q2).2.2.2.1, by omega, lr2.2.1, Or.inr (Or.inl ⟨ha, by omega, by omega, by omega, by omega⟩), fun m c pc e4 d => ?_, fun r c eA eN d e => ?_⟩
      · obtain ⟨m2, y1, y2, y3, y4⟩ := cl m c e4
        obtain ⟨m', z1, z2, z3⟩ := (cNumB (lo := 0) (hi := 7) (q := 48) ok hl (by omega) lr.2.1 (by omega) y1 y3 k0 k1).1 g2
        refine ⟨zup m' 48 k (lexT T n lim q2).2.2.2.1, ?_, CT_U (CT_up z2 (by omega)), ?_, fun _ => by rw [zup_same, if_pos rfl], FE_t (FE_F y2) (FE_t (FE_up (Or.inl rfl)) (FE_t (FE_F z3) (FE_up (Or.inr rfl))))⟩
        · refine Eq.trans y4 ?_
          rw [z1]
          simp only [zbind]
          rw [if_neg (by omega)]
        · rw [zup_off (by omega), z3.1 47 (by omega), zup_same, if_pos rfl]
      · obtain ⟨r2, y1, y2, y3⟩ := rl r c
        obtain ⟨r', z1, z2, z3, z4⟩ := (mNumber (lo := 0) (hi := 7) ok hl (by omega) lr.2.1 y1).1 g2
        refine ⟨zup r' 154 (3 * k + 2) (lexT T n lim q2).2.2.2.1, ?_, RU_up z2 (by omega), ?_, by rw [zup_same, if_pos rfl], GE_t (GE_F y2) (GE_t (GE_up (Or.inl rfl)) (GE_t (GE_F z4) (GE_up (Or.inr rfl))))⟩
        · show f_X12_readPlace _ _ = _
          rw [y3, z1]
          simp only [zbind]
          rw [mKeep_1 (by omega), z3]
          simp only
          rw [if_neg (by omega)]
        · rw [zup_same, if_neg (by omega), z4.1 154 (by omega), zup_same, if_pos rfl]
    · refine Or.inl ⟨if (lexT T n lim q2).2.2.1 = 3 then 2 else 1, (lexT T n lim q2).1, by split <;> omega, fun m c pc e4 => ?_, fun r c eA eN => ?_⟩
      · obtain ⟨m2, y1, y2, y3, y4⟩ := cl m c e4
        obtain ⟨m', z1, z2, z3⟩ := (cNumB (lo := 0) (hi := 7) (q := 48) ok hl (by omega) lr.2.1 (by omega) y1 y3 k0 k1).2 g2
        refine ⟨m', ?_, z2, FE_t (FE_F y2) (FE_t (FE_up (Or.inl rfl)) (FE_F z3))⟩
        refine Eq.trans y4 ?_
        rw [z1]
        simp [zbind]
      · obtain ⟨r2, y1, y2, y3⟩ := rl r c
        obtain ⟨r', z1, z2, z3⟩ := (mNumber (lo := 0) (hi := 7) ok hl (by omega) lr.2.1 y1).2 g2
        refine ⟨r', ?_, z2, GE_t (GE_F y2) (GE_t (GE_up (Or.inl rfl)) (GE_F z3))⟩
        show f_X12_readPlace _ _ = _
        rw [y3, z1]
        simp only [zbind]
        rw [mKeep_0]
        simp
  · refine Or.inl ⟨if (lexT T n lim q).2.2.1 = 3 then 2 else 1, (lexT T n lim q).1, by split <;> omega, fun m c pc e4 => ?_, fun r c eA eN => ?_⟩
    · obtain ⟨m', x1, x2, x3⟩ := (cNumB (lo := 0) (hi := 7) (q := 47) ok hl h0 h1 (by omega) c e4 k0 k1).2 g
      refine ⟨m', ?_, x2, FE_F x3⟩
      show zbind _ _ = _
      rw [x1]
      simp [zbind]
    · obtain ⟨r', x1, x2, x3⟩ := (mNumber (lo := 0) (hi := 7) ok hl h0 h1 c).2 g
      refine ⟨r', ?_, x2, GE_F x3⟩
      show f_X12_readPlace _ _ = _
      unfold f_X12_readPlace
      rw [x1]
      simp only [zbind]
      rw [mKeep_0]
      simp
