/-! every line of the book -/
theorem FB_46 {m : zMem} {k v : Int} : FB m (zup m 46 k v) := ⟨fun q _ _ c _ _ => zup_off c, fun i _ => by rw [zup_off (by omega)], fun i _ => by rw [zup_off (by omega)]⟩
theorem cM {T : Int → Int} {n lim p k a : Int} {m : zMem} {A N : Int → Int} (c : CT T n lim m p) (pc : PC m A N) (e4 : m 45 4 = k) : CU T n lim (zup m 46 k a) (lexT T n lim p).2.1 ∧ PC (zup m 46 k a) A N ∧ (zup m 46 k a) 45 4 = k ∧ (zup m 46 k a) 46 k = a ∧ (∀ j, j ≠ k → (zup m 46 k a) 46 j = m 46 j ∧ (zup m 46 k a) 47 j = m 47 j ∧ (zup m 46 k a) 48 j = m 48 j) ∧ FB m (zup m 46 k a) :=
  ⟨CT_U (CT_up c (by omega)), PC_f pc (fun q _ _ => zup_off (by omega)), by rw [zup_off (by omega)]; exact e4, by rw [zup_same, if_pos rfl], fun j hj => ⟨by rw [zup_same, if_neg hj], by rw [zup_off (by omega)], by rw [zup_off (by omega)]⟩, FB_46⟩
theorem BO_bad {T : Int → Int} {n lim p k kk : Int} {L A N : Int → Int} (hk : kk ≠ 0) (h1 : (lexT T n lim p).2.2.1 = 1 → kk = 1)
    (hc : ∀ m, CT T n lim m p → PC m A N → m 45 4 = k → f_X0_readLine 4 m = zbind (f_X6_fail kk m) fun y m' => if y = 0 ∨ y = 1 then some (y, m') else none)
    (hr : ∀ r, RU T n lim r p → r 140 = A → r 145 = N → r 138 40 = k → f_X12_readBookLine r = zbind (f_X12_bad kk r) fun y m' => if y = 0 ∨ y = 1 then some (y, m') else none) : BO T n lim p k L A N := by
  refine Or.inl ⟨kk, (lexT T n lim p).1, hk, fun m x y z => ?_, fun r x y z w => ?_⟩
  · obtain ⟨m', a1, a2, a3⟩ := cFail x (k := kk) hk
    refine ⟨m', ?_, a2, FXF_B a3⟩
    unfold lineC
    rw [hc m x y z.1, a1]
    simp [zbind]
  · obtain ⟨r', a1, a2, a3⟩ := mBad x kk
    have e : (if (lexT T n lim p).2.2.1 = 1 then 1 else kk) = kk := by
      by_cases h : (lexT T n lim p).2.2.1 = 1
      · rw [if_pos h, h1 h]
      · rw [if_neg h]
    rw [e] at a2
    refine ⟨r', ?_, a2, FYF_B a3⟩
    rw [hr r x y z w.1, a1]
    simp [zbind]
theorem line_book {T : Int → Int} {n lim p k : Int} {L A N : Int → Int} (ok : okTx T n) (hl : 0 ≤ lim) (h0 : 0 ≤ p) (h1 : p ≤ n) (o : oP A) (k0 : 0 ≤ k) (k1 : k ≤ 40) : BO T n lim p k L A N := by
  have lr := lexT_r (T := T) (n := n) (lim := lim) hl h0 h1
  have o1 := o.1
  by_cases hk : (lexT T n lim p).2.2.1 = 2 ∧ aOf (kno (lexT T n lim p).2.2.2.2) ≠ -1
  · have hw := lr.2.2.2.2.1 hk.1
    have pp := lr.2.2.2.1 (by omega)
    by_cases hn : kno (lexT T n lim p).2.2.2.2 = -1
    · have ha : aOf (kno (lexT T n lim p).2.2.2.2) = 0 := by rw [hn]; rfl
      have rh : ∀ r, RU T n lim r p → r 140 = A → r 145 = N → f_X12_readBookLine r = if nmP A N (lexT T n lim p).2.2.2.2 = -1 then (zbind (f_X12_bad 3 r) fun y m' => if y = 0 ∨ y = 1 then some (y, m') else none) else f_X12_readBookLine_j88 0 r := by
        intro r c eA eN
        rw [mLineHead hl h0 h1 c eA eN o, if_neg (by omega), if_pos ⟨hk.1, hn⟩]
      by_cases hp : nmP A N (lexT T n lim p).2.2.2.2 = -1
      · refine BO_bad (kk := 3) (by omega) (fun h => by omega) (fun m c pc e4 => ?_) (fun r c eA eN e40 => ?_)
        · rw [cLineHead c pc hw hk.1 ha (by omega) e4, if_pos ⟨rfl, hp⟩]
        · rw [rh r c eA eN, if_pos hp]
      · by_cases h40 : k = 40
        · refine BO_bad (kk := 4) (by omega) (fun h => by omega) (fun m c pc e4 => ?_) (fun r c eA eN e40 => ?_)
          · rw [cLineHead c pc hw hk.1 ha (by omega) e4, if_neg (fun h => hp h.2), if_neg (by omega)]
          · rw [rh r c eA eN, if_neg hp, mJ_40 (by omega)]
        · have hr := nmP_r (A := A) (N := N) (w := (lexT T n lim p).2.2.2.2) (by omega)
          refine line_join ok hl (by omega) lr.2.1 pp k0 (by omega) (ao_side (f0 := nmP A N (lexT T n lim p).2.2.2.2) ok hl (by omega) lr.2.1 k0 (by omega) (by omega)) (fun m c pc e4 => ?_) (fun r c eA eN e40 => ?_)
          · obtain ⟨x1, x2, x3, x4, x5, x6⟩ := cM (a := 0) c pc e4
            refine ⟨zup (zup m 46 k 0) 47 k (nmP A N (lexT T n lim p).2.2.2.2), ?_, CU_up x1 (by omega), PC_f x2 (fun q _ _ => zup_off (by omega)), by rw [zup_off (by omega)]; exact x3, fun _ => by rw [zup_same, if_pos rfl], by rw [zup_off (by omega), x4]; rfl, fun j hj => ⟨by rw [zup_off (by omega)]; exact (x5 j hj).1, by rw [zup_same, if_neg hj]; exact (x5 j hj).2.1, by rw [zup_off (by omega)]; exact (x5 j hj).2.2⟩, FB_t x6 (FE_B (k := k) (FE_up (Or.inl rfl)))⟩
            rw [cLineHead c pc hw hk.1 ha (by omega) e4, if_neg (fun h => hp h.2), if_pos (by omega), ixb (Or.inl rfl) ⟨k0, by omega⟩, pipe, if_pos rfl, ixb (Or.inr (Or.inl rfl)) ⟨k0, by omega⟩, pipe]
          · obtain ⟨R, y1, y2, y3, y4, y5, y6, y7, y8, y9, y10⟩ := mHeadR (v := 0) (f0 := nmP A N (lexT T n lim p).2.2.2.2) (gr := fun R => zbind (f_X12_readSide R) fun y m => f_X12_keep (3 * k + 2) y m) ok hl h0 h1 k0 c eA eN e40 (by rw [rh r c eA eN, if_neg hp, mJ_0 e40 k0 (by omega) eA eN o (c.2.2.2.2.1 hk.1)])
            exact ⟨R, y1, y2, y3, y4, fun _ => y5, y6, y7, y8, y9, y10⟩
    · have ha9 : 9 ≤ kno (lexT T n lim p).2.2.2.2 ∧ kno (lexT T n lim p).2.2.2.2 ≤ 12 := by
        refine Classical.byContradiction fun z => hk.2 ?_
        unfold aOf
        rw [if_neg hn, if_neg z]
      have ha : aOf (kno (lexT T n lim p).2.2.2.2) = 10 * (kno (lexT T n lim p).2.2.2.2 - 8) := by
        unfold aOf
        rw [if_neg hn, if_pos ha9]
      have rh : ∀ r, RU T n lim r p → r 140 = A → r 145 = N → f_X12_readBookLine r = f_X12_readBookLine_j88 (kno (lexT T n lim p).2.2.2.2 - 8) r := by
        intro r c eA eN
        rw [mLineHead hl h0 h1 c eA eN o, if_pos ⟨hk.1, ha9⟩]
      by_cases h40 : k = 40
      · refine BO_bad (kk := 4) (by omega) (fun h => by omega) (fun m c pc e4 => ?_) (fun r c eA eN e40 => ?_)
        · rw [cLineHead c pc hw hk.1 ha (by omega) e4, if_neg (fun h => by omega), if_neg (by omega)]
        · rw [rh r c eA eN, mJ_40 (by omega)]
      · by_cases e11 : kno (lexT T n lim p).2.2.2.2 = 11
        · refine line_join ok hl (by omega) lr.2.1 pp k0 (by omega) (ao_house (f0 := 0) ok hl (by omega) lr.2.1 k0 (by omega) o) (fun m c pc e4 => ?_) (fun r c eA eN e40 => ?_)
          · obtain ⟨x1, x2, x3, x4, x5, x6⟩ := cM (a := 10 * (kno (lexT T n lim p).2.2.2.2 - 8)) c pc e4
            refine ⟨_, ?_, x1, x2, x3, fun h => by omega, by rw [x4]; omega, x5, x6⟩
            rw [cLineHead c pc hw hk.1 ha (by omega) e4, if_neg (fun h => by omega), if_pos (by omega), ixb (Or.inl rfl) ⟨k0, by omega⟩, pipe, if_neg (by omega), if_pos (by omega)]
          · obtain ⟨R, y1, y2, y3, y4, y5, y6, y7, y8, y9, y10⟩ := mHeadR (v := 3) (f0 := 0) (gr := fun R => zbind (f_X12_readNamed 0 (R 140 2) R) fun y m => f_X12_keep (3 * k + 1) y m) ok hl h0 h1 k0 c eA eN e40 (by rw [rh r c eA eN, e11]; exact mJ_3 e40 k0 (by omega))
            exact ⟨R, y1, y2, y3, y4, fun _ => y5, y6, y7, y8, y9, y10⟩
        · by_cases e12 : kno (lexT T n lim p).2.2.2.2 = 12
          · refine line_join ok hl (by omega) lr.2.1 pp k0 (by omega) (ao_number (f0 := 0) ok hl (by omega) lr.2.1 k0 (by omega)) (fun m c pc e4 => ?_) (fun r c eA eN e40 => ?_)
            · obtain ⟨x1, x2, x3, x4, x5, x6⟩ := cM (a := 10 * (kno (lexT T n lim p).2.2.2.2 - 8)) c pc e4
              refine ⟨_, ?_, x1, x2, x3, fun h => by omega, by rw [x4]; omega, x5, x6⟩
              rw [cLineHead c pc hw hk.1 ha (by omega) e4, if_neg (fun h => by omega), if_pos (by omega), ixb (Or.inl rfl) ⟨k0, by omega⟩, pipe, if_neg (by omega), if_neg (by omega), if_pos (by omega)]
            · obtain ⟨R, y1, y2, y3, y4, y5, y6, y7, y8, y9, y10⟩ := mHeadR (v := 4) (f0 := 0) (gr := fun R => zbind (f_X12_readNumber 1 60 R) fun y m => f_X12_keep (3 * k + 1) y m) ok hl h0 h1 k0 c eA eN e40 (by rw [rh r c eA eN, e12]; exact mJ_4 e40 k0 (by omega))
              exact ⟨R, y1, y2, y3, y4, fun _ => y5, y6, y7, y8, y9, y10⟩
          · refine line_join ok hl (by omega) lr.2.1 pp k0 (by omega) (ao_place (f0 := 0) (a := kno (lexT T n lim p).2.2.2.2 - 8) ok hl (by omega) lr.2.1 k0 (by omega) (by omega)) (fun m c pc e4 => ?_) (fun r c eA eN e40 => ?_)
            · obtain ⟨x1, x2, x3, x4, x5, x6⟩ := cM (a := 10 * (kno (lexT T n lim p).2.2.2.2 - 8)) c pc e4
              refine ⟨_, ?_, x1, x2, x3, fun h => by omega, x4, x5, x6⟩
              rw [cLineHead c pc hw hk.1 ha (by omega) e4, if_neg (fun h => by omega), if_pos (by omega), ixb (Or.inl rfl) ⟨k0, by omega⟩, pipe, if_neg (by omega), if_neg (by omega), if_neg (by omega)]
            · obtain ⟨R, y1, y2, y3, y4, y5, y6, y7, y8, y9, y10⟩ := mHeadR (v := kno (lexT T n lim p).2.2.2.2 - 8) (f0 := 0) (gr := fun R => f_X12_readPlace (3 * k) R) ok hl h0 h1 k0 c eA eN e40 (by rw [rh r c eA eN]; exact mJ_12 e40 k0 (by omega) (by omega))
              exact ⟨R, y1, y2, y3, y4, fun _ => y5, y6, y7, y8, y9, y10⟩
  · refine Or.inl ⟨1, (lexT T n lim p).1, by omega, fun m x y z => ?_, fun r x y z w => ?_⟩
    · obtain ⟨m', a1, a2, a3⟩ := cLineBad x hk
      refine ⟨m', ?_, a2, FXF_B a3⟩
      unfold lineC
      rw [a1]
      simp [zbind]
    · obtain ⟨r', a1, a2, a3⟩ := mBad x 1
      have e : (if (lexT T n lim p).2.2.1 = 1 then (1 : Int) else 1) = 1 := by split <;> rfl
      rw [e] at a2
      refine ⟨r', ?_, a2, FYF_B a3⟩
      rw [mLineHead hl h0 h1 x y z o, if_neg (fun h => hk ⟨h.1, by unfold aOf; rw [if_neg (by omega), if_pos h.2]; omega⟩), if_neg (fun h => hk ⟨h.1, by rw [h.2]; decide⟩), a1]
      simp [zbind]
