/-! the reference: what stays after a book -/
theorem l144 : sLen 144 = 86 := rfl
theorem mSwap {r : zMem} (x : Int) : ∃ n' r', f_X12_stay_0 zN x 0 r = f_X12_stay_0 (n' + 1) x 86 r' ∧ (∀ q, q ≠ 140 → q ≠ 144 → r' q = r q) ∧ (∀ j, r' 140 j = if 106 ≤ j ∧ j < 192 then r 144 (j - 106) else r 140 j) ∧ ∀ j, r' 144 j = if 0 ≤ j ∧ j < 86 then r 140 (106 + j) else r 144 j := by
  have L := l144
  obtain ⟨n', m', ⟨i1, i2, i3⟩, e⟩ := lp_inv (F := fun n i m => f_X12_stay_0 n x i m) (N := 86) (m := r) (I := fun i y => (∀ q, q ≠ 140 → q ≠ 144 → y q = r q) ∧ (∀ j, y 140 j = if 106 ≤ j ∧ j < 106 + i then r 144 (j - 106) else r 140 j) ∧ ∀ j, y 144 j = if 0 ≤ j ∧ j < i then r 140 (106 + j) else r 144 j) (by
    intro n i y a b ⟨c, d, e⟩
    show ∃ m', b_X12_stay_0 (f_X12_stay_0 n) x i y = _ ∧ _
    unfold b_X12_stay_0
    rw [if_neg (by omega), w32_id (x := i + 1) ⟨by omega, by omega⟩, w32_id (x := 106 + i) ⟨by omega, by omega⟩, ixl (by omega), pipe, if_pos (by omega), ixl (by omega), pipe, if_pos (by omega), d (106 + i), if_neg (by omega), e i, if_neg (by omega)]
    refine ⟨_, rfl, fun q h1 h2 => by rw [zup_off h2, zup_off h1, c q h1 h2], fun j => ?_, fun j => ?_⟩
    · rw [zup_off (by omega), zup_same, d j]
      by_cases hj : j = 106 + i
      · rw [if_pos hj, if_pos (by omega), hj]
        congr 1
        omega
      · by_cases hk : 106 ≤ j ∧ j < 106 + i
        · rw [if_neg hj, if_pos hk, if_pos (by omega)]
        · rw [if_neg hj, if_neg hk, if_neg (by omega)]
    · rw [zup_same, zup_off (by omega), e j]
      by_cases hj : j = i
      · rw [if_pos hj, if_pos (by omega), hj]
      · by_cases hk : 0 ≤ j ∧ j < i
        · rw [if_neg hj, if_pos hk, if_pos (by omega)]
        · rw [if_neg hj, if_neg hk, if_neg (by omega)]) (by omega) (by omega) ⟨fun _ _ _ => rfl, fun j => by rw [if_neg (by omega)], fun j => by rw [if_neg (by omega)]⟩
  exact ⟨n', m', e, i1, i2, i3⟩
theorem mStay_0 (r : zMem) : ∃ r', f_X12_stay 0 r = some (0, r') ∧ (∀ q, q ≠ 140 → q ≠ 144 → r' q = r q) ∧ (∀ j, r' 140 j = if 106 ≤ j ∧ j < 192 then r 144 (j - 106) else r 140 j) ∧ ∀ j, r' 144 j = if 0 ≤ j ∧ j < 86 then r 140 (106 + j) else r 144 j := by
  obtain ⟨n', r', e, a1, a2, a3⟩ := mSwap (r := r) 0
  refine ⟨r', ?_, a1, a2, a3⟩
  unfold f_X12_stay
  rw [e]
  have u : f_X12_stay_0 (n' + 1) 0 86 r' = b_X12_stay_0 (f_X12_stay_0 n') 0 86 r' := rfl
  rw [u]
  unfold b_X12_stay_0
  rw [if_pos (by omega), if_pos rfl]
theorem mStay_1 (r : zMem) : ∃ r', f_X12_stay 1 r = (zbind (f_X12_snap r') fun _ m3 => zbind (f_X12_takeBack m3) fun _ m4 => some (0, m4)) ∧ (∀ q, q ≠ 140 → q ≠ 144 → r' q = r q) ∧ (∀ j, r' 140 j = if 106 ≤ j ∧ j < 192 then r 144 (j - 106) else r 140 j) ∧ ∀ j, r' 144 j = if 0 ≤ j ∧ j < 86 then r 140 (106 + j) else r 144 j := by
  obtain ⟨n', r', e, a1, a2, a3⟩ := mSwap (r := r) 1
  refine ⟨r', ?_, a1, a2, a3⟩
  unfold f_X12_stay
  rw [e]
  have u : f_X12_stay_0 (n' + 1) 1 86 r' = b_X12_stay_0 (f_X12_stay_0 n') 1 86 r' := rfl
  rw [u]
  unfold b_X12_stay_0
  rw [if_pos (by omega), if_neg (by omega)]
