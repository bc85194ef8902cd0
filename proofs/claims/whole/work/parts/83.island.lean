/-! the island put in its place: the reference's end, and the whole call -/
theorem mStart_0 (r : zMem) : ∃ r', f_X12_startSo_0 zN 0 r = some (0, r') ∧ (∀ q, q ≠ 140 → r' q = r q) ∧ ∀ j, r' 140 j = if 128 ≤ j ∧ j < 192 then r 140 (j - 86) else r 140 j := by
  obtain ⟨n', m', ⟨i1, i2⟩, e⟩ := lp_inv (F := fun n i m => f_X12_startSo_0 n i m) (N := 64) (m := r) (I := fun i x => (∀ q, q ≠ 140 → x q = r q) ∧ ∀ j, x 140 j = if 128 ≤ j ∧ j < 128 + i then r 140 (j - 86) else r 140 j) (by
    intro n i x a b ⟨c, d⟩
    show ∃ m', b_X12_startSo_0 (f_X12_startSo_0 n) i x = _ ∧ _
    unfold b_X12_startSo_0
    rw [if_neg (by omega), w32_id (x := i + 1) ⟨by omega, by omega⟩, w32_id (x := 42 + i) ⟨by omega, by omega⟩, w32_id (x := 128 + i) ⟨by omega, by omega⟩, ixl (by omega), ixl (by omega), d, if_neg (by omega)]
    refine ⟨_, rfl, fun q hq => by rw [zup_off hq, c q hq], fun j => ?_⟩
    rw [zup_same, d j]
    by_cases hj : j = 128 + i
    · rw [if_pos hj, if_pos (by omega), hj]
      congr 1
      omega
    · by_cases hk : 128 ≤ j ∧ j < 128 + i
      · rw [if_neg hj, if_pos hk, if_pos (by omega)]
      · rw [if_neg hj, if_neg hk, if_neg (by omega)]) (by omega) (by omega) ⟨fun _ _ => rfl, fun j => by rw [if_neg (by omega)]⟩
  refine ⟨m', ?_, i1, i2⟩
  rw [show f_X12_startSo_0 zN 0 r = f_X12_startSo_0 (n' + 1) 64 m' from e]
  have u : f_X12_startSo_0 (n' + 1) 64 m' = b_X12_startSo_0 (f_X12_startSo_0 n') 64 m' := rfl
  rw [u]
  unfold b_X12_startSo_0
  rw [if_pos (by omega)]
theorem mStart_1 (r : zMem) : ∃ r', f_X12_startSo_1 zN 0 r = some (0, r') ∧ (∀ q, q ≠ 140 → r' q = r q) ∧ ∀ j, r' 140 j = if 128 ≤ j ∧ j < 192 then r 140 (j - 86) else if 116 ≤ j ∧ j < 122 then r 140 (j - 96) else r 140 j := by
  obtain ⟨n', m', ⟨i1, i2⟩, e⟩ := lp_inv (F := fun n i m => f_X12_startSo_1 n i m) (N := 6) (m := r) (I := fun i x => (∀ q, q ≠ 140 → x q = r q) ∧ ∀ j, x 140 j = if 116 ≤ j ∧ j < 116 + i then r 140 (j - 96) else r 140 j) (by
    intro n i x a b ⟨c, d⟩
    show ∃ m', b_X12_startSo_1 (f_X12_startSo_1 n) i x = _ ∧ _
    unfold b_X12_startSo_1
    rw [if_neg (by omega), w32_id (x := i + 1) ⟨by omega, by omega⟩, w32_id (x := 20 + i) ⟨by omega, by omega⟩, w32_id (x := 116 + i) ⟨by omega, by omega⟩, ixl (by omega), ixl (by omega), d, if_neg (by omega)]
    refine ⟨_, rfl, fun q hq => by rw [zup_off hq, c q hq], fun j => ?_⟩
    rw [zup_same, d j]
    by_cases hj : j = 116 + i
    · rw [if_pos hj, if_pos (by omega), hj]
      congr 1
      omega
    · by_cases hk : 116 ≤ j ∧ j < 116 + i
      · rw [if_neg hj, if_pos hk, if_pos (by omega)]
      · rw [if_neg hj, if_neg hk, if_neg (by omega)]) (by omega) (by omega) ⟨fun _ _ => rfl, fun j => by rw [if_neg (by omega)]⟩
  obtain ⟨r2, a1, a2, a3⟩ := mStart_0 m'
  refine ⟨r2, ?_, fun q hq => by rw [a2 q hq, i1 q hq], fun j => ?_⟩
  · rw [show f_X12_startSo_1 zN 0 r = f_X12_startSo_1 (n' + 1) 6 m' from e]
    have u : f_X12_startSo_1 (n' + 1) 6 m' = b_X12_startSo_1 (f_X12_startSo_1 n') 6 m' := rfl
    rw [u]
    unfold b_X12_startSo_1
    rw [if_pos (by omega), a1]
  · rw [a3 j]
    by_cases h : 128 ≤ j ∧ j < 192
    · rw [if_pos h, if_pos h, i2, if_neg (by omega)]
    · rw [if_neg h, if_neg h, i2]
      by_cases k : 116 ≤ j ∧ j < 122
      · rw [if_pos (by omega), if_pos k]
      · rw [if_neg (by omega), if_neg k]
theorem mStart_2 (r : zMem) : ∃ r', f_X12_startSo_2 zN 0 r = some (0, r') ∧ (∀ q, q ≠ 140 → r' q = r q) ∧ ∀ j, r' 140 j = if 128 ≤ j ∧ j < 192 then r 140 (j - 86) else if 116 ≤ j ∧ j < 122 then r 140 (j - 96) else if 111 ≤ j ∧ j < 116 then r 140 (j - 96) else r 140 j := by
  obtain ⟨n', m', ⟨i1, i2⟩, e⟩ := lp_inv (F := fun n i m => f_X12_startSo_2 n i m) (N := 5) (m := r) (I := fun i x => (∀ q, q ≠ 140 → x q = r q) ∧ ∀ j, x 140 j = if 111 ≤ j ∧ j < 111 + i then r 140 (j - 96) else r 140 j) (by
    intro n i x a b ⟨c, d⟩
    show ∃ m', b_X12_startSo_2 (f_X12_startSo_2 n) i x = _ ∧ _
    unfold b_X12_startSo_2
    rw [if_neg (by omega), w32_id (x := i + 1) ⟨by omega, by omega⟩, w32_id (x := 15 + i) ⟨by omega, by omega⟩, w32_id (x := 111 + i) ⟨by omega, by omega⟩, ixl (by omega), ixl (by omega), d, if_neg (by omega)]
    refine ⟨_, rfl, fun q hq => by rw [zup_off hq, c q hq], fun j => ?_⟩
    rw [zup_same, d j]
    by_cases hj : j = 111 + i
    · rw [if_pos hj, if_pos (by omega), hj]
      congr 1
      omega
    · by_cases hk : 111 ≤ j ∧ j < 111 + i
      · rw [if_neg hj, if_pos hk, if_pos (by omega)]
      · rw [if_neg hj, if_neg hk, if_neg (by omega)]) (by omega) (by omega) ⟨fun _ _ => rfl, fun j => by rw [if_neg (by omega)]⟩
  obtain ⟨r2, a1, a2, a3⟩ := mStart_1 m'
  refine ⟨r2, ?_, fun q hq => by rw [a2 q hq, i1 q hq], fun j => ?_⟩
  · rw [show f_X12_startSo_2 zN 0 r = f_X12_startSo_2 (n' + 1) 5 m' from e]
    have u : f_X12_startSo_2 (n' + 1) 5 m' = b_X12_startSo_2 (f_X12_startSo_2 n') 5 m' := rfl
    rw [u]
    unfold b_X12_startSo_2
    rw [if_pos (by omega), a1]
  · rw [a3 j]
    by_cases h : 128 ≤ j ∧ j < 192
    · rw [if_pos h, if_pos h, i2, if_neg (by omega)]
    · rw [if_neg h, if_neg h]
      by_cases k : 116 ≤ j ∧ j < 122
      · rw [if_pos k, if_pos k, i2, if_neg (by omega)]
      · rw [if_neg k, if_neg k, i2]
        by_cases k2 : 111 ≤ j ∧ j < 116
        · rw [if_pos (by omega), if_pos k2]
        · rw [if_neg (by omega), if_neg k2]
theorem mStart (r : zMem) : ∃ r', f_X12_startSo r = some (0, r') ∧ (∀ q, q ≠ 140 → r' q = r q) ∧ ∀ j, 0 ≤ j → j < 434 → r' 140 j = rowA (r 140) j := by
  have hN := zN_ge
  obtain ⟨n', m', ⟨i1, i2⟩, e⟩ := lp_gen (F := fun n (m : zMem) i => f_X12_startSo_3 n i m) (I := fun i x => (∀ q, q ≠ 140 → x q = r q) ∧ ∀ j, x 140 j = if 106 ≤ j ∧ j < i then 0 else r 140 j) (M := 106) (N := 434) (n := zN) (a := r) (by
    intro n i x a b ⟨c, d⟩
    show ∃ m', b_X12_startSo_3 (f_X12_startSo_3 n) i x = _ ∧ _
    unfold b_X12_startSo_3
    rw [if_neg (by omega), w32_id (x := i + 1) ⟨by omega, by omega⟩, ixl (by omega)]
    refine ⟨_, rfl, fun q hq => by rw [zup_off hq, c q hq], fun j => ?_⟩
    rw [zup_same, d j]
    by_cases hj : j = i
    · rw [if_pos hj, if_pos (by omega)]
    · by_cases hk : 106 ≤ j ∧ j < i
      · rw [if_neg hj, if_pos hk, if_pos (by omega)]
      · rw [if_neg hj, if_neg hk, if_neg (by omega)]) (by omega) ⟨fun _ _ => rfl, fun j => by rw [if_neg (by omega)]⟩ (by omega)
  obtain ⟨r2, a1, a2, a3⟩ := mStart_2 m'
  refine ⟨r2, ?_, fun q hq => by rw [a2 q hq, i1 q hq], fun j j0 j1 => ?_⟩
  · unfold f_X12_startSo
    rw [show f_X12_startSo_3 zN 106 r = f_X12_startSo_3 (n' + 1) 434 m' from e]
    have u : f_X12_startSo_3 (n' + 1) 434 m' = b_X12_startSo_3 (f_X12_startSo_3 n') 434 m' := rfl
    rw [u]
    unfold b_X12_startSo_3
    rw [if_pos (by omega), a1]
  · rw [a3 j]
    unfold rowA
    by_cases h : 128 ≤ j ∧ j < 192
    · rw [if_pos h, i2, if_neg (by omega), if_neg (by omega), if_neg (by omega), if_neg (by omega), if_pos (by omega)]
    · rw [if_neg h]
      by_cases k : 116 ≤ j ∧ j < 122
      · rw [if_pos k, i2, if_neg (by omega), if_neg (by omega), if_neg (by omega), if_pos (by omega)]
      · rw [if_neg k]
        by_cases k2 : 111 ≤ j ∧ j < 116
        · rw [if_pos k2, i2, if_neg (by omega), if_neg (by omega), if_pos (by omega)]
        · rw [if_neg k2, i2]
          by_cases k3 : j < 106
          · rw [if_neg (by omega), if_pos k3]
          · rw [if_pos (by omega), if_neg k3, if_neg (by omega), if_neg (by omega), if_neg (by omega)]
theorem mIsl_0 (v : Int) (r : zMem) : ∃ r', f_X12_island_0 zN v 0 r = some (v, r') ∧ (∀ q, q ≠ 138 → q ≠ 140 → q ≠ 145 → r' q = r q) ∧ (∀ j, 0 ≤ j → j < 434 → r' 140 j = rowA (r 140) j) ∧ (∀ j, 0 ≤ j → j < 11 → r' 145 j = r 146 j) ∧ ∀ i, r' 138 i = up (r 138) 25 0 i := by
  have L1 : sLen 145 = 11 := rfl
  have L2 : sLen 146 = 11 := rfl
  obtain ⟨n', m', ⟨i1, i2⟩, e⟩ := lp_inv (F := fun n i m => f_X12_island_0 n v i m) (N := 11) (m := r) (I := fun i x => (∀ q, q ≠ 145 → x q = r q) ∧ ∀ j, 0 ≤ j → j < i → x 145 j = r 146 j) (by
    intro n i x a b ⟨c, d⟩
    show ∃ m', b_X12_island_0 (f_X12_island_0 n) v i x = _ ∧ _
    unfold b_X12_island_0
    rw [if_neg (by omega), w32_id (x := i + 1) ⟨by omega, by omega⟩, if_pos (by omega), if_pos (by omega), c 146 (by omega)]
    refine ⟨_, rfl, fun q hq => by rw [zup_off hq, c q hq], fun j j0 j1 => ?_⟩
    rw [zup_same]
    by_cases hj : j = i
    · rw [if_pos hj, hj]
    · rw [if_neg hj, d j j0 (by omega)]) (by omega) (by omega) ⟨fun _ _ => rfl, fun j a b => by omega⟩
  obtain ⟨r2, a1, a2, a3⟩ := mStart m'
  refine ⟨zup r2 138 25 0, ?_, fun q a b c => by rw [zup_off a, a2 q b, i1 q c], fun j a b => by rw [zup_off (by omega), a3 j a b, i1 140 (by omega)], fun j a b => by rw [zup_off (by omega), a2 145 (by omega), i2 j a b], fun i => by rw [zup_same, a2 138 (by omega), i1 138 (by omega)]; rfl⟩
  rw [show f_X12_island_0 zN v 0 r = f_X12_island_0 (n' + 1) v 11 m' from e]
  have u : f_X12_island_0 (n' + 1) v 11 m' = b_X12_island_0 (f_X12_island_0 n') v 11 m' := rfl
  rw [u]
  unfold b_X12_island_0
  rw [if_pos (by omega), a1]
  rfl
theorem mIsl_1 (v : Int) (r : zMem) : ∃ r', f_X12_island_1 zN v 0 r = some (v, r') ∧ (∀ q, q ≠ 138 → q ≠ 140 → q ≠ 145 → r' q = r q) ∧ (∀ j, 0 ≤ j → j < 434 → r' 140 j = rowA (r 141) j) ∧ (∀ j, 0 ≤ j → j < 11 → r' 145 j = r 146 j) ∧ ∀ i, r' 138 i = up (r 138) 25 0 i := by
  obtain ⟨n', m', ⟨i1, i2⟩, e⟩ := lp_inv (F := fun n i m => f_X12_island_1 n v i m) (N := 106) (m := r) (I := fun i x => (∀ q, q ≠ 140 → x q = r q) ∧ ∀ j, 0 ≤ j → j < i → x 140 j = r 141 j) (by
    intro n i x a b ⟨c, d⟩
    show ∃ m', b_X12_island_1 (f_X12_island_1 n) v i x = _ ∧ _
    unfold b_X12_island_1
    rw [if_neg (by omega), w32_id (x := i + 1) ⟨by omega, by omega⟩, ix1 (by omega), ixl (by omega), c 141 (by omega)]
    refine ⟨_, rfl, fun q hq => by rw [zup_off hq, c q hq], fun j j0 j1 => ?_⟩
    rw [zup_same]
    by_cases hj : j = i
    · rw [if_pos hj, hj]
    · rw [if_neg hj, d j j0 (by omega)]) (by omega) (by omega) ⟨fun _ _ => rfl, fun j a b => by omega⟩
  obtain ⟨r2, a1, a2, a3, a4, a5⟩ := mIsl_0 v m'
  refine ⟨r2, ?_, fun q a b c => by rw [a2 q a b c, i1 q b], fun j a b => ?_, fun j a b => by rw [a4 j a b, i1 146 (by omega)], fun i => by rw [a5 i, i1 138 (by omega)]⟩
  · rw [show f_X12_island_1 zN v 0 r = f_X12_island_1 (n' + 1) v 106 m' from e]
    have u : f_X12_island_1 (n' + 1) v 106 m' = b_X12_island_1 (f_X12_island_1 n') v 106 m' := rfl
    rw [u]
    unfold b_X12_island_1
    rw [if_pos (by omega), a1]
  · rw [a3 j a b]
    unfold rowA
    by_cases k1 : j < 106
    · rw [if_pos k1, if_pos k1, i2 j a k1]
    · rw [if_neg k1, if_neg k1]
      by_cases k2 : 111 ≤ j ∧ j ≤ 115
      · rw [if_pos k2, if_pos k2, i2 _ (by omega) (by omega)]
      · rw [if_neg k2, if_neg k2]
        by_cases k3 : 116 ≤ j ∧ j ≤ 121
        · rw [if_pos k3, if_pos k3, i2 _ (by omega) (by omega)]
        · rw [if_neg k3, if_neg k3]
          by_cases k4 : 128 ≤ j ∧ j ≤ 191
          · rw [if_pos k4, if_pos k4, i2 _ (by omega) (by omega)]
          · rw [if_neg k4, if_neg k4]
