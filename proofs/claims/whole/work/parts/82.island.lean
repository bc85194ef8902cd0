/-! a text begun, and an island put in its place -/
theorem cBegin {m : zMem} {T : Int → Int} {n : Int} (lim : Int) (e2 : m 1 2 = n) (eT : ∀ i, 0 ≤ i → i < n → m 2 i = T i) (kw : ∀ k : Nat, k < 24 → m 3 k = kw32.getD k 0) : ∃ m', f_X6_beginText lim m = some (0, m') ∧ CU T n lim m' 0 ∧ (∀ q, q ≠ 1 → m' q = m q) ∧ ∀ i, i < 3 → m' 1 i = m 1 i := by
  unfold f_X6_beginText
  simp only [pipe]
  refine ⟨_, rfl, ⟨⟨?_, ?_, ?_, ?_⟩, ?_, ?_⟩, fun q hq => ?_, fun i hi => ?_⟩
  · rw [zup_same, if_neg (by omega), zup_same, if_neg (by omega), zup_same, if_neg (by omega), zup_same, if_neg (by omega)]
    exact e2
  · rw [zup_same, if_neg (by omega), zup_same, if_neg (by omega), zup_same, if_neg (by omega), zup_same, if_pos rfl]
  · rw [zup_off (by omega), zup_off (by omega), zup_off (by omega), zup_off (by omega)]
    exact eT
  · rw [zup_off (by omega), zup_off (by omega), zup_off (by omega), zup_off (by omega)]
    exact kw
  · rw [zup_same, if_neg (by omega), zup_same, if_neg (by omega), zup_same, if_pos rfl]
  · rw [zup_same, if_neg (by omega), zup_same, if_pos rfl]
  · rw [zup_off hq, zup_off hq, zup_off hq, zup_off hq]
  · rw [zup_same, if_neg (by omega), zup_same, if_neg (by omega), zup_same, if_neg (by omega), zup_same, if_neg (by omega)]
theorem mBegin {r : zMem} {T : Int → Int} {n : Int} {lim : Int} (ok : okTx T n) (e2 : r 138 2 = n) (eT : ∀ i, 0 ≤ i → i < n → r 139 i = T i) : ∃ r', f_X12_begin lim r = some (0, r') ∧ RU T n lim r' 0 ∧ (∀ q, q ≠ 138 → r' q = r q) ∧ r' 138 2 = 0 ∧ ∀ i, (i = 1 ∨ 12 < i) → r' 138 i = r 138 i := by
  have hN := ok.1
  unfold f_X12_begin f_X12_take
  simp only [pipe, zbind]
  generalize hr : zup (zup (zup (zup (zup (zup r 138 0 0) 138 2 0) 138 3 (zup r 138 0 0 138 2)) 138 4 lim) 138 10 0) 138 5 0 = r1
  have h : ∀ i, r1 138 i = if i = 5 then 0 else if i = 10 then 0 else if i = 4 then lim else if i = 3 then n else if i = 2 then 0 else if i = 0 then 0 else r 138 i := by
    intro i
    rw [← hr, zup_same, zup_same, zup_same, zup_same, zup_same, zup_same, zup_same, if_neg (by omega : ¬ (2 : Int) = 0), e2]
  have ho : ∀ q, q ≠ 138 → r1 q = r q := by
    intro q hq
    rw [← hr, zup_off hq, zup_off hq, zup_off hq, zup_off hq, zup_off hq, zup_off hq]
  have rx : RX r1 T n lim := ⟨by rw [h]; simp, by rw [h]; simp, by rw [ho 139 (by omega)]; exact eT⟩
  obtain ⟨r', a, b, d⟩ := mGoT rx ok (by omega : (0 : Int) ≤ 0) hN (by rw [h]; simp)
  rw [a]
  refine ⟨r', rfl, ⟨⟨RX_fy rx d, by rw [d.2 10 (by omega), h]; simp⟩, b⟩, fun q hq => by rw [d.1 q hq, ho q hq], by rw [d.2 2 (by omega), h]; simp, fun i hi => ?_⟩
  rw [d.2 i (by omega), h, if_neg (by omega), if_neg (by omega), if_neg (by omega), if_neg (by omega), if_neg (by omega), if_neg (by omega)]
theorem cClear7_0 (m : zMem) : ∃ m', f_X7_clear_0 zN 35 0 m = some (0, m') ∧ (∀ q, q ≠ 35 → q ≠ 38 → m' q = m q) ∧ (∀ p, 0 ≤ p → p < 6 → m' 38 p = 0) ∧ ∀ i, m' 35 i = if 4 ≤ i ∧ i ≤ 8 then 0 else m 35 i := by
  have L : sLen 38 = 6 := rfl
  obtain ⟨n', m', ⟨i1, i2⟩, e⟩ := lp_inv (F := fun n i m => f_X7_clear_0 n 35 i m) (N := 6) (m := m) (I := fun i x => (∀ q, q ≠ 38 → x q = m q) ∧ ∀ j, 0 ≤ j → j < i → x 38 j = 0) (by
    intro n i x a b ⟨c, d⟩
    show ∃ m', b_X7_clear_0 (f_X7_clear_0 n) 35 i x = _ ∧ _
    unfold b_X7_clear_0
    rw [if_neg (by omega), w32_id (x := i + 1) ⟨by omega, by omega⟩, if_pos (by show 0 ≤ i ∧ i < sLen 38; omega)]
    refine ⟨_, rfl, fun q hq => by rw [zup_off hq, c q hq], fun j j0 j1 => ?_⟩
    rw [zup_same]
    by_cases hj : j = i
    · rw [if_pos hj]
    · rw [if_neg hj, d j j0 (by omega)]) (by omega) (by omega) ⟨fun _ _ => rfl, fun j a b => by omega⟩
  rw [show f_X7_clear_0 zN 35 0 m = f_X7_clear_0 (n' + 1) 35 6 m' from e]
  have u : f_X7_clear_0 (n' + 1) 35 6 m' = b_X7_clear_0 (f_X7_clear_0 n') 35 6 m' := rfl
  rw [u]
  unfold b_X7_clear_0
  rw [if_pos (by omega)]
  simp only [pipe]
  refine ⟨_, rfl, fun q a b => by rw [zup_off a, zup_off a, zup_off a, zup_off a, zup_off a, i1 q b], fun p a b => by rw [zup_off (by omega), zup_off (by omega), zup_off (by omega), zup_off (by omega), zup_off (by omega), i2 p a b], fun i => ?_⟩
  simp only [zup_same]
  rw [i1 35 (by omega)]
  by_cases h : 4 ≤ i ∧ i ≤ 8
  · rw [if_pos h]
    split
    · rfl
    · split
      · rfl
      · split
        · rfl
        · split
          · rfl
          · split
            · rfl
            · omega
  · rw [if_neg h, if_neg (by omega), if_neg (by omega), if_neg (by omega), if_neg (by omega), if_neg (by omega)]
theorem cClear7 (m : zMem) : ∃ m', f_X7_clear 35 m = some (0, m') ∧ (∀ q, q ≠ 35 → q ≠ 36 → q ≠ 38 → m' q = m q) ∧ (∀ c, 0 ≤ c → c < 64 → m' 36 c = 0) ∧ (∀ p, 0 ≤ p → p < 6 → m' 38 p = 0) ∧ ∀ i, m' 35 i = if 4 ≤ i ∧ i ≤ 8 then 0 else m 35 i := by
  have L : sLen 36 = 64 := rfl
  obtain ⟨n', m', ⟨i1, i2⟩, e⟩ := lp_inv (F := fun n i m => f_X7_clear_1 n 35 i m) (N := 64) (m := m) (I := fun i x => (∀ q, q ≠ 36 → x q = m q) ∧ ∀ j, 0 ≤ j → j < i → x 36 j = 0) (by
    intro n i x a b ⟨c, d⟩
    show ∃ m', b_X7_clear_1 (f_X7_clear_1 n) 35 i x = _ ∧ _
    unfold b_X7_clear_1
    rw [if_neg (by omega), w32_id (x := i + 1) ⟨by omega, by omega⟩, if_pos (by show 0 ≤ i ∧ i < sLen 36; omega)]
    refine ⟨_, rfl, fun q hq => by rw [zup_off hq, c q hq], fun j j0 j1 => ?_⟩
    rw [zup_same]
    by_cases hj : j = i
    · rw [if_pos hj]
    · rw [if_neg hj, d j j0 (by omega)]) (by omega) (by omega) ⟨fun _ _ => rfl, fun j a b => by omega⟩
  obtain ⟨m2, a1, a2, a3, a4⟩ := cClear7_0 m'
  refine ⟨m2, ?_, fun q a b c => by rw [a2 q a c, i1 q b], fun c a b => by rw [a2 36 (by omega) (by omega), i2 c a b], a3, fun i => by rw [a4 i, i1 35 (by omega)]⟩
  unfold f_X7_clear
  rw [show f_X7_clear_1 zN 35 0 m = f_X7_clear_1 (n' + 1) 35 64 m' from e]
  have u : f_X7_clear_1 (n' + 1) 35 64 m' = b_X7_clear_1 (f_X7_clear_1 n') 35 64 m' := rfl
  rw [u]
  unfold b_X7_clear_1
  rw [if_pos (by omega), a1]
/-- the draft as it begins -/
def B00 (D : Int → Int) : Int → Int := fun j => if 0 ≤ j ∧ j < 106 then (if j ≤ 1 then 5 else 0) else D j
theorem B00_0 (D : Int → Int) {j : Int} (h0 : 2 ≤ j) (h1 : j < 106) : B00 D j = 0 := by
  unfold B00
  rw [if_pos (by omega), if_neg (by omega)]
theorem B00_5 (D : Int → Int) {j : Int} (h0 : 0 ≤ j) (h1 : j < 2) : B00 D j = 5 := by
  unfold B00
  rw [if_pos (by omega), if_pos (by omega)]
theorem B00_ok (D : Int → Int) : InvL (B00 D) 0 0 := by
  have e0 := B00_5 D (j := 0) (by omega) (by omega)
  have e1 := B00_5 D (j := 1) (by omega) (by omega)
  have e2 := B00_0 D (j := 2) (by omega) (by omega)
  have e3 := B00_0 D (j := 3) (by omega) (by omega)
  have e4 := B00_0 D (j := 4) (by omega) (by omega)
  refine ⟨oD_mk (by omega) (fun h a b => by omega) (fun h a b => by omega) (fun h a b => by omega) (fun c a b => by rw [B00_0 D (by omega) (by omega)]; omega), fun _ => ⟨e2, e3⟩, Or.inl rfl, Or.inl rfl⟩
theorem rowA_z (B : Int → Int) {i : Int} (h : (106 ≤ i ∧ i ≤ 110) ∨ (122 ≤ i ∧ i ≤ 127) ∨ 192 ≤ i) : rowA B i = 0 := by
  unfold rowA
  rw [if_neg (by omega), if_neg (by omega), if_neg (by omega), if_neg (by omega)]
theorem cDraft (m : zMem) (D N : Int → Int) : ∃ m', (zbind (f_X5_clear 28 m) fun _ m2 => zbind (f_X7_clear 35 m2) fun _ m3 => pipe (zup m3 27 4 0) fun m4 => pipe (zup m4 27 5 0) fun m5 => f_X4_readLines_0 zN 0 m5) = f_X4_readLines_0 zN 0 m' ∧ CSt m' (B00 D) N 0 0 ∧ (∀ q, (q < 27 ∨ 39 < q) → m' q = m q) := by
  unfold f_X5_clear
  simp only [pipe, zbind]
  generalize hm : zup (zup (zup (zup (zup m 28 0 5) 28 1 5) 28 2 0) 28 3 0) 28 4 0 = m2
  obtain ⟨m3, a1, a2, a3, a4, a5⟩ := cClear7 m2
  rw [a1]
  have ho : ∀ q, q ≠ 28 → m2 q = m q := by
    intro q hq
    rw [← hm, zup_off hq, zup_off hq, zup_off hq, zup_off hq, zup_off hq]
  have h : ∀ i, m2 28 i = if i = 4 then 0 else if i = 3 then 0 else if i = 2 then 0 else if i = 1 then 5 else if i = 0 then 5 else m 28 i := by
    intro i
    rw [← hm, zup_same, zup_same, zup_same, zup_same, zup_same]
  have e0 := B00_5 D (j := 0) (by omega) (by omega)
  have e1 := B00_5 D (j := 1) (by omega) (by omega)
  have e2 := B00_0 D (j := 2) (by omega) (by omega)
  have e3 := B00_0 D (j := 3) (by omega) (by omega)
  have e4 := B00_0 D (j := 4) (by omega) (by omega)
  have r0 := rowA_lo (B00 D) (i := 0) (by omega)
  have r1 := rowA_lo (B00 D) (i := 1) (by omega)
  have r2 := rowA_lo (B00 D) (i := 2) (by omega)
  have r3 := rowA_lo (B00 D) (i := 3) (by omega)
  have r4 := rowA_lo (B00 D) (i := 4) (by omega)
  have g : ∀ q, q ≠ 27 → zup (zup m3 27 4 0) 27 5 0 q = m3 q := fun q hq => by rw [zup_off hq, zup_off hq]
  have x28 : ∀ i, zup (zup m3 27 4 0) 27 5 0 28 i = if i = 4 then 0 else if i = 3 then 0 else if i = 2 then 0 else if i = 1 then 5 else if i = 0 then 5 else m 28 i := fun i => by rw [g 28 (by omega), a2 28 (by omega) (by omega) (by omega), h]
  have x35 : ∀ i, zup (zup m3 27 4 0) 27 5 0 35 i = if 4 ≤ i ∧ i ≤ 8 then 0 else m2 35 i := fun i => by rw [g 35 (by omega), a5]
  refine ⟨zup (zup m3 27 4 0) 27 5 0, rfl, ⟨⟨⟨⟨?_, ?_, ?_, ?_, ?_⟩, fun h a b => by omega, fun h a b => by omega⟩, ⟨⟨?_, ?_, ?_, ?_, ?_⟩, fun c a b => ?_, fun p a b => by omega, fun p a b => ?_, fun p a b => by omega⟩, ⟨fun p a b => by omega, fun p a b => by omega⟩⟩, ?_, ?_⟩, fun q hq => by rw [g q (by omega), a2 q (by omega) (by omega) (by omega), ho q (by omega)]⟩
  · rw [x28, r0, e0]; simp
  · rw [x28, r1, e1]; simp
  · rw [x28, r2, e2]; simp
  · rw [x28, r3, e3]; simp
  · rw [x28, r4, e4]; simp
  · rw [x35, rowA_z _ (by omega)]; simp
  · rw [x35, rowA_z _ (by omega)]; simp
  · rw [x35, rowA_z _ (by omega)]; simp
  · rw [x35, rowA_z _ (by omega)]; simp
  · rw [x35, rowA_z _ (by omega)]; simp
  · rw [rowA_c _ a b, B00_0 D (by omega) (by omega)]
    show zup (zup m3 27 4 0) 27 5 0 36 c = 0
    rw [g 36 (by omega), a3 c a b]
  · rw [rowA_z _ (by omega)]
    show zup (zup m3 27 4 0) 27 5 0 38 p = 0
    rw [g 38 (by omega), a4 p a b]
  · rw [zup_same, if_neg (by omega), zup_same, if_pos rfl]
  · rw [zup_same, if_pos rfl]
theorem mDraft {r : zMem} {T : Int → Int} {n lim : Int} (ru : RU T n lim r 0) : ∃ r', f_X12_island_3 zN 0 r = f_X12_island_2 zN 0 r' ∧ RU T n lim r' 0 ∧ RSt r' (B00 (r 141)) (r 146) 0 0 ∧ (∀ q, q ≠ 138 → q ≠ 141 → r' q = r q) ∧ ∀ i, i ≠ 23 → i ≠ 24 → r' 138 i = r 138 i := by
  obtain ⟨n', m', ⟨i1, i2⟩, e⟩ := lp_inv (F := fun n i m => f_X12_island_3 n i m) (N := 106) (m := r) (I := fun i x => (∀ q, q ≠ 141 → x q = r q) ∧ ∀ j, x 141 j = if 0 ≤ j ∧ j < i then 0 else r 141 j) (by
    intro n i x a b ⟨c, d⟩
    show ∃ m', b_X12_island_3 (f_X12_island_3 n) i x = _ ∧ _
    unfold b_X12_island_3
    rw [if_neg (by omega), w32_id (x := i + 1) ⟨by omega, by omega⟩, ix1 (by omega)]
    refine ⟨_, rfl, fun q hq => by rw [zup_off hq, c q hq], fun j => ?_⟩
    rw [zup_same, d j]
    by_cases hj : j = i
    · rw [if_pos hj, if_pos (by omega)]
    · by_cases hk : 0 ≤ j ∧ j < i
      · rw [if_neg hj, if_pos hk, if_pos (by omega)]
      · rw [if_neg hj, if_neg hk, if_neg (by omega)]) (by omega) (by omega) ⟨fun _ _ => rfl, fun j => by rw [if_neg (by omega)]⟩
  have u : f_X12_island_3 (n' + 1) 106 m' = b_X12_island_3 (f_X12_island_3 n') 106 m' := rfl
  have ru' : RU T n lim m' 0 := by
    unfold RU RX RH
    rw [i1 138 (by omega), i1 139 (by omega)]
    exact ru
  refine ⟨zup (zup (zup (zup m' 138 23 0) 138 24 0) 141 0 5) 141 1 5, ?_, RU_up (RU_up (RU_up (RU_up ru' (by omega)) (by omega)) (by omega)) (by omega), ⟨?_, ?_, ?_, ?_⟩, fun q a b => ?_, fun i a b => ?_⟩
  · rw [show f_X12_island_3 zN 0 r = f_X12_island_3 (n' + 1) 106 m' from e, u]
    unfold b_X12_island_3
    rw [if_pos (by omega)]
    simp only [pipe]
    rw [ix1 (by omega), ix1 (by omega)]
  · funext j
    rw [zup_same, zup_same, zup_off (by omega), zup_off (by omega), i2 j]
    unfold B00
    by_cases h1 : j = 1
    · rw [if_pos h1, if_pos (by omega), if_pos (by omega)]
    · rw [if_neg h1]
      by_cases h2 : j = 0
      · rw [if_pos h2, if_pos (by omega), if_pos (by omega)]
      · rw [if_neg h2]
        by_cases h3 : 0 ≤ j ∧ j < 106
        · rw [if_pos h3, if_pos h3, if_neg (by omega)]
        · rw [if_neg h3, if_neg h3]
  · rw [zup_off (by omega), zup_off (by omega), zup_off (by omega), zup_off (by omega), i1 146 (by omega)]
  · rw [zup_off (by omega), zup_off (by omega), zup_same, if_neg (by omega), zup_same, if_pos rfl]
  · rw [zup_off (by omega), zup_off (by omega), zup_same, if_pos rfl]
  · rw [zup_off b, zup_off b, zup_off a, zup_off a, i1 q b]
  · rw [zup_off (by omega), zup_off (by omega), zup_same, if_neg b, zup_same, if_neg a, i1 138 (by omega)]
