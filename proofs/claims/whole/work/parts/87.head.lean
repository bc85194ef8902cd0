/-! a line of the book: the reference's head -/
theorem mNamP {r : zMem} {A N : Int → Int} {w : List Int} (eN : r 145 = N) (o : oP A) (e12 : r 138 12 = pk 27 w) : f_X12_findIn 145 5 (A 3) (r 138 12) r = some (nmP A N w, r) := by
  have o1 := o.1
  have L : sLen 145 = 11 := rfl
  rw [mFindIn L (by omega) (by omega) (by omega), e12, eN]
  rfl
theorem mLineHead {T : Int → Int} {n lim p : Int} {r : zMem} {A N : Int → Int} (hl : 0 ≤ lim) (h0 : 0 ≤ p) (h1 : p ≤ n) (c : RU T n lim r p) (eA : r 140 = A) (eN : r 145 = N) (o : oP A) : f_X12_readBookLine r = if (lexT T n lim p).2.2.1 = 2 ∧ 9 ≤ kno (lexT T n lim p).2.2.2.2 ∧ kno (lexT T n lim p).2.2.2.2 ≤ 12 then f_X12_readBookLine_j88 (kno (lexT T n lim p).2.2.2.2 - 8) r else if (lexT T n lim p).2.2.1 = 2 ∧ kno (lexT T n lim p).2.2.2.2 = -1 then (if nmP A N (lexT T n lim p).2.2.2.2 = -1 then (zbind (f_X12_bad 3 r) fun y m' => if y = 0 ∨ y = 1 then some (y, m') else none) else f_X12_readBookLine_j88 0 r) else (zbind (f_X12_bad 1 r) fun y m' => if y = 0 ∨ y = 1 then some (y, m') else none) := by
  have hN := zN_ge
  have hW : ∀ k, 0 ≤ k → k ≤ 23 → f_X12_isWord k r = some (bi ((lexT T n lim p).2.2.1 = 2 ∧ kno (lexT T n lim p).2.2.2.2 = k), r) := fun k k0 k1 => mIsWord hl h0 h1 c k0 k1
  have hI := mIsName hl h0 h1 c
  have e12 := c.2.2.2.2.1
  generalize (lexT T n lim p).2.2.1 = kd at *
  generalize (lexT T n lim p).2.2.2.2 = w at *
  obtain ⟨z, hz⟩ : ∃ z, zN = z + 1 + 1 + 1 + 1 := ⟨zN - 4, by omega⟩
  have u : ∀ (f : Nat) a b m, f_X12_readBookLine_1 (f + 1) a b m = b_X12_readBookLine_1 (f_X12_readBookLine_1 f) a b m := fun _ _ _ _ => rfl
  have st : ∀ (f : Nat) v i, 1 ≤ i → i ≤ 3 → f_X12_readBookLine_1 (f + 1) v i r = f_X12_readBookLine_1 f (if kd = 2 ∧ kno w = 8 + i then i else v) (i + 1) r := by
    intro f v i i0 i1
    rw [u]
    unfold b_X12_readBookLine_1
    rw [if_neg (by omega), w32_id (x := 9 + i) ⟨by omega, by omega⟩, w32_id (x := 9 + i - 1) ⟨by omega, by omega⟩, w32_id (x := i + 1) ⟨by omega, by omega⟩, hW (9 + i - 1) (by omega) (by omega)]
    simp only [zbind, bi0]
    by_cases h : kd = 2 ∧ kno w = 8 + i
    · rw [if_pos h, if_pos ⟨h.1, by omega⟩]
    · rw [if_neg h, if_neg (fun g => h ⟨g.1, by omega⟩)]
  have en : ∀ (f : Nat) v, f_X12_readBookLine_1 (f + 1) v 4 r = if v = 0 then (if kd = 2 ∧ kno w = -1 then (if nmP A N w = -1 then (zbind (f_X12_bad 3 r) fun y m' => if y = 0 ∨ y = 1 then some (y, m') else none) else f_X12_readBookLine_j88 v r) else (zbind (f_X12_bad 1 r) fun y m' => if y = 0 ∨ y = 1 then some (y, m') else none)) else f_X12_readBookLine_j88 v r := by
    intro f v
    rw [u]
    unfold b_X12_readBookLine_1
    rw [if_pos (by omega)]
    by_cases hv : v = 0
    · rw [if_pos hv, if_pos hv, hI]
      simp only [zbind, bi0]
      by_cases h : kd = 2 ∧ kno w = -1
      · rw [if_pos h, if_pos h, ixl (by omega), eA, mNamP eN o (e12 h.1)]
      · rw [if_neg h, if_neg h]
    · rw [if_neg hv, if_neg hv]
  have all : ∀ v, f_X12_readBookLine_1 zN v 1 r = if (if kd = 2 ∧ 9 ≤ kno w ∧ kno w ≤ 11 then kno w - 8 else v) = 0 then (if kd = 2 ∧ kno w = -1 then (if nmP A N w = -1 then (zbind (f_X12_bad 3 r) fun y m' => if y = 0 ∨ y = 1 then some (y, m') else none) else f_X12_readBookLine_j88 (if kd = 2 ∧ 9 ≤ kno w ∧ kno w ≤ 11 then kno w - 8 else v) r) else (zbind (f_X12_bad 1 r) fun y m' => if y = 0 ∨ y = 1 then some (y, m') else none)) else f_X12_readBookLine_j88 (if kd = 2 ∧ 9 ≤ kno w ∧ kno w ≤ 11 then kno w - 8 else v) r := by
    intro v
    have ev : (if kd = 2 ∧ kno w = 8 + (1 + 1 + 1) then (1 + 1 + 1 : Int) else if kd = 2 ∧ kno w = 8 + (1 + 1) then 1 + 1 else if kd = 2 ∧ kno w = 8 + 1 then 1 else v) = if kd = 2 ∧ 9 ≤ kno w ∧ kno w ≤ 11 then kno w - 8 else v := by
      by_cases g : kd = 2 ∧ 9 ≤ kno w ∧ kno w ≤ 11
      · rw [if_pos g]
        split
        · omega
        · split
          · omega
          · split <;> omega
      · rw [if_neg g, if_neg (by omega), if_neg (by omega), if_neg (by omega)]
    rw [hz, st _ _ 1 (by omega) (by omega), st _ _ (1 + 1) (by omega) (by omega), st _ _ (1 + 1 + 1) (by omega) (by omega), ev]
    exact en z _
  unfold f_X12_readBookLine
  rw [hW 12 (by omega) (by omega)]
  simp only [zbind, bi0]
  rw [all 4, all 0]
  by_cases g12 : kd = 2 ∧ kno w = 12
  · rw [if_pos g12, if_neg (c := kd = 2 ∧ 9 ≤ kno w ∧ kno w ≤ 11) (by omega), if_neg (by omega), if_pos (by omega), g12.2]
    rfl
  · rw [if_neg g12]
    by_cases g : kd = 2 ∧ 9 ≤ kno w ∧ kno w ≤ 11
    · rw [if_pos g, if_neg (by omega), if_pos (by omega)]
    · rw [if_neg g, if_pos rfl, if_neg (c := kd = 2 ∧ 9 ≤ kno w ∧ kno w ≤ 12) (by omega)]
      rfl
