theorem mJ_12 {r : zMem} {k v : Int} (h40 : r 138 40 = k) (k0 : 0 ≤ k) (k1 : k < 40) (hv : v = 1 ∨ v = 2) : f_X12_readBookLine_j88 v r = zbind (f_X12_go (R154 r k v 0)) fun _ R => zbind (f_X12_readPlace (3 * k) R) enR := by
  have w1 : w32 (3 * k) = 3 * k := w32_id ⟨by omega, by omega⟩
  have w2 : w32 (3 * k + 1) = 3 * k + 1 := w32_id ⟨by omega, by omega⟩
  have w3 : w32 (3 * k + 2) = 3 * k + 2 := w32_id ⟨by omega, by omega⟩
  unfold f_X12_readBookLine_j88 R154
  rw [if_neg (by omega)]
  simp only [pipe, h40, w1, w2, w3]
  rw [ix4 (by omega), if_neg (by omega), ix4 (by omega), ix4 (by omega)]
  simp only [zbind]
  cases f_X12_go (zup (zup (zup r 154 (3 * k) v) 154 (3 * k + 1) 0) 154 (3 * k + 2) 0) with
  | none => rfl
  | some x =>
    simp only
    rw [if_neg (by omega)]
    by_cases h1 : v = 1
    · rw [if_pos h1]
      cases f_X12_readPlace (3 * k) x.2 with
      | none => rfl
      | some y => rfl
    · rw [if_neg h1, if_pos (by omega)]
      cases f_X12_readPlace (3 * k) x.2 with
      | none => rfl
      | some y => rfl
theorem mJ_3 {r : zMem} {k : Int} (h40 : r 138 40 = k) (k0 : 0 ≤ k) (k1 : k < 40) : f_X12_readBookLine_j88 3 r = zbind (f_X12_go (R154 r k 3 0)) fun _ R => zbind (zbind (f_X12_readNamed 0 (R 140 2) R) fun y m => f_X12_keep (3 * k + 1) y m) enR := by
  have w1 : w32 (3 * k) = 3 * k := w32_id ⟨by omega, by omega⟩
  have w2 : w32 (3 * k + 1) = 3 * k + 1 := w32_id ⟨by omega, by omega⟩
  have w3 : w32 (3 * k + 2) = 3 * k + 2 := w32_id ⟨by omega, by omega⟩
  unfold f_X12_readBookLine_j88 R154
  rw [if_neg (by omega)]
  simp only [pipe, h40, w1, w2, w3]
  rw [ix4 (by omega), if_neg (by omega), ix4 (by omega), ix4 (by omega)]
  simp only [zbind]
  cases f_X12_go (zup (zup (zup r 154 (3 * k) 3) 154 (3 * k + 1) 0) 154 (3 * k + 2) 0) with
  | none => rfl
  | some x =>
    simp only
    rw [if_neg (by omega), if_neg (by omega), if_neg (by omega), if_pos trivial, ixl (by omega)]
    cases f_X12_readNamed 0 (x.2 140 2) x.2 with
    | none => rfl
    | some y => rfl
theorem mJ_4 {r : zMem} {k : Int} (h40 : r 138 40 = k) (k0 : 0 ≤ k) (k1 : k < 40) : f_X12_readBookLine_j88 4 r = zbind (f_X12_go (R154 r k 4 0)) fun _ R => zbind (zbind (f_X12_readNumber 1 60 R) fun y m => f_X12_keep (3 * k + 1) y m) enR := by
  have w1 : w32 (3 * k) = 3 * k := w32_id ⟨by omega, by omega⟩
  have w2 : w32 (3 * k + 1) = 3 * k + 1 := w32_id ⟨by omega, by omega⟩
  have w3 : w32 (3 * k + 2) = 3 * k + 2 := w32_id ⟨by omega, by omega⟩
  unfold f_X12_readBookLine_j88 R154
  rw [if_neg (by omega)]
  simp only [pipe, h40, w1, w2, w3]
  rw [ix4 (by omega), if_neg (by omega), ix4 (by omega), ix4 (by omega)]
  simp only [zbind]
  cases f_X12_go (zup (zup (zup r 154 (3 * k) 4) 154 (3 * k + 1) 0) 154 (3 * k + 2) 0) with
  | none => rfl
  | some x =>
    simp only
    rw [if_neg (by omega), if_neg (by omega), if_neg (by omega), if_neg (by omega)]
    cases f_X12_readNumber 1 60 x.2 with
    | none => rfl
    | some y => rfl
theorem mJ_40 {r : zMem} {v : Int} (h40 : r 138 40 = 40) : f_X12_readBookLine_j88 v r = zbind (f_X12_bad 4 r) fun y m' => if y = 0 ∨ y = 1 then some (y, m') else none := by
  unfold f_X12_readBookLine_j88
  rw [if_pos h40]
/-- the reference past the first word -/
theorem mHeadR {T : Int → Int} {n lim p k v f0 : Int} {r : zMem} {A N : Int → Int} {gr : zMem → Option (Int × zMem)} (ok : okTx T n) (hl : 0 ≤ lim) (h0 : 0 ≤ p) (h1 : p ≤ n) (k0 : 0 ≤ k) (c : RU T n lim r p) (eA : r 140 = A) (eN : r 145 = N) (e40 : r 138 40 = k) (e : f_X12_readBookLine r = zbind (f_X12_go (R154 r k v f0)) fun _ R => zbind (gr R) enR) : ∃ R, f_X12_readBookLine r = (zbind (gr R) fun y m => if y = 0 then (some (0, m)) else (zbind (f_X12_readEnd m) fun y2 m2 => if y2 = 0 then (some (0, m2)) else (some (1, m2)))) ∧ RU T n lim R (lexT T n lim p).2.1 ∧ R 140 = A ∧ R 145 = N ∧ R 154 (3 * k + 1) = f0 ∧ R 154 (3 * k + 2) = 0 ∧ R 154 (3 * k) = v ∧ (∀ i, i < 3 * k → R 154 i = r 154 i) ∧ R 138 40 = k ∧ GB r R := by
  have c' : RU T n lim (R154 r k v f0) p := RU_up (RU_up (RU_up c (by omega)) (by omega)) (by omega)
  obtain ⟨R, a1, a2, a3⟩ := mGoU ok hl h0 h1 c'
  have ho : ∀ q, q ≠ 154 → R154 r k v f0 q = r q := fun q hq => by unfold R154; rw [zup_off hq, zup_off hq, zup_off hq]
  have h154 : ∀ i, R 154 i = if i = 3 * k + 2 then 0 else if i = 3 * k + 1 then f0 else if i = 3 * k then v else r 154 i := by
    intro i
    rw [a3.1 154 (by omega)]
    unfold R154
    rw [zup_same, zup_same, zup_same]
  refine ⟨R, ?_, a2, by rw [a3.1 140 (by omega), ho 140 (by omega)]; exact eA, by rw [a3.1 145 (by omega), ho 145 (by omega)]; exact eN, ?_, ?_, ?_, fun i hi => ?_, by rw [a3.2 40 (by omega), ho 138 (by omega)]; exact e40, ⟨fun q x y => by rw [a3.1 q x, ho q y], fun i hi => by rw [a3.2 i (by omega), ho 138 (by omega)]⟩⟩
  · rw [e, a1]
    rfl
  · rw [h154, if_neg (by omega), if_pos rfl]
  · rw [h154, if_pos rfl]
  · rw [h154, if_neg (by omega), if_neg (by omega), if_pos rfl]
  · rw [h154, if_neg (by omega), if_neg (by omega), if_neg (by omega)]
