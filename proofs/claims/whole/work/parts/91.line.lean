/-! a line of the book, by both: every line -/
theorem zbind_a {x : Option (Int × zMem)} {f g : Int → zMem → Option (Int × zMem)} : zbind (zbind x f) g = zbind x (fun y m => zbind (f y m) g) := by
  cases x <;> rfl
noncomputable def enR (y : Int) (m : zMem) : Option (Int × zMem) := if y = 0 then (some (0, m)) else (zbind (f_X12_readEnd m) fun y2 m2 => if y2 = 0 then (some (0, m2)) else (some (1, m2)))
def R154 (r : zMem) (k v f : Int) : zMem := zup (zup (zup r 154 (3 * k) v) 154 (3 * k + 1) f) 154 (3 * k + 2) 0
theorem mJ_0 {r : zMem} {A N : Int → Int} {w : List Int} {k : Int} (h40 : r 138 40 = k) (k0 : 0 ≤ k) (k1 : k < 40) (eA : r 140 = A) (eN : r 145 = N) (o : oP A) (e12 : r 138 12 = pk 27 w) : f_X12_readBookLine_j88 0 r = zbind (f_X12_go (R154 r k 0 (nmP A N w))) fun _ R => zbind (zbind (f_X12_readSide R) fun y m => f_X12_keep (3 * k + 2) y m) enR := by
  have w1 : w32 (3 * k) = 3 * k := w32_id ⟨by omega, by omega⟩
  have w2 : w32 (3 * k + 1) = 3 * k + 1 := w32_id ⟨by omega, by omega⟩
  have w3 : w32 (3 * k + 2) = 3 * k + 2 := w32_id ⟨by omega, by omega⟩
  have ef : f_X12_findIn 145 5 ((zup r 154 (3 * k) 0) 140 3) ((zup r 154 (3 * k) 0) 138 12) (zup r 154 (3 * k) 0) = some (nmP A N w, zup r 154 (3 * k) 0) := by
    have := mNamP (r := zup r 154 (3 * k) 0) (A := A) (N := N) (w := w) (by rw [zup_off (by omega)]; exact eN) o (by rw [zup_off (by omega)]; exact e12)
    have e140 : zup r 154 (3 * k) 0 140 = A := by rw [zup_off (by omega)]; exact eA
    rw [e140]
    exact this
  unfold f_X12_readBookLine_j88 R154
  rw [if_neg (by omega)]
  simp only [pipe, h40, w1, w2, w3]
  rw [ix4 (by omega), if_pos trivial, ixl (by omega), ef]
  simp only [zbind]
  rw [ix4 (by omega), ix4 (by omega)]
  cases f_X12_go (zup (zup (zup r 154 (3 * k) 0) 154 (3 * k + 1) (nmP A N w)) 154 (3 * k + 2) 0) with
  | none => rfl
  | some x =>
    simp only
    rw [if_pos trivial]
    cases f_X12_readSide x.2 with
    | none => rfl
    | some y => rfl
