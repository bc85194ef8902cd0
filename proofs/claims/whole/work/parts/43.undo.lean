/-! the snaps seen as rows -/
def snA (mem : zMem) (A : Int → Int) (j : Int) : Int → Int := fun i => if 106 ≤ i ∧ i < 192 then mem 143 (86 * j + (i - 106)) else A i
theorem mUndo_0 {mem : zMem} {z : Int} (hz : mem 138 25 = z) (h0 : 0 ≤ z) (h1 : z ≤ 7) : f_X12_undo_0 zN 0 mem = some (z, set140 mem (snA mem (mem 140) z)) := by
  have L := l140
  have L3 := l143
  obtain ⟨n', m', i1, e⟩ := lp_inv (F := fun n i m => f_X12_undo_0 n i m) (N := 86) (m := mem) (I := fun i m => m = set140 mem (fun j => if 106 ≤ j ∧ j < 106 + i then mem 143 (86 * z + (j - 106)) else mem 140 j)) (by
    intro n i m a b c
    have u : f_X12_undo_0 (n + 1) i m = b_X12_undo_0 (f_X12_undo_0 n) i m := rfl
    show ∃ m', f_X12_undo_0 (n + 1) i m = _ ∧ _
    rw [u]
    unfold b_X12_undo_0
    have c1 : m 138 25 = z := by rw [c, set140_off (by omega)]; exact hz
    have c2 : m 143 = mem 143 := by rw [c, set140_off (by omega)]
    rw [c1, c2]
    simp (disch := omega) only [↓reduceIte, if_pos, if_neg, w32_id, pipe]
    refine ⟨_, rfl, ?_⟩
    rw [c, zup_140, set140_at, set140_2]
    congr 1
    funext j
    unfold up
    by_cases hj : j = 106 + i
    · rw [if_pos hj, if_pos (by omega), hj]
      congr 1
      omega
    · rw [if_neg hj]
      dsimp only
      by_cases hk : 106 ≤ j ∧ j < 106 + i
      · rw [if_pos hk, if_pos (by omega)]
      · rw [if_neg hk, if_neg (by omega)]) (by omega) (by omega) (by
    show mem = _
    rw [show (fun j => if 106 ≤ j ∧ j < 106 + (0 : Int) then mem 143 (86 * z + (j - 106)) else mem 140 j) = mem 140 from by
      funext j
      rw [if_neg (by omega)]]
    exact (set140_id mem).symm)
  have u : f_X12_undo_0 (n' + 1) 86 m' = b_X12_undo_0 (f_X12_undo_0 n') 86 m' := rfl
  rw [show f_X12_undo_0 zN 0 mem = f_X12_undo_0 (n' + 1) 86 m' from e, u]
  unfold b_X12_undo_0
  rw [if_pos (by omega), i1, set140_off (show (138 : Nat) ≠ 140 by omega), hz]
  rfl
