/-! copies of scenes -/
theorem zmin_self {x : Int} (h : ir x) : zmin x x = x := by
  unfold zmin
  simp
theorem cCopyRow {a b : Nat} {n : Nat} (ha : sLen a = n) (hb : sLen b = n) (hn : n ≤ 1000) (mem : zMem) : f_X11_copyRow a b mem = some (0, zcpy mem a b (n : Int)) := by
  unfold f_X11_copyRow
  rw [ha, hb, zmin_self ⟨by omega, by omega⟩, if_pos (by omega)]
  rfl
theorem cCopyNames {a b : Nat} {n : Nat} (ha : sLen a = n) (hb : sLen b = n) (hn : n ≤ 1000) (mem : zMem) : f_X11_copyNames a b mem = some (0, zcpy mem a b (n : Int)) := by
  unfold f_X11_copyNames
  rw [ha, hb, zmin_self ⟨by omega, by omega⟩, if_pos (by omega)]
  rfl
theorem zcpy_at (mem : zMem) (a b : Nat) (n : Int) {j : Int} (h0 : 0 ≤ j) (h1 : j < n) : zcpy mem a b n b j = mem a j := by
  unfold zcpy
  rw [if_pos ⟨rfl, h0, h1⟩]
theorem onlyS_cpy {mem : zMem} {sc a b : Nat} {n : Int} (h : sc ≤ b ∧ b ≤ sc + 4) : onlyS mem (zcpy mem a b n) sc := fun q hq => zcpy_off (by omega)
theorem cCopyS {mem : zMem} {to fr : Nat} {A : Int → Int} (l1 : lS to) (l2 : lS fr) (hd : to + 4 < fr ∨ fr + 4 < to) (w : vS mem fr A) (h2 : A 2 ≤ 5) (h3 : A 3 ≤ 6) : ∃ m', f_X7_copyFrom to fr mem = some (0, m') ∧ vS m' to A ∧ onlyS mem m' to := by
  unfold f_X7_copyFrom
  simp only [cCopyRow l2.1 l1.1 (by omega), cCopyRow l2.2.1 l1.2.1 (by omega), cCopyRow l2.2.2.1 l1.2.2.1 (by omega), cCopyRow l2.2.2.2 l1.2.2.2 (by omega), zbind, pipe]
  refine ⟨_, rfl, ?_, ?_⟩
  · have w1 := w.1
    refine ⟨?_, ?_, ?_, ?_, ?_⟩
    · simp (disch := omega) only [zup_same, zup_off, zcpy_off, ↓reduceIte, Int.reduceEq, w1, and_self]
    · intro q a b
      simp (disch := omega) only [zup_off, zcpy_off, zcpy_at]
      exact w.2.1 q a b
    · intro q a b
      simp (disch := omega) only [zup_off, zcpy_off, zcpy_at]
      exact w.2.2.1 q a b
    · intro q a b
      simp (disch := omega) only [zup_off, zcpy_off, zcpy_at]
      exact w.2.2.2.1 q a b
    · intro q a b
      simp (disch := omega) only [zup_off, zcpy_off, zcpy_at]
      exact w.2.2.2.2 q a b
  · intro q hq
    simp (disch := omega) only [zup_off, zcpy_off]
