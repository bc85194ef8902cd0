theorem cLiveN {m : zMem} {A : Int → Int} {a f s z : Int} (v : vP m 4 A) (w : vS m 22 A) (o : oP A) (os : oS A) (hv : vL A a f s) (hz : a ≤ 2 → z = s) (h : lvW A a f s ≠ 0) : f_X0_liveLine 21 (10 * a) f z m = some (10 * a + lvW A a f s, m) := by
  have r := lvW_r A a f s
  have ra : 0 ≤ a ∧ a ≤ 4 := by
    rcases hv with ⟨h, _⟩ | ⟨h, _⟩ | ⟨h, _⟩ | ⟨h, _⟩ <;> omega
  unfold f_X0_liveLine
  rw [cWhyB v w o os hv hz]
  simp only [zbind]
  rw [if_neg h, w32_id ⟨by omega, by omega⟩]
