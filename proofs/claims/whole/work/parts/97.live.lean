theorem cWhyB {m : zMem} {A : Int → Int} {a f s z : Int} (v : vP m 4 A) (w : vS m 22 A) (o : oP A) (os : oS A) (hv : vL A a f s) (hz : a ≤ 2 → z = s) : f_X0_whyNot 21 (10 * a) f z m = some (lvW A a f s, m) := by
  have o1 := o.1
  have os1 := os.1
  have I := IL_21
  have s0 : sRf 21 0 = 4 := rfl
  have s1 : sRf 21 1 = 22 := rfl
  have e5 : m 22 5 = A 106 := w.1.2.1
  unfold f_X0_whyNot lvW
  rw [s0, s1]
  rcases hv with ⟨rfl, f0, f1, s2, s3⟩ | ⟨ha, f0, f1, s2, s3⟩ | ⟨rfl, f0, f1⟩ | ⟨rfl, f0, f1⟩
  · rw [if_pos (by omega), if_pos rfl, hz (by omega), cWhyNotStep I v w o os ⟨f0, f1⟩ ⟨s2, s3⟩]
    rfl
  · rw [hz (by omega), w32_id (x := 8 * s) ⟨by omega, by omega⟩, w32_id (x := 8 * s + f) ⟨by omega, by omega⟩, cHasCell v]
    simp only [zbind, bi0]
    rcases ha with rfl | rfl
    · rw [if_neg (by omega), if_pos (by omega)]
      by_cases hc : 0 ≤ f ∧ f < A 0 ∧ 0 ≤ s ∧ s < A 1
      · rw [if_pos hc, cWhyNotLay I v w o os (by omega) (by omega), if_neg (by omega), if_pos rfl, if_pos hc]
      · rw [if_neg hc, if_neg (by omega), if_pos rfl, if_neg hc]
    · rw [if_neg (by omega), if_neg (by omega), if_pos (by omega)]
      by_cases hc : 0 ≤ f ∧ f < A 0 ∧ 0 ≤ s ∧ s < A 1
      · rw [if_pos hc, cWhyNotTear I w os (by omega) (by omega), if_neg (by omega), if_neg (by omega), if_pos rfl, if_pos hc]
      · rw [if_neg hc, if_neg (by omega), if_neg (by omega), if_pos rfl, if_neg hc]
  · rw [if_neg (by omega), if_neg (by omega), if_neg (by omega), if_pos (by omega), if_neg (by omega), if_neg (by omega), if_neg (by omega), if_pos rfl, cWhyNotBury I w]
    rfl
  · by_cases h : A 106 + f ≤ 400
    · rw [if_neg (by omega), if_neg (by omega), if_neg (by omega), if_neg (by omega), e5, w32_id ⟨by omega, by omega⟩, if_pos h, if_neg (by omega), if_neg (by omega), if_neg (by omega), if_neg (by omega), if_pos h]
    · rw [if_neg (by omega), if_neg (by omega), if_neg (by omega), if_neg (by omega), e5, w32_id ⟨by omega, by omega⟩, if_neg h, if_neg (by omega), if_neg (by omega), if_neg (by omega), if_neg (by omega), if_neg h]
