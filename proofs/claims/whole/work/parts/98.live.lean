theorem lvA_S {A : Int → Int} {a f s : Int} (o : oP A) (os : oS A) (hv : vL A a f s) (h : lvW A a f s = 0) : oS (lvA A a f s) := by
  have os1 := os.1
  unfold lvW at h
  unfold lvA
  rcases hv with ⟨rfl, f0, f1, s2, s3⟩ | ⟨rfl | rfl, f0, f1, s2, s3⟩ | ⟨rfl, f0, f1⟩ | ⟨rfl, f0, f1⟩
  · rw [if_pos rfl] at h
    rw [if_pos rfl]
    exact oS_go o os ⟨f0, f1⟩ h
  · rw [if_neg (by omega), if_pos rfl] at h
    rw [if_neg (by omega), if_pos rfl]
    by_cases hc : 0 ≤ f ∧ f < A 0 ∧ 0 ≤ s ∧ s < A 1
    · rw [if_pos hc] at h
      exact oS_lay o os (by omega) h
    · rw [if_neg hc] at h
      omega
  · rw [if_neg (by omega), if_neg (by omega), if_pos rfl] at h
    rw [if_neg (by omega), if_neg (by omega), if_pos rfl]
    by_cases hc : 0 ≤ f ∧ f < A 0 ∧ 0 ≤ s ∧ s < A 1
    · rw [if_pos hc] at h
      exact oS_tear o os (by omega) h
    · rw [if_neg hc] at h
      omega
  · rw [if_neg (by omega), if_neg (by omega), if_neg (by omega), if_pos rfl]
    exact oS_bury o os ⟨f0, f1⟩
  · rw [if_neg (by omega), if_neg (by omega), if_neg (by omega), if_neg (by omega)] at h
    rw [if_neg (by omega), if_neg (by omega), if_neg (by omega), if_neg (by omega)]
    by_cases hc : A 106 + f ≤ 400
    · exact oS_hour o os (by omega)
    · rw [if_neg hc] at h
      omega
