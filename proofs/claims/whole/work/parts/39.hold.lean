/-! what holds stays -/
theorem oP_of {A B : Int → Int} (h : ∀ i, 0 ≤ i → i < 106 → B i = A i) (o : oP A) : oP B := by
  have e0 := h 0 (by omega) (by omega)
  have e1 := h 1 (by omega) (by omega)
  have e2 := h 2 (by omega) (by omega)
  have e3 := h 3 (by omega) (by omega)
  have e4 := h 4 (by omega) (by omega)
  obtain ⟨o1, o2, o3⟩ := o
  refine ⟨by omega, fun q a b => ?_, fun q a b => ?_⟩
  · rw [e2] at b
    have := o2 q a b
    unfold inC at this ⊢
    rw [h (5 + q) (by omega) (by omega), h (10 + q) (by omega) (by omega), e0, e1]
    exact this
  · rw [e4] at b
    have := o3 q a b
    rw [h (26 + q) (by omega) (by omega), h (34 + q) (by omega) (by omega)]
    exact this
theorem vP_of {mem : zMem} {pl : Nat} {A B : Int → Int} (h : ∀ i, 0 ≤ i → i < 106 → B i = A i) (o : oP A) (v : vP mem pl A) : vP mem pl B := by
  have e0 := h 0 (by omega) (by omega)
  have e1 := h 1 (by omega) (by omega)
  have e2 := h 2 (by omega) (by omega)
  have e3 := h 3 (by omega) (by omega)
  have e4 := h 4 (by omega) (by omega)
  have o1 := o.1
  obtain ⟨v1, v2, v3⟩ := v
  refine ⟨by rw [e0, e1, e2, e3, e4]; exact v1, fun q a b => ?_, fun q a b => ?_⟩
  · rw [e2] at b
    rw [h (5 + q) (by omega) (by omega), h (10 + q) (by omega) (by omega)]
    exact v2 q a b
  · rw [e4] at b
    rw [h (26 + q) (by omega) (by omega), h (34 + q) (by omega) (by omega)]
    exact v3 q a b
theorem vP_mem {mem m' : zMem} {pl : Nat} {A : Int → Int} (h : ∀ q, pl ≤ q → q ≤ pl + 6 → m' q = mem q) (v : vP mem pl A) : vP m' pl A := by
  unfold vP
  rw [h pl (by omega) (by omega), h (pl + 1) (by omega) (by omega), h (pl + 2) (by omega) (by omega), h (pl + 5) (by omega) (by omega), h (pl + 6) (by omega) (by omega)]
  exact v
theorem vS_mem {mem m' : zMem} {sc : Nat} {A : Int → Int} (h : ∀ q, sc ≤ q → q ≤ sc + 4 → m' q = mem q) (v : vS mem sc A) : vS m' sc A := by
  unfold vS
  rw [h sc (by omega) (by omega), h (sc + 1) (by omega) (by omega), h (sc + 2) (by omega) (by omega), h (sc + 3) (by omega) (by omega), h (sc + 4) (by omega) (by omega)]
  exact v
theorem goA_p {A : Int → Int} {p s : Int} (hp : 0 ≤ p) : ∀ i, 0 ≤ i → i < 106 → goA A p s i = A i := by
  intro i a b
  unfold goA
  rw [up_ne (by omega), up_ne (by omega)]
theorem layA_p {A : Int → Int} {c : Int} (hc : 0 ≤ c) : ∀ i, 0 ≤ i → i < 106 → layA A c i = A i := by
  intro i a b
  unfold layA
  rw [up_ne (by omega), up_ne (by omega)]
theorem tearA_p {A : Int → Int} {c : Int} (hc : 0 ≤ c) : ∀ i, 0 ≤ i → i < 106 → tearA A c i = A i := by
  intro i a b
  unfold tearA
  rw [up_ne (by omega)]
theorem buryA_p {A : Int → Int} {h : Int} (hh : 0 ≤ h) : ∀ i, 0 ≤ i → i < 106 → buryA A h i = A i := by
  intro i a b
  unfold buryA finB
  rw [up_ne (by omega), up_ne (by omega), up_ne (by omega), addW_off (by omega) (by omega) (by omega)]
theorem oS_go {A : Int → Int} (o : oP A) (os : oS A) {p s : Int} (hp : 0 ≤ p ∧ p < A 3) (hw : wGo A p s = 0) : oS (goA A p s) := by
  have o1 := o.1
  have h1 : stp A (A (116 + p)) s 1 ≠ -1 := by
    intro h; unfold wGo at hw; rw [if_pos h] at hw; omega
  have hin := (stp_val o h1).2.2
  have e0 := goA_p (A := A) (s := s) hp.1 0 (by omega) (by omega)
  have e1 := goA_p (A := A) (s := s) hp.1 1 (by omega) (by omega)
  have e2 := goA_p (A := A) (s := s) hp.1 2 (by omega) (by omega)
  have e3 := goA_p (A := A) (s := s) hp.1 3 (by omega) (by omega)
  obtain ⟨s1, s2, s3, s4, s5, s6⟩ := os
  have off : ∀ j, j ≠ 109 → (j < 116 ∨ 121 < j) → goA A p s j = A j := by
    intro j a b
    unfold goA
    rw [up_ne a, up_ne (by omega)]
  refine ⟨?_, ?_, ?_, ?_, ?_, ?_⟩
  · rw [off 106 (by omega) (by omega), off 107 (by omega) (by omega)]; exact s1
  · intro q a b
    rw [e3] at b
    unfold inC
    rw [e0, e1]
    unfold goA
    rw [up_ne (by omega)]
    by_cases hq : q = p
    · rw [hq, up_eq]; exact hin
    · rw [up_ne (by omega)]; exact s2 q a b
  · intro c a b
    rw [off (128 + c) (by omega) (by omega)]; exact s3 c a b
  · intro h a b
    rw [e2] at b
    rw [off (111 + h) (by omega) (by omega)]; exact s4 h a b
  · intro q a b
    rw [off (122 + q) (by omega) (by omega)]; exact s5 q a b
  · unfold wsum gsum at s6 ⊢
    rw [e2]
    simp (disch := omega) only [off]
    exact s6
theorem oS_lay {A : Int → Int} (o : oP A) (os : oS A) {c : Int} (hc : 0 ≤ c ∧ c < 64) (hw : wLay A c = 0) : oS (layA A c) := by
  have o1 := o.1
  have hb : A (128 + c) ≠ 9 := by
    intro h
    unfold wLay at hw
    rw [if_pos h] at hw
    split at hw
    · split at hw <;> omega
    · omega
  have e0 := layA_p (A := A) hc.1 0 (by omega) (by omega)
  have e1 := layA_p (A := A) hc.1 1 (by omega) (by omega)
  have e2 := layA_p (A := A) hc.1 2 (by omega) (by omega)
  have e3 := layA_p (A := A) hc.1 3 (by omega) (by omega)
  obtain ⟨s1, s2, s3, s4, s5, s6⟩ := os
  have off : ∀ j, j ≠ 110 → j < 128 → layA A c j = A j := by
    intro j a b
    unfold layA
    rw [up_ne a, up_ne (by omega)]
  refine ⟨?_, ?_, ?_, ?_, ?_, ?_⟩
  · rw [off 106 (by omega) (by omega), off 107 (by omega) (by omega)]; exact s1
  · intro q a b
    rw [e3] at b
    unfold inC
    rw [e0, e1, off (116 + q) (by omega) (by omega)]
    exact s2 q a b
  · intro q a b
    unfold layA
    rw [up_ne (by omega)]
    have := s3 q a b
    by_cases hq : q = c
    · rw [hq, up_eq]; rw [hq] at this; omega
    · rw [up_ne (by omega)]; exact this
  · intro h a b
    rw [e2] at b
    rw [off (111 + h) (by omega) (by omega)]; exact s4 h a b
  · intro q a b
    rw [off (122 + q) (by omega) (by omega)]; exact s5 q a b
  · unfold wsum gsum at s6 ⊢
    rw [e2]
    simp (disch := omega) only [off]
    exact s6
theorem oS_tear {A : Int → Int} (o : oP A) (os : oS A) {c : Int} (hc : 0 ≤ c ∧ c < 64) (hw : wTear A c = 0) : oS (tearA A c) := by
  have o1 := o.1
  have hb : A (128 + c) ≠ 0 := by
    intro h
    unfold wTear at hw
    rw [if_pos h] at hw
    omega
  have e0 := tearA_p (A := A) hc.1 0 (by omega) (by omega)
  have e1 := tearA_p (A := A) hc.1 1 (by omega) (by omega)
  have e2 := tearA_p (A := A) hc.1 2 (by omega) (by omega)
  have e3 := tearA_p (A := A) hc.1 3 (by omega) (by omega)
  obtain ⟨s1, s2, s3, s4, s5, s6⟩ := os
  have off : ∀ j, j < 128 → tearA A c j = A j := by
    intro j a
    unfold tearA
    rw [up_ne (by omega)]
  refine ⟨?_, ?_, ?_, ?_, ?_, ?_⟩
  · rw [off 106 (by omega), off 107 (by omega)]; exact s1
  · intro q a b
    rw [e3] at b
    unfold inC
    rw [e0, e1, off (116 + q) (by omega)]
    exact s2 q a b
  · intro q a b
    unfold tearA
    have := s3 q a b
    by_cases hq : q = c
    · rw [hq, up_eq]; rw [hq] at this; omega
    · rw [up_ne (by omega)]; exact this
  · intro h a b
    rw [e2] at b
    rw [off (111 + h) (by omega)]; exact s4 h a b
  · intro q a b
    rw [off (122 + q) (by omega)]; exact s5 q a b
  · unfold wsum gsum at s6 ⊢
    rw [e2]
    simp (disch := omega) only [off]
    exact s6
theorem oS_hour {A : Int → Int} (o : oP A) (os : oS A) {v : Int} (hv : 0 ≤ v ∧ v ≤ 400) : oS (up A 106 v) := by
  have o1 := o.1
  obtain ⟨s1, s2, s3, s4, s5, s6⟩ := os
  have off : ∀ j, j ≠ 106 → up A 106 v j = A j := fun j a => up_ne a
  refine ⟨?_, ?_, ?_, ?_, ?_, ?_⟩
  · rw [up_eq, off 107 (by omega)]; omega
  · intro q a b
    rw [off 3 (by omega)] at b
    unfold inC
    rw [off 0 (by omega), off 1 (by omega), off (116 + q) (by omega)]
    exact s2 q a b
  · intro q a b
    rw [off (128 + q) (by omega)]; exact s3 q a b
  · intro h a b
    rw [off 2 (by omega)] at b
    rw [off (111 + h) (by omega)]; exact s4 h a b
  · intro q a b
    rw [off (122 + q) (by omega)]; exact s5 q a b
  · unfold wsum gsum at s6 ⊢
    simp (disch := omega) only [off]
    exact s6
