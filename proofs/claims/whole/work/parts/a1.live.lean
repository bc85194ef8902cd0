/-! one line of the book lived, by both -/
theorem lvA_pq {A : Int → Int} {a f s : Int} (o : oP A) (hv : vL A a f s) (h : lvW A a f s = 0) : pq A (lvA A a f s) := by
  have o1 := o.1
  unfold lvW at h
  unfold lvA
  rcases hv with ⟨rfl, f0, f1, s2, s3⟩ | ⟨rfl | rfl, f0, f1, s2, s3⟩ | ⟨rfl, f0, f1⟩ | ⟨rfl, f0, f1⟩
  · rw [if_pos rfl]
    exact goA_pq (by omega)
  · rw [if_neg (by omega), if_pos rfl]
    exact layA_pq (by omega)
  · rw [if_neg (by omega), if_neg (by omega), if_pos rfl]
    exact tearA_pq (by omega)
  · rw [if_neg (by omega), if_neg (by omega), if_neg (by omega), if_pos rfl]
    exact buryA_pq (by omega)
  · rw [if_neg (by omega), if_neg (by omega), if_neg (by omega), if_neg (by omega)]
    exact hour_pq _
theorem cLiveB {m : zMem} {A : Int → Int} {a f s z : Int} (v : vP m 4 A) (w : vS m 22 A) (o : oP A) (os : oS A) (hv : vL A a f s) (hz : a ≤ 2 → z = s) (h : lvW A a f s = 0) : ∃ m', f_X0_liveLine 21 (10 * a) f z m = some (0, m') ∧ vS m' 22 (lvA A a f s) ∧ onlyS m m' 22 := by
  have o1 := o.1
  have os1 := os.1
  have I := IL_21
  have s1 : sRf 21 1 = 22 := rfl
  have e5 : m 22 5 = A 106 := w.1.2.1
  have hw := cWhyB v w o os hv hz
  rw [h] at hw
  unfold f_X0_liveLine
  rw [hw]
  simp only [zbind]
  rw [if_pos trivial, s1]
  unfold lvW at h
  unfold lvA
  rcases hv with ⟨rfl, f0, f1, s2, s3⟩ | ⟨ha, f0, f1, s2, s3⟩ | ⟨rfl, f0, f1⟩ | ⟨rfl, f0, f1⟩
  · rw [if_pos rfl] at h
    obtain ⟨m', x1, x2, x3⟩ := cMakeStep I v w o os ⟨f0, f1⟩ ⟨s2, s3⟩ h
    refine ⟨m', ?_, ?_, x3⟩
    · rw [if_pos (by omega), hz (by omega), x1]
    · rw [if_pos rfl]
      exact x2
  · rw [hz (by omega), w32_id (x := 8 * s) ⟨by omega, by omega⟩, w32_id (x := 8 * s + f) ⟨by omega, by omega⟩]
    rcases ha with rfl | rfl
    · obtain ⟨m', x1, x2, x3⟩ := cLayStone I w o os (c := 8 * s + f) (by omega) (by omega)
      refine ⟨m', ?_, ?_, x3⟩
      · rw [if_neg (by omega), if_pos (by omega), x1]
      · rw [if_neg (by omega), if_pos rfl]
        exact x2
    · obtain ⟨m', x1, x2, x3⟩ := cTearStone I w o os (c := 8 * s + f) (by omega) (by omega)
      refine ⟨m', ?_, ?_, x3⟩
      · rw [if_neg (by omega), if_neg (by omega), if_pos (by omega), x1]
      · rw [if_neg (by omega), if_neg (by omega), if_pos rfl]
        exact x2
  · obtain ⟨m', x1, x2, x3⟩ := cBuryHouse I v w o os ⟨f0, f1⟩
    refine ⟨m', ?_, ?_, x3⟩
    · rw [if_neg (by omega), if_neg (by omega), if_neg (by omega), if_pos (by omega), x1]
    · rw [if_neg (by omega), if_neg (by omega), if_neg (by omega), if_pos rfl]
      exact x2
  · rw [if_neg (by omega), if_neg (by omega), if_neg (by omega), if_neg (by omega)] at h
    have h4 : A 106 + f ≤ 400 := by
      by_cases hc : A 106 + f ≤ 400
      · exact hc
      · rw [if_neg hc] at h
        omega
    refine ⟨zup m 22 5 (A 106 + f), ?_, ?_, onlyS_up (by omega)⟩
    · rw [if_neg (by omega), if_neg (by omega), if_neg (by omega), if_neg (by omega), e5, w32_id ⟨by omega, by omega⟩]
      rfl
    · rw [if_neg (by omega), if_neg (by omega), if_neg (by omega), if_neg (by omega)]
      exact vS_f w (by omega) (by omega) _ (by omega)
theorem mWhyTear {m : zMem} {c : Int} (y : Int) (h2 : 0 ≤ c) (h3 : c < 64) : f_X12_why 2 c y m = some (wTear (m 140) c, m) := by
  unfold f_X12_why wTear
  rw [if_neg (by omega), if_neg (by omega), if_pos rfl, w32_id (x := 128 + c) ⟨by omega, by omega⟩, ixl (by omega)]
  split <;> rfl
theorem mWhyB {r : zMem} {a f s : Int} (o : oP (r 140)) (os : oS (r 140)) (hv : vL (r 140) a f s) (ha : a = 0 ∨ a = 3) : f_X12_why a f s r = some (lvW (r 140) a f s, r) := by
  unfold lvW
  rcases hv with ⟨rfl, f0, f1, s2, s3⟩ | ⟨rfl | rfl, f0, f1, s2, s3⟩ | ⟨rfl, f0, f1⟩ | ⟨rfl, f0, f1⟩
  · unfold f_X12_why
    rw [if_pos rfl, mWhyGo o os ⟨f0, f1⟩ ⟨s2, s3⟩, if_pos rfl]
    rfl
  · omega
  · omega
  · rw [mWhyBury, if_neg (by omega), if_neg (by omega), if_neg (by omega), if_pos rfl]
  · omega
/-- one line lived by the reference -/
theorem mGoByT {r : zMem} {i a f s : Int} (h0 : 0 ≤ i) (h1 : i + 2 < 120) (e0 : r 154 i = a) (e1 : r 154 (i + 1) = f) (e2 : r 154 (i + 2) = s) (o : oP (r 140)) (os : oS (r 140)) (hv : vL (r 140) a f s) : f_X12_goBy i r = (if lvW (r 140) a f s = 0 then some (0, set140 r (lvA (r 140) a f s)) else some (10 * a + lvW (r 140) a f s, r)) := by
  have o1 := o.1
  have os1 := os.1
  have L := l154
  have rw_ := lvW_r (r 140) a f s
  unfold f_X12_goBy
  simp only [pipe]
  rw [w32_id (x := i + 1) ⟨by omega, by omega⟩, w32_id (x := i + 2) ⟨by omega, by omega⟩, if_pos (show ix 154 i from ⟨by omega, by omega⟩), if_pos (show ix 154 (i + 1) from ⟨by omega, by omega⟩), if_pos (show ix 154 (i + 2) from ⟨by omega, by omega⟩), e0, e1, e2]
  rcases hv with ⟨rfl, f0, f1, s2, s3⟩ | ⟨ha, f0, f1, s2, s3⟩ | ⟨rfl, f0, f1⟩ | ⟨rfl, f0, f1⟩
  · rw [if_neg (by omega), if_neg (by omega), if_neg (by omega), mWhyB o os (Or.inl ⟨rfl, f0, f1, s2, s3⟩) (Or.inl rfl)]
    simp only [zbind]
    by_cases h : lvW (r 140) 0 f s = 0
    · rw [if_pos h, if_pos h, mGo o os ⟨f0, f1⟩ ⟨s2, s3⟩]
      simp only
      unfold lvA
      rw [if_pos rfl]
    · rw [if_neg h, if_neg h, w32_id (x := 10 * 0) ⟨by omega, by omega⟩, w32_id ⟨by omega, by omega⟩]
  · have hC : ∀ (P Q : Option (Int × zMem)), (if bi (isC (r 140) f s) = 0 then P else Q) = if isC (r 140) f s then Q else P := fun P Q => by rw [bi0]
    rw [w32_id (x := 8 * s) ⟨by omega, by omega⟩, w32_id (x := f + 8 * s) ⟨by omega, by omega⟩, mIsCell o]
    have ec : f + 8 * s = 8 * s + f := by omega
    rw [ec]
    rcases ha with rfl | rfl
    · rw [if_neg (by omega), if_pos rfl]
      simp only [zbind]
      rw [hC]
      unfold lvW
      rw [if_neg (by omega : ¬ (1 : Int) = 0), if_pos (rfl : (1 : Int) = 1)]
      by_cases hc : isC (r 140) f s
      · have hc' : 0 ≤ f ∧ f < r 140 0 ∧ 0 ≤ s ∧ s < r 140 1 := hc
        rw [if_pos hc, if_pos hc']
        unfold lvW at rw_
        rw [if_neg (by omega : ¬ (1 : Int) = 0), if_pos (rfl : (1 : Int) = 1), if_pos hc'] at rw_
        have hy : f_X12_why 1 (8 * s + f) s r = some (wLay (r 140) (8 * s + f), r) := by
          unfold f_X12_why
          rw [if_neg (by omega), if_pos rfl, mWhyLay o (by omega) (by omega)]
          rfl
        rw [hy]
        simp only
        by_cases h : wLay (r 140) (8 * s + f) = 0
        · rw [if_pos h, if_pos h, mLay os s (by omega) (by omega)]
          simp only
          unfold lvA
          rw [if_neg (by omega), if_pos rfl]
        · rw [if_neg h, if_neg h, w32_id (x := 10 * 1) ⟨by omega, by omega⟩, w32_id ⟨by omega, by omega⟩]
      · rw [if_neg hc, if_neg (fun h => hc h), if_neg (by omega)]
        rfl
    · rw [if_neg (by omega), if_neg (by omega), if_pos rfl]
      simp only [zbind]
      rw [hC]
      unfold lvW
      rw [if_neg (by omega : ¬ (2 : Int) = 0), if_neg (by omega : ¬ (2 : Int) = 1), if_pos (rfl : (2 : Int) = 2)]
      by_cases hc : isC (r 140) f s
      · have hc' : 0 ≤ f ∧ f < r 140 0 ∧ 0 ≤ s ∧ s < r 140 1 := hc
        rw [if_pos hc, if_pos hc']
        unfold lvW at rw_
        rw [if_neg (by omega : ¬ (2 : Int) = 0), if_neg (by omega : ¬ (2 : Int) = 1), if_pos (rfl : (2 : Int) = 2), if_pos hc'] at rw_
        rw [mWhyTear s (by omega) (by omega)]
        simp only
        by_cases h : wTear (r 140) (8 * s + f) = 0
        · rw [if_pos h, if_pos h, mTear os s (by omega) (by omega)]
          simp only
          unfold lvA
          rw [if_neg (by omega), if_neg (by omega), if_pos rfl]
        · rw [if_neg h, if_neg h, w32_id (x := 10 * 2) ⟨by omega, by omega⟩, w32_id ⟨by omega, by omega⟩]
      · rw [if_neg hc, if_neg (fun h => hc h), if_neg (by omega)]
        rfl
  · rw [if_neg (by omega), if_neg (by omega), if_neg (by omega), mWhyB o os (Or.inr (Or.inr (Or.inl ⟨rfl, f0, f1⟩))) (Or.inr rfl)]
    simp only [zbind]
    by_cases h : lvW (r 140) 3 f s = 0
    · rw [if_pos h, if_pos h, mLiveBury o os s ⟨f0, f1⟩]
      simp only
      unfold lvA
      rw [if_neg (by omega), if_neg (by omega), if_neg (by omega), if_pos rfl]
    · rw [if_neg h, if_neg h, w32_id (x := 10 * 3) ⟨by omega, by omega⟩, w32_id ⟨by omega, by omega⟩]
  · rw [if_pos rfl, ixl (by omega), w32_id (x := r 140 106 + f) ⟨by omega, by omega⟩]
    unfold lvW
    rw [if_neg (by omega : ¬ (4 : Int) = 0), if_neg (by omega : ¬ (4 : Int) = 1), if_neg (by omega : ¬ (4 : Int) = 2), if_neg (by omega : ¬ (4 : Int) = 3)]
    by_cases h : r 140 106 + f ≤ 400
    · rw [if_pos h, if_pos h, if_pos rfl]
      unfold f_X12_passHours f_X12_least lvA
      rw [ixl (by omega), w32_id (x := 400 - r 140 106) ⟨by omega, by omega⟩]
      have hl : (if f ≥ 400 - r 140 106 then (some (400 - r 140 106, r) : Option (Int × zMem)) else some (f, r)) = some (f, r) := by
        by_cases hq : f ≥ 400 - r 140 106
        · rw [if_pos hq]
          have : 400 - r 140 106 = f := by omega
          rw [this]
        · rw [if_neg hq]
      rw [hl]
      simp only [zbind]
      rw [ixl (by omega), ixl (by omega), w32_id ⟨by omega, by omega⟩, if_neg (by omega), if_neg (by omega), if_neg (by omega), if_neg (by omega), zup_140]
      rfl
    · rw [if_neg h, if_neg h, if_neg (by omega)]
      rfl
