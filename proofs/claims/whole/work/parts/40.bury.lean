/-! burying keeps what holds -/
theorem addW_low {A : Int → Int} {S e : Int} {r : Nat} {i j : Int} (h : j < i) : addW A S e r i (122 + j) = A (122 + j) := by
  induction r generalizing A i with
  | zero => rfl
  | succ r ih =>
    rw [addW_s, ih (by omega)]
    split
    · rw [up_ne (by omega)]
    · rfl
theorem addW_at {A : Int → Int} {S e : Int} {r : Nat} {i j : Int} (h0 : i ≤ j) (h1 : j < i + r) : addW A S e r i (122 + j) = if zand (zshr S j) 1 = 1 then w32 (A (122 + j) + e) else A (122 + j) := by
  induction r generalizing A i with
  | zero => omega
  | succ r ih =>
    rw [addW_s]
    by_cases hj : j = i
    · subst hj
      rw [addW_low (by omega)]
      by_cases hb : zand (zshr S j) 1 = 1
      · rw [if_pos hb, if_pos hb, up_eq]
      · rw [if_neg hb, if_neg hb]
    · rw [ih (by omega) (by omega)]
      by_cases hb : zand (zshr S i) 1 = 1
      · rw [if_pos hb, up_ne (by omega)]
      · rw [if_neg hb]
theorem popT_6 : ∀ x : Nat, x < 64 → (popT x : Int) = (if zand (zshr (x : Int) 0) 1 = 1 then 1 else 0) + (if zand (zshr (x : Int) 1) 1 = 1 then 1 else 0) + (if zand (zshr (x : Int) 2) 1 = 1 then 1 else 0) + (if zand (zshr (x : Int) 3) 1 = 1 then 1 else 0) + (if zand (zshr (x : Int) 4) 1 = 1 then 1 else 0) + (if zand (zshr (x : Int) 5) 1 = 1 then 1 else 0) := by decide +kernel
theorem tcd_64 {A : Int → Int} (o : oP A) (h s : Int) : tcd A h s < 64 := by
  have h1 := o.1
  unfold tcd
  split
  · omega
  · rw [set0_bset _ (by omega) (by omega)]
    have h1 := bset_lt (fun k => tch A h s (A (116 + (k : Int)))) (A 3).toNat
    have h2 : 2 ^ (A 3).toNat ≤ 2 ^ 6 := Nat.pow_le_pow_right (by omega) (by omega)
    have h3 : (2 : Nat) ^ 6 = 64 := rfl
    omega
theorem zor_32 : ∀ x : Nat, x < 32 → ∀ h : Nat, h < 5 → 0 ≤ zor (x : Int) (zshl 1 (h : Int)) ∧ zor (x : Int) (zshl 1 (h : Int)) < 32 := by decide +kernel
theorem ite_add {P : Prop} [Decidable P] (a e : Int) : (if P then a + e else a) = a + e * (if P then 1 else 0) := by
  split <;> omega
theorem gsum_b {A B : Int → Int} {h : Int} (hh : 0 ≤ h ∧ h < A 2) (h5 : A 2 ≤ 5) (e2 : B 2 = A 2) (off : ∀ j, 111 ≤ j → j ≤ 115 → j ≠ 111 + h → B j = A j) (hz : B (111 + h) = 0) : gsum B = gsum A - A (111 + h) := by
  unfold gsum
  rw [e2]
  have hc : h = 0 ∨ h = 1 ∨ h = 2 ∨ h = 3 ∨ h = 4 := by omega
  rcases hc with rfl | rfl | rfl | rfl | rfl <;> simp only [Int.reduceAdd] at hz off ⊢ <;> simp (disch := omega) only [off, hz, if_pos] <;> omega
theorem oS_bury {A : Int → Int} (o : oP A) (os : oS A) {h : Int} (hh : 0 ≤ h ∧ h < A 2) : oS (buryA A h) := by
  have o1 := o.1
  have e0 := buryA_p (A := A) hh.1 0 (by omega) (by omega)
  have e1 := buryA_p (A := A) hh.1 1 (by omega) (by omega)
  have e2 := buryA_p (A := A) hh.1 2 (by omega) (by omega)
  have e3 := buryA_p (A := A) hh.1 3 (by omega) (by omega)
  have hT := tcd_r o h (sunA A)
  have hT6 := tcd_64 o h (sunA A)
  have hp := popT_le (tcd A h (sunA A)).toNat
  have hz := popT_pos (tcd A h (sunA A)).toNat (by omega)
  have hp6 := popT_6 (tcd A h (sunA A)).toNat (by omega)
  rw [Int.toNat_of_nonneg hT.1] at hp6
  have hg := gsum_le o os hh
  obtain ⟨s1, s2, s3, s4, s5, s6⟩ := os
  have hg0 := s4 h hh.1 hh.2
  -- the part of each
  obtain ⟨e, he⟩ : ∃ e, e = (if tcd A h (sunA A) = 0 then 0 else A (111 + h) / (popT (tcd A h (sunA A)).toNat : Int)) := ⟨_, rfl⟩
  have hE : 0 ≤ e ∧ e * (popT (tcd A h (sunA A)).toNat : Int) ≤ A (111 + h) ∧ e ≤ 495 := by
    rw [he]
    by_cases hs : tcd A h (sunA A) = 0
    · rw [if_pos hs]; omega
    · rw [if_neg hs]
      refine ⟨Int.ediv_nonneg hg0 (by omega), Int.ediv_mul_le _ (by omega), ?_⟩
      have := Int.ediv_le_self (popT (tcd A h (sunA A)).toNat : Int) hg0
      omega
  have hbA : buryA A h = finB (addW A (tcd A h (sunA A)) e 6 0) h (popT (tcd A h (sunA A)).toNat) e := by rw [he]; rfl
  have off : ∀ j, j ≠ 107 → j ≠ 108 → j ≠ 111 + h → (j < 122 ∨ 127 < j) → buryA A h j = A j := by
    intro j a b c d
    rw [hbA]
    unfold finB
    rw [up_ne a, up_ne c, up_ne b, addW_off (by omega) (by omega) d]
  have wp : ∀ p, 0 ≤ p → p < 6 → A (122 + p) ≤ 495 → buryA A h (122 + p) = A (122 + p) + e * (if zand (zshr (tcd A h (sunA A)) p) 1 = 1 then 1 else 0) := by
    intro p a b c
    have := s5 p a b
    rw [hbA]
    unfold finB
    rw [up_ne (by omega), up_ne (by omega), up_ne (by omega), addW_at a (by omega), w32_id (by omega), ite_add]
  have p0 := s5 0 (by omega) (by omega)
  have p1 := s5 1 (by omega) (by omega)
  have p2 := s5 2 (by omega) (by omega)
  have p3 := s5 3 (by omega) (by omega)
  have p4 := s5 4 (by omega) (by omega)
  have p5 := s5 5 (by omega) (by omega)
  simp only [Int.reduceAdd] at p0 p1 p2 p3 p4 p5
  have g0 : 0 < A 2 → 0 ≤ A 111 := fun h => by simpa using s4 0 (by omega) h
  have g1 : 1 < A 2 → 0 ≤ A 112 := fun h => by simpa using s4 1 (by omega) h
  have g2 : 2 < A 2 → 0 ≤ A 113 := fun h => by simpa using s4 2 (by omega) h
  have g3 : 3 < A 2 → 0 ≤ A 114 := fun h => by simpa using s4 3 (by omega) h
  have g4 : 4 < A 2 → 0 ≤ A 115 := fun h => by simpa using s4 4 (by omega) h
  have hgs : 0 ≤ gsum A := by
    unfold gsum
    clear wp off hbA he
    omega
  have hws : wsum A ≤ 495 := by omega
  unfold wsum at hws
  have w0 := wp 0 (by omega) (by omega) (by simp only [Int.reduceAdd]; omega)
  have w1 := wp 1 (by omega) (by omega) (by simp only [Int.reduceAdd]; omega)
  have w2 := wp 2 (by omega) (by omega) (by simp only [Int.reduceAdd]; omega)
  have w3 := wp 3 (by omega) (by omega) (by simp only [Int.reduceAdd]; omega)
  have w4 := wp 4 (by omega) (by omega) (by simp only [Int.reduceAdd]; omega)
  have w5 := wp 5 (by omega) (by omega) (by simp only [Int.reduceAdd]; omega)
  simp only [Int.reduceAdd] at w0 w1 w2 w3 w4 w5
  have hgh : buryA A h (111 + h) = 0 := by
    rw [hbA]
    unfold finB
    rw [up_ne (by omega), up_eq]
  refine ⟨?_, ?_, ?_, ?_, ?_, ?_⟩
  · rw [off 106 (by omega) (by omega) (by omega) (by omega)]
    have e7 : buryA A h 107 = zor (A 107) (zshl 1 h) := by
      rw [hbA]
      unfold finB
      rw [up_eq, addW_off (by omega) (by omega) (by omega)]
    rw [e7]
    have := zor_32 (A 107).toNat (by omega) h.toNat (by omega)
    rw [Int.toNat_of_nonneg s1.2.2.1, Int.toNat_of_nonneg hh.1] at this
    omega
  · intro q a b
    rw [e3] at b
    unfold inC
    rw [e0, e1, off (116 + q) (by omega) (by omega) (by omega) (by omega)]
    exact s2 q a b
  · intro q a b
    rw [off (128 + q) (by omega) (by omega) (by omega) (by omega)]
    exact s3 q a b
  · intro q a b
    rw [e2] at b
    by_cases hq : q = h
    · rw [hq, hgh]; omega
    · rw [off (111 + q) (by omega) (by omega) (by omega) (by omega)]
      exact s4 q a b
  · intro q a b
    have a1 := s5 q a b
    have hc : q = 0 ∨ q = 1 ∨ q = 2 ∨ q = 3 ∨ q = 4 ∨ q = 5 := by omega
    have hle : A (122 + q) ≤ 495 := by
      rcases hc with rfl | rfl | rfl | rfl | rfl | rfl <;> simp only [Int.reduceAdd] <;> omega
    rw [wp q a b hle]
    split <;> omega
  · have hsum : e * (popT (tcd A h (sunA A)).toNat : Int) = e * (if zand (zshr (tcd A h (sunA A)) 0) 1 = 1 then 1 else 0) + e * (if zand (zshr (tcd A h (sunA A)) 1) 1 = 1 then 1 else 0) + e * (if zand (zshr (tcd A h (sunA A)) 2) 1 = 1 then 1 else 0) + e * (if zand (zshr (tcd A h (sunA A)) 3) 1 = 1 then 1 else 0) + e * (if zand (zshr (tcd A h (sunA A)) 4) 1 = 1 then 1 else 0) + e * (if zand (zshr (tcd A h (sunA A)) 5) 1 = 1 then 1 else 0) := by
      rw [hp6]
      simp only [Int.mul_add]
    have hE2 := hE.2.1
    rw [hsum] at hE2
    have hG := gsum_b hh (by omega) e2 (fun j a b c => off j (by omega) (by omega) c (by omega)) hgh
    rw [hG]
    unfold wsum at s6 ⊢
    rw [w0, w1, w2, w3, w4, w5]
    clear hbA he wp w0 w1 w2 w3 w4 w5 hp6 hsum off
    omega
