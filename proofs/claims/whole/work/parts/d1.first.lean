/-! the first memory: what the two constructors leave -/
def mz : zMem := fun _ _ => 0
def mA : zMem := iX12 (iX11 mz)
theorem kZ_mz (N : Nat) : kZ mz N := fun _ _ _ => rfl
theorem fa_140 : ∀ j : Nat, j < 434 → rowA (mA 140) (j : Int) = if j = 0 ∨ j = 1 then 5 else 0 := by decide +kernel
theorem fa_4 : mA 4 0 = 5 ∧ mA 4 1 = 5 ∧ mA 4 2 = 0 ∧ mA 4 3 = 0 ∧ mA 4 4 = 0 := by decide +kernel
theorem fa_11 : mA 11 4 = 0 ∧ mA 11 5 = 0 ∧ mA 11 6 = 0 ∧ mA 11 7 = 0 ∧ mA 11 8 = 0 := by decide +kernel
theorem fa_12 : ∀ j : Nat, j < 64 → mA 12 (j : Int) = 0 := by decide +kernel
theorem fa_14 : ∀ j : Nat, j < 6 → mA 14 (j : Int) = 0 := by decide +kernel
theorem fa_k : ∀ k : Nat, k < 24 → mA 3 (k : Int) = kw32.getD k 0 := by decide +kernel
theorem fa_o : (mA 16 4 = 0 ∧ mA 53 1 = 0 ∧ mA 53 2 = 0 ∧ mA 138 25 = 0 ∧ mA 138 2 = 0 ∧ mA 1 2 = 0) ∧ (mA 138 10 = mA 0 15 ∧ mA 138 26 = mA 0 16 ∧ mA 138 32 = mA 0 17 ∧ mA 138 33 = mA 0 18 ∧ mA 138 34 = mA 0 19) ∧ (mA 138 36 = 0 ∧ mA 102 1 = 0 ∧ mA 138 41 = 0 ∧ mA 45 5 = 0 ∧ mA 41 3 = 0 ∧ mA 41 4 = 0) ∧ (mA 148 0 = 0 ∧ mA 148 1 = 0 ∧ mA 96 0 = 0 ∧ mA 96 1 = 0) := by decide +kernel
theorem first_Rel : ∃ m1, f_X12_startSo mA = some (0, m1) ∧ Rel m1 := by
  obtain ⟨m1, s1, s2, s3⟩ := mStart mA
  have hA : ∀ j, 0 ≤ j → j < 434 → m1 140 j = if j = 0 ∨ j = 1 then 5 else 0 := by
    intro j j0 j1
    have := fa_140 j.toNat (by omega)
    have e : ((j.toNat : Nat) : Int) = j := by omega
    rw [e] at this
    rw [s3 j j0 j1, this]
    by_cases h : j = 0 ∨ j = 1
    · rw [if_pos h, if_pos (by omega)]
    · rw [if_neg h, if_neg (by omega)]
  have hz : ∀ j, 2 ≤ j → j < 434 → m1 140 j = 0 := fun j a b => by rw [hA j (by omega) b, if_neg (by omega)]
  have h0 : m1 140 0 = 5 := by rw [hA 0 (by omega) (by omega), if_pos (by omega)]
  have h1 : m1 140 1 = 5 := by rw [hA 1 (by omega) (by omega), if_pos (by omega)]
  have h2 := hz 2 (by omega) (by omega)
  have h3 := hz 3 (by omega) (by omega)
  have h4 := hz 4 (by omega) (by omega)
  obtain ⟨p0, p1, p2, p3, p4⟩ := fa_4
  obtain ⟨q0, q1, q2, q3, q4⟩ := fa_11
  obtain ⟨⟨o1, o2, o3, o4, o5, o6⟩, ⟨v1, v2, v3, v4, v5⟩, ⟨w1, w2, w3, w4, w5, w6⟩, ⟨g1, g2, g3, g4⟩⟩ := fa_o
  have oP1 : oP (m1 140) := by
    refine ⟨⟨by omega, by omega, by omega, by omega, by omega, by omega, by omega, by omega, by omega, by omega⟩, fun h a b => by omega, fun s a b => by omega⟩
  refine ⟨m1, s1, ⟨oP1, ?_, ?_, ?_, ⟨fun h a b => by omega, fun p a b => by omega⟩, Or.inl ⟨hz 192 (by omega) (by omega), by rw [s2 16 (by omega)]; exact o1⟩⟩, ?_, ?_⟩
  · refine ⟨⟨?_, ?_, ?_, ?_⟩, fun p a b => by omega, fun c a b => ?_, fun h a b => by omega, fun p a b => ?_, ?_⟩
    · rw [hz 106 (by omega) (by omega)]; omega
    · rw [hz 106 (by omega) (by omega)]; omega
    · rw [hz 107 (by omega) (by omega)]; omega
    · rw [hz 107 (by omega) (by omega)]; omega
    · rw [hz (128 + c) (by omega) (by omega)]; omega
    · rw [hz (122 + p) (by omega) (by omega)]; omega
    · unfold wsum gsum
      simp only [h2]
      simp [sumF, hz]
  · refine ⟨⟨?_, ?_, ?_, ?_, ?_⟩, fun h a b => by omega, fun s a b => by omega⟩
    · rw [s2 4 (by omega), p0, h0]
    · rw [s2 4 (by omega), p1, h1]
    · rw [s2 4 (by omega), p2, h2]
    · rw [s2 4 (by omega), p3, h3]
    · rw [s2 4 (by omega), p4, h4]
  · refine ⟨⟨?_, ?_, ?_, ?_, ?_⟩, fun c a b => ?_, fun p a b => by omega, fun p a b => ?_, fun h a b => by omega⟩
    · rw [s2 11 (by omega), q0, hz 107 (by omega) (by omega)]
    · rw [s2 11 (by omega), q1, hz 106 (by omega) (by omega)]
    · rw [s2 11 (by omega), q2, hz 108 (by omega) (by omega)]
    · rw [s2 11 (by omega), q3, hz 109 (by omega) (by omega)]
    · rw [s2 11 (by omega), q4, hz 110 (by omega) (by omega)]
    · have := fa_12 c.toNat (by omega)
      rw [show ((c.toNat : Nat) : Int) = c by omega] at this
      rw [s2 (11 + 1) (by omega), this, hz (128 + c) (by omega) (by omega)]
    · have := fa_14 p.toNat (by omega)
      rw [show ((p.toNat : Nat) : Int) = p by omega] at this
      rw [s2 (11 + 3) (by omega), this, hz (122 + p) (by omega) (by omega)]
  · refine ⟨⟨?_, ?_, ?_, ?_, ?_⟩, fun j a b => ?_⟩
    · rw [s2 53 (by omega), o2]; omega
    · rw [s2 53 (by omega), o2]; omega
    · rw [s2 53 (by omega), o3]; omega
    · rw [s2 53 (by omega), o3]; omega
    · rw [s2 138 (by omega), s2 53 (by omega), o4, o3]
    · rw [s2 53 (by omega), o3] at b
      omega
  · refine ⟨⟨?_, ?_, ?_, fun i a b => ?_⟩, ⟨?_, ?_, ?_, ?_, ?_⟩, ⟨?_, ?_, ?_, fun i a b => ?_⟩, ⟨?_, Or.inl ?_⟩, fun k hk => ?_, ⟨fun k hk => ?_, ?_, ?_⟩⟩
    · rw [s2 138 (by omega), s2 1 (by omega), o5, o6]
    · rw [s2 1 (by omega), o6]; omega
    · rw [s2 1 (by omega), o6]; omega
    · rw [s2 1 (by omega), o6] at b
      omega
    · rw [s2 138 (by omega), s2 0 (by omega)]; exact v1
    · rw [s2 138 (by omega), s2 0 (by omega)]; exact v2
    · rw [s2 138 (by omega), s2 0 (by omega)]; exact v3
    · rw [s2 138 (by omega), s2 0 (by omega)]; exact v4
    · rw [s2 138 (by omega), s2 0 (by omega)]; exact v5
    · rw [s2 138 (by omega), s2 102 (by omega), w1, w2]
    · rw [s2 102 (by omega), w2]; omega
    · rw [s2 102 (by omega), w2]; omega
    · rw [s2 102 (by omega), w2] at b
      omega
    · rw [s2 138 (by omega), s2 45 (by omega), w3, w4]
    · rw [s2 45 (by omega)]; exact w4
    · have hk : k = 0 ∨ k = 1 := by omega
      rcases hk with rfl | rfl
      · refine ⟨?_, Or.inl ?_⟩
        · rw [s2 148 (by omega), s2 96 (by omega)]
          show mA 148 0 = mA 96 0
          rw [g1, g3]
        · rw [s2 96 (by omega)]
          exact g3
      · refine ⟨?_, Or.inl ?_⟩
        · rw [s2 148 (by omega), s2 96 (by omega)]
          show mA 148 1 = mA 96 1
          rw [g2, g4]
        · rw [s2 96 (by omega)]
          exact g4
    · rw [s2 3 (by omega)]
      exact fa_k k hk
    · rw [s2 41 (by omega)]; exact w5
    · rw [s2 41 (by omega)]; exact w6
