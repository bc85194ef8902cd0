/-! one line of the book lived: why not, by the class -/
def lvW (A : Int → Int) (a f s : Int) : Int := if a = 0 then wGo A f s else if a = 1 then (if 0 ≤ f ∧ f < A 0 ∧ 0 ≤ s ∧ s < A 1 then wLay A (8 * s + f) else 9) else if a = 2 then (if 0 ≤ f ∧ f < A 0 ∧ 0 ≤ s ∧ s < A 1 then wTear A (8 * s + f) else 9) else if a = 3 then wBury A f else (if A 106 + f ≤ 400 then 0 else 1)
def lvA (A : Int → Int) (a f s : Int) : Int → Int := if a = 0 then goA A f s else if a = 1 then layA A (8 * s + f) else if a = 2 then tearA A (8 * s + f) else if a = 3 then buryA A f else up A 106 (A 106 + f)
theorem lvW_r (A : Int → Int) (a f s : Int) : 0 ≤ lvW A a f s ∧ lvW A a f s ≤ 9 := by
  have h1 : 0 ≤ wGo A f s ∧ wGo A f s ≤ 2 := by
    unfold wGo
    split
    · omega
    · split <;> omega
  have h2 : ∀ c, 0 ≤ wLay A c ∧ wLay A c ≤ 3 := by
    intro c
    unfold wLay
    split
    · split
      · split <;> omega
      · omega
    · omega
  have h3 : ∀ c, 0 ≤ wTear A c ∧ wTear A c ≤ 1 := by
    intro c
    unfold wTear
    split <;> omega
  have h4 : 0 ≤ wBury A f ∧ wBury A f ≤ 1 := by
    unfold wBury
    split <;> omega
  have h5 := h2 (8 * s + f)
  have h6 := h3 (8 * s + f)
  unfold lvW
  split
  · omega
  · split
    · split <;> omega
    · split
      · split <;> omega
      · split
        · omega
        · split <;> omega
