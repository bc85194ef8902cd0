/-! a line of the book: the class's head -/
def aOf (x : Int) : Int := if x = -1 then 0 else if 9 ≤ x ∧ x ≤ 12 then 10 * (x - 8) else -1
theorem cActOf (x : Int) (m : zMem) : f_X0_actOf x m = some (aOf x, m) := by
  have e : f_X0_actOf x m = some ((if x = -1 then (0 : Int) else if x = 9 then 10 else if x = 10 then 20 else if x = 11 then 30 else if x = 12 then 40 else -1), m) := by
    unfold f_X0_actOf
    by_cases h : x = -1
    · rw [if_pos h, if_pos h]
    · rw [if_neg h, if_neg h]
      by_cases h9 : x = 9
      · rw [if_pos h9, if_neg (by omega), if_neg (by omega), if_neg (by omega), if_neg (by omega), if_neg (by omega), if_neg (by omega), if_neg (by omega), if_neg (by omega), if_neg (by omega), if_pos h9]
      · rw [if_neg h9]
        by_cases h10 : x = 10
        · rw [if_pos h10, if_neg (by omega), if_neg (by omega), if_neg (by omega), if_neg (by omega), if_neg (by omega), if_neg (by omega), if_neg (by omega), if_neg (by omega), if_neg (by omega), if_neg h9, if_pos h10]
        · rw [if_neg h10]
          by_cases h11 : x = 11
          · rw [if_pos h11, if_neg (by omega), if_neg (by omega), if_neg (by omega), if_neg (by omega), if_neg (by omega), if_neg (by omega), if_neg (by omega), if_neg (by omega), if_neg (by omega), if_neg h9, if_neg h10, if_pos h11]
          · rw [if_neg h11]
            by_cases h12 : x = 12
            · rw [if_pos h12, if_neg (by omega), if_neg (by omega), if_neg (by omega), if_neg (by omega), if_neg (by omega), if_neg (by omega), if_neg (by omega), if_neg (by omega), if_neg (by omega), if_neg h9, if_neg h10, if_neg h11, if_pos h12]
            · rw [if_neg h12, if_neg h9, if_neg h10, if_neg h11, if_neg h12]
              simp only [ite_self]
  rw [e]
  unfold aOf
  congr 2
  by_cases h : x = -1
  · rw [if_pos h, if_pos h]
  · rw [if_neg h, if_neg h]
    by_cases g : 9 ≤ x ∧ x ≤ 12
    · rw [if_pos g]
      split
      · omega
      · split
        · omega
        · split
          · omega
          · split <;> omega
    · rw [if_neg g, if_neg (by omega), if_neg (by omega), if_neg (by omega), if_neg (by omega)]
/-- what both know of the island while a book is read -/
def PC (m : zMem) (A N : Int → Int) : Prop := oP A ∧ vP m 4 A ∧ rN m 4 A N
theorem lP_4 : lP 4 := ⟨rfl, rfl, rfl, rfl, rfl, rfl⟩
theorem cLineBad {T : Int → Int} {n lim p : Int} {m : zMem} (c : CT T n lim m p) (h : ¬ ((lexT T n lim p).2.2.1 = 2 ∧ aOf (kno (lexT T n lim p).2.2.2.2) ≠ -1)) : ∃ m', f_X0_readLine 4 m = some (0, m') ∧ CF m' 1 (lexT T n lim p).1 ∧ FXF m m' := by
  obtain ⟨m', x1, x2, x3⟩ := cFail c (k := 1) (by omega)
  refine ⟨m', ?_, x2, x3⟩
  have e6 := c.2.1.2.2.1
  have e8 := c.2.1.2.2.2.2.1
  unfold f_X0_readLine
  rw [cActOf]
  simp only [zbind]
  by_cases hk : (lexT T n lim p).2.2.1 = 2
  · rw [if_neg (by omega), if_neg (by omega)] at e6
    rw [if_pos hk] at e8
    have ha : aOf (m 1 8) = -1 := by
      rw [e8]
      exact Classical.byContradiction fun g => h ⟨hk, g⟩
    rw [if_pos (by omega), if_pos ha, x1]
    simp
  · have : m 1 6 ≠ 1 := by
      rw [e6]
      split
      · omega
      · split <;> omega
    rw [if_neg this, x1]
    simp
theorem cLineHead {T : Int → Int} {n lim p : Int} {m : zMem} {A N : Int → Int} {k a : Int} (c : CT T n lim m p) (pc : PC m A N) (hw : okW (lexT T n lim p).2.2.2.2) (hk : (lexT T n lim p).2.2.1 = 2) (ha : aOf (kno (lexT T n lim p).2.2.2.2) = a) (h1 : a ≠ -1) (e4 : m 45 4 = k) :
    f_X0_readLine 4 m = if a = 0 ∧ nmP A N (lexT T n lim p).2.2.2.2 = -1 then (zbind (f_X6_fail 3 m) fun y m' => if y = 0 ∨ y = 1 then some (y, m') else none) else if k < 40 then (if ix 46 k then pipe (zup m 46 k a) fun m45 => if a = 0 then (if ix 47 k then pipe (zup m45 47 k (nmP A N (lexT T n lim p).2.2.2.2)) fun m49 => zbind (f_X0_readSide m49) fun y50 m51 => if y50 = 0 ∨ y50 = 1 then some (y50, m51) else none else none) else (if a = 30 then (zbind (f_X0_readHouse 4 m45) fun y53 m54 => if y53 = 0 ∨ y53 = 1 then some (y53, m54) else none) else (if a = 40 then (zbind (f_X0_readNumber 47 1 60 m45) fun y56 m57 => if y56 = 0 ∨ y56 = 1 then some (y56, m57) else none) else (zbind (f_X0_readNumber 47 0 7 m45) fun y58 m59 => if y58 = 0 then (some (0, m59)) else (zbind (f_X0_readNumber 48 0 7 m59) fun y61 m62 => if y61 = 0 then (some (0, m62)) else (some (1, m62)))))) else none) else (zbind (f_X6_fail 4 m) fun y64 m65 => if y64 = 0 ∨ y64 = 1 then some (y64, m65) else none) := by
  have e6 := c.2.1.2.2.1
  have e8 := c.2.1.2.2.2.2.1
  have e7 := c.2.1.2.2.2.1 hk
  rw [if_neg (by omega), if_neg (by omega)] at e6
  rw [if_pos hk] at e8
  have e4' : ∀ v, zup m 46 k v 45 4 = k := fun v => by rw [zup_off (by omega), e4]
  unfold f_X0_readLine
  rw [cActOf, e8, ha]
  simp only [zbind]
  rw [if_pos (by omega), if_neg h1, e7, cPersonNamed lP_4 pc.2.1 pc.2.2 pc.1 hw]
  simp only
  by_cases h0 : a = 0
  · rw [if_pos h0]
    by_cases hp : nmP A N (lexT T n lim p).2.2.2.2 = -1
    · rw [if_pos hp, if_pos ⟨h0, hp⟩]
    · rw [if_neg hp, if_neg (c := a = 0 ∧ nmP A N (lexT T n lim p).2.2.2.2 = -1) (fun h => hp h.2)]
      simp only [pipe, e4, e4']
  · rw [if_neg h0, if_neg (c := a = 0 ∧ nmP A N (lexT T n lim p).2.2.2.2 = -1) (fun h => h0 h.1)]
    simp only [pipe, e4, e4']
