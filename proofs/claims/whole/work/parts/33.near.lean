/-! answers yes and no -/
abbrev bi (P : Prop) [Decidable P] : Int := if P then 1 else 0
theorem bi0 {α : Type} {P : Prop} [Decidable P] {a b : α} : (if bi P = 0 then a else b) = if P then b else a := by
  by_cases h : P
  · simp [bi, h]
  · simp [bi, h]
theorem bi01 {α : Type} {P : Prop} [Decidable P] {a b : α} : (if bi P = 0 ∨ bi P = 1 then a else b) = a := by
  by_cases h : P
  · simp [bi, h]
  · simp [bi, h]
theorem mIsIn (x a b : Int) (mem : zMem) : f_X12_isIn x a b mem = some (bi (a ≤ x ∧ x ≤ b), mem) := by
  unfold f_X12_isIn bi
  by_cases h1 : x < a
  · simp (disch := omega) only [if_pos, if_neg]
  · by_cases h2 : x > b
    · simp (disch := omega) only [if_pos, if_neg]
    · simp (disch := omega) only [if_pos, if_neg]
abbrev isC (A : Int → Int) (x y : Int) : Prop := 0 ≤ x ∧ x < A 0 ∧ 0 ≤ y ∧ y < A 1
theorem mIsCell {mem : zMem} (o : oP (mem 140)) (x y : Int) : f_X12_isCell x y mem = some (bi (isC (mem 140) x y), mem) := by
  have h := o.1
  have L := l140
  unfold f_X12_isCell
  simp (disch := omega) only [if_pos, w32_id, mIsIn, zbind, bi0]
  unfold bi isC
  by_cases h1 : 0 ≤ x ∧ x ≤ mem 140 0 - 1
  · by_cases h2 : 0 ≤ y ∧ y ≤ mem 140 1 - 1
    · simp (disch := omega) only [if_pos]
    · simp (disch := omega) only [if_pos, if_neg]
  · simp (disch := omega) only [if_pos, if_neg]
theorem mIsHouse {mem : zMem} (o : oP (mem 140)) (x : Int) : f_X12_isHouse x mem = some (bi (0 ≤ x ∧ x < mem 140 2), mem) := by
  have h := o.1
  have L := l140
  unfold f_X12_isHouse
  simp (disch := omega) only [if_pos, w32_id, mIsIn, zbind, bi01]
  by_cases h1 : 0 ≤ x ∧ x ≤ mem 140 2 - 1
  · simp (disch := omega) only [bi, if_pos]
  · simp (disch := omega) only [bi, if_neg]
theorem mIsPerson {mem : zMem} (o : oP (mem 140)) (x : Int) : f_X12_isPerson x mem = some (bi (0 ≤ x ∧ x < mem 140 3), mem) := by
  have h := o.1
  have L := l140
  unfold f_X12_isPerson
  simp (disch := omega) only [if_pos, w32_id, mIsIn, zbind, bi01]
  by_cases h1 : 0 ≤ x ∧ x ≤ mem 140 3 - 1
  · simp (disch := omega) only [bi, if_pos]
  · simp (disch := omega) only [bi, if_neg]
theorem mIsSun {mem : zMem} (o : oP (mem 140)) (x : Int) : f_X12_isSun x mem = some (bi (0 ≤ x ∧ x < mem 140 4), mem) := by
  have h := o.1
  have L := l140
  unfold f_X12_isSun
  simp (disch := omega) only [if_pos, w32_id, mIsIn, zbind, bi01]
  by_cases h1 : 0 ≤ x ∧ x ≤ mem 140 4 - 1
  · simp (disch := omega) only [bi, if_pos]
  · simp (disch := omega) only [bi, if_neg]
theorem cHasCell {mem : zMem} {pl : Nat} {A : Int → Int} (v : vP mem pl A) (x y : Int) : f_X5_hasCell pl x y mem = some (bi (isC A x y), mem) := by
  have v1 := v.1
  unfold f_X5_hasCell
  by_cases h : isC A x y
  · unfold isC at h
    simp (disch := omega) only [bi, isC, if_pos, if_neg]
  · unfold isC at h
    rw [show bi (isC A x y) = 0 from if_neg h]
    repeat' split
    all_goals first | rfl | omega
theorem cHasHouse {mem : zMem} {pl : Nat} {A : Int → Int} (v : vP mem pl A) (o : oP A) (x : Int) : f_X5_hasHouse pl x mem = some (bi (0 ≤ x ∧ x < A 2), mem) := by
  have v1 := v.1
  have h := o.1
  unfold f_X5_hasHouse
  by_cases h : 0 ≤ x ∧ x < A 2
  · simp (disch := omega) only [bi, if_pos, if_neg]
  · rw [show bi (0 ≤ x ∧ x < A 2) = 0 from if_neg h]
    repeat' split
    all_goals first | rfl | omega
theorem cHasPerson {mem : zMem} {pl : Nat} {A : Int → Int} (v : vP mem pl A) (o : oP A) (x : Int) : f_X5_hasPerson pl x mem = some (bi (0 ≤ x ∧ x < A 3), mem) := by
  have v1 := v.1
  have h := o.1
  unfold f_X5_hasPerson
  by_cases h : 0 ≤ x ∧ x < A 3
  · simp (disch := omega) only [bi, if_pos, if_neg]
  · rw [show bi (0 ≤ x ∧ x < A 3) = 0 from if_neg h]
    repeat' split
    all_goals first | rfl | omega
theorem cHasShadow {mem : zMem} {pl : Nat} {A : Int → Int} (v : vP mem pl A) (o : oP A) (x y : Int) : f_X5_hasShadow pl x y mem = some (bi ((0 ≤ x ∧ x < A 2) ∧ 0 ≤ y ∧ y < A 4), mem) := by
  have v1 := v.1
  have h := o.1
  unfold f_X5_hasShadow
  by_cases h : (0 ≤ x ∧ x < A 2) ∧ 0 ≤ y ∧ y < A 4
  · simp (disch := omega) only [bi, if_pos, if_neg]
  · rw [show bi ((0 ≤ x ∧ x < A 2) ∧ 0 ≤ y ∧ y < A 4) = 0 from if_neg h]
    repeat' split
    all_goals first | rfl | omega
/-! the next cell to a side -/
def dx (s : Int) : Int := if s = 0 then 1 else if s = 2 then -1 else 0
def dy (s : Int) : Int := if s = 1 then 1 else if s = 3 then -1 else 0
/-- the cell so many steps off; -1: none -/
def stp (A : Int → Int) (c s k : Int) : Int := if isC A (c % 8 + k * dx s) (c / 8 + k * dy s) then 8 * (c / 8 + k * dy s) + (c % 8 + k * dx s) else -1
theorem zDir_x {s : Int} (h0 : 0 ≤ s) (h1 : s ≤ 3) : zDir true s.toNat = dx s := by
  have : s = 0 ∨ s = 1 ∨ s = 2 ∨ s = 3 := by omega
  rcases this with rfl | rfl | rfl | rfl <;> rfl
theorem zDir_y {s : Int} (h0 : 0 ≤ s) (h1 : s ≤ 3) : zDir false s.toNat = dy s := by
  have : s = 0 ∨ s = 1 ∨ s = 2 ∨ s = 3 := by omega
  rcases this with rfl | rfl | rfl | rfl <;> rfl
theorem dxy {s : Int} (h0 : 0 ≤ s) (h1 : s ≤ 3) : (dx s = 1 ∧ dy s = 0) ∨ (dx s = 0 ∧ dy s = 1) ∨ (dx s = -1 ∧ dy s = 0) ∨ (dx s = 0 ∧ dy s = -1) := by
  have : s = 0 ∨ s = 1 ∨ s = 2 ∨ s = 3 := by omega
  rcases this with rfl | rfl | rfl | rfl <;> decide
theorem cSpotFrom {mem : zMem} {pl : Nat} {A : Int → Int} (v : vP mem pl A) (o : oP A) {c s k : Int} (hc : 0 ≤ c ∧ c < 64) (hs : 0 ≤ s ∧ s ≤ 3) (hk : 0 ≤ k ∧ k ≤ 100) : f_X5_spotFrom pl c s k mem = some (stp A c s k, mem) := by
  have v1 := v.1
  have h := o.1
  unfold f_X5_spotFrom stp
  have hx : -100 ≤ k * dx s ∧ k * dx s ≤ 100 := by
    rcases dxy hs.1 hs.2 with ⟨e1, e2⟩ | ⟨e1, e2⟩ | ⟨e1, e2⟩ | ⟨e1, e2⟩ <;> rw [e1] <;> omega
  have hy : -100 ≤ k * dy s ∧ k * dy s ≤ 100 := by
    rcases dxy hs.1 hs.2 with ⟨e1, e2⟩ | ⟨e1, e2⟩ | ⟨e1, e2⟩ | ⟨e1, e2⟩ <;> rw [e2] <;> omega
  simp (disch := omega) only [if_pos, if_neg, pipe, zDir_x, zDir_y, div8, rem8]
  generalize k * dx s = u at *
  generalize k * dy s = w at *
  simp (disch := omega) only [w32_id]
  by_cases hi : isC A (c % 8 + u) (c / 8 + w)
  · rw [if_pos hi]
    unfold isC at hi
    simp (disch := omega) only [if_neg, w32_id]
  · rw [if_neg hi]
    unfold isC at hi
    repeat' split
    all_goals first | rfl | omega
theorem mNextTo {mem : zMem} (o : oP (mem 140)) {c s : Int} (hc : 0 ≤ c ∧ c < 64) (hs : 0 ≤ s ∧ s ≤ 3) : f_X12_nextTo c s mem = some (stp (mem 140) c s 1, mem) := by
  have h := o.1
  have hs' : s = 0 ∨ s = 1 ∨ s = 2 ∨ s = 3 := by omega
  unfold f_X12_nextTo stp
  simp (disch := omega) only [pipe, div8, rem8, mIsCell o, zbind, bi0]
  rcases hs' with rfl | rfl | rfl | rfl <;>
  · simp (disch := omega) only [dx, dy, Int.one_mul, w32_id, ↓reduceIte, Int.reduceEq]
    split <;> rfl
