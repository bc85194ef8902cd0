/-! a line of the book: what follows its first word -/
theorem l154 : sLen 154 = 120 := rfl
theorem ixb {α : Type} {q : Nat} {k : Int} {a b : α} (hq : q = 46 ∨ q = 47 ∨ q = 48) (h : 0 ≤ k ∧ k < 40) : (if ix q k then a else b) = a := by
  rcases hq with rfl | rfl | rfl
  · exact if_pos ⟨h.1, by show k < 40; exact h.2⟩
  · exact if_pos ⟨h.1, by show k < 40; exact h.2⟩
  · exact if_pos ⟨h.1, by show k < 40; exact h.2⟩
theorem ix4 {α : Type} {k : Int} {a b : α} (h : 0 ≤ k ∧ k < 120) : (if ix 154 k then a else b) = a := if_pos ⟨h.1, by rw [l154]; exact h.2⟩
theorem cSideB {T : Int → Int} {n lim p k : Int} {m : zMem} (ok : okTx T n) (h0 : 0 ≤ p) (h1 : p ≤ n) (c : CU T n lim m p) (e4 : m 45 4 = k) (k0 : 0 ≤ k) (k1 : k < 40) : (((lexT T n lim p).2.2.1 = 2 ∧ 5 ≤ kno (lexT T n lim p).2.2.2.2 ∧ kno (lexT T n lim p).2.2.2.2 ≤ 8) → ∃ m', f_X0_readSide m = some (1, zup m' 48 k (kno (lexT T n lim p).2.2.2.2 - 5)) ∧ CT T n lim m' p ∧ FXF m m') ∧ (¬ ((lexT T n lim p).2.2.1 = 2 ∧ 5 ≤ kno (lexT T n lim p).2.2.2.2 ∧ kno (lexT T n lim p).2.2.2.2 ≤ 8) → ∃ m', f_X0_readSide m = some (0, m') ∧ CF m' 1 (lexT T n lim p).1 ∧ FXF m m') := by
  obtain ⟨s1, s2⟩ := cSide ok h0 h1 c
  constructor
  · intro g
    obtain ⟨m', a1, a2, a3, a4⟩ := s1 g
    have e : m' 45 4 = k := by rw [a4.1 45 (by omega), e4]
    refine ⟨m', ?_, a2, a4⟩
    unfold f_X0_readSide
    rw [a1]
    simp only [zbind, pipe, e, a3]
    rw [if_neg (by omega), ixb (Or.inr (Or.inr rfl)) ⟨k0, k1⟩, w32_id ⟨by omega, by omega⟩]
  · intro g
    obtain ⟨m', a1, a2, a3⟩ := s2 g
    refine ⟨m', ?_, a2, a3⟩
    unfold f_X0_readSide
    rw [a1]
    simp [zbind]
theorem cNumB {T : Int → Int} {n lim p k lo hi : Int} {q : Nat} {m : zMem} (ok : okTx T n) (hl : 0 ≤ lim) (h0 : 0 ≤ p) (h1 : p ≤ n) (hq : q = 46 ∨ q = 47 ∨ q = 48) (c : CU T n lim m p) (e4 : m 45 4 = k) (k0 : 0 ≤ k) (k1 : k < 40) : (((lexT T n lim p).2.2.1 = 3 ∧ lo ≤ (lexT T n lim p).2.2.2.1 ∧ (lexT T n lim p).2.2.2.1 ≤ hi) → ∃ m', f_X0_readNumber q lo hi m = some (1, zup m' q k (lexT T n lim p).2.2.2.1) ∧ CT T n lim m' p ∧ FXF m m') ∧ (¬ ((lexT T n lim p).2.2.1 = 3 ∧ lo ≤ (lexT T n lim p).2.2.2.1 ∧ (lexT T n lim p).2.2.2.1 ≤ hi) → ∃ m', f_X0_readNumber q lo hi m = some (0, m') ∧ CF m' (if (lexT T n lim p).2.2.1 = 3 then 2 else 1) (lexT T n lim p).1 ∧ FXF m m') := by
  obtain ⟨s1, s2⟩ := cNumber (lo := lo) (hi := hi) ok h0 h1 c
  have lr := lexT_r (T := T) (n := n) (lim := lim) hl h0 h1
  constructor
  · intro g
    obtain ⟨m', a1, a2, a3, a4⟩ := s1 g
    have e : m' 45 4 = k := by rw [a4.1 45 (by omega), e4]
    have b := lr.2.2.2.2.2.1 g.1
    refine ⟨m', ?_, a2, a4⟩
    unfold f_X0_readNumber
    rw [a1]
    simp only [zbind, pipe, e, a3]
    rw [if_neg (by omega), ixb hq ⟨k0, k1⟩, w32_id ⟨by omega, by omega⟩]
  · intro g
    obtain ⟨m', a1, a2, a3⟩ := s2 g
    refine ⟨m', ?_, a2, a3⟩
    unfold f_X0_readNumber
    rw [a1]
    simp [zbind]
theorem mKeep_1 {i : Int} (h : 0 ≤ i ∧ i < 120) (r : zMem) : f_X12_keep i 1 r = some (1, zup r 154 i (r 138 13)) := by
  unfold f_X12_keep
  rw [if_neg (by omega), ix4 h]
  simp [pipe]
theorem mKeep_0 (i : Int) (r : zMem) : f_X12_keep i 0 r = some (0, r) := by
  unfold f_X12_keep
  simp
theorem PC_f {m m' : zMem} {A N : Int → Int} (h : PC m A N) (f : ∀ q, 4 ≤ q → q ≤ 10 → m' q = m q) : PC m' A N := ⟨h.1, vP_mem (fun q a b => f q (by omega) (by omega)) h.2.1, rN_mem (fun q a b => f q (by omega) (by omega)) h.2.2⟩
theorem cHouseB {T : Int → Int} {n lim p k : Int} {m : zMem} {A N : Int → Int} (ok : okTx T n) (hl : 0 ≤ lim) (h0 : 0 ≤ p) (h1 : p ≤ n) (c : CU T n lim m p) (pc : PC m A N) (e4 : m 45 4 = k) (k0 : 0 ≤ k) (k1 : k < 40) : (((lexT T n lim p).2.2.1 = 2 ∧ kno (lexT T n lim p).2.2.2.2 = -1 ∧ nmH A N (lexT T n lim p).2.2.2.2 ≠ -1) → ∃ m', f_X0_readHouse 4 m = some (1, zup m' 47 k (nmH A N (lexT T n lim p).2.2.2.2)) ∧ CT T n lim m' p ∧ FXF m m') ∧ (¬ ((lexT T n lim p).2.2.1 = 2 ∧ kno (lexT T n lim p).2.2.2.2 = -1 ∧ nmH A N (lexT T n lim p).2.2.2.2 ≠ -1) → ∃ m' m2, f_X0_readHouse 4 m = some (0, m') ∧ CF m' (if (lexT T n lim p).2.2.1 = 2 ∧ kno (lexT T n lim p).2.2.2.2 = -1 then 3 else 1) (lexT T n lim p).1 ∧ (m2 = m ∨ ∃ m3 v, m2 = zup m3 47 k v ∧ FXF m m3) ∧ FXF m2 m') := by
  obtain ⟨s1, s2⟩ := cName1 ok h0 h1 c
  have lr := lexT_r (T := T) (n := n) (lim := lim) hl h0 h1
  by_cases g : (lexT T n lim p).2.2.1 = 2 ∧ kno (lexT T n lim p).2.2.2.2 = -1
  · obtain ⟨m2, a1, a2, a3, a4⟩ := s1 g
    have hw := lr.2.2.2.2.1 g.1
    have e : m2 45 4 = k := by rw [a4.1 45 (by omega), e4]
    have pc2 : PC m2 A N := PC_f pc (fun q a b => a4.1 q (by omega))
    have key : f_X0_readHouse 4 m = if nmH A N (lexT T n lim p).2.2.2.2 = -1 then (zbind (f_X6_fail 3 (zup m2 47 k (nmH A N (lexT T n lim p).2.2.2.2))) fun y14 m15 => if y14 = 0 then (some (0, m15)) else (some (1, m15))) else (some (1, zup m2 47 k (nmH A N (lexT T n lim p).2.2.2.2))) := by
      unfold f_X0_readHouse
      rw [a1]
      simp only [zbind]
      rw [if_neg (by omega), a3, cHouseNamed lP_4 pc2.2.1 pc2.2.2 pc2.1 hw]
      simp only [pipe, e]
      have e' : zup m2 47 k (nmH A N (lexT T n lim p).2.2.2.2) 45 4 = k := by rw [zup_off (by omega), e]
      have e'' : zup m2 47 k (nmH A N (lexT T n lim p).2.2.2.2) 47 k = nmH A N (lexT T n lim p).2.2.2.2 := by rw [zup_same, if_pos rfl]
      rw [ixb (Or.inr (Or.inl rfl)) ⟨k0, k1⟩]
      simp only [e', e'']
      rw [ixb (Or.inr (Or.inl rfl)) ⟨k0, k1⟩]
    constructor
    · intro g'
      refine ⟨m2, ?_, a2, a4⟩
      rw [key, if_neg g'.2.2]
    · intro g'
      have hz : nmH A N (lexT T n lim p).2.2.2.2 = -1 := Classical.byContradiction fun z => g' ⟨g.1, g.2, z⟩
      obtain ⟨m', b1, b2, b3⟩ := cFail (CT_up (q := 47) (i := k) (v := nmH A N (lexT T n lim p).2.2.2.2) a2 (by omega)) (k := 3) (by omega)
      refine ⟨m', zup m2 47 k (nmH A N (lexT T n lim p).2.2.2.2), ?_, by rw [if_pos g]; exact b2, Or.inr ⟨m2, _, rfl, a4⟩, b3⟩
      rw [key, if_pos hz, b1]
      simp [zbind]
  · constructor
    · intro g'
      exact absurd ⟨g'.1, g'.2.1⟩ g
    · intro _
      obtain ⟨m', a1, a2, a3⟩ := s2 g
      refine ⟨m', m, ?_, by rw [if_neg g]; exact a2, Or.inl rfl, a3⟩
      unfold f_X0_readHouse
      rw [a1]
      simp [zbind]
theorem mNamed {T : Int → Int} {n lim p : Int} {r : zMem} {A N : Int → Int} (ok : okTx T n) (hl : 0 ≤ lim) (h0 : 0 ≤ p) (h1 : p ≤ n) (c : RU T n lim r p) (eN : r 145 = N) (o : oP A) : (((lexT T n lim p).2.2.1 = 2 ∧ kno (lexT T n lim p).2.2.2.2 = -1 ∧ nmH A N (lexT T n lim p).2.2.2.2 ≠ -1) → ∃ r', f_X12_readNamed 0 (A 2) r = some (1, r') ∧ RU T n lim r' (lexT T n lim p).2.1 ∧ r' 138 13 = nmH A N (lexT T n lim p).2.2.2.2 ∧ FYF r r') ∧ (¬ ((lexT T n lim p).2.2.1 = 2 ∧ kno (lexT T n lim p).2.2.2.2 = -1 ∧ nmH A N (lexT T n lim p).2.2.2.2 ≠ -1) → ∃ r', f_X12_readNamed 0 (A 2) r = some (0, r') ∧ RF r' (if (lexT T n lim p).2.2.1 = 2 ∧ kno (lexT T n lim p).2.2.2.2 = -1 then 3 else 1) (lexT T n lim p).1 ∧ FYF r r') := by
  have o1 := o.1
  have L : sLen 145 = 11 := rfl
  by_cases g : (lexT T n lim p).2.2.1 = 2 ∧ kno (lexT T n lim p).2.2.2.2 = -1
  · have e12 := c.2.2.2.2.1 g.1
    have ef : f_X12_findIn 145 0 (A 2) (r 138 12) r = some (nmH A N (lexT T n lim p).2.2.2.2, r) := by
      rw [mFindIn L (by omega) (by omega) (by omega), e12, eN]
      unfold nmH
      simp only [Int.zero_add]
    have key : f_X12_readNamed 0 (A 2) r = if nmH A N (lexT T n lim p).2.2.2.2 = -1 then (zbind (f_X12_bad 3 (zup r 138 13 (nmH A N (lexT T n lim p).2.2.2.2))) fun y12 m13 => if y12 = 0 ∨ y12 = 1 then some (y12, m13) else none) else (zbind (f_X12_go (zup r 138 13 (nmH A N (lexT T n lim p).2.2.2.2))) fun _ m14 => some (1, m14)) := by
      unfold f_X12_readNamed
      rw [mIsName hl h0 h1 c]
      simp only [zbind, bi0]
      rw [if_pos g, ef]
      simp only [pipe, zup_same, if_pos]
    have ru : RU T n lim (zup r 138 13 (nmH A N (lexT T n lim p).2.2.2.2)) p := RU_up c (by omega)
    constructor
    · intro g'
      obtain ⟨r', a1, a2, a3⟩ := mGoU ok hl h0 h1 ru
      refine ⟨r', ?_, a2, ?_, FYF_t (FYF_up (by omega)) (FY_F a3)⟩
      · rw [key, if_neg g'.2.2, a1]
        rfl
      · rw [a3.2 13 (by omega), zup_same, if_pos rfl]
    · intro g'
      have hz : nmH A N (lexT T n lim p).2.2.2.2 = -1 := Classical.byContradiction fun z => g' ⟨g.1, g.2, z⟩
      obtain ⟨r', b1, b2, b3⟩ := mBad ru 3
      rw [if_neg (by omega)] at b2
      refine ⟨r', ?_, by rw [if_pos g]; exact b2, FYF_t (FYF_up (by omega)) b3⟩
      rw [key, if_pos hz, b1]
      simp [zbind]
  · constructor
    · intro g'
      exact absurd ⟨g'.1, g'.2.1⟩ g
    · intro _
      obtain ⟨r', b1, b2, b3⟩ := mBad c 1
      have : (if (lexT T n lim p).2.2.1 = 1 then (1 : Int) else 1) = 1 := by split <;> rfl
      rw [this] at b2
      refine ⟨r', ?_, by rw [if_neg g]; exact b2, b3⟩
      unfold f_X12_readNamed
      rw [mIsName hl h0 h1 c]
      simp only [zbind, bi0]
      rw [if_neg g, b1]
      simp
