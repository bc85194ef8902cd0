/-! one thing said, by both -/
def isHd (t : Tok) : Prop := (t.2.2.1 = 4 ∧ t.2.2.2.1 = 40) ∨ (t.2.2.1 = 2 ∧ 15 ≤ kno t.2.2.2.2)
theorem CT_8 {T : Int → Int} {n lim p : Int} {m : zMem} (c : CT T n lim m p) : m 1 8 = (if (lexT T n lim p).2.2.1 = 2 then kno (lexT T n lim p).2.2.2.2 else -1) := c.2.1.2.2.2.2.1
theorem cOneBad {T : Int → Int} {n lim p dp : Int} {m : zMem} {sc : SelfC} (c : CT T n lim m p) (h : ¬ isHd (lexT T n lim p)) : ∃ m', fb_X8_readOne sc 49 4 dp m = some (0, m') ∧ CF m' 1 (lexT T n lim p).1 ∧ FXF m m' := by
  obtain ⟨m', d1, d2, d3⟩ := cFail c (k := 1) (by omega)
  refine ⟨m', ?_, d2, d3⟩
  have h8 := CT_8 c
  have h9 : ¬ m 1 8 ≥ 15 := by
    rw [h8]
    by_cases g : (lexT T n lim p).2.2.1 = 2
    · rw [if_pos g]
      exact fun x => h (Or.inr ⟨g, x⟩)
    · rw [if_neg g]
      omega
  unfold fb_X8_readOne
  simp only [pipe, cIsSign c, zbind, bi0]
  rw [if_neg (fun x => h (Or.inl x)), if_neg h9, d1]
  simp
theorem cOneBr {T : Int → Int} {n lim p dp : Int} {m : zMem} {sc : SelfC} (c : CT T n lim m p) (h : (lexT T n lim p).2.2.1 = 4 ∧ (lexT T n lim p).2.2.2.1 = 40) : fb_X8_readOne sc 49 4 dp m = f_X8_readOne_j32 sc 49 4 dp (-1) 1 m := by
  have h8 := CT_8 c
  rw [if_neg (by omega)] at h8
  unfold fb_X8_readOne
  simp only [pipe, cIsSign c, zbind, bi0]
  rw [if_pos h, h8, bi_t h]
theorem cOneW {T : Int → Int} {n lim p dp v : Int} {m : zMem} {sc : SelfC} (c : CT T n lim m p) (h : isK (lexT T n lim p) v) (hv : 15 ≤ v) : fb_X8_readOne sc 49 4 dp m = f_X8_readOne_j32 sc 49 4 dp v 0 m := by
  have h8 := CT_8 c
  rw [if_pos h.1, h.2] at h8
  have hn : ¬ ((lexT T n lim p).2.2.1 = 4 ∧ (lexT T n lim p).2.2.2.1 = 40) := fun x => by have := h.1; omega
  unfold fb_X8_readOne
  simp only [pipe, cIsSign c, zbind, bi0]
  rw [if_neg hn, if_pos (by omega), h8, bi_f hn]
theorem mSaidW {T : Int → Int} {n lim p v y : Int} {r : zMem} {sr : Nat → zMem → Option (Int × zMem)} (hl : 0 ≤ lim) (h0 : 0 ≤ p) (h1 : p ≤ n) (c : RU T n lim r p) (h : isK (lexT T n lim p) v) (hv : v ≤ 23) : ∀ (k f : Nat) (v2 : Int), v2 + k = v → 15 ≤ v2 → k < f → f_X12_readSaid_1 sr f y v2 r = f_X12_readSaid_j46 sr y v r := by
  intro k
  induction k with
  | zero =>
    intro f v2 e h15 hf
    obtain ⟨f, rfl⟩ : ∃ g, f = g + 1 := ⟨f - 1, by omega⟩
    show b_X12_readSaid_1 sr (f_X12_readSaid_1 sr f) y v2 r = _
    have e' : v2 = v := by omega
    subst e'
    unfold b_X12_readSaid_1
    rw [if_neg (by omega), mIsWord hl h0 h1 c (by omega) hv]
    simp only [zbind, bi0]
    rw [if_pos (show (lexT T n lim p).2.2.1 = 2 ∧ kno (lexT T n lim p).2.2.2.2 = v2 from h)]
    by_cases hy : y = 0
    · rw [if_pos hy, if_pos hv]
    · rw [if_neg hy]
  | succ k ih =>
    intro f v2 e h15 hf
    obtain ⟨f, rfl⟩ : ∃ g, f = g + 1 := ⟨f - 1, by omega⟩
    show b_X12_readSaid_1 sr (f_X12_readSaid_1 sr f) y v2 r = _
    have h2 := h.2
    unfold b_X12_readSaid_1
    rw [if_neg (by omega), mIsWord hl h0 h1 c (by omega) (by omega)]
    simp only [zbind, bi0]
    rw [if_neg (fun x => by omega), w32_id ⟨by omega, by omega⟩]
    exact ih f (v2 + 1) (by omega) (by omega) (by omega)
theorem mSaidN {T : Int → Int} {n lim p y : Int} {r : zMem} {sr : Nat → zMem → Option (Int × zMem)} (hl : 0 ≤ lim) (h0 : 0 ≤ p) (h1 : p ≤ n) (c : RU T n lim r p) (h : ¬ ((lexT T n lim p).2.2.1 = 2 ∧ 15 ≤ kno (lexT T n lim p).2.2.2.2)) : ∀ (k f : Nat) (v2 : Int), v2 + k = 24 → 15 ≤ v2 → k < f → f_X12_readSaid_1 sr f y v2 r = if y = 0 then (zbind (f_X12_bad 1 r) fun y4 m5 => if y4 = 0 ∨ y4 = 1 then some (y4, m5) else none) else f_X12_readSaid_j46 sr y 24 r := by
  intro k
  induction k with
  | zero =>
    intro f v2 e h15 hf
    obtain ⟨f, rfl⟩ : ∃ g, f = g + 1 := ⟨f - 1, by omega⟩
    show b_X12_readSaid_1 sr (f_X12_readSaid_1 sr f) y v2 r = _
    have e' : v2 = 24 := by omega
    subst e'
    unfold b_X12_readSaid_1
    rw [if_pos (by omega), if_neg (by omega : ¬ (24 : Int) ≤ 23)]
  | succ k ih =>
    intro f v2 e h15 hf
    obtain ⟨f, rfl⟩ : ∃ g, f = g + 1 := ⟨f - 1, by omega⟩
    show b_X12_readSaid_1 sr (f_X12_readSaid_1 sr f) y v2 r = _
    unfold b_X12_readSaid_1
    rw [if_neg (by omega), mIsWord hl h0 h1 c (by omega) (by omega)]
    simp only [zbind, bi0]
    rw [if_neg (fun x => h ⟨x.1, by omega⟩), w32_id ⟨by omega, by omega⟩]
    exact ih f (v2 + 1) (by omega) (by omega) (by omega)
theorem mSaidBad {T : Int → Int} {n lim p : Int} {r : zMem} {sr : Nat → zMem → Option (Int × zMem)} (hl : 0 ≤ lim) (h0 : 0 ≤ p) (h1 : p ≤ n) (c : RU T n lim r p) (h : ¬ isHd (lexT T n lim p)) : ∃ r', fb_X12_readSaid sr r = some (0, r') ∧ RF r' 1 (lexT T n lim p).1 ∧ FYF r r' := by
  have hN := zN_ge
  obtain ⟨r', d1, d2, d3⟩ := mBad c 1
  have e : (if (lexT T n lim p).2.2.1 = 1 then (1 : Int) else 1) = 1 := by split <;> rfl
  rw [e] at d2
  refine ⟨r', ?_, d2, d3⟩
  unfold fb_X12_readSaid
  rw [mIsSign c]
  simp only [zbind]
  rw [bi_f (fun x => h (Or.inl x)), mSaidN hl h0 h1 c (fun x => h (Or.inr x)) 9 zN 15 (by omega) (by omega) (by omega), if_pos rfl, d1]
  simp [zbind]
theorem mSaidBr {T : Int → Int} {n lim p : Int} {r : zMem} {sr : Nat → zMem → Option (Int × zMem)} (hl : 0 ≤ lim) (h0 : 0 ≤ p) (h1 : p ≤ n) (c : RU T n lim r p) (h : (lexT T n lim p).2.2.1 = 4 ∧ (lexT T n lim p).2.2.2.1 = 40) : fb_X12_readSaid sr r = f_X12_readSaid_j46 sr 1 24 r := by
  have hN := zN_ge
  unfold fb_X12_readSaid
  rw [mIsSign c]
  simp only [zbind]
  rw [bi_t h, mSaidN hl h0 h1 c (fun x => by have := h.1; omega) 9 zN 15 (by omega) (by omega) (by omega), if_neg (by omega)]
theorem mSaidWd {T : Int → Int} {n lim p v : Int} {r : zMem} {sr : Nat → zMem → Option (Int × zMem)} (hl : 0 ≤ lim) (h0 : 0 ≤ p) (h1 : p ≤ n) (c : RU T n lim r p) (h : isK (lexT T n lim p) v) (hv : 15 ≤ v) (hv2 : v ≤ 23) : fb_X12_readSaid sr r = f_X12_readSaid_j46 sr 0 v r := by
  have hN := zN_ge
  unfold fb_X12_readSaid
  rw [mIsSign c]
  simp only [zbind]
  rw [bi_f (fun x => by have := h.1; omega), mSaidW hl h0 h1 c h hv2 (v - 15).toNat zN 15 (by omega) (by omega) (by omega)]
/-- too many -/
theorem one_many {T : Int → Int} {n lim p o w v4 v5 u1 u2 : Int} {sc : SelfC} {sr : Nat → zMem → Option (Int × zMem)} (hb : w = 8 ∨ o = 20) (w0 : w ≤ 8) (o0 : o ≤ 20) (hk : (lexT T n lim p).2.2.1 ≠ 1) : (∀ m, CT T n lim m p → m 49 4 = o → ∃ m', f_X8_readOne_j32 sc 49 4 (w + 1) v4 v5 m = some (0, m') ∧ CF m' 4 (lexT T n lim p).1 ∧ FXF m m') ∧ (∀ r, RU T n lim r p → r 138 44 = o → r 138 45 = w → ∃ r', f_X12_readSaid_j46 sr u1 u2 r = some (0, r') ∧ RF r' 4 (lexT T n lim p).1 ∧ FYF r r') := by
  constructor
  · intro m c e
    obtain ⟨m', d1, d2, d3⟩ := cFail c (k := 4) (by omega)
    refine ⟨m', ?_, d2, d3⟩
    unfold f_X8_readOne_j32
    by_cases g : w + 1 > 8
    · rw [if_pos g, d1]
      simp [zbind]
    · rw [if_neg g, if_neg (by omega), d1]
      simp [zbind]
  · intro r c e1 e2
    obtain ⟨r', d1, d2, d3⟩ := mBad c 4
    rw [if_neg hk] at d2
    refine ⟨r', ?_, d2, d3⟩
    unfold f_X12_readSaid_j46
    by_cases g : o = 20
    · rw [if_pos (by omega), d1]
      simp [zbind]
    · rw [if_neg (by omega), if_pos (by omega), d1]
      simp [zbind]
/-- what comes behind the head -/
noncomputable def oneC (sc : SelfC) (dp v4 v5 : Int) (m7 : zMem) : Option (Int × zMem) := if v4 = 15 then (zbind (f_X6_step m7) fun _ m9 => zbind (sc 1 49 4 (dp + 1) m9) fun y10 m11 => zbind (f_X8_add 49 15 0 m11) fun _ m12 => if y10 = 0 ∨ y10 = 1 then some (y10, m12) else none) else (if v5 = 0 then (if v4 = 19 then (zbind (f_X8_readHouse 49 4 m7) fun y15 m16 => if y15 = 0 then (if y15 = 0 ∨ y15 = 1 then some (y15, m16) else none) else (zbind (f_X6_step m16) fun _ m18 => if y15 = 0 ∨ y15 = 1 then some (y15, m18) else none)) else (if v4 < 20 then (zbind (f_X8_add 49 v4 0 m7) fun _ m20 => zbind (f_X6_step m20) fun _ m22 => some (1, m22)) else (zbind (f_X8_readCompared 49 v4 m7) fun y23 m24 => if y23 = 0 then (if y23 = 0 ∨ y23 = 1 then some (y23, m24) else none) else (zbind (f_X6_step m24) fun _ m26 => if y23 = 0 ∨ y23 = 1 then some (y23, m26) else none)))) else (zbind (f_X6_step m7) fun _ m27 => zbind (sc 0 49 4 (dp + 1) m27) fun y28 m29 => if y28 = 0 then (some (0, m29)) else (zbind (f_X6_isSign 41 m29) fun y32 m33 => if y32 = 0 then (zbind (f_X6_fail 1 m33) fun y35 m36 => if y35 = 0 then (some (0, m36)) else (zbind (f_X6_step m36) fun _ m40 => some (1, m40))) else (zbind (f_X6_step m33) fun _ m42 => some (1, m42)))))
theorem j32_eq {sc : SelfC} {w v4 v5 o : Int} {m : zMem} (h0 : 0 ≤ w) (h1 : w < 8) (e : m 49 4 = o) (o0 : 0 ≤ o) (o1 : o < 20) : f_X8_readOne_j32 sc 49 4 (w + 1) v4 v5 m = oneC sc (w + 1) v4 v5 (zup m 49 4 (o + 1)) := by
  unfold f_X8_readOne_j32 oneC
  rw [if_neg (by omega), if_pos (by omega), e, w32_id (x := o + 1) ⟨by omega, by omega⟩, w32_id (x := w + 1 + 1) ⟨by omega, by omega⟩]
  rfl
noncomputable def oneR (sr : Nat → zMem → Option (Int × zMem)) (v1 v2 : Int) (m13 : zMem) : Option (Int × zMem) := if v1 = 0 then (if v2 = 15 then sr 3 m13 else (if v2 ≥ 19 then (if v2 ≥ 20 then f_X12_readCompare v2 m13 else f_X12_readOf v2 m13) else (zbind (f_X12_saysOne (w32 (50 + v2)) 0 0 0 m13) fun y30 m31 => pipe (zup m31 138 46 y30) fun m32 => some (1, m32)))) else sr 4 m13
noncomputable def oneF (x : Option (Int × zMem)) : Option (Int × zMem) := zbind x fun y m => pipe (zup m 138 45 (w32 (m 138 45 - 1))) fun m' => if y = 0 ∨ y = 1 then some (y, m') else none
theorem j46_eq {sr : Nat → zMem → Option (Int × zMem)} {v1 v2 o w : Int} {r r' : zMem} (e1 : r 138 44 = o) (e2 : r 138 45 = w) (o0 : 0 ≤ o) (o1 : o < 20) (w0 : 0 ≤ w) (w1 : w < 8) (hg : f_X12_go (zup (zup r 138 44 (o + 1)) 138 45 (w + 1)) = some (0, r')) : f_X12_readSaid_j46 sr v1 v2 r = oneF (oneR sr v1 v2 r') := by
  have e3 : zup r 138 44 (o + 1) 138 45 = w := by rw [zup_same, if_neg (by omega), e2]
  unfold f_X12_readSaid_j46 oneR oneF
  rw [if_neg (by omega), if_neg (by omega), e1, w32_id (x := o + 1) ⟨by omega, by omega⟩]
  simp only [pipe]
  rw [e3, w32_id (x := w + 1) ⟨by omega, by omega⟩, hg]
  simp only [zbind]
  by_cases h1 : v1 = 0
  · rw [if_pos h1, if_pos h1]
    by_cases h2 : v2 = 15
    · rw [if_pos h2, if_pos h2]
    · rw [if_neg h2, if_neg h2]
      by_cases h3 : v2 ≥ 19
      · rw [if_pos h3, if_pos h3]
        by_cases h4 : v2 ≥ 20
        · rw [if_pos h4, if_pos h4]
        · rw [if_neg h4, if_neg h4]
      · rw [if_neg h3, if_neg h3]
        cases f_X12_saysOne (w32 (50 + v2)) 0 0 0 r' with
        | none => rfl
        | some x => simp
  · rw [if_neg h1, if_neg h1]
