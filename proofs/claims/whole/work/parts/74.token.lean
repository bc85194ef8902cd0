/-! tokens asked for -/
theorem lexT_r {T : Int → Int} {n lim p : Int} (hl : 0 ≤ lim) (h0 : 0 ≤ p) (h1 : p ≤ n) : p ≤ (lexT T n lim p).2.1 ∧ (lexT T n lim p).2.1 ≤ n ∧ (0 ≤ (lexT T n lim p).2.2.1 ∧ (lexT T n lim p).2.2.1 ≤ 4) ∧ (2 ≤ (lexT T n lim p).2.2.1 → p < (lexT T n lim p).2.1) ∧ ((lexT T n lim p).2.2.1 = 2 → okW (lexT T n lim p).2.2.2.2) ∧ ((lexT T n lim p).2.2.1 = 3 → 0 ≤ (lexT T n lim p).2.2.2.1 ∧ (lexT T n lim p).2.2.2.1 ≤ 999) ∧ 0 ≤ (lexT T n lim p).1 ∧ (lexT T n lim p).1 ≤ n := by
  obtain ⟨b1, b2, b3, b4⟩ := lexB_r (T := T) h1
  unfold lexT
  generalize lexB T n p = B at *
  by_cases c1 : lim < n ∧ lim ≤ B
  · rw [if_pos c1]
    exact ⟨b1, b2, ⟨by simp, by simp⟩, fun h => by simp at h, fun h => by simp at h, fun h => by simp at h, hl, by simp only; omega⟩
  · rw [if_neg c1]
    by_cases c2 : n ≤ B
    · rw [if_pos c2]
      exact ⟨b1, b2, ⟨by simp, by simp⟩, fun h => by simp at h, fun h => by simp at h, fun h => by simp at h, by simp only; omega, b2⟩
    · rw [if_neg c2]
      by_cases c3 : (isL (T B) || isD (T B)) = true
      · rw [if_pos c3]
        obtain ⟨k1, k2, k3, k4⟩ := lexK_r (by omega : B < n) c3
        generalize lexK T n B = K at *
        by_cases c4 : allP isL T B K = true ∧ K ≤ 7
        · rw [if_pos c4]
          obtain ⟨o1, o2⟩ := wlF_ok c4.1
          exact ⟨by simp only; omega, k2, ⟨by simp, by simp⟩, fun _ => by simp only; omega, fun _ => ⟨by rw [o1]; exact k1, by rw [o1]; exact c4.2, o2⟩, fun h => by simp at h, by simp only; omega, by simp only; omega⟩
        · rw [if_neg c4]
          by_cases c5 : allP isD T B K = true ∧ K ≤ 3
          · rw [if_pos c5]
            have hr := decF_r K c5.1
            have hp : (10 : Int) ^ K ≤ 10 ^ 3 := powle (by omega) c5.2
            exact ⟨by simp only; omega, k2, ⟨by simp, by simp⟩, fun _ => by simp only; omega, fun h => by simp at h, fun _ => ⟨hr.1, by simp only; omega⟩, by simp only; omega, by simp only; omega⟩
          · rw [if_neg c5]
            exact ⟨by simp only; omega, k2, ⟨by simp, by simp⟩, fun h => by simp at h, fun h => by simp at h, fun h => by simp at h, by simp only; omega, by simp only; omega⟩
      · rw [if_neg c3]
        refine ⟨by simp only; omega, by simp only; omega, ?_, fun _ => by simp only; omega, fun h => ?_, fun h => ?_, by simp only; omega, by simp only; omega⟩
        · simp only
          split <;> omega
        · simp only at h
          split at h <;> omega
        · simp only at h
          split at h <;> omega
def FXF (m m' : zMem) : Prop := (∀ q, q ≠ 1 → m' q = m q) ∧ ∀ i, (i < 4 ∨ 10 < i) → m' 1 i = m 1 i
def FYF (r r' : zMem) : Prop := (∀ q, q ≠ 138 → r' q = r q) ∧ ∀ i, (i < 5 ∨ 13 < i) → r' 138 i = r 138 i
theorem FXF_r (m : zMem) : FXF m m := ⟨fun _ _ => rfl, fun _ _ => rfl⟩
theorem FYF_r (m : zMem) : FYF m m := ⟨fun _ _ => rfl, fun _ _ => rfl⟩
theorem FXF_t {a b c : zMem} (h1 : FXF a b) (h2 : FXF b c) : FXF a c := ⟨fun q x => (h2.1 q x).trans (h1.1 q x), fun i x => (h2.2 i x).trans (h1.2 i x)⟩
theorem FYF_t {a b c : zMem} (h1 : FYF a b) (h2 : FYF b c) : FYF a c := ⟨fun q x => (h2.1 q x).trans (h1.1 q x), fun i x => (h2.2 i x).trans (h1.2 i x)⟩
theorem FX_F {m m' : zMem} (h : FX m m') : FXF m m' := ⟨h.1, fun i x => h.2 i (by omega)⟩
theorem FY_F {m m' : zMem} (h : FY m m') : FYF m m' := ⟨h.1, fun i x => h.2 i (by omega)⟩
theorem FXF_up {m : zMem} {i v : Int} (h : 4 ≤ i ∧ i ≤ 10) : FXF m (zup m 1 i v) := ⟨fun q hq => zup_off hq, fun j hj => by rw [zup_same, if_neg (by omega)]⟩
theorem FYF_up {m : zMem} {i v : Int} (h : 5 ≤ i ∧ i ≤ 13) : FYF m (zup m 138 i v) := ⟨fun q hq => zup_off hq, fun j hj => by rw [zup_same, if_neg (by omega)]⟩
theorem CX_f {m m' : zMem} {T : Int → Int} {n lim : Int} (c : CX m T n lim) (h : FXF m m') : CX m' T n lim := ⟨by rw [h.2 2 (by omega)]; exact c.1, by rw [h.2 3 (by omega)]; exact c.2.1, by rw [h.1 2 (by omega)]; exact c.2.2.1, by rw [h.1 3 (by omega)]; exact c.2.2.2⟩
theorem RX_f {m m' : zMem} {T : Int → Int} {n lim : Int} (c : RX m T n lim) (h : FYF m m') : RX m' T n lim := ⟨by rw [h.2 3 (by omega)]; exact c.1, by rw [h.2 4 (by omega)]; exact c.2.1, by rw [h.1 139 (by omega)]; exact c.2.2⟩
/-- the class, nothing read yet at p; the token at hand; a fault -/
def CU (T : Int → Int) (n lim : Int) (m : zMem) (p : Int) : Prop := CX m T n lim ∧ m 1 4 = p ∧ m 1 9 = 0
def CT (T : Int → Int) (n lim : Int) (m : zMem) (p : Int) : Prop := CX m T n lim ∧ CH m (lexT T n lim p) ∧ m 1 9 = 0
def CF (m : zMem) (k pl : Int) : Prop := m 1 9 = k ∧ m 1 10 = pl
def RU (T : Int → Int) (n lim : Int) (r : zMem) (p : Int) : Prop := (RX r T n lim ∧ r 138 10 = 0) ∧ RH r (lexT T n lim p)
def RF (r : zMem) (k pl : Int) : Prop := r 138 10 = k ∧ r 138 11 = pl
theorem cStepU {T : Int → Int} {n lim p : Int} {m : zMem} (ok : okTx T n) (h0 : 0 ≤ p) (h1 : p ≤ n) (c : CU T n lim m p) : ∃ m', f_X6_step m = some (0, m') ∧ CT T n lim m' p ∧ FXF m m' := by
  obtain ⟨m', a, b, d⟩ := cStep c.1 ok h0 h1 c.2.1
  exact ⟨m', a, ⟨CX_fx c.1 d, b, by rw [d.2 9 (by omega)]; exact c.2.2⟩, FX_F d⟩
theorem CT_U {T : Int → Int} {n lim p : Int} {m : zMem} (c : CT T n lim m p) : CU T n lim m (lexT T n lim p).2.1 := ⟨c.1, c.2.1.1, c.2.2⟩
theorem cFail {T : Int → Int} {n lim p : Int} {m : zMem} (c : CT T n lim m p) {k : Int} (hk : k ≠ 0) : ∃ m', f_X6_fail k m = some (0, m') ∧ CF m' k (lexT T n lim p).1 ∧ FXF m m' := by
  unfold f_X6_fail
  rw [if_pos c.2.2]
  simp only [pipe]
  refine ⟨_, rfl, ⟨?_, ?_⟩, FXF_t (FXF_up (by omega)) (FXF_up (by omega))⟩
  · rw [zup_same, if_neg (by omega), zup_same, if_pos rfl]
  · rw [zup_same, if_pos rfl, zup_same, if_neg (by omega)]
    exact c.2.1.2.1
theorem mBad {T : Int → Int} {n lim p : Int} {r : zMem} (c : RU T n lim r p) (k : Int) : ∃ r', f_X12_bad k r = some (0, r') ∧ RF r' (if (lexT T n lim p).2.2.1 = 1 then 1 else k) (lexT T n lim p).1 ∧ FYF r r' := by
  have e7 := c.2.2.2.1
  have e6 := c.2.2.1
  unfold f_X12_bad
  rw [e7]
  simp only [pipe]
  by_cases h : (lexT T n lim p).2.2.1 = 1
  · rw [if_pos h, if_pos h]
    refine ⟨_, rfl, ⟨?_, ?_⟩, FYF_t (FYF_up (by omega)) (FYF_up (by omega))⟩
    · rw [zup_same, if_neg (by omega), zup_same, if_pos rfl]
    · rw [zup_same, if_pos rfl, zup_same, if_neg (by omega)]
      exact e6
  · rw [if_neg h, if_neg h]
    refine ⟨_, rfl, ⟨?_, ?_⟩, FYF_t (FYF_up (by omega)) (FYF_up (by omega))⟩
    · rw [zup_same, if_neg (by omega), zup_same, if_pos rfl]
    · rw [zup_same, if_pos rfl, zup_same, if_neg (by omega)]
      exact e6
theorem mGoU {T : Int → Int} {n lim p : Int} {r : zMem} (ok : okTx T n) (hl : 0 ≤ lim) (h0 : 0 ≤ p) (h1 : p ≤ n) (c : RU T n lim r p) : ∃ r', f_X12_go r = some (0, r') ∧ RU T n lim r' (lexT T n lim p).2.1 ∧ FY r r' := by
  have hr := lexT_r (T := T) (n := n) (lim := lim) hl h0 h1
  obtain ⟨r', a, b, d⟩ := mGoT c.1.1 ok (by omega : 0 ≤ (lexT T n lim p).2.1) hr.2.1 c.2.1
  exact ⟨r', a, ⟨⟨RX_fy c.1.1 d, by rw [d.2 10 (by omega)]; exact c.1.2⟩, b⟩, d⟩
/-! numbers -/
theorem cNumber {T : Int → Int} {n lim p lo hi : Int} {m : zMem} (ok : okTx T n) (h0 : 0 ≤ p) (h1 : p ≤ n) (c : CU T n lim m p) : (((lexT T n lim p).2.2.1 = 3 ∧ lo ≤ (lexT T n lim p).2.2.2.1 ∧ (lexT T n lim p).2.2.2.1 ≤ hi) → ∃ m', f_X6_wantNumber lo hi m = some (1, m') ∧ CT T n lim m' p ∧ m' 1 7 = (lexT T n lim p).2.2.2.1 ∧ FXF m m') ∧ (¬ ((lexT T n lim p).2.2.1 = 3 ∧ lo ≤ (lexT T n lim p).2.2.2.1 ∧ (lexT T n lim p).2.2.2.1 ≤ hi) → ∃ m', f_X6_wantNumber lo hi m = some (0, m') ∧ CF m' (if (lexT T n lim p).2.2.1 = 3 then 2 else 1) (lexT T n lim p).1 ∧ FXF m m') := by
  obtain ⟨m1, a1, a2, a3⟩ := cStepU ok h0 h1 c
  obtain ⟨_, _, h6, _, _, h7⟩ := a2.2.1
  have k6 : m1 1 6 = 2 ↔ (lexT T n lim p).2.2.1 = 3 := by
    rw [h6]
    by_cases x0 : (lexT T n lim p).2.2.1 = 0
    · rw [if_pos x0]; omega
    · rw [if_neg x0]
      by_cases x1 : (lexT T n lim p).2.2.1 = 1
      · rw [if_pos x1]; omega
      · rw [if_neg x1]; omega
  have z1 : ∀ a b : Int, zcmp a b < 0 ↔ a < b := by
    intro a b
    unfold zcmp
    by_cases h : a < b
    · rw [if_pos h]; omega
    · rw [if_neg h]
      split <;> omega
  have z2 : ∀ a b : Int, zcmp a b ≤ 0 ↔ a ≤ b := by
    intro a b
    unfold zcmp
    by_cases h : a < b
    · rw [if_pos h]; omega
    · rw [if_neg h]
      split <;> omega
  constructor
  · rintro ⟨g1, g2, g3⟩
    have e7 := h7 (Or.inl g1)
    refine ⟨m1, ?_, a2, e7, a3⟩
    unfold f_X6_wantNumber
    rw [a1]
    simp only [zbind]
    rw [if_pos (k6.2 g1), if_neg (by rw [z1, e7]; omega), if_pos (by rw [z2, e7]; omega)]
  · intro g
    by_cases g1 : (lexT T n lim p).2.2.1 = 3
    · have e7 := h7 (Or.inl g1)
      obtain ⟨m2, b1, b2, b3⟩ := cFail a2 (k := 2) (by omega)
      refine ⟨m2, ?_, by rw [if_pos g1]; exact b2, FXF_t a3 b3⟩
      unfold f_X6_wantNumber
      rw [a1]
      simp only [zbind]
      rw [if_pos (k6.2 g1), b1]
      simp only [↓reduceIte]
      by_cases g2 : (lexT T n lim p).2.2.2.1 < lo
      · rw [if_pos (by rw [z1, e7]; exact g2)]
      · rw [if_neg (by rw [z1, e7]; exact g2), if_neg (by rw [z2, e7]; omega)]
    · obtain ⟨m2, b1, b2, b3⟩ := cFail a2 (k := 1) (by omega)
      refine ⟨m2, ?_, by rw [if_neg g1]; exact b2, FXF_t a3 b3⟩
      unfold f_X6_wantNumber
      rw [a1]
      simp only [zbind]
      rw [if_neg (fun c => g1 (k6.1 c)), b1]
      simp
theorem mNumber {T : Int → Int} {n lim p lo hi : Int} {r : zMem} (ok : okTx T n) (hl : 0 ≤ lim) (h0 : 0 ≤ p) (h1 : p ≤ n) (c : RU T n lim r p) : (((lexT T n lim p).2.2.1 = 3 ∧ lo ≤ (lexT T n lim p).2.2.2.1 ∧ (lexT T n lim p).2.2.2.1 ≤ hi) → ∃ r', f_X12_readNumber lo hi r = some (1, r') ∧ RU T n lim r' (lexT T n lim p).2.1 ∧ r' 138 13 = (lexT T n lim p).2.2.2.1 ∧ FYF r r') ∧ (¬ ((lexT T n lim p).2.2.1 = 3 ∧ lo ≤ (lexT T n lim p).2.2.2.1 ∧ (lexT T n lim p).2.2.2.1 ≤ hi) → ∃ r', f_X12_readNumber lo hi r = some (0, r') ∧ RF r' (if (lexT T n lim p).2.2.1 = 3 then 2 else 1) (lexT T n lim p).1 ∧ FYF r r') := by
  obtain ⟨h5, h6, h7, h12, h8, h9⟩ := c.2
  constructor
  · rintro ⟨g1, g2, g3⟩
    have e8 := h8 g1
    have cu : RU T n lim (zup r 138 13 (r 138 8)) p := by
      refine ⟨⟨RX_f c.1.1 (FYF_up (by omega)), by rw [zup_same, if_neg (by omega)]; exact c.1.2⟩, ?_, ?_, ?_, fun h => ?_, fun h => ?_, fun h => ?_⟩ <;> rw [zup_same, if_neg (by omega)]
      · exact h5
      · exact h6
      · exact h7
      · exact h12 h
      · exact h8 h
      · exact h9 h
    obtain ⟨r', a1, a2, a3⟩ := mGoU ok hl h0 h1 cu
    refine ⟨r', ?_, a2, ?_, FYF_t (FYF_up (by omega)) (FY_F a3)⟩
    · unfold f_X12_readNumber
      rw [h7, if_pos g1, e8, mIsIn]
      simp only [zbind, bi0, pipe]
      rw [if_pos (by omega)]
      rw [e8] at a1
      rw [e8, a1]
    · rw [a3.2 13 (by omega), zup_same, if_pos rfl, e8]
  · intro g
    by_cases g1 : (lexT T n lim p).2.2.1 = 3
    · obtain ⟨r', b1, b2, b3⟩ := mBad c 2
      rw [if_neg (by omega)] at b2
      refine ⟨r', ?_, by rw [if_pos g1]; exact b2, b3⟩
      unfold f_X12_readNumber
      rw [h7, if_pos g1, h8 g1, mIsIn]
      simp only [zbind, bi0]
      rw [if_neg (by omega), b1]
      simp
    · obtain ⟨r', b1, b2, b3⟩ := mBad c 1
      have : (if (lexT T n lim p).2.2.1 = 1 then (1 : Int) else 1) = 1 := by split <;> rfl
      rw [this] at b2
      refine ⟨r', ?_, by rw [if_neg g1]; exact b2, b3⟩
      unfold f_X12_readNumber
      rw [h7, if_neg g1, b1]
      simp [zbind]
/-! the end of a line -/
theorem cSemi {T : Int → Int} {n lim p : Int} {m : zMem} (ok : okTx T n) (h0 : 0 ≤ p) (h1 : p ≤ n) (c : CU T n lim m p) : (((lexT T n lim p).2.2.1 = 4 ∧ (lexT T n lim p).2.2.2.1 = 59) → ∃ m', f_X6_wantSign 59 m = some (1, m') ∧ CT T n lim m' p ∧ FXF m m') ∧ (¬ ((lexT T n lim p).2.2.1 = 4 ∧ (lexT T n lim p).2.2.2.1 = 59) → ∃ m', f_X6_wantSign 59 m = some (0, m') ∧ CF m' 1 (lexT T n lim p).1 ∧ FXF m m') := by
  obtain ⟨m1, a1, a2, a3⟩ := cStepU ok h0 h1 c
  obtain ⟨_, _, h6, _, _, h7⟩ := a2.2.1
  have k6 : m1 1 6 = 3 ↔ (lexT T n lim p).2.2.1 = 4 := by
    rw [h6]
    by_cases x0 : (lexT T n lim p).2.2.1 = 0
    · rw [if_pos x0]; omega
    · rw [if_neg x0]
      by_cases x1 : (lexT T n lim p).2.2.1 = 1
      · rw [if_pos x1]; omega
      · rw [if_neg x1]; omega
  constructor
  · rintro ⟨g1, g2⟩
    refine ⟨m1, ?_, a2, a3⟩
    unfold f_X6_wantSign f_X6_isSign
    rw [a1]
    simp only [zbind]
    rw [if_pos (k6.2 g1), if_pos (by rw [zcmp_0, h7 (Or.inr g1), g2])]
    simp
  · intro g
    obtain ⟨m2, b1, b2, b3⟩ := cFail a2 (k := 1) (by omega)
    refine ⟨m2, ?_, b2, FXF_t a3 b3⟩
    unfold f_X6_wantSign f_X6_isSign
    rw [a1]
    simp only [zbind]
    by_cases g1 : (lexT T n lim p).2.2.1 = 4
    · rw [if_pos (k6.2 g1), if_neg (by rw [zcmp_0, h7 (Or.inr g1)]; exact fun c => g ⟨g1, c⟩)]
      simp [b1]
    · rw [if_neg (fun c => g1 (k6.1 c))]
      simp [b1]
theorem mIsSign {T : Int → Int} {n lim p : Int} {r : zMem} (c : RU T n lim r p) (x : Int) : f_X12_isSign x r = some (bi ((lexT T n lim p).2.2.1 = 4 ∧ (lexT T n lim p).2.2.2.1 = x), r) := by
  obtain ⟨h5, h6, h7, h12, h8, h9⟩ := c.2
  unfold f_X12_isSign
  rw [h7]
  by_cases g1 : (lexT T n lim p).2.2.1 = 4
  · rw [if_pos g1, h9 g1]
    by_cases g2 : (lexT T n lim p).2.2.2.1 = x
    · rw [if_pos g2, bi_t ⟨g1, g2⟩]
    · rw [if_neg g2, bi_f (fun c => g2 c.2)]
  · rw [if_neg g1, bi_f (fun c => g1 c.1)]
theorem mSemi {T : Int → Int} {n lim p : Int} {r : zMem} (ok : okTx T n) (hl : 0 ≤ lim) (h0 : 0 ≤ p) (h1 : p ≤ n) (c : RU T n lim r p) : (((lexT T n lim p).2.2.1 = 4 ∧ (lexT T n lim p).2.2.2.1 = 59) → ∃ r', f_X12_readEnd r = some (1, r') ∧ RU T n lim r' (lexT T n lim p).2.1 ∧ FYF r r') ∧ (¬ ((lexT T n lim p).2.2.1 = 4 ∧ (lexT T n lim p).2.2.2.1 = 59) → ∃ r', f_X12_readEnd r = some (0, r') ∧ RF r' 1 (lexT T n lim p).1 ∧ FYF r r') := by
  constructor
  · intro g
    obtain ⟨r', a1, a2, a3⟩ := mGoU ok hl h0 h1 c
    refine ⟨r', ?_, a2, FY_F a3⟩
    unfold f_X12_readEnd
    rw [mIsSign c]
    simp only [zbind, bi0]
    rw [if_pos g, a1]
  · intro g
    obtain ⟨r', b1, b2, b3⟩ := mBad c 1
    have : (if (lexT T n lim p).2.2.1 = 1 then (1 : Int) else 1) = 1 := by split <;> rfl
    rw [this] at b2
    refine ⟨r', ?_, b2, b3⟩
    unfold f_X12_readEnd
    rw [mIsSign c]
    simp only [zbind, bi0]
    rw [if_neg g, b1]
    simp
/-! words -/
def sp1 (v x : Int) : Int := if x ≤ 0 then v else w64 (w64 (w64 (27 * v) + x) - 96)
def spV (a b c d e f : Int) : Int := sp1 (sp1 (sp1 (sp1 (sp1 (w64 (a - 96)) b) c) d) e) f
theorem mSpelt (a b c d e f : Int) (r : zMem) : f_X12_spelt a b c d e f r = some (spV a b c d e f, r) := by
  unfold f_X12_spelt f_X12_spelt_j65 spV sp1
  simp only [pipe]
  by_cases h1 : b ≤ 0 <;> by_cases h2 : c ≤ 0 <;> by_cases h3 : d ≤ 0 <;> by_cases h4 : e ≤ 0 <;> by_cases h5 : f ≤ 0 <;> simp only [h1, h2, h3, h4, h5, ↓reduceIte]
theorem mWordOf {k : Int} (h0 : 0 ≤ k) (h1 : k ≤ 23) (r : zMem) : f_X12_wordOf k r = some (pk 27 (kwL.getD k.toNat []), r) := by
  unfold f_X12_wordOf
  simp only [mSpelt, zbind]
  rcases (by omega : k = 0 ∨ k = 1 ∨ k = 2 ∨ k = 3 ∨ k = 4 ∨ k = 5 ∨ k = 6 ∨ k = 7 ∨ k = 8 ∨ k = 9 ∨ k = 10 ∨ k = 11 ∨ k = 12 ∨ k = 13 ∨ k = 14 ∨ k = 15 ∨ k = 16 ∨ k = 17 ∨ k = 18 ∨ k = 19 ∨ k = 20 ∨ k = 21 ∨ k = 22 ∨ k = 23) with h | h | h | h | h | h | h | h | h | h | h | h | h | h | h | h | h | h | h | h | h | h | h | h <;> subst h <;> simp only [↓reduceIte, Int.reduceEq] <;> exact congrArg (fun x => some (x, r)) (by decide +kernel)
theorem mIsWord {T : Int → Int} {n lim p : Int} {r : zMem} (hl : 0 ≤ lim) (h0 : 0 ≤ p) (h1 : p ≤ n) (c : RU T n lim r p) {k : Int} (k0 : 0 ≤ k) (k1 : k ≤ 23) : f_X12_isWord k r = some (bi ((lexT T n lim p).2.2.1 = 2 ∧ kno (lexT T n lim p).2.2.2.2 = k), r) := by
  obtain ⟨h5, h6, h7, h12, h8, h9⟩ := c.2
  have hr := lexT_r (T := T) (n := n) (lim := lim) hl h0 h1
  unfold f_X12_isWord
  rw [h7]
  by_cases g : (lexT T n lim p).2.2.1 = 2
  · have ok := hr.2.2.2.2.1 g
    have hk := kno_iff ok.2.2 (k := k.toNat) (by omega)
    rw [Int.toNat_of_nonneg k0] at hk
    rw [if_pos g, mWordOf k0 k1]
    simp only [zbind]
    by_cases g2 : kno (lexT T n lim p).2.2.2.2 = k
    · rw [if_pos (by rw [zcmp_0, h12 g]; exact hk.1 g2), bi_t ⟨g, g2⟩]
    · rw [if_neg (by rw [zcmp_0, h12 g]; exact fun c => g2 (hk.2 c)), bi_f (fun c => g2 c.2)]
  · rw [if_neg g, bi_f (fun c => g c.1)]
theorem mIsName {T : Int → Int} {n lim p : Int} {r : zMem} (hl : 0 ≤ lim) (h0 : 0 ≤ p) (h1 : p ≤ n) (c : RU T n lim r p) : f_X12_isName r = some (bi ((lexT T n lim p).2.2.1 = 2 ∧ kno (lexT T n lim p).2.2.2.2 = -1), r) := by
  have hN := zN_ge
  obtain ⟨h5, h6, h7, h12, h8, h9⟩ := c.2
  have hr := lexT_r (T := T) (n := n) (lim := lim) hl h0 h1
  unfold f_X12_isName
  rw [h7]
  by_cases g : (lexT T n lim p).2.2.1 = 2
  · have ok := hr.2.2.2.2.1 g
    have hk := fun k (hk : k < 24) => kno_iff ok.2.2 (k := k) hk
    have kr := kno_r (lexT T n lim p).2.2.2.2
    generalize (lexT T n lim p).2.2.2.2 = w at *
    rw [if_pos g]
    have loop : ∀ (k : Nat) (i : Int) (f : Nat), 0 ≤ i → i + k = 24 → k < f → (∀ j : Nat, (j : Int) < i → kno w ≠ j) → f_X12_isName_0 f i r = some (bi (kno w = -1), r) := by
      intro k
      induction k with
      | zero =>
        intro i f i0 i1 hf hj
        obtain ⟨f, rfl⟩ : ∃ q, f = q + 1 := ⟨f - 1, by omega⟩
        show b_X12_isName_0 (f_X12_isName_0 f) i r = _
        unfold b_X12_isName_0
        rw [if_pos (by omega), bi_t (by
          rcases kr with h | h
          · exact h
          · exact absurd (by omega) (hj (kno w).toNat (by omega)))]
      | succ k ih =>
        intro i f i0 i1 hf hj
        obtain ⟨f, rfl⟩ : ∃ q, f = q + 1 := ⟨f - 1, by omega⟩
        have hki := hk i.toNat (by omega)
        rw [Int.toNat_of_nonneg i0] at hki
        show b_X12_isName_0 (f_X12_isName_0 f) i r = _
        unfold b_X12_isName_0
        rw [if_neg (by omega), mWordOf i0 (by omega), w32_id ⟨by omega, by omega⟩]
        simp only [zbind]
        by_cases g2 : kno w = i
        · rw [if_pos (by rw [zcmp_0, h12 g]; exact hki.1 g2), bi_f (by omega)]
        · rw [if_neg (by rw [zcmp_0, h12 g]; exact fun c => g2 (hki.2 c))]
          refine ih (i + 1) f (by omega) (by omega) (by omega) (fun j hji => ?_)
          by_cases h : (j : Int) = i
          · rw [h]; exact g2
          · exact hj j (by omega)
    rw [loop 24 0 zN (by omega) (by omega) (by omega) (fun j h => by omega)]
    by_cases g2 : kno w = -1
    · rw [bi_t g2, bi_t ⟨g, g2⟩]
    · rw [bi_f g2, bi_f (fun c => g2 c.2)]
  · rw [if_neg g, bi_f (fun c => g c.1)]
/-! sides -/
theorem cSide {T : Int → Int} {n lim p : Int} {m : zMem} (ok : okTx T n) (h0 : 0 ≤ p) (h1 : p ≤ n) (c : CU T n lim m p) : (((lexT T n lim p).2.2.1 = 2 ∧ 5 ≤ kno (lexT T n lim p).2.2.2.2 ∧ kno (lexT T n lim p).2.2.2.2 ≤ 8) → ∃ m', f_X6_wantSide m = some (1, m') ∧ CT T n lim m' p ∧ m' 1 8 = kno (lexT T n lim p).2.2.2.2 ∧ FXF m m') ∧ (¬ ((lexT T n lim p).2.2.1 = 2 ∧ 5 ≤ kno (lexT T n lim p).2.2.2.2 ∧ kno (lexT T n lim p).2.2.2.2 ≤ 8) → ∃ m', f_X6_wantSide m = some (0, m') ∧ CF m' 1 (lexT T n lim p).1 ∧ FXF m m') := by
  obtain ⟨m1, a1, a2, a3⟩ := cStepU ok h0 h1 c
  obtain ⟨_, _, h6, _, h8, h7⟩ := a2.2.1
  constructor
  · rintro ⟨g1, g2, g3⟩
    rw [if_pos g1] at h8
    refine ⟨m1, ?_, a2, h8, a3⟩
    unfold f_X6_wantSide
    rw [a1]
    simp only [zbind]
    rw [if_neg (by omega), if_pos (by omega)]
  · intro g
    obtain ⟨m2, b1, b2, b3⟩ := cFail a2 (k := 1) (by omega)
    refine ⟨m2, ?_, b2, FXF_t a3 b3⟩
    unfold f_X6_wantSide
    rw [a1]
    simp only [zbind]
    by_cases g1 : (lexT T n lim p).2.2.1 = 2
    · rw [if_pos g1] at h8
      by_cases g2 : m1 1 8 < 5
      · rw [if_pos g2]
        simp [b1]
      · rw [if_neg g2, if_neg (by omega)]
        simp [b1]
    · rw [if_neg g1] at h8
      rw [if_pos (by omega)]
      simp [b1]
theorem mSide {T : Int → Int} {n lim p : Int} {r : zMem} (ok : okTx T n) (hl : 0 ≤ lim) (h0 : 0 ≤ p) (h1 : p ≤ n) (c : RU T n lim r p) : (((lexT T n lim p).2.2.1 = 2 ∧ 5 ≤ kno (lexT T n lim p).2.2.2.2 ∧ kno (lexT T n lim p).2.2.2.2 ≤ 8) → ∃ r', f_X12_readSide r = some (1, r') ∧ RU T n lim r' (lexT T n lim p).2.1 ∧ r' 138 13 = kno (lexT T n lim p).2.2.2.2 - 5 ∧ FYF r r') ∧ (¬ ((lexT T n lim p).2.2.1 = 2 ∧ 5 ≤ kno (lexT T n lim p).2.2.2.2 ∧ kno (lexT T n lim p).2.2.2.2 ≤ 8) → ∃ r', f_X12_readSide r = some (0, r') ∧ RF r' 1 (lexT T n lim p).1 ∧ FYF r r') := by
  have hN := zN_ge
  obtain ⟨h5, h6, h7, h12, h8, h9⟩ := c.2
  constructor
  · rintro ⟨g1, g2, g3⟩
    have cu : RU T n lim (zup r 138 13 (kno (lexT T n lim p).2.2.2.2 - 5)) p := by
      refine ⟨⟨RX_f c.1.1 (FYF_up (by omega)), by rw [zup_same, if_neg (by omega)]; exact c.1.2⟩, ?_, ?_, ?_, fun h => ?_, fun h => ?_, fun h => ?_⟩ <;> rw [zup_same, if_neg (by omega)]
      · exact h5
      · exact h6
      · exact h7
      · exact h12 h
      · exact h8 h
      · exact h9 h
    obtain ⟨r', a1, a2, a3⟩ := mGoU ok hl h0 h1 cu
    refine ⟨r', ?_, a2, by rw [a3.2 13 (by omega), zup_same, if_pos rfl], FYF_t (FYF_up (by omega)) (FY_F a3)⟩
    have loop : ∀ (k : Nat) (i : Int) (f : Nat), 5 ≤ i → i + k = kno (lexT T n lim p).2.2.2.2 → k < f → f_X12_readSide_0 f i r = some (1, r') := by
      intro k
      induction k with
      | zero =>
        intro i f i0 i1 hf
        obtain ⟨f, rfl⟩ : ∃ q, f = q + 1 := ⟨f - 1, by omega⟩
        have hi : kno (lexT T n lim p).2.2.2.2 = i := by omega
        show b_X12_readSide_0 (f_X12_readSide_0 f) i r = _
        unfold b_X12_readSide_0
        rw [if_neg (by omega), mIsWord hl h0 h1 c (by omega) (by omega), bi_t ⟨g1, hi⟩]
        simp only [zbind, pipe]
        rw [if_neg (by omega), if_pos (by omega), w32_id ⟨by omega, by omega⟩, ← hi, a1]
      | succ k ih =>
        intro i f i0 i1 hf
        obtain ⟨f, rfl⟩ : ∃ q, f = q + 1 := ⟨f - 1, by omega⟩
        show b_X12_readSide_0 (f_X12_readSide_0 f) i r = _
        unfold b_X12_readSide_0
        rw [if_neg (by omega), mIsWord hl h0 h1 c (by omega) (by omega), bi_f (fun c => by omega)]
        simp only [zbind, ↓reduceIte]
        rw [w32_id ⟨by omega, by omega⟩]
        exact ih (i + 1) f (by omega) (by omega) (by omega)
    exact loop (kno (lexT T n lim p).2.2.2.2 - 5).toNat 5 zN (by omega) (by omega) (by omega)
  · intro g
    obtain ⟨r', b1, b2, b3⟩ := mBad c 1
    have e1 : (if (lexT T n lim p).2.2.1 = 1 then (1 : Int) else 1) = 1 := by split <;> rfl
    rw [e1] at b2
    refine ⟨r', ?_, b2, b3⟩
    have loop : ∀ (k : Nat) (i : Int) (f : Nat), 5 ≤ i → i + k = 9 → k < f → f_X12_readSide_0 f i r = some (0, r') := by
      intro k
      induction k with
      | zero =>
        intro i f i0 i1 hf
        obtain ⟨f, rfl⟩ : ∃ q, f = q + 1 := ⟨f - 1, by omega⟩
        show b_X12_readSide_0 (f_X12_readSide_0 f) i r = _
        unfold b_X12_readSide_0
        rw [if_pos (by omega), if_neg (by omega), b1]
        simp [zbind]
      | succ k ih =>
        intro i f i0 i1 hf
        obtain ⟨f, rfl⟩ : ∃ q, f = q + 1 := ⟨f - 1, by omega⟩
        show b_X12_readSide_0 (f_X12_readSide_0 f) i r = _
        unfold b_X12_readSide_0
        rw [if_neg (by omega), mIsWord hl h0 h1 c (by omega) (by omega), bi_f (fun c => g ⟨c.1, by omega, by omega⟩)]
        simp only [zbind, ↓reduceIte]
        rw [w32_id ⟨by omega, by omega⟩]
        exact ih (i + 1) f (by omega) (by omega) (by omega)
    exact loop 4 5 zN (by omega) (by omega) (by omega)
/-! a name -/
theorem cName1 {T : Int → Int} {n lim p : Int} {m : zMem} (ok : okTx T n) (h0 : 0 ≤ p) (h1 : p ≤ n) (c : CU T n lim m p) : (((lexT T n lim p).2.2.1 = 2 ∧ kno (lexT T n lim p).2.2.2.2 = -1) → ∃ m', f_X6_wantName m = some (1, m') ∧ CT T n lim m' p ∧ m' 1 7 = pk 32 (lexT T n lim p).2.2.2.2 ∧ FXF m m') ∧ (¬ ((lexT T n lim p).2.2.1 = 2 ∧ kno (lexT T n lim p).2.2.2.2 = -1) → ∃ m', f_X6_wantName m = some (0, m') ∧ CF m' 1 (lexT T n lim p).1 ∧ FXF m m') := by
  obtain ⟨m1, a1, a2, a3⟩ := cStepU ok h0 h1 c
  obtain ⟨_, _, h6, h7, h8, _⟩ := a2.2.1
  have k6 : m1 1 6 = 1 ↔ (lexT T n lim p).2.2.1 = 2 := by
    rw [h6]
    by_cases x0 : (lexT T n lim p).2.2.1 = 0
    · rw [if_pos x0]; omega
    · rw [if_neg x0]
      by_cases x1 : (lexT T n lim p).2.2.1 = 1
      · rw [if_pos x1]; omega
      · rw [if_neg x1]; omega
  constructor
  · rintro ⟨g1, g2⟩
    rw [if_pos g1] at h8
    refine ⟨m1, ?_, a2, h7 g1, a3⟩
    unfold f_X6_wantName
    rw [a1]
    simp only [zbind]
    rw [if_pos (k6.2 g1), if_pos (by omega)]
  · intro g
    obtain ⟨m2, b1, b2, b3⟩ := cFail a2 (k := 1) (by omega)
    refine ⟨m2, ?_, b2, FXF_t a3 b3⟩
    unfold f_X6_wantName
    rw [a1]
    simp only [zbind]
    by_cases g1 : (lexT T n lim p).2.2.1 = 2
    · rw [if_pos g1] at h8
      rw [if_pos (k6.2 g1), if_neg (by rw [h8]; exact fun c => g ⟨g1, c⟩)]
      simp [b1]
    · rw [if_neg (fun c => g1 (k6.1 c))]
      simp [b1]
