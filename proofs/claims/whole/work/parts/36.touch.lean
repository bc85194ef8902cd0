/-! what holds of a scene -/
def gsum (A : Int → Int) : Int := (if 0 < A 2 then A 111 else 0) + (if 1 < A 2 then A 112 else 0) + (if 2 < A 2 then A 113 else 0) + (if 3 < A 2 then A 114 else 0) + (if 4 < A 2 then A 115 else 0)
def wsum (A : Int → Int) : Int := A 122 + A 123 + A 124 + A 125 + A 126 + A 127
def oS (A : Int → Int) : Prop := (0 ≤ A 106 ∧ A 106 ≤ 400 ∧ 0 ≤ A 107 ∧ A 107 < 32) ∧ (∀ p, 0 ≤ p → p < A 3 → inC A (A (116 + p))) ∧ (∀ c, 0 ≤ c → c < 64 → 0 ≤ A (128 + c) ∧ A (128 + c) ≤ 9) ∧ (∀ h, 0 ≤ h → h < A 2 → 0 ≤ A (111 + h)) ∧ (∀ p, 0 ≤ p → p < 6 → 0 ≤ A (122 + p)) ∧ wsum A + gsum A ≤ 495
theorem setF_false {P : Int → Bool} {r : Nat} {i a : Int} (h : ∀ k, i ≤ k → k < i + r → P k = false) : setF P r i a = a := by
  induction r generalizing i a with
  | zero => rfl
  | succ r ih =>
    rw [setF_s, h i (by omega) (by omega)]
    exact ih fun k h1 h2 => h k (by omega) (by omega)
theorem set0_false {P : Int → Bool} {n : Int} (h : ∀ k, 0 ≤ k → k < n → P k = false) : set0 P n = 0 := setF_false fun k h1 h2 => h k h1 (by omega)
/-- the persons whom a shadow touches -/
def tcd (A : Int → Int) (h s : Int) : Int := if s = -1 then 0 else set0 (fun p => tch A h s (A (116 + p))) (A 3)
theorem tcd_r {A : Int → Int} (o : oP A) (h s : Int) : 0 ≤ tcd A h s ∧ tcd A h s < 256 := by
  have h1 := o.1
  unfold tcd
  split
  · omega
  · exact set0_range _ (by omega) (by omega)
theorem mIsCast (M c : Int) (mem : zMem) : f_X12_isCast M c mem = some (bi (castB M c = true), mem) := by
  unfold f_X12_isCast castB bi
  by_cases h : zcmp (zandL (zshrL M c) 1) 1 = 0
  · rw [if_pos h, if_pos (decide_eq_true h)]
  · rw [if_neg h, if_neg (by simp [h])]
theorem mTouchedBy {mem : zMem} (o : oP (mem 140)) (os : oS (mem 140)) {h s : Int} (hh : 0 ≤ h ∧ h < mem 140 2) (hs : s = -1 ∨ (0 ≤ s ∧ s < mem 140 4)) : f_X12_touchedBy h s mem = some (tcd (mem 140) h s, mem) := by
  have o1 := o.1
  have L := l140
  unfold f_X12_touchedBy tcd
  by_cases h1 : s = -1
  · rw [if_pos h1, if_pos h1]
  · rw [if_neg h1, if_neg h1]
    have hs := hs.resolve_left h1
    obtain ⟨M, e, hM⟩ := mShadowOf o hh hs
    rw [e]
    simp only [zbind]
    refine lp_set (F := fun n a i => f_X12_touchedBy_0 n M a i mem) (fun n x i a b => ?_) (fun n x => ?_) (by omega) (by omega)
    · show b_X12_touchedBy_0 (f_X12_touchedBy_0 n) M x i mem = _
      unfold b_X12_touchedBy_0
      have hc := os.2.1 i a b
      have hc' := hc
      unfold inC at hc'
      simp (disch := omega) only [↓reduceIte, if_pos, if_neg, w32_id, mIsCast, zbind, bi0, pipe]
      have hq : castB M (mem 140 (116 + i)) = tch (mem 140) h s (mem 140 (116 + i)) := by
        have := hM (mem 140 (116 + i)).toNat (by omega)
        rw [Int.toNat_of_nonneg hc'.1] at this
        rw [this, mk_tch o hs hc]
      rw [hq]
      split <;> rfl
    · show b_X12_touchedBy_0 (f_X12_touchedBy_0 n) M x _ mem = _
      unfold b_X12_touchedBy_0
      simp (disch := omega) only [↓reduceIte, if_pos, if_neg]
theorem cPersonsTouched {mem : zMem} {t pl sc : Nat} {A : Int → Int} (I : IL t pl sc) (v : vP mem pl A) (w : vS mem sc A) (o : oP A) (os : oS A) {h s : Int} (hh : 0 ≤ h ∧ h < A 2) (hs : s = -1 ∨ (0 ≤ s ∧ s < A 4)) : f_X3_personsTouched t h s mem = some (tcd A h s, mem) := by
  have o1 := o.1
  have hv := v.1
  have I' := I
  obtain ⟨I1, I2, lp, ls⟩ := I
  have L := ls.2.1
  unfold f_X3_personsTouched
  rw [cReach I' v w o]
  simp only [zbind]
  have e : tcd A h s = set0 (fun p => decide (s ≠ -1) && tch A h s (A (116 + p))) (A 3) := by
    unfold tcd
    by_cases h1 : s = -1
    · rw [if_pos h1, set0_false (fun k _ _ => by simp [h1])]
    · rw [if_neg h1]
      exact set0_congr fun k _ _ => by simp [h1]
  rw [e]
  refine lp_set (F := fun n a i => f_X3_personsTouched_0 n t h s _ a i mem) (fun n x i a b => ?_) (fun n x => ?_) (by omega) (by omega)
  · show b_X3_personsTouched_0 (f_X3_personsTouched_0 n) t h s _ x i mem = _
    unfold b_X3_personsTouched_0
    have hc := os.2.1 i a b
    unfold inC at hc
    rw [I1, I2, w.2.2.1 i a b, cStepsAlong lp v o ⟨hc.1, hc.2.1⟩]
    simp (disch := omega) only [↓reduceIte, if_pos, if_neg, w32_id, zbind, pipe]
    by_cases h1 : s = -1
    · subst h1
      simp (disch := omega) only [↓reduceIte, if_neg, if_pos, ne_eq, not_true, decide_false, Bool.false_and, Bool.false_eq_true]
    · have hs := hs.resolve_left h1
      simp (disch := omega) only [↓reduceIte, if_pos, ne_eq, h1, not_false_eq_true, decide_true, Bool.true_and]
      unfold tch
      by_cases g1 : al A h s (A (116 + i)) < 1
      · simp (disch := omega) only [↓reduceIte, if_pos, decide_eq_false, Bool.false_eq_true, if_false]
      · by_cases g2 : al A h s (A (116 + i)) > rc A h s
        · simp (disch := omega) only [↓reduceIte, if_pos, if_neg, decide_eq_false, Bool.false_eq_true, if_false]
        · simp (disch := omega) only [↓reduceIte, if_neg, decide_eq_true, if_true]
  · show b_X3_personsTouched_0 (f_X3_personsTouched_0 n) t h s _ x _ mem = _
    unfold b_X3_personsTouched_0
    rw [I1]
    simp (disch := omega) only [↓reduceIte, if_pos, if_neg]
/-- the houses whose shadows touch a cell now -/
def shOn (A : Int → Int) (c : Int) : Int := set0 (fun h => decide (sunA A ≠ -1) && tch A h (sunA A) c) (A 2)
theorem shOn_r {A : Int → Int} (o : oP A) (c : Int) : 0 ≤ shOn A c ∧ shOn A c < 256 := by
  have h1 := o.1
  exact set0_range _ (by omega) (by omega)
theorem mShadowsOn {mem : zMem} (o : oP (mem 140)) (os : oS (mem 140)) {c : Int} (hc : inC (mem 140) c) : f_X12_shadowsOn c mem = some (shOn (mem 140) c, mem) := by
  have o1 := o.1
  have L := l140
  have hr := sunA_r o ⟨os.1.1, os.1.2.1⟩
  have hc' := hc
  unfold inC at hc'
  refine lp_set (F := fun n a i => f_X12_shadowsOn_0 n c a i mem) (fun n x i a b => ?_) (fun n x => ?_) (by omega) (by omega)
  · show b_X12_shadowsOn_0 (f_X12_shadowsOn_0 n) c x i mem = _
    unfold b_X12_shadowsOn_0
    rw [mSunNow o ⟨os.1.1, os.1.2.1⟩]
    simp only [zbind, mSunNow o ⟨os.1.1, os.1.2.1⟩]
    by_cases h1 : sunA (mem 140) = -1
    · simp (disch := omega) only [↓reduceIte, if_pos, if_neg, w32_id, h1, ne_eq, not_true, decide_false, Bool.false_and, Bool.false_eq_true, if_true]
    · have hs : 0 ≤ sunA (mem 140) ∧ sunA (mem 140) < mem 140 4 := by omega
      obtain ⟨M, e, hM⟩ := mShadowOf o (h := i) ⟨a, b⟩ hs
      rw [e]
      simp (disch := omega) only [↓reduceIte, if_pos, if_neg, w32_id, mIsCast, bi0, pipe, h1, ne_eq, not_false_eq_true, decide_true, Bool.true_and]
      have hq : castB M c = tch (mem 140) i (sunA (mem 140)) c := by
        have := hM c.toNat (by omega)
        rw [Int.toNat_of_nonneg hc'.1] at this
        rw [this, mk_tch o hs hc]
      rw [hq]
      split <;> rfl
  · show b_X12_shadowsOn_0 (f_X12_shadowsOn_0 n) c x _ mem = _
    unfold b_X12_shadowsOn_0
    simp (disch := omega) only [↓reduceIte, if_pos, if_neg]
theorem cHousesTouching {mem : zMem} {t pl sc : Nat} {A : Int → Int} (I : IL t pl sc) (v : vP mem pl A) (w : vS mem sc A) (o : oP A) (os : oS A) {c : Int} (hc : inC A c) : f_X3_housesTouching t c mem = some (shOn A c, mem) := by
  have o1 := o.1
  have hv := v.1
  have I' := I
  obtain ⟨I1, I2, lp, ls⟩ := I
  have hr := sunA_r o ⟨os.1.1, os.1.2.1⟩
  have hc' := hc
  unfold inC at hc'
  unfold f_X3_housesTouching
  rw [cTableHour I' v w o ⟨os.1.1, os.1.2.1⟩]
  simp only [zbind]
  refine lp_set (F := fun n a i => f_X3_housesTouching_0 n t c (sunA A) a i mem) (fun n x i a b => ?_) (fun n x => ?_) (by omega) (by omega)
  · show b_X3_housesTouching_0 (f_X3_housesTouching_0 n) t c (sunA A) x i mem = _
    unfold b_X3_housesTouching_0
    rw [I1, cStepsAlong lp v o ⟨hc'.1, hc'.2.1⟩]
    simp only [zbind, cReach I' v w o]
    by_cases h1 : sunA A = -1
    · simp (disch := omega) only [↓reduceIte, if_neg, if_pos, w32_id, h1, ne_eq, not_true, decide_false, Bool.false_and, Bool.false_eq_true]
    · have hs : 0 ≤ sunA A ∧ sunA A < A 4 := by omega
      simp (disch := omega) only [↓reduceIte, if_pos, if_neg, w32_id, pipe, h1, ne_eq, not_false_eq_true, decide_true, Bool.true_and]
      unfold tch
      by_cases g1 : al A i (sunA A) c < 1
      · simp (disch := omega) only [↓reduceIte, if_pos, decide_eq_false, Bool.false_eq_true, if_false]
      · by_cases g2 : al A i (sunA A) c > rc A i (sunA A)
        · simp (disch := omega) only [↓reduceIte, if_pos, if_neg, decide_eq_false, Bool.false_eq_true, if_false]
        · simp (disch := omega) only [↓reduceIte, if_neg, decide_eq_true, if_true]
  · show b_X3_housesTouching_0 (f_X3_housesTouching_0 n) t c (sunA A) x _ mem = _
    unfold b_X3_housesTouching_0
    rw [I1]
    simp (disch := omega) only [↓reduceIte, if_pos, if_neg]
