/-! the shadow as a set of cells -/
theorem stp_0 {A : Int → Int} {c : Int} (hc : inC A c) (s : Int) : stp A c s 0 = c := by
  unfold inC at hc
  unfold stp
  rw [Int.zero_mul, Int.zero_mul]
  rw [if_pos (by unfold isC; omega)]
  omega
theorem stp_val {A : Int → Int} (o : oP A) {c s k : Int} (h : stp A c s k ≠ -1) : stp A c s k % 8 = c % 8 + k * dx s ∧ stp A c s k / 8 = c / 8 + k * dy s ∧ inC A (stp A c s k) := by
  have hin := (stp_r o c s k).resolve_left h
  have h1 := o.1
  unfold stp at h ⊢
  by_cases hi : isC A (c % 8 + k * dx s) (c / 8 + k * dy s)
  · rw [if_pos hi]
    unfold isC at hi
    refine ⟨?_, ?_, ?_⟩
    · generalize c % 8 + k * dx s = x at *
      generalize c / 8 + k * dy s = y at *
      omega
    · generalize c % 8 + k * dx s = x at *
      generalize c / 8 + k * dy s = y at *
      omega
    · unfold stp at hin
      rw [if_pos (by unfold isC; exact hi)] at hin
      exact hin
  · rw [if_neg hi] at h
    exact absurd rfl h
theorem stp_next {A : Int → Int} (o : oP A) {c s k : Int} (h : stp A c s k ≠ -1) : stp A c s (k + 1) = stp A (stp A c s k) s 1 := by
  obtain ⟨e1, e2, _⟩ := stp_val o h
  have u : stp A (stp A c s k) s 1 = if isC A (stp A c s k % 8 + 1 * dx s) (stp A c s k / 8 + 1 * dy s) then 8 * (stp A c s k / 8 + 1 * dy s) + (stp A c s k % 8 + 1 * dx s) else -1 := rfl
  rw [u, e1, e2]
  have a1 : c % 8 + k * dx s + 1 * dx s = c % 8 + (k + 1) * dx s := by rw [Int.add_mul]; omega
  have a2 : c / 8 + k * dy s + 1 * dy s = c / 8 + (k + 1) * dy s := by rw [Int.add_mul]; omega
  rw [a1, a2]
  rfl
theorem stp_8 {A : Int → Int} (o : oP A) {c s : Int} (hc : 0 ≤ c ∧ c < 64) (h0 : 0 ≤ s) (h1 : s ≤ 3) : stp A c s 8 = -1 := by
  have h := o.1
  unfold stp
  refine if_neg ?_
  unfold isC
  rcases dxy h0 h1 with ⟨e1, e2⟩ | ⟨e1, e2⟩ | ⟨e1, e2⟩ | ⟨e1, e2⟩ <;> rw [e1, e2] <;> omega
def mk (A : Int → Int) (h s : Int) : Nat → Int → Bool
  | 0, _ => false
  | j + 1, d => mk A h s j d || decide (d = stp A (A (5 + h)) (A (26 + s)) ((j : Int) + 1))
theorem mk_s (A : Int → Int) (h s : Int) (j : Nat) (d : Int) : mk A h s (j + 1) d = (mk A h s j d || decide (d = stp A (A (5 + h)) (A (26 + s)) ((j : Int) + 1))) := rfl
theorem mk_spec (A : Int → Int) (h s : Int) (j : Nat) (d : Int) : mk A h s j d = true ↔ ∃ k : Int, 1 ≤ k ∧ k ≤ j ∧ d = stp A (A (5 + h)) (A (26 + s)) k := by
  induction j with
  | zero =>
    constructor
    · intro h; cases h
    · rintro ⟨k, h1, h2, _⟩; omega
  | succ j ih =>
    rw [mk_s, Bool.or_eq_true, ih, decide_eq_true_eq]
    constructor
    · rintro (⟨k, h1, h2, h3⟩ | h3)
      · exact ⟨k, h1, by omega, h3⟩
      · exact ⟨(j : Int) + 1, by omega, by omega, h3⟩
    · rintro ⟨k, h1, h2, h3⟩
      by_cases hk : k = (j : Int) + 1
      · rw [hk] at h3; exact Or.inr h3
      · exact Or.inl ⟨k, h1, by omega, h3⟩
theorem rcF_spec (A : Int → Int) (h s : Int) (r : Nat) (k : Int) : k - 1 ≤ rcF A h s r k ∧ rcF A h s r k ≤ k - 1 + r ∧ (∀ j, k ≤ j → j ≤ rcF A h s r k → litB A h s j = true) ∧ (rcF A h s r k < k - 1 + r → litB A h s (rcF A h s r k + 1) = false) := by
  induction r generalizing k with
  | zero => exact ⟨by simp [rcF], by simp [rcF], fun j h1 h2 => by simp only [rcF] at h2; omega, fun h1 => by simp only [rcF] at h1; omega⟩
  | succ r ih =>
    rw [rcF_s]
    by_cases hl : litB A h s k = true
    · rw [if_pos hl]
      obtain ⟨a, b, c, d⟩ := ih (k + 1)
      refine ⟨by omega, by omega, fun j h1 h2 => ?_, fun h1 => d (by omega)⟩
      by_cases hj : j = k
      · rw [hj]; exact hl
      · exact c j (by omega) h2
    · rw [if_neg hl]
      refine ⟨by omega, by omega, fun j h1 h2 => by omega, fun h1 => ?_⟩
      rw [show k - 1 + 1 = k by omega]
      simpa using hl
theorem rc_r (A : Int → Int) (h s : Int) : 0 ≤ rc A h s ∧ rc A h s ≤ 7 := by
  have := rcF_spec A h s 7 1
  unfold rc
  omega
theorem rc_lit (A : Int → Int) (h s : Int) {k : Int} (h1 : 1 ≤ k) (h2 : k ≤ rc A h s) : litB A h s k = true := (rcF_spec A h s 7 1).2.2.1 k h1 h2
theorem lit_stp {A : Int → Int} {h s k : Int} (l : litB A h s k = true) : stp A (A (5 + h)) (A (26 + s)) k ≠ -1 ∧ A (10 + h) - k * A (34 + s) > htA A (stp A (A (5 + h)) (A (26 + s)) k) := by
  unfold litB at l
  rw [Bool.and_eq_true, decide_eq_true_eq, decide_eq_true_eq] at l
  exact l
theorem mShadowOf {mem : zMem} (o : oP (mem 140)) {h s : Int} (hh : 0 ≤ h ∧ h < mem 140 2) (hs : 0 ≤ s ∧ s < mem 140 4) : ∃ M, f_X12_shadowOf h s mem = some (M, mem) ∧ ∀ d : Nat, d < 64 → castB M (d : Int) = mk (mem 140) h s (rc (mem 140) h s).toNat (d : Int) := by
  have o1 := o.1
  have L := l140
  have oh := o.2.1 h hh.1 hh.2
  have os := o.2.2 s hs.1 hs.2
  have c0 := oh.1
  have c0' := oh.1
  unfold inC at c0
  have key : ∀ (r j n : Nat) (M c g : Int), j + r = 7 → r < n → c = stp (mem 140) (mem 140 (5 + h)) (mem 140 (26 + s)) (j : Int) → c ≠ -1 → g = mem 140 (10 + h) - (j : Int) * mem 140 (34 + s) → (∀ d : Nat, d < 64 → castB M (d : Int) = mk (mem 140) h s j (d : Int)) → ∃ M', f_X12_shadowOf_0 n s M c g mem = some (M', mem) ∧ ∀ d : Nat, d < 64 → castB M' (d : Int) = mk (mem 140) h s (rcF (mem 140) h s r ((j : Int) + 1)).toNat (d : Int) := by
    intro r
    induction r with
    | zero =>
      intro j n M c g a b hc hn hg hM
      obtain ⟨n, rfl⟩ : ∃ k, n = k + 1 := ⟨n - 1, by omega⟩
      have hj : j = 7 := by omega
      subst hj
      have hin := (stp_val o (hc ▸ hn)).2.2
      rw [← hc] at hin
      unfold inC at hin
      have e := stp_next o (k := ((7 : Nat) : Int)) (hc ▸ hn)
      rw [← hc, show ((7 : Nat) : Int) + 1 = 8 from rfl, stp_8 o ⟨c0.1, c0.2.1⟩ os.1 os.2.1] at e
      refine ⟨M, ?_, ?_⟩
      · show b_X12_shadowOf_0 (f_X12_shadowOf_0 n) s M c g mem = _
        unfold b_X12_shadowOf_0
        simp (disch := omega) only [if_pos, w32_id]
        rw [mNextTo o ⟨hin.1, hin.2.1⟩ ⟨os.1, os.2.1⟩, ← e]
        simp (disch := omega) only [zbind, pipe, if_pos, if_true]
      · intro d hd
        rw [hM d hd]
        rfl
    | succ r ih =>
      intro j n M c g a b hc hn hg hM
      obtain ⟨n, rfl⟩ : ∃ k, n = k + 1 := ⟨n - 1, by omega⟩
      have hin := (stp_val o (hc ▸ hn)).2.2
      rw [← hc] at hin
      unfold inC at hin
      have e := stp_next o (k := (j : Int)) (hc ▸ hn)
      rw [← hc] at e
      have hm : 0 ≤ (j : Int) * mem 140 (34 + s) ∧ (j : Int) * mem 140 (34 + s) ≤ 72 := by
        have e1 := Int.mul_nonneg (a := (j : Int)) (b := mem 140 (34 + s)) (by omega) (by omega)
        have e2 : (j : Int) * mem 140 (34 + s) ≤ 8 * 9 := Int.mul_le_mul (by omega) (by omega) (by omega) (by omega)
        omega
      have hg1 : g - mem 140 (34 + s) = mem 140 (10 + h) - ((j : Int) + 1) * mem 140 (34 + s) := by rw [Int.add_mul, hg]; omega
      have u : f_X12_shadowOf_0 (n + 1) s M c g mem = b_X12_shadowOf_0 (f_X12_shadowOf_0 n) s M c g mem := rfl
      rw [u]
      unfold b_X12_shadowOf_0
      simp (disch := omega) only [if_pos, w32_id]
      rw [mNextTo o ⟨hin.1, hin.2.1⟩ ⟨os.1, os.2.1⟩, ← e, rcF_s]
      simp (disch := omega) only [zbind, pipe, w32_id, hg1]
      by_cases hn1 : stp (mem 140) (mem 140 (5 + h)) (mem 140 (26 + s)) ((j : Int) + 1) = -1
      · have hl : litB (mem 140) h s ((j : Int) + 1) = false := by unfold litB; simp [hn1]
        rw [if_pos hn1]
        refine ⟨M, rfl, fun d hd => ?_⟩
        rw [hl, hM d hd]
        simp
      · have hi2 := (stp_val o hn1).2.2
        unfold inC at hi2
        rw [if_neg hn1, mHeightOf o hi2.1 hi2.2.1]
        simp only []
        by_cases hgt : mem 140 (10 + h) - ((j : Int) + 1) * mem 140 (34 + s) > htA (mem 140) (stp (mem 140) (mem 140 (5 + h)) (mem 140 (26 + s)) ((j : Int) + 1))
        · have hl : litB (mem 140) h s ((j : Int) + 1) = true := by unfold litB; simp [hn1, hgt]
          rw [if_pos hgt, hl]
          simp only [if_true]
          have hcast : (((j + 1 : Nat) : Nat) : Int) = (j : Int) + 1 := by omega
          have := ih (j + 1) n (zorL M (zshlL 1 (stp (mem 140) (mem 140 (5 + h)) (mem 140 (26 + s)) ((j : Int) + 1)))) (stp (mem 140) (mem 140 (5 + h)) (mem 140 (26 + s)) ((j : Int) + 1)) (mem 140 (10 + h) - ((j : Int) + 1) * mem 140 (34 + s)) (by omega) (by omega) (by rw [hcast]) hn1 (by rw [hcast]) (by
            intro d hd
            rw [mk_s, ← hM d hd]
            obtain ⟨q, hq⟩ : ∃ q : Nat, stp (mem 140) (mem 140 (5 + h)) (mem 140 (26 + s)) ((j : Int) + 1) = (q : Int) := ⟨_, (Int.toNat_of_nonneg hi2.1).symm⟩
            rw [hq, cast_or M (by omega) hd]
            congr 1
            by_cases hdq : d = q
            · simp [hdq]
            · have : ¬ (d : Int) = (q : Int) := by omega
              rw [decide_eq_false hdq, decide_eq_false this])
          rw [hcast] at this
          exact this
        · have hl : litB (mem 140) h s ((j : Int) + 1) = false := by unfold litB; simp [hgt]
          rw [if_neg hgt]
          refine ⟨M, rfl, fun d hd => ?_⟩
          rw [hl, hM d hd]
          simp
  have := key 7 0 zN 0 (mem 140 (5 + h)) (mem 140 (10 + h)) (by omega) (by have := zN_ge; omega) (stp_0 c0' _).symm (by omega) (by simp) (fun d hd => by rw [cast_0 hd]; rfl)
  unfold f_X12_shadowOf
  simp (disch := omega) only [if_pos, pipe, w32_id]
  exact this
/-! how far along a cell lies -/
def al (A : Int → Int) (h s c : Int) : Int := if (c % 8 - A (5 + h) % 8) * dy (A (26 + s)) + (c / 8 - A (5 + h) / 8) * dx (A (26 + s)) = 0 then (c % 8 - A (5 + h) % 8) * dx (A (26 + s)) + (c / 8 - A (5 + h) / 8) * dy (A (26 + s)) else 0
theorem al_of {A : Int → Int} (o : oP A) {h s k : Int} (hs : 0 ≤ s ∧ s < A 4) (hk : stp A (A (5 + h)) (A (26 + s)) k ≠ -1) : al A h s (stp A (A (5 + h)) (A (26 + s)) k) = k := by
  have os := o.2.2 s hs.1 hs.2
  obtain ⟨e1, e2, _⟩ := stp_val o hk
  unfold al
  rw [e1, e2]
  rcases dxy os.1 os.2.1 with ⟨d1, d2⟩ | ⟨d1, d2⟩ | ⟨d1, d2⟩ | ⟨d1, d2⟩ <;> rw [d1, d2] <;> rw [if_pos (by omega)] <;> omega
theorem al_to {A : Int → Int} (o : oP A) {h s c : Int} (hs : 0 ≤ s ∧ s < A 4) (hc : inC A c) (h1 : al A h s c ≥ 1) : stp A (A (5 + h)) (A (26 + s)) (al A h s c) = c := by
  have os := o.2.2 s hs.1 hs.2
  unfold inC at hc
  unfold al at h1 ⊢
  unfold stp
  rcases dxy os.1 os.2.1 with ⟨d1, d2⟩ | ⟨d1, d2⟩ | ⟨d1, d2⟩ | ⟨d1, d2⟩ <;> rw [d1, d2] at h1 ⊢ <;>
  · split at h1
    · rename_i hz
      rw [if_pos hz]
      rw [if_pos (by unfold isC; omega)]
      omega
    · omega
/-- whether a shadow touches a cell -/
def tch (A : Int → Int) (h s c : Int) : Bool := decide (1 ≤ al A h s c ∧ al A h s c ≤ rc A h s)
theorem mk_tch {A : Int → Int} (o : oP A) {h s c : Int} (hs : 0 ≤ s ∧ s < A 4) (hc : inC A c) : mk A h s (rc A h s).toNat c = tch A h s c := by
  rw [Bool.eq_iff_iff, mk_spec]
  unfold tch
  rw [decide_eq_true_eq]
  have hr := rc_r A h s
  have hc' := hc
  unfold inC at hc'
  constructor
  · rintro ⟨k, h1, h2, h3⟩
    have := al_of o (h := h) (k := k) hs (by rw [← h3]; omega)
    rw [← h3] at this
    omega
  · rintro ⟨h1, h2⟩
    exact ⟨al A h s c, h1, by omega, (al_to o hs hc h1).symm⟩
theorem cStepsAlong {mem : zMem} {pl : Nat} {A : Int → Int} (l : lP pl) (v : vP mem pl A) (o : oP A) {h s c : Int} (hc : 0 ≤ c ∧ c < 64) : f_X5_stepsAlong pl h s c mem = some (if (0 ≤ h ∧ h < A 2) ∧ 0 ≤ s ∧ s < A 4 then al A h s c else 0, mem) := by
  unfold f_X5_stepsAlong
  rw [cHasShadow v o]
  simp only [zbind, bi0]
  by_cases hh : (0 ≤ h ∧ h < A 2) ∧ 0 ≤ s ∧ s < A 4
  · rw [if_pos hh, if_pos hh]
    have o1 := o.1
    have oh := o.2.1 h hh.1.1 hh.1.2
    have os := o.2.2 s hh.2.1 hh.2.2
    have vh := v.2.1 h hh.1.1 hh.1.2
    have vs := v.2.2 s hh.2.1 hh.2.2
    have c0 := oh.1
    unfold inC at c0
    have L1 := l.1
    have L5 := l.2.2.2.2.1
    rw [vs.1, vh.1]
    unfold al
    simp (disch := omega) only [if_pos, if_neg, pipe, zDir_x, zDir_y, div8, rem8, w32_id]
    rcases dxy os.1 os.2.1 with ⟨d1, d2⟩ | ⟨d1, d2⟩ | ⟨d1, d2⟩ | ⟨d1, d2⟩ <;> rw [d1, d2] <;>
    · simp (disch := omega) only [w32_id]
      split <;> rfl
  · rw [if_neg hh, if_neg hh]
