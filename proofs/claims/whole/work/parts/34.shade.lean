theorem cHeightAt {mem : zMem} {t pl sc : Nat} {A : Int → Int} (I : IL t pl sc) (v : vP mem pl A) (w : vS mem sc A) (o : oP A) {c : Int} (h0 : 0 ≤ c) (h1 : c < 64) : f_X3_heightAt t c mem = some (htA A c, mem) := by
  have h := o.1
  have hv := v.1
  obtain ⟨I1, I2, lp, ls⟩ := I
  have L1 := lp.1
  have L2 := lp.2.1
  have L3 := ls.1
  have key : ∀ (r : Nat) (i : Int) (n : Nat), 0 ≤ i → i + r = A 2 → r < n → f_X3_heightAt_0 n t c i mem = some (if fst1 (fun h => decide (A (5 + h) = c)) r i = -1 then A (128 + c) else A (10 + fst1 (fun h => decide (A (5 + h) = c)) r i), mem) := by
    intro r
    induction r with
    | zero =>
      intro i n a b d
      obtain ⟨n, rfl⟩ : ∃ k, n = k + 1 := ⟨n - 1, by omega⟩
      show b_X3_heightAt_0 (f_X3_heightAt_0 n) t c i mem = _
      unfold b_X3_heightAt_0
      rw [I1, I2]
      simp (disch := omega) only [if_pos]
      rw [w.2.1 c h0 h1]
      rfl
    | succ r ih =>
      intro i n a b d
      obtain ⟨n, rfl⟩ : ∃ k, n = k + 1 := ⟨n - 1, by omega⟩
      show b_X3_heightAt_0 (f_X3_heightAt_0 n) t c i mem = _
      unfold b_X3_heightAt_0
      rw [I1, I2, (v.2.1 i a (by omega)).1, (v.2.1 i a (by omega)).2]
      simp (disch := omega) only [if_pos, if_neg, w32_id]
      rw [ih (i + 1) n (by omega) (by omega) (by omega), fst1_s]
      by_cases hc : A (5 + i) = c
      · have hne : i ≠ -1 := by omega
        simp only [hc, decide_true, if_true, hne, if_false]
      · simp only [hc, decide_false, if_false, Bool.false_eq_true]
  unfold f_X3_heightAt
  simp (disch := omega) only [if_pos, if_neg]
  exact key (A 2).toNat 0 zN (by omega) (by omega) (by have := zN_ge; omega)
theorem cPersonsOn {mem : zMem} {t pl sc : Nat} {A : Int → Int} (I : IL t pl sc) (v : vP mem pl A) (w : vS mem sc A) (o : oP A) (c : Int) : f_X3_personsOn t c mem = some (pAt A c, mem) := by
  have h := o.1
  have hv := v.1
  obtain ⟨I1, I2, lp, ls⟩ := I
  have L := ls.2.1
  refine lp_set (F := fun n a i => f_X3_personsOn_0 n t c a i mem) (fun n x i a b => ?_) (fun n x => ?_) (by omega) (by omega)
  · show b_X3_personsOn_0 (f_X3_personsOn_0 n) t c x i mem = _
    unfold b_X3_personsOn_0
    rw [I1, I2, w.2.2.1 i a b]
    simp (disch := omega) only [if_pos, if_neg, w32_id, decide_eq_true_eq, pipe]
    split <;> rfl
  · show b_X3_personsOn_0 (f_X3_personsOn_0 n) t c x _ mem = _
    unfold b_X3_personsOn_0
    rw [I1]
    simp (disch := omega) only [if_pos, if_neg]
/-! the hour of the table -/
def sunA (A : Int → Int) : Int := if A 4 = 0 then -1 else A 106 % A 4
theorem mSunNow {mem : zMem} (o : oP (mem 140)) (hh : 0 ≤ mem 140 106 ∧ mem 140 106 ≤ 400) : f_X12_sunNow mem = some (sunA (mem 140), mem) := by
  have h := o.1
  have L := l140
  unfold f_X12_sunNow sunA
  by_cases hz : mem 140 4 = 0
  · simp (disch := omega) only [if_pos]
  · simp (disch := omega) only [if_pos, if_neg, zrem_nn]
theorem cTableHour {mem : zMem} {t pl sc : Nat} {A : Int → Int} (I : IL t pl sc) (v : vP mem pl A) (w : vS mem sc A) (o : oP A) (hh : 0 ≤ A 106 ∧ A 106 ≤ 400) : f_X3_tableHour t mem = some (sunA A, mem) := by
  have h := o.1
  have hv := v.1
  have hw := w.1
  obtain ⟨I1, I2, lp, ls⟩ := I
  unfold f_X3_tableHour sunA
  rw [I1, I2, hv.2.2.2.2, hw.2.1]
  by_cases hz : A 4 = 0
  · simp (disch := omega) only [if_pos]
  · simp (disch := omega) only [if_neg, zrem_nn]
theorem sunA_r {A : Int → Int} (o : oP A) (hh : 0 ≤ A 106 ∧ A 106 ≤ 400) : (sunA A = -1 ∧ A 4 = 0) ∨ (0 ≤ sunA A ∧ sunA A < A 4) := by
  have h := o.1
  unfold sunA
  by_cases hz : A 4 = 0
  · rw [if_pos hz]; exact Or.inl ⟨rfl, hz⟩
  · rw [if_neg hz]
    exact Or.inr ⟨Int.emod_nonneg _ hz, Int.emod_lt_of_pos _ (by omega)⟩
/-! how far a shadow goes -/
def lit (A : Int → Int) (h s k : Int) : Prop := stp A (A (5 + h)) (A (26 + s)) k ≠ -1 ∧ A (10 + h) - k * A (34 + s) > htA A (stp A (A (5 + h)) (A (26 + s)) k)
def litB (A : Int → Int) (h s k : Int) : Bool := decide (stp A (A (5 + h)) (A (26 + s)) k ≠ -1) && decide (A (10 + h) - k * A (34 + s) > htA A (stp A (A (5 + h)) (A (26 + s)) k))
def rcF (A : Int → Int) (h s : Int) : Nat → Int → Int
  | 0, k => k - 1
  | r + 1, k => if litB A h s k then rcF A h s r (k + 1) else k - 1
theorem rcF_s (A : Int → Int) (h s : Int) (r : Nat) (k : Int) : rcF A h s (r + 1) k = if litB A h s k then rcF A h s r (k + 1) else k - 1 := rfl
def rc (A : Int → Int) (h s : Int) : Int := rcF A h s 7 1
theorem stp_r {A : Int → Int} (o : oP A) (c s k : Int) : stp A c s k = -1 ∨ inC A (stp A c s k) := by
  have h := o.1
  unfold stp
  by_cases hi : isC A (c % 8 + k * dx s) (c / 8 + k * dy s)
  · rw [if_pos hi]
    unfold isC at hi
    refine Or.inr ?_
    generalize c % 8 + k * dx s = x at *
    generalize c / 8 + k * dy s = y at *
    unfold inC
    omega
  · rw [if_neg hi]; exact Or.inl rfl
theorem cReach {mem : zMem} {t pl sc : Nat} {A : Int → Int} (I : IL t pl sc) (v : vP mem pl A) (w : vS mem sc A) (o : oP A) (h s : Int) : f_X3_reach t h s mem = some (if (0 ≤ h ∧ h < A 2) ∧ 0 ≤ s ∧ s < A 4 then rc A h s else 0, mem) := by
  have o1 := o.1
  have hv := v.1
  have I' := I
  obtain ⟨I1, I2, lp, ls⟩ := I
  unfold f_X3_reach
  rw [I1, cHasShadow v o]
  simp only [zbind, bi0]
  by_cases hh : (0 ≤ h ∧ h < A 2) ∧ 0 ≤ s ∧ s < A 4
  · rw [if_pos hh, if_pos hh]
    have oh := o.2.1 h hh.1.1 hh.1.2
    have os := o.2.2 s hh.2.1 hh.2.2
    have vh := v.2.1 h hh.1.1 hh.1.2
    have vs := v.2.2 s hh.2.1 hh.2.2
    have c0 := oh.1
    unfold inC at c0
    have L1 := lp.1
    have L2 := lp.2.1
    have L5 := lp.2.2.2.2.1
    have L6 := lp.2.2.2.2.2
    have key : ∀ (r : Nat) (k : Int) (n : Nat), 1 ≤ k → k + r = 8 → r < n → f_X3_reach_0 n t h s (k - 1) k mem = some (rcF A h s r k, mem) := by
      intro r
      induction r with
      | zero =>
        intro k n a b d
        obtain ⟨n, rfl⟩ : ∃ j, n = j + 1 := ⟨n - 1, by omega⟩
        show b_X3_reach_0 (f_X3_reach_0 n) t h s (k - 1) k mem = _
        unfold b_X3_reach_0
        simp (disch := omega) only [if_pos]
        rfl
      | succ r ih =>
        intro k n a b d
        obtain ⟨n, rfl⟩ : ∃ j, n = j + 1 := ⟨n - 1, by omega⟩
        show b_X3_reach_0 (f_X3_reach_0 n) t h s (k - 1) k mem = _
        unfold b_X3_reach_0
        rw [I1, vh.1, vs.1, cSpotFrom v o ⟨c0.1, c0.2.1⟩ ⟨os.1, os.2.1⟩ ⟨by omega, by omega⟩]
        simp only [zbind]
        rw [vs.2, vh.2]
        have hm : 0 ≤ k * A (34 + s) ∧ k * A (34 + s) ≤ 72 := by
          have e1 := Int.mul_nonneg (a := k) (b := A (34 + s)) (by omega) (by omega)
          have e2 : k * A (34 + s) ≤ 8 * 9 := Int.mul_le_mul (by omega) (by omega) (by omega) (by omega)
          omega
        rw [rcF_s]
        simp (disch := omega) only [if_pos, if_neg, zbind, pipe, w32_id]
        unfold litB
        by_cases hn : stp A (A (5 + h)) (A (26 + s)) k = -1
        · rw [if_pos hn]
          simp [hn]
        · rw [if_neg hn]
          have hc : inC A (stp A (A (5 + h)) (A (26 + s)) k) := (stp_r o _ _ _).resolve_left hn
          unfold inC at hc
          rw [cHeightAt I' v w o hc.1 hc.2.1]
          simp only []
          have e := ih (k + 1) n (by omega) (by omega) (by omega)
          rw [show k + 1 - 1 = k by omega] at e
          rw [e]
          by_cases hg : A (10 + h) - k * A (34 + s) > htA A (stp A (A (5 + h)) (A (26 + s)) k)
          · rw [if_pos hg]
            simp [hn, hg]
          · rw [if_neg hg]
            simp [hg]
    exact key 7 1 zN (by omega) (by omega) (by have := zN_ge; omega)
  · rw [if_neg hh, if_neg hh]
