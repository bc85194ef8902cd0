/-! loops that write -/
theorem lp_inv {ρ : Type} {F : Nat → Int → zMem → Option ρ} {I : Int → zMem → Prop} {N : Int} (hs : ∀ n i m, 0 ≤ i → i < N → I i m → ∃ m', F (n + 1) i m = F n (i + 1) m' ∧ I (i + 1) m') (h0 : 0 ≤ N) (h1 : N ≤ 1000) {m : zMem} (hi : I 0 m) : ∃ n' m', I N m' ∧ F zN 0 m = F (n' + 1) N m' := by
  have key : ∀ (r : Nat) (i : Int) (n : Nat) (m : zMem), 0 ≤ i → i + r = N → r < n → I i m → ∃ n' m', I N m' ∧ F n i m = F (n' + 1) N m' := by
    intro r
    induction r with
    | zero =>
      intro i n m a b c d
      obtain ⟨n, rfl⟩ : ∃ k, n = k + 1 := ⟨n - 1, by omega⟩
      have : i = N := by omega
      rw [this] at d ⊢
      exact ⟨n, m, d, rfl⟩
    | succ r ih =>
      intro i n m a b c d
      obtain ⟨n, rfl⟩ : ∃ k, n = k + 1 := ⟨n - 1, by omega⟩
      obtain ⟨m', e, d'⟩ := hs n i m a (by omega) d
      rw [e]
      exact ih (i + 1) n m' (by omega) (by omega) (by omega) d'
  exact key N.toNat 0 zN m (by omega) (by omega) (by have := zN_ge; omega) hi
theorem l143 : sLen 143 = 688 := rfl
/-- the reference writes what is so now behind the snaps -/
theorem mSnap_0 {mem : zMem} {z : Int} (hz : mem 138 25 = z) (h0 : 0 ≤ z) (h1 : z ≤ 7) : ∃ m', f_X12_snap_0 zN 0 mem = some (0, m') ∧ (∀ q, q ≠ 143 → q ≠ 138 → m' q = mem q) ∧ (∀ i, m' 138 i = up (mem 138) 25 (z + 1) i) ∧ (∀ i, m' 143 i = if 86 * z ≤ i ∧ i < 86 * z + 86 then mem 140 (106 + (i - 86 * z)) else mem 143 i) := by
  have L := l140
  have L3 := l143
  obtain ⟨n', m', ⟨i1, i2⟩, e⟩ := lp_inv (F := fun n i m => f_X12_snap_0 n i m) (N := 86) (m := mem) (I := fun i m => (∀ q, q ≠ 143 → m q = mem q) ∧ (∀ j, m 143 j = if 86 * z ≤ j ∧ j < 86 * z + i then mem 140 (106 + (j - 86 * z)) else mem 143 j)) (by
    intro n i m a b ⟨c, d⟩
    have u : f_X12_snap_0 (n + 1) i m = b_X12_snap_0 (f_X12_snap_0 n) i m := rfl
    show ∃ m', f_X12_snap_0 (n + 1) i m = _ ∧ _
    rw [u]
    unfold b_X12_snap_0
    rw [c 138 (by omega), hz, c 140 (by omega)]
    simp (disch := omega) only [↓reduceIte, if_pos, if_neg, w32_id, pipe]
    refine ⟨_, rfl, ?_, ?_⟩
    · intro q hq
      rw [zup_off hq]
      exact c q hq
    · intro j
      rw [zup_same, d j]
      by_cases hj : j = 86 * z + i
      · rw [if_pos hj, if_pos (by omega), hj]
        congr 1
        omega
      · rw [if_neg hj]
        by_cases hk : 86 * z ≤ j ∧ j < 86 * z + i
        · rw [if_pos hk, if_pos (by omega)]
        · rw [if_neg hk, if_neg (by omega)]) (by omega) (by omega) ⟨fun q _ => rfl, fun j => by rw [if_neg (by omega)]⟩
  have u : f_X12_snap_0 (n' + 1) 86 m' = b_X12_snap_0 (f_X12_snap_0 n') 86 m' := rfl
  refine ⟨zup m' 138 25 (z + 1), ?_, ?_, ?_, ?_⟩
  · rw [show f_X12_snap_0 zN 0 mem = f_X12_snap_0 (n' + 1) 86 m' from e, u]
    unfold b_X12_snap_0
    rw [i1 138 (by omega), hz]
    simp (disch := omega) only [↓reduceIte, if_pos, w32_id, pipe]
  · intro q a b
    rw [zup_off b]
    exact i1 q a
  · intro i
    rw [zup_same, i1 138 (by omega)]
    rfl
  · intro i
    rw [zup_off (by omega)]
    exact i2 i
theorem mSnap_1 {mem : zMem} (hz : mem 138 25 = 8) : ∃ m', f_X12_snap_1 zN 0 mem = some (0, m') ∧ (∀ q, q ≠ 143 → q ≠ 138 → m' q = mem q) ∧ (∀ i, m' 138 i = up (mem 138) 25 8 i) ∧ (∀ i, 0 ≤ i → i < 688 → m' 143 i = if 602 ≤ i then mem 140 (106 + (i - 602)) else mem 143 (i + 86)) := by
  have L3 := l143
  obtain ⟨n', m', ⟨i1, i2⟩, e⟩ := lp_inv (F := fun n i m => f_X12_snap_1 n i m) (N := 602) (m := mem) (I := fun i m => (∀ q, q ≠ 143 → m q = mem q) ∧ (∀ j, m 143 j = if 0 ≤ j ∧ j < i then mem 143 (j + 86) else mem 143 j)) (by
    intro n i m a b ⟨c, d⟩
    have u : f_X12_snap_1 (n + 1) i m = b_X12_snap_1 (f_X12_snap_1 n) i m := rfl
    show ∃ m', f_X12_snap_1 (n + 1) i m = _ ∧ _
    rw [u]
    unfold b_X12_snap_1
    simp (disch := omega) only [↓reduceIte, if_pos, if_neg, w32_id, pipe]
    refine ⟨_, rfl, ?_, ?_⟩
    · intro q hq
      rw [zup_off hq]
      exact c q hq
    · intro j
      rw [zup_same, d j, d (i + 86), if_neg (show ¬ (0 ≤ i + 86 ∧ i + 86 < i) by omega)]
      by_cases hj : j = i
      · rw [if_pos hj, if_pos (by omega), hj]
      · rw [if_neg hj]
        by_cases hk : 0 ≤ j ∧ j < i
        · rw [if_pos hk, if_pos (by omega)]
        · rw [if_neg hk, if_neg (by omega)]) (by omega) (by omega) ⟨fun q _ => rfl, fun j => by rw [if_neg (by omega)]⟩
  have u : f_X12_snap_1 (n' + 1) 602 m' = b_X12_snap_1 (f_X12_snap_1 n') 602 m' := rfl
  obtain ⟨m2, a1, a2, a3, a4⟩ := mSnap_0 (mem := zup m' 138 25 7) (z := 7) (by rw [zup_at]) (by omega) (by omega)
  refine ⟨m2, ?_, ?_, ?_, ?_⟩
  · rw [show f_X12_snap_1 zN 0 mem = f_X12_snap_1 (n' + 1) 602 m' from e, u]
    unfold b_X12_snap_1
    rw [i1 138 (by omega), hz]
    simp (disch := omega) only [↓reduceIte, if_pos, w32_id, pipe, Int.reduceSub]
    exact a1
  · intro q a b
    rw [a2 q a b, zup_off b]
    exact i1 q a
  · intro i
    rw [a3 i]
    unfold up
    rw [zup_same, i1 138 (by omega)]
    by_cases hi : i = 25
    · rw [if_pos hi, if_pos hi]; rfl
    · rw [if_neg hi, if_neg hi, if_neg hi]
  · intro i h0 h1
    rw [a4 i, zup_off (by omega), zup_off (by omega), i1 140 (by omega), i2 i]
    by_cases hi : 602 ≤ i
    · rw [if_pos (by omega), if_pos hi]
      congr 1
    · rw [if_neg (by omega), if_neg hi, if_pos (by omega)]
theorem mSnap {mem : zMem} {z : Int} (hz : mem 138 25 = z) (h0 : 0 ≤ z) (h1 : z ≤ 8) : ∃ m', f_X12_snap mem = some (0, m') ∧ (∀ q, q ≠ 143 → q ≠ 138 → m' q = mem q) ∧ (∀ i, m' 138 i = up (mem 138) 25 (if z = 8 then 8 else z + 1) i) ∧ (∀ i, 0 ≤ i → i < 688 → m' 143 i = if z = 8 then (if 602 ≤ i then mem 140 (106 + (i - 602)) else mem 143 (i + 86)) else (if 86 * z ≤ i ∧ i < 86 * z + 86 then mem 140 (106 + (i - 86 * z)) else mem 143 i)) := by
  unfold f_X12_snap
  rw [hz]
  by_cases h : z = 8
  · simp only [h, ↓reduceIte]
    exact mSnap_1 (hz.trans h)
  · simp only [h, ↓reduceIte]
    obtain ⟨m', a, b, c, d⟩ := mSnap_0 hz h0 (by omega)
    exact ⟨m', a, b, c, fun i _ _ => d i⟩
