/-! who takes which cell: p persons, 7 cells; 7 is none -/
def Mat (adj : Nat → Nat → Bool) (p : Nat) (φ : Nat → Nat) : Prop := (∀ q, q < p → φ q = 7 ∨ (φ q < 7 ∧ adj q (φ q) = true)) ∧ ∀ q q', q < p → q' < p → φ q = φ q' → φ q ≠ 7 → q = q'
def Tk (adj : Nat → Nat → Bool) (p S : Nat) : Prop := ∃ φ, Mat adj p φ ∧ ∀ b, b < 7 → (S.testBit b = true ↔ ∃ q, q < p ∧ φ q = b)
def sz (S : Nat) : Int := cnt (fun b => S.testBit b.toNat) 7
theorem bit_x (S b i : Nat) : (S ^^^ 2 ^ b).testBit i = (S.testBit i ^^ decide (b = i)) := by
  rw [Nat.testBit_xor, Nat.testBit_two_pow]
theorem Tk_s (adj : Nat → Nat → Bool) (p S : Nat) : Tk adj (p + 1) S ↔ (Tk adj p S ∨ ∃ b, b < 7 ∧ S.testBit b = true ∧ adj p b = true ∧ Tk adj p (S ^^^ 2 ^ b)) := by
  constructor
  · rintro ⟨φ, ⟨m1, m2⟩, h⟩
    have M : Mat adj p φ := ⟨fun q hq => m1 q (by omega), fun q q' a b => m2 q q' (by omega) (by omega)⟩
    by_cases hp : φ p = 7
    · refine Or.inl ⟨φ, M, fun b hb => ?_⟩
      rw [h b hb]
      constructor
      · rintro ⟨q, q1, q2⟩
        have : q ≠ p := fun e => by subst e; omega
        exact ⟨q, by omega, q2⟩
      · rintro ⟨q, q1, q2⟩
        exact ⟨q, by omega, q2⟩
    · obtain ⟨a1, a2⟩ := (m1 p (by omega)).resolve_left hp
      refine Or.inr ⟨φ p, a1, (h (φ p) a1).2 ⟨p, by omega, rfl⟩, a2, φ, M, fun b hb => ?_⟩
      rw [bit_x]
      by_cases hb2 : φ p = b
      · have hs : S.testBit b = true := (h b hb).2 ⟨p, by omega, hb2⟩
        rw [hs, decide_eq_true hb2]
        constructor
        · intro h; simp at h
        · rintro ⟨q, q1, q2⟩
          have := m2 q p (by omega) (by omega) (by omega) (by omega)
          omega
      · rw [decide_eq_false hb2, Bool.xor_false, h b hb]
        constructor
        · rintro ⟨q, q1, q2⟩
          have : q ≠ p := fun e => by subst e; exact hb2 q2
          exact ⟨q, by omega, q2⟩
        · rintro ⟨q, q1, q2⟩
          exact ⟨q, by omega, q2⟩
  · rintro (⟨φ, ⟨m1, m2⟩, h⟩ | ⟨b0, hb0, hS, ha, φ, ⟨m1, m2⟩, h⟩)
    · refine ⟨fun q => if q = p then 7 else φ q, ⟨fun q hq => ?_, fun q q' a b c d => ?_⟩, fun b hb => ?_⟩
      · by_cases hq2 : q = p
        · simp [hq2]
        · simp only [hq2, ↓reduceIte]
          exact m1 q (by omega)
      · by_cases h1 : q = p
        · simp [h1] at d
        · by_cases h2 : q' = p
          · simp only [h1, h2, ↓reduceIte] at c d
            exact absurd c d
          · simp only [h1, h2, ↓reduceIte] at c d
            exact m2 q q' (by omega) (by omega) c d
      · rw [h b hb]
        constructor
        · rintro ⟨q, q1, q2⟩
          exact ⟨q, by omega, by simp only; rw [if_neg (by omega)]; exact q2⟩
        · rintro ⟨q, q1, q2⟩
          by_cases hq : q = p
          · simp [hq] at q2
            omega
          · simp only [hq, ↓reduceIte] at q2
            exact ⟨q, by omega, q2⟩
    · refine ⟨fun q => if q = p then b0 else φ q, ⟨fun q hq => ?_, fun q q' a b c d => ?_⟩, fun b hb => ?_⟩
      · by_cases hq2 : q = p
        · subst hq2
          simp only [↓reduceIte]
          exact Or.inr ⟨hb0, ha⟩
        · simp only [hq2, ↓reduceIte]
          exact m1 q (by omega)
      · have nb : ∀ q, q < p → φ q ≠ b0 := by
          intro q hq he
          have := (h b0 hb0).2 ⟨q, hq, he⟩
          rw [bit_x, hS] at this
          simp at this
        by_cases h1 : q = p
        · by_cases h2 : q' = p
          · omega
          · simp only [h1, h2, ↓reduceIte] at c d
            exact absurd c.symm (nb q' (by omega))
        · by_cases h2 : q' = p
          · simp only [h1, h2, ↓reduceIte] at c d
            exact absurd c (nb q (by omega))
          · simp only [h1, h2, ↓reduceIte] at c d
            exact m2 q q' (by omega) (by omega) c d
      · have := h b hb
        rw [bit_x] at this
        by_cases hb2 : b0 = b
        · subst hb2
          rw [hS]
          exact ⟨fun _ => ⟨p, by omega, by simp⟩, fun _ => rfl⟩
        · rw [decide_eq_false hb2, Bool.xor_false] at this
          rw [this]
          constructor
          · rintro ⟨q, q1, q2⟩
            exact ⟨q, by omega, by simp only; rw [if_neg (by omega)]; exact q2⟩
          · rintro ⟨q, q1, q2⟩
            by_cases hq : q = p
            · simp only [hq, ↓reduceIte] at q2
              exact absurd q2 hb2
            · simp only [hq, ↓reduceIte] at q2
              exact ⟨q, by omega, q2⟩
theorem Tk_0 (adj : Nat → Nat → Bool) {S : Nat} (hS : S < 128) : Tk adj 0 S ↔ S = 0 := by
  constructor
  · rintro ⟨φ, _, h⟩
    apply Nat.eq_of_testBit_eq
    intro i
    rw [Nat.zero_testBit]
    by_cases hi : i < 7
    · cases hb : S.testBit i with
      | false => rfl
      | true =>
        obtain ⟨q, q1, _⟩ := (h i hi).1 hb
        omega
    · exact Nat.testBit_lt_two_pow (Nat.lt_of_lt_of_le hS (Nat.pow_le_pow_right (n := 2) (i := 7) (by omega) (by omega)))
  · intro h
    subst h
    exact ⟨fun _ => 7, ⟨fun q hq => by omega, fun q q' a => by omega⟩, fun b _ => ⟨fun h => by simp at h, fun ⟨q, q1, _⟩ => by omega⟩⟩
theorem cnt_mono {P Q : Int → Bool} {n : Nat} (h : ∀ k : Nat, k < n → P k = true → Q k = true) : cnt P n ≤ cnt Q n := by
  induction n with
  | zero => exact Int.le_refl _
  | succ n ih =>
    have := ih fun k hk => h k (by omega)
    rw [cnt_s, cnt_s]
    have hn := h n (by omega)
    by_cases hp : P n = true
    · rw [if_pos hp, if_pos (hn hp)]
      omega
    · rw [if_neg hp]
      split <;> omega
theorem sz_x {S b : Nat} (hb : b < 7) (hS : S.testBit b = true) : sz S = sz (S ^^^ 2 ^ b) + 1 := by
  unfold sz
  have := cnt_or (P := fun d => (S ^^^ 2 ^ b).testBit d.toNat) (c := b) (n := 7) hb (by simp only [Int.toNat_natCast, bit_x, hS]; simp)
  rw [← this]
  refine cnt_congr (fun k hk => ?_)
  simp only [Int.toNat_natCast, bit_x]
  by_cases h : b = k
  · subst h
    simp [hS]
  · have h2 : ¬ ((k : Int) = (b : Int)) := by omega
    simp [h, h2]
def exb (p : Nat) (χ : Nat → Nat) (b : Nat) : Bool := (List.range p).any fun q => decide (χ q = b)
theorem exb_iff (p : Nat) (χ : Nat → Nat) (b : Nat) : exb p χ b = true ↔ ∃ q, q < p ∧ χ q = b := by
  unfold exb
  rw [List.any_eq_true]
  constructor
  · rintro ⟨q, q1, q2⟩
    exact ⟨q, List.mem_range.mp q1, by simpa using q2⟩
  · rintro ⟨q, q1, q2⟩
    exact ⟨q, List.mem_range.mpr q1, by simpa using q2⟩
noncomputable def pck (P : Nat → Prop) : Nat := Classical.epsilon P
theorem pck_ok {P : Nat → Prop} (h : ∃ b, P b) : P (pck P) := Classical.epsilon_spec h
/-- a matching told by its cells: ψ b is who stands there, p none -/
theorem Tk_of {adj : Nat → Nat → Bool} {p : Nat} {ψ : Nat → Nat} (h1 : ∀ b, b < 7 → ψ b < p → adj (ψ b) b = true) (h2 : ∀ b b', b < 7 → b' < 7 → ψ b < p → ψ b = ψ b' → b = b') : Tk adj p (bset (fun b => decide (ψ b < p)) 7) := by
  let χ : Nat → Nat := fun q => if pck (fun b => b < 7 ∧ ψ b = q) < 7 ∧ ψ (pck (fun b => b < 7 ∧ ψ b = q)) = q then pck (fun b => b < 7 ∧ ψ b = q) else 7
  have χ1 : ∀ q, (∃ b, b < 7 ∧ ψ b = q) → χ q < 7 ∧ ψ (χ q) = q := by
    intro q hq
    have := pck_ok (P := fun b => b < 7 ∧ ψ b = q) hq
    have e : χ q = pck (fun b => b < 7 ∧ ψ b = q) := if_pos this
    rw [e]
    exact this
  have χ2 : ∀ q, ¬ (∃ b, b < 7 ∧ ψ b = q) → χ q = 7 := fun q hq => if_neg (fun c => hq ⟨_, c⟩)
  refine ⟨χ, ⟨fun q hq => ?_, fun q q' a b c d => ?_⟩, fun b hb => ?_⟩
  · by_cases h : ∃ b, b < 7 ∧ ψ b = q
    · obtain ⟨x1, x2⟩ := χ1 q h
      have h3 := h1 _ x1 (by rw [x2]; exact hq)
      rw [x2] at h3
      exact Or.inr ⟨x1, h3⟩
    · exact Or.inl (χ2 q h)
  · by_cases h : ∃ b, b < 7 ∧ ψ b = q
    · obtain ⟨x1, x2⟩ := χ1 q h
      by_cases h' : ∃ b, b < 7 ∧ ψ b = q'
      · obtain ⟨y1, y2⟩ := χ1 q' h'
        rw [← x2, c, y2]
      · rw [c, χ2 q' h'] at d
        exact absurd rfl d
    · exact absurd (χ2 q h) d
  · rw [bset_bit]
    simp only [hb, decide_true, Bool.true_and, decide_eq_true_eq]
    constructor
    · intro hlt
      refine ⟨ψ b, hlt, ?_⟩
      obtain ⟨x1, x2⟩ := χ1 (ψ b) ⟨b, hb, rfl⟩
      exact h2 _ _ x1 hb (by rw [x2]; exact hlt) x2
    · rintro ⟨q, q1, q2⟩
      by_cases h : ∃ b, b < 7 ∧ ψ b = q
      · obtain ⟨x1, x2⟩ := χ1 q h
        rw [q2] at x2
        rw [x2]
        exact q1
      · rw [χ2 q h] at q2
        omega
/-- nobody more finds a cell: Tr holds all that was tried -/
theorem Tk_stop {adj : Nat → Nat → Bool} {p : Nat} {ψ : Nat → Nat} {Tr : Nat → Bool} {z : Int} (h1 : ∀ b, b < 7 → ψ b < p → adj (ψ b) b = true) (h2 : ∀ b b', b < 7 → b' < 7 → ψ b < p → ψ b = ψ b' → b = b') (t1 : ∀ b, b < 7 → Tr b = true → ψ b < p) (t2 : ∀ b, b < 7 → adj p b = true → Tr b = true) (t3 : ∀ b b', b < 7 → b' < 7 → Tr b = true → adj (ψ b) b' = true → Tr b' = true) (mx : ∀ S, S < 128 → Tk adj p S → sz S ≤ z) {S : Nat} (hS : Tk adj (p + 1) S) : sz S ≤ z := by
  obtain ⟨φ, ⟨m1, m2⟩, h⟩ := hS
  -- the new matching of those ahead
  let χ : Nat → Nat := fun q => if pck (fun b => b < 7 ∧ Tr b = true ∧ ψ b = q) < 7 ∧ Tr (pck (fun b => b < 7 ∧ Tr b = true ∧ ψ b = q)) = true ∧ ψ (pck (fun b => b < 7 ∧ Tr b = true ∧ ψ b = q)) = q then pck (fun b => b < 7 ∧ Tr b = true ∧ ψ b = q) else if φ q < 7 ∧ Tr (φ q) = true then 7 else φ q
  have χ1 : ∀ q, (∃ b, b < 7 ∧ Tr b = true ∧ ψ b = q) → χ q < 7 ∧ Tr (χ q) = true ∧ ψ (χ q) = q := by
    intro q hq
    have := pck_ok (P := fun b => b < 7 ∧ Tr b = true ∧ ψ b = q) hq
    have e : χ q = pck (fun b => b < 7 ∧ Tr b = true ∧ ψ b = q) := if_pos this
    rw [e]
    exact this
  have χ2 : ∀ q, ¬ (∃ b, b < 7 ∧ Tr b = true ∧ ψ b = q) → χ q = if φ q < 7 ∧ Tr (φ q) = true then 7 else φ q := by
    intro q hq
    exact if_neg (fun c => hq ⟨_, c⟩)
  have M : Mat adj p χ := by
    refine ⟨fun q hq => ?_, fun q q' a b c d => ?_⟩
    · by_cases he : ∃ b, b < 7 ∧ Tr b = true ∧ ψ b = q
      · obtain ⟨x1, x2, x3⟩ := χ1 q he
        have := h1 _ x1 (by rw [x3]; exact hq)
        rw [x3] at this
        exact Or.inr ⟨x1, this⟩
      · rw [χ2 q he]
        by_cases hc : φ q < 7 ∧ Tr (φ q) = true
        · rw [if_pos hc]; exact Or.inl rfl
        · rw [if_neg hc]
          exact m1 q (by omega)
    · by_cases he : ∃ b, b < 7 ∧ Tr b = true ∧ ψ b = q
      · obtain ⟨x1, x2, x3⟩ := χ1 q he
        by_cases he' : ∃ b, b < 7 ∧ Tr b = true ∧ ψ b = q'
        · obtain ⟨y1, y2, y3⟩ := χ1 q' he'
          rw [← x3, c, y3]
        · rw [c, χ2 q' he'] at x1 x2
          exfalso
          by_cases hc : φ q' < 7 ∧ Tr (φ q') = true
          · rw [if_pos hc] at x1; omega
          · rw [if_neg hc] at x1 x2
            exact hc ⟨x1, x2⟩
      · by_cases he' : ∃ b, b < 7 ∧ Tr b = true ∧ ψ b = q'
        · obtain ⟨y1, y2, y3⟩ := χ1 q' he'
          rw [← c, χ2 q he] at y1 y2
          exfalso
          by_cases hc : φ q < 7 ∧ Tr (φ q) = true
          · rw [if_pos hc] at y1; omega
          · rw [if_neg hc] at y1 y2
            exact hc ⟨y1, y2⟩
        · rw [χ2 q he, χ2 q' he'] at c
          rw [χ2 q he] at d
          by_cases hc : φ q < 7 ∧ Tr (φ q) = true
          · rw [if_pos hc] at d; exact absurd rfl d
          · rw [if_neg hc] at c d
            by_cases hc' : φ q' < 7 ∧ Tr (φ q') = true
            · rw [if_pos hc'] at c; exact absurd c d
            · rw [if_neg hc'] at c
              exact m2 q q' (by omega) (by omega) c d
  -- its cells
  have hU : Tk adj p (bset (fun b => exb p χ b) 7) := ⟨χ, M, fun b hb => by rw [bset_bit, ← exb_iff]; simp [hb]⟩
  have hlt := bset_lt (fun b => exb p χ b) 7
  refine Int.le_trans ?_ (mx _ (by omega) hU)
  unfold sz
  refine cnt_mono (fun k hk hb => ?_)
  simp only [Int.toNat_natCast] at hb ⊢
  rw [bset_bit]
  simp only [hk, decide_true, Bool.true_and, exb_iff]
  obtain ⟨q, q1, q2⟩ := (h k hk).1 hb
  by_cases ht : Tr k = true
  · refine ⟨ψ k, t1 k hk ht, ?_⟩
    obtain ⟨x1, x2, x3⟩ := χ1 (ψ k) ⟨k, hk, ht, rfl⟩
    exact h2 _ _ x1 hk (by rw [x3]; exact t1 k hk ht) x3
  · have hqp : q ≠ p := by
      intro e
      subst e
      have := (m1 q (by omega)).resolve_left (by omega)
      rw [q2] at this
      exact ht (t2 k hk this.2)
    have hz : ¬ ∃ b, b < 7 ∧ Tr b = true ∧ ψ b = q := by
      rintro ⟨b, b1, b2, b3⟩
      have := (m1 q (by omega)).resolve_left (by omega)
      rw [q2, ← b3] at this
      exact ht (t3 b k b1 hk b2 this.2)
    refine ⟨q, by omega, ?_⟩
    rw [χ2 q hz, q2, if_neg (fun c => ht c.2)]
