theorem set0_s (P : Int → Bool) {i : Int} (h0 : 0 ≤ i) (h1 : i < 8) : set0 P (i + 1) = if P i = true then zor (set0 P i) (zshl 1 i) else set0 P i := by
  obtain ⟨q, rfl⟩ : ∃ q : Nat, i = (q : Int) := ⟨i.toNat, by omega⟩
  rw [set0_bset _ (by omega) (by omega), show ((q : Int) + 1).toNat = q + 1 by omega, bset_s, set0_bset _ (by omega) (by omega), Int.toNat_natCast]
  by_cases hp : P (q : Int) = true
  · rw [if_pos hp, if_pos hp, zor_bit q (by omega) _ (bset_lt _ q)]
  · rw [if_neg hp, if_neg hp, Nat.add_zero]
/-! the class: which sets of cells can be taken -/
theorem tk_and : ∀ N : Nat, N < 128 → ∀ j : Nat, j < 7 → (zand (N : Int) ((2 ^ j : Nat) : Int) = 0 ↔ N.testBit j = false) := by decide +kernel
theorem tk_or : ∀ N : Nat, N < 128 → ∀ j : Nat, j < 7 → N.testBit j = false → zor (N : Int) ((2 ^ j : Nat) : Int) = ((N ^^^ 2 ^ j : Nat) : Int) ∧ N ^^^ 2 ^ j < 128 := by decide +kernel
theorem tk_lt : ∀ U : Nat, U < 128 → ∀ b : Nat, b < 7 → U.testBit b = true → U ^^^ 2 ^ b < U := by decide +kernel
theorem tk_shl : ∀ j : Nat, j < 7 → zshl ((2 ^ j : Nat) : Int) 1 = ((2 ^ (j + 1) : Nat) : Int) := by decide +kernel
theorem tk_xx (N b : Nat) : (N ^^^ 2 ^ b) ^^^ 2 ^ b = N := by rw [Nat.xor_assoc, Nat.xor_self, Nat.xor_zero]
def Dn (C : Nat → Bool) (cells N j U : Nat) : Prop := C U = true ∨ (∃ b, b < 7 ∧ U.testBit b = true ∧ cells.testBit b = true ∧ N + 1 ≤ U ^^^ 2 ^ b ∧ C (U ^^^ 2 ^ b) = true) ∨ ∃ b, b < j ∧ b < 7 ∧ U.testBit b = true ∧ cells.testBit b = true ∧ U ^^^ 2 ^ b = N ∧ C N = true
def Iv0 (C : Nat → Bool) (cells N : Nat) (m : zMem) : Prop := ∀ U : Nat, U < 128 → (m 100 U = 0 ∨ m 100 U = 1) ∧ (m 100 U = 1 ↔ (C U = true ∨ ∃ b, b < 7 ∧ U.testBit b = true ∧ cells.testBit b = true ∧ N ≤ U ^^^ 2 ^ b ∧ C (U ^^^ 2 ^ b) = true))
def Iv1 (C : Nat → Bool) (cells N j : Nat) (m : zMem) : Prop := ∀ U : Nat, U < 128 → (m 100 U = 0 ∨ m 100 U = 1) ∧ (m 100 U = 1 ↔ Dn C cells N j U)
theorem Iv1_N {C : Nat → Bool} {cells N j : Nat} {m : zMem} (hN : N < 128) (h : Iv1 C cells N j m) : m 100 N = 1 ↔ C N = true := by
  rw [(h N hN).2]
  constructor
  · rintro (h1 | ⟨b, b1, b2, b3, b4, b5⟩ | ⟨b, b1, b1', b2, b3, b4, b5⟩)
    · exact h1
    · have := tk_lt N hN b b1 b2
      omega
    · exact b5
  · intro h1
    exact Or.inl h1
theorem take_l {C : Nat → Bool} {cells : Nat} (hc : cells < 128) : ∀ (N : Nat) (m : zMem) (n : Nat), N ≤ 128 → Iv0 C cells N m → 10 * N < n → ∃ m', f_X10_takeOneMore_0 n 0 cells ((N : Int) - 1) 0 m = some (0, m') ∧ (∀ q, q ≠ 100 → m' q = m q) ∧ Iv0 C cells 0 m' := by
  have l100 : sLen 100 = 128 := rfl
  intro N
  induction N with
  | zero =>
    intro m n h0 iv hn
    obtain ⟨n, rfl⟩ : ∃ q, n = q + 1 := ⟨n - 1, by omega⟩
    refine ⟨m, ?_, fun _ _ => rfl, iv⟩
    show b_X10_takeOneMore_0 (f_X10_takeOneMore_0 n) 0 cells (((0 : Nat) : Int) - 1) 0 m = _
    simp only [b_X10_takeOneMore_0]
    rw [if_pos (by omega)]
  | succ N ih =>
    intro m n h0 iv hn
    obtain ⟨n, rfl⟩ : ∃ q, n = q + 1 := ⟨n - 1, by omega⟩
    have eN : ((N + 1 : Nat) : Int) - 1 = (N : Int) := by omega
    have i100 : ∀ {x : Int} {α : Type} {a b : α}, 0 ≤ x → x < 128 → (if ix 100 x then a else b) = a := fun {x α a b} h0 h1 => if_pos ⟨h0, by omega⟩
    -- the bits of one set
    have inner : ∀ (k j : Nat) (m1 : zMem) (n1 : Nat), j + k = 7 → k < n1 → Iv1 C cells N j m1 → (∀ q, q ≠ 100 → m1 q = m q) → ∃ m2 n2, n1 ≤ n2 + k + 1 ∧ f_X10_takeOneMore_0 n1 1 cells (N : Int) ((2 ^ j : Nat) : Int) m1 = f_X10_takeOneMore_0 n2 0 cells ((N : Int) - 1) 0 m2 ∧ (∀ q, q ≠ 100 → m2 q = m q) ∧ Iv0 C cells N m2 := by
      intro k
      induction k with
      | zero =>
        intro j m1 n1 hj hn1 v fm
        obtain ⟨n1, rfl⟩ : ∃ q, n1 = q + 1 := ⟨n1 - 1, by omega⟩
        have hj7 : j = 7 := by omega
        subst hj7
        have hCN := Iv1_N (by omega) v
        have v0 := v N (by omega)
        refine ⟨m1, n1, by omega, ?_, fm, fun U hU => ⟨(v U hU).1, ?_⟩⟩
        · have u : ∀ x y z : Int, f_X10_takeOneMore_0 (n1 + 1) 1 x y z m1 = b_X10_takeOneMore_0 (f_X10_takeOneMore_0 n1) 1 x y z m1 := fun _ _ _ => rfl
          rw [u]
          simp only [b_X10_takeOneMore_0]
          rw [i100 (by omega) (by omega), w32_id (x := (N : Int) + -1) ⟨by omega, by omega⟩, show (N : Int) + -1 = (N : Int) - 1 by omega]
          split
          · rfl
          · rw [if_pos (by show (128 : Int) ≤ ((2 ^ 7 : Nat) : Int); decide)]
        · rw [(v U hU).2]
          unfold Dn
          constructor
          · rintro (h1 | ⟨b, b1, b2, b3, b4, b5⟩ | ⟨b, b1, b1', b2, b3, b4, b5⟩)
            · exact Or.inl h1
            · exact Or.inr ⟨b, b1, b2, b3, by omega, b5⟩
            · exact Or.inr ⟨b, b1', b2, b3, by omega, by rw [b4]; exact b5⟩
          · rintro (h1 | ⟨b, b1, b2, b3, b4, b5⟩)
            · exact Or.inl h1
            · by_cases he : U ^^^ 2 ^ b = N
              · exact Or.inr (Or.inr ⟨b, b1, b1, b2, b3, he, by rw [← he]; exact b5⟩)
              · exact Or.inr (Or.inl ⟨b, b1, b2, b3, by omega, b5⟩)
      | succ k ihk =>
        intro j m1 n1 hj hn1 v fm
        obtain ⟨n1, rfl⟩ : ∃ q, n1 = q + 1 := ⟨n1 - 1, by omega⟩
        have hCN := Iv1_N (by omega) v
        have v0 := v N (by omega)
        have u : ∀ x y z : Int, f_X10_takeOneMore_0 (n1 + 1) 1 x y z m1 = b_X10_takeOneMore_0 (f_X10_takeOneMore_0 n1) 1 x y z m1 := fun _ _ _ => rfl
        have p2 : (2 : Nat) ^ j ≤ 2 ^ 6 := Nat.pow_le_pow_right (by omega) (by omega)
        rw [u]
        simp only [b_X10_takeOneMore_0, pipe]
        rw [i100 (by omega) (by omega), w32_id (x := (N : Int) + -1) ⟨by omega, by omega⟩, show (N : Int) + -1 = (N : Int) - 1 by omega]
        by_cases hz : m1 100 N = 0
        · rw [if_pos hz]
          have hCf : C N = false := by
            cases h : C N with
            | false => rfl
            | true => have := hCN.2 h; omega
          refine ⟨m1, n1, by omega, rfl, fm, fun U hU => ⟨(v U hU).1, ?_⟩⟩
          rw [(v U hU).2]
          unfold Dn
          constructor
          · rintro (h1 | ⟨b, b1, b2, b3, b4, b5⟩ | ⟨b, b1, b1', b2, b3, b4, b5⟩)
            · exact Or.inl h1
            · exact Or.inr ⟨b, b1, b2, b3, by omega, b5⟩
            · rw [hCf] at b5; exact absurd b5 (by simp)
          · rintro (h1 | ⟨b, b1, b2, b3, b4, b5⟩)
            · exact Or.inl h1
            · by_cases he : U ^^^ 2 ^ b = N
              · rw [he, hCf] at b5; exact absurd b5 (by simp)
              · exact Or.inr (Or.inl ⟨b, b1, b2, b3, by omega, b5⟩)
        · have hCt : C N = true := hCN.1 (by omega)
          rw [if_neg hz, if_neg (by omega), tk_shl j (by omega)]
          -- nothing new by this bit
          have same : ¬ (cells.testBit j = true ∧ N.testBit j = false) → ∃ m2 n2, n1 + 1 ≤ n2 + (k + 1) + 1 ∧ f_X10_takeOneMore_0 n1 1 cells (N : Int) ((2 ^ (j + 1) : Nat) : Int) m1 = f_X10_takeOneMore_0 n2 0 cells ((N : Int) - 1) 0 m2 ∧ (∀ q, q ≠ 100 → m2 q = m q) ∧ Iv0 C cells N m2 := by
            intro hno
            obtain ⟨m2, n2, a1, a2, a3, a4⟩ := ihk (j + 1) m1 n1 (by omega) (by omega) (fun U hU => ⟨(v U hU).1, by
              rw [(v U hU).2]
              unfold Dn
              constructor
              · rintro (h1 | h1 | ⟨b, b1, b1', b2, b3, b4, b5⟩)
                · exact Or.inl h1
                · exact Or.inr (Or.inl h1)
                · exact Or.inr (Or.inr ⟨b, by omega, b1', b2, b3, b4, b5⟩)
              · rintro (h1 | h1 | ⟨b, b1, b1', b2, b3, b4, b5⟩)
                · exact Or.inl h1
                · exact Or.inr (Or.inl h1)
                · by_cases hb : b = j
                  · subst hb
                    refine absurd ⟨b3, ?_⟩ hno
                    rw [← b4, bit_x, b2]
                    simp
                  · exact Or.inr (Or.inr ⟨b, by omega, b1', b2, b3, b4, b5⟩)⟩) fm
            exact ⟨m2, n2, by omega, a2, a3, a4⟩
          by_cases hcb : zand (cells : Int) ((2 ^ j : Nat) : Int) = 0
          · rw [if_pos hcb]
            have := (tk_and cells hc j (by omega)).1 hcb
            exact same (fun c => by rw [this] at c; exact absurd c.1 (by simp))
          · have hcb' : cells.testBit j = true := by
              cases h : cells.testBit j with
              | true => rfl
              | false => exact absurd ((tk_and cells hc j (by omega)).2 h) hcb
            rw [if_neg hcb]
            by_cases hnb : zand (N : Int) ((2 ^ j : Nat) : Int) = 0
            · have hnb' := (tk_and N (by omega) j (by omega)).1 hnb
              obtain ⟨o1, o2⟩ := tk_or N (by omega) j (by omega) hnb'
              rw [if_pos hnb, o1, if_neg (by omega), i100 (by omega) (by omega)]
              obtain ⟨m2, n2, a1, a2, a3, a4⟩ := ihk (j + 1) (zup m1 100 ((N ^^^ 2 ^ j : Nat) : Int) 1) n1 (by omega) (by omega) (fun U hU => by
                rw [zup_same]
                by_cases hU2 : U = N ^^^ 2 ^ j
                · rw [if_pos (by rw [hU2])]
                  refine ⟨Or.inr rfl, fun _ => Or.inr (Or.inr ⟨j, by omega, by omega, ?_, hcb', ?_, hCt⟩), fun _ => rfl⟩
                  · rw [hU2, bit_x, hnb']
                    simp
                  · rw [hU2, tk_xx]
                · rw [if_neg (by omega)]
                  refine ⟨(v U hU).1, ?_⟩
                  rw [(v U hU).2]
                  unfold Dn
                  constructor
                  · rintro (h1 | h1 | ⟨b, b1, b1', b2, b3, b4, b5⟩)
                    · exact Or.inl h1
                    · exact Or.inr (Or.inl h1)
                    · exact Or.inr (Or.inr ⟨b, by omega, b1', b2, b3, b4, b5⟩)
                  · rintro (h1 | h1 | ⟨b, b1, b1', b2, b3, b4, b5⟩)
                    · exact Or.inl h1
                    · exact Or.inr (Or.inl h1)
                    · by_cases hb : b = j
                      · subst hb
                        refine absurd ?_ hU2
                        rw [← b4, tk_xx]
                      · exact Or.inr (Or.inr ⟨b, by omega, b1', b2, b3, b4, b5⟩)) (fun q hq => by rw [zup_off hq, fm q hq])
              exact ⟨m2, n2, by omega, a2, a3, a4⟩
            · rw [if_neg hnb]
              refine same (fun c => hnb ((tk_and N (by omega) j (by omega)).2 c.2))
    obtain ⟨m2, n2, a1, a2, a3, a4⟩ := inner 7 0 m n (by omega) (by omega) (fun U hU => ⟨(iv U hU).1, by
      rw [(iv U hU).2]
      unfold Dn
      constructor
      · rintro (h1 | h1)
        · exact Or.inl h1
        · exact Or.inr (Or.inl h1)
      · rintro (h1 | h1 | ⟨b, b1, _⟩)
        · exact Or.inl h1
        · exact Or.inr h1
        · omega⟩) (fun _ _ => rfl)
    obtain ⟨m', b1, b2, b3⟩ := ih m2 n2 (by omega) a4 (by omega)
    refine ⟨m', ?_, fun q hq => by rw [b2 q hq, a3 q hq], b3⟩
    rw [eN]
    show b_X10_takeOneMore_0 (f_X10_takeOneMore_0 n) 0 cells (N : Int) 0 m = _
    simp only [b_X10_takeOneMore_0]
    rw [if_neg (by omega)]
    exact a2.trans b1
theorem cTake {cells : Nat} (hc : cells < 128) {adj : Nat → Nat → Bool} {p : Nat} (ha : ∀ b, b < 7 → adj p b = cells.testBit b) {m : zMem} (h : ∀ U : Nat, U < 128 → (m 100 U = 0 ∨ m 100 U = 1) ∧ (m 100 U = 1 ↔ Tk adj p U)) : ∃ m', f_X10_takeOneMore cells m = some (0, m') ∧ (∀ q, q ≠ 100 → m' q = m q) ∧ ∀ U : Nat, U < 128 → (m' 100 U = 0 ∨ m' 100 U = 1) ∧ (m' 100 U = 1 ↔ Tk adj (p + 1) U) := by
  have hN := zN_ge
  obtain ⟨m', a1, a2, a3⟩ := take_l (C := fun U => decide (m 100 U = 1)) hc 128 m zN (by omega) (fun U hU => ⟨(h U hU).1, by
    simp only [decide_eq_true_eq]
    constructor
    · intro h1; exact Or.inl h1
    · rintro (h1 | ⟨b, b1, b2, b3, b4, b5⟩)
      · exact h1
      · have := tk_lt U hU b b1 b2
        omega⟩) (by omega)
  refine ⟨m', a1, a2, fun U hU => ⟨(a3 U hU).1, ?_⟩⟩
  rw [(a3 U hU).2, Tk_s]
  simp only [decide_eq_true_eq]
  constructor
  · rintro (h1 | ⟨b, b1, b2, b3, b4, b5⟩)
    · exact Or.inl ((h U hU).2.1 h1)
    · have hlt := tk_lt U hU b b1 b2
      exact Or.inr ⟨b, b1, b2, by rw [ha b b1]; exact b3, (h _ (by omega)).2.1 b5⟩
  · rintro (h1 | ⟨b, b1, b2, b3, b4⟩)
    · exact Or.inl ((h U hU).2.2 h1)
    · have hlt := tk_lt U hU b b1 b2
      exact Or.inr ⟨b, b1, b2, by rw [← ha b b1]; exact b3, by omega, (h _ (by omega)).2.2 b4⟩
