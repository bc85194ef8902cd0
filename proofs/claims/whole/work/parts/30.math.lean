/-! plain numbers -/
theorem zdiv_nn {x y : Int} (hx : 0 ≤ x) (hx2 : x ≤ 2147483647) (hy : 0 < y) (hy2 : y ≤ 2147483647) : zdiv x y = x / y := by
  unfold zdiv
  rw [Int32.toInt_div, i32_toInt ⟨by omega, hx2⟩, i32_toInt ⟨by omega, hy2⟩, Int.tdiv_eq_ediv_of_nonneg hx]
  have h0 : 0 ≤ x / y := Int.ediv_nonneg hx (by omega)
  have h1 : x / y ≤ x := Int.ediv_le_self _ hx
  exact Int.bmod_eq_of_le (by omega) (by omega)
theorem zrem_nn {x y : Int} (hx : 0 ≤ x) (hx2 : x ≤ 2147483647) (hy : 0 < y) (hy2 : y ≤ 2147483647) : zrem x y = x % y := by
  have hd := zdiv_nn hx hx2 hy hy2
  have h0 : 0 ≤ x / y := Int.ediv_nonneg hx (by omega)
  have h1 : x / y ≤ x := Int.ediv_le_self _ hx
  have hm : x % y = x - y * (x / y) := Int.emod_def x y
  have hq : i32 x / i32 y = i32 (x / y) := by
    rw [← Int32.toInt_inj, i32_toInt ⟨by omega, by omega⟩]
    exact hd
  have h2 : 0 ≤ x % y := Int.emod_nonneg _ (by omega)
  have h3 : x % y < y := Int.emod_lt_of_pos _ hy
  unfold zrem
  rw [hq, i32_mul, i32_sub]
  have e1 : w32 (x / y * y) = x / y * y := w32_id ⟨by rw [Int.mul_comm]; omega, by rw [Int.mul_comm]; omega⟩
  rw [e1, i32_toInt (ir_w _), w32_id ⟨by rw [Int.mul_comm]; omega, by rw [Int.mul_comm]; omega⟩, hm, Int.mul_comm]
theorem div8 {x : Int} (h : 0 ≤ x) (h2 : x ≤ 2147483647) : zdiv x 8 = x / 8 := zdiv_nn h h2 (by omega) (by omega)
theorem rem8 {x : Int} (h : 0 ≤ x) (h2 : x ≤ 2147483647) : zrem x 8 = x % 8 := zrem_nn h h2 (by omega) (by omega)
/-! sets of at most eight, as bits -/
theorem zor_bit : ∀ n : Nat, n < 8 → ∀ x : Nat, x < 2 ^ n → zor (x : Int) (zshl 1 (n : Int)) = ((x + 2 ^ n : Nat) : Int) := by decide +kernel
theorem has_bit : ∀ n : Nat, n < 9 → ∀ x : Nat, x < 256 → (zand (zshr (x : Int) (n : Int)) 1 = 1 ↔ x.testBit n = true) := by decide +kernel
/-- the set of those below n of whom c holds -/
def bset (c : Nat → Bool) : Nat → Nat
  | 0 => 0
  | n + 1 => bset c n + if c n then 2 ^ n else 0
theorem bset_lt (c : Nat → Bool) (n : Nat) : bset c n < 2 ^ n := by
  induction n with
  | zero => simp [bset]
  | succ n ih =>
    unfold bset
    have : 2 ^ (n + 1) = 2 ^ n + 2 ^ n := by rw [Nat.pow_succ]; omega
    split <;> omega
theorem bset_bit (c : Nat → Bool) (n k : Nat) : (bset c n).testBit k = (decide (k < n) && c k) := by
  induction n with
  | zero => simp [bset]
  | succ n ih =>
    unfold bset
    by_cases hc : c n = true
    · rw [if_pos hc, Nat.add_comm]
      rcases Nat.lt_trichotomy k n with hk | hk | hk
      · rw [Nat.testBit_two_pow_add_gt hk, ih]
        simp [hk, Nat.lt_succ_of_lt hk]
      · subst hk
        rw [Nat.testBit_two_pow_add_eq, ih]
        simp [hc]
      · have h1 : 2 ^ n + bset c n < 2 ^ k := by
          have := bset_lt c n
          have h2 : 2 ^ (n + 1) ≤ 2 ^ k := Nat.pow_le_pow_right (by omega) hk
          have h3 : 2 ^ (n + 1) = 2 ^ n + 2 ^ n := by rw [Nat.pow_succ]; omega
          omega
        rw [Nat.testBit_lt_two_pow h1]
        have : ¬ k < n + 1 := by omega
        simp [this]
    · have hc : c n = false := by simpa using hc
      rw [hc]
      simp only [Bool.false_eq_true, if_false, Nat.add_zero, ih]
      by_cases hk : k = n
      · subst hk; simp [hc]
      · have : decide (k < n + 1) = decide (k < n) := by simp; omega
        simp [this]
theorem bset_congr {c d : Nat → Bool} {n : Nat} (h : ∀ k, k < n → c k = d k) : bset c n = bset d n := by
  induction n with
  | zero => rfl
  | succ n ih =>
    unfold bset
    rw [ih (fun k hk => h k (by omega)), h n (by omega)]
/-! counting bits -/
def popT (x : Nat) : Nat := ((List.range 8).filter fun k => x.testBit k).length
theorem pop_step : ∀ x : Nat, x < 256 → x ≠ 0 → ∃ y : Nat, y < x ∧ zand (x : Int) (w32 ((x : Int) - 1)) = (y : Int) ∧ popT x = popT y + 1 := by
  have h : ∀ x : Nat, x < 256 → x ≠ 0 → ((zand (x : Int) (w32 ((x : Int) - 1))).toNat < x ∧ zand (x : Int) (w32 ((x : Int) - 1)) = (((zand (x : Int) (w32 ((x : Int) - 1))).toNat : Nat) : Int) ∧ popT x = popT (zand (x : Int) (w32 ((x : Int) - 1))).toNat + 1) := by decide +kernel
  exact fun x h1 h2 => ⟨_, h x h1 h2⟩
theorem popT_le (x : Nat) : popT x ≤ 8 := by unfold popT; exact Nat.le_trans (List.length_filter_le _ _) (by simp)
theorem bits_loop (mem : zMem) : ∀ (x : Nat), x < 256 → ∀ (n : Nat) (a : Int), 0 ≤ a → a + x ≤ 100000 → x < n → f_X12_bits_0 n a (x : Int) mem = some (a + (popT x : Int), mem) := by
  intro x
  induction x using Nat.strongRecOn with
  | ind x ih =>
    intro hx n a h0 h1 hn
    obtain ⟨n, rfl⟩ : ∃ k, n = k + 1 := ⟨n - 1, by omega⟩
    show b_X12_bits_0 (f_X12_bits_0 n) a (x : Int) mem = _
    unfold b_X12_bits_0
    by_cases hz : x = 0
    · subst hz
      rw [if_pos (by simp)]
      have : popT 0 = 0 := by decide
      rw [this]; simp
    · rw [if_neg (by omega)]
      obtain ⟨y, hy, he, hp⟩ := pop_step x hx hz
      simp only [pipe]
      rw [he, w32_id ⟨by omega, by omega⟩, ih y hy (by omega) n (a + 1) (by omega) (by omega) (by omega), hp]
      congr 2
      omega
theorem bits_eq {x : Nat} (hx : x < 256) (mem : zMem) : f_X12_bits (x : Int) mem = some ((popT x : Int), mem) := by
  unfold f_X12_bits
  rw [bits_loop mem x hx zN 0 (by omega) (by omega) (by have := zN_ge; omega)]
  simp
def bcF (x0 : Int) : Int := pipe (w32 (x0 - (zand (zush x0 1) 1431655765))) fun y1 => pipe (w32 ((zand y1 858993459) + (zand (zush y1 2) 858993459))) fun y2 => pipe (zand (w32 (y2 + (zush y2 4))) 252645135) fun y3 => pipe (w32 (y3 + (zush y3 8))) fun y4 => pipe (w32 (y4 + (zush y4 16))) fun y5 => zand y5 63
theorem bcF_eq : ∀ x : Nat, x < 256 → bcF (x : Int) = (popT x : Int) := by decide +kernel
theorem bitCount_eq {x : Nat} (hx : x < 256) (mem : zMem) : f_J6_bitCount_0f7a4 (x : Int) mem = some ((popT x : Int), mem) := by
  rw [← bcF_eq x hx]
  rfl
/-! long masks: a cell of 64 -/
def castB (M c : Int) : Bool := decide (zcmp (zandL (zshrL M c) 1) 1 = 0)
