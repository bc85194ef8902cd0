/-! bits of an int -/
def b32 (v : Int) (p : Nat) : Bool := (i32 v).toBitVec.getLsbD p
theorem sh32 : ∀ d : Nat, d < 32 → ((i32 (d : Int) &&& 31).toBitVec.smod 32).toNat = d := by decide +kernel
theorem and1I (v : Int32) : ((v &&& 1).toInt = 1) ↔ v.toBitVec.getLsbD 0 = true := by
  have h : (v &&& 1).toBitVec = BitVec.setWidth 32 (BitVec.ofBool (v.toBitVec.getLsbD 0)) := by
    rw [Int32.toBitVec_and]
    exact BitVec.and_one_eq_setWidth_ofBool_getLsbD
  have h2 : (v &&& 1).toInt = (v &&& 1).toBitVec.toInt := rfl
  rw [h2, h]
  cases v.toBitVec.getLsbD 0 <;> decide
theorem b32_has (v : Int) {p : Nat} (hp : p < 32) : (zand (zshr v (p : Int)) 1 = 1) ↔ b32 v p = true := by
  have hs := sh32 p hp
  unfold zand zshr b32
  rw [i32_of, show i32 1 = 1 from rfl, and1I, Int32.toBitVec_shiftRight, BitVec.sshiftRight', hs, BitVec.getLsbD_sshiftRight]
  simp [hp]
theorem b32_and (x y : Int) (p : Nat) : b32 (zand x y) p = (b32 x p && b32 y p) := by
  unfold b32 zand
  rw [i32_of, Int32.toBitVec_and, BitVec.getLsbD_and]
theorem b32_or (x y : Int) (p : Nat) : b32 (zor x y) p = (b32 x p || b32 y p) := by
  unfold b32 zor
  rw [i32_of, Int32.toBitVec_or, BitVec.getLsbD_or]
theorem b32_not (x : Int) {p : Nat} (hp : p < 32) : b32 (zxor x (-1)) p = !b32 x p := by
  unfold b32 zxor
  rw [i32_of, Int32.toBitVec_xor, BitVec.getLsbD_xor, show (i32 (-1)).toBitVec = BitVec.allOnes 32 from rfl, BitVec.getLsbD_allOnes]
  simp [hp]
theorem has_set0 (P : Int → Bool) {n : Int} {p : Nat} (h0 : 0 ≤ n) (h : n ≤ 8) (hp : (p : Int) < n) : b32 (set0 P n) p = P p := by
  rw [Bool.eq_iff_iff, ← b32_has _ (by omega), set0_bset P h0 h]
  have hl := bset_lt (fun k => P (k : Int)) n.toNat
  have h2 : 2 ^ n.toNat ≤ 2 ^ 8 := Nat.pow_le_pow_right (by omega) (by omega)
  rw [has_bit p (by omega) _ (by omega), bset_bit]
  simp
  intro _
  omega
theorem bset_mod (x n : Nat) : bset (fun k => x.testBit k) n = x % 2 ^ n := by
  induction n with
  | zero => simp [bset, Nat.mod_one]
  | succ n ih =>
    rw [bset_s, ih, Nat.mod_pow_succ]
    by_cases hb : x / 2 ^ n % 2 = 1
    · rw [if_pos (by simp only [Nat.testBit_eq_decide_div_mod_eq, decide_eq_true_eq]; exact hb), hb, Nat.mul_one]
    · have h0 : x / 2 ^ n % 2 = 0 := by omega
      rw [if_neg (by simp only [Nat.testBit_eq_decide_div_mod_eq, decide_eq_true_eq]; exact hb), h0, Nat.mul_zero]
theorem msk : ∀ P : Nat, P ≤ 6 → w32 (zshl 1 (P : Int) - 1) = ((2 ^ P - 1 : Nat) : Int) := by decide +kernel
theorem i32_nat : ∀ P : Nat, P ≤ 6 → (i32 ((2 ^ P - 1 : Nat) : Int)).toBitVec.toNat = 2 ^ P - 1 := by decide +kernel
theorem cut_bits (v : Int) {P : Int} (h0 : 0 ≤ P) (h1 : P ≤ 6) : zand v (w32 (zshl 1 P - 1)) = set0 (fun p => b32 v p.toNat) P := by
  obtain ⟨n, rfl⟩ : ∃ n : Nat, P = (n : Int) := ⟨P.toNat, by omega⟩
  rw [msk n (by omega), set0_bset _ h0 (by omega), Int.toNat_natCast]
  have e : bset (fun k => b32 v ((k : Int).toNat)) n = (i32 v).toBitVec.toNat % 2 ^ n := by
    rw [← bset_mod]
    congr 1
  have ha : (i32 v &&& i32 ((2 ^ n - 1 : Nat) : Int)).toBitVec.toNat = (i32 v).toBitVec.toNat % 2 ^ n := by
    rw [Int32.toBitVec_and, BitVec.toNat_and, i32_nat n (by omega), Nat.and_two_pow_sub_one_eq_mod]
  have hlt : (i32 v).toBitVec.toNat % 2 ^ n < 2 ^ 6 := Nat.lt_of_lt_of_le (Nat.mod_lt _ (Nat.two_pow_pos n)) (Nat.pow_le_pow_right (by omega) (by omega))
  rw [e]
  unfold zand
  have : (i32 v &&& i32 ((2 ^ n - 1 : Nat) : Int)).toInt = (i32 v &&& i32 ((2 ^ n - 1 : Nat) : Int)).toBitVec.toInt := rfl
  rw [this, BitVec.toInt_eq_toNat_of_lt (by omega), ha]
/-! the class says it of all at once -/
theorem cPersonsOf {mem : zMem} {t pl sc : Nat} {A : Int → Int} (I : IL t pl sc) (v : vP mem pl A) (o : oP A) {w x : Int} {P : Int → Bool} (hP : ∀ p, 0 ≤ p → p < A 3 → (if w < 100 then f_X8_isSo t w x p mem else zbind (f_X8_numberOf t (zrem w 100) p mem) fun y9 m10 => f_X8_isCompared y9 (w32 ((zdiv w 100) - 1)) x m10) = some (bi (P p = true), mem)) : f_X8_personsOf t w x mem = some (set0 P (A 3), mem) := by
  have o1 := o.1
  have v4 := v.1.2.2.2.1
  have r0 := I.1
  refine lp_set (F := fun n a i => f_X8_personsOf_0 n t w x a i mem) (fun n y i a b => ?_) (fun n y => ?_) (by omega) (by omega)
  · show b_X8_personsOf_0 (f_X8_personsOf_0 n) t w x y i mem = _
    have hp := hP i a b
    unfold b_X8_personsOf_0
    rw [r0, v4, if_neg (by omega), if_neg (by omega), w32_id (x := i + 1) ⟨by omega, by omega⟩]
    by_cases hw : w < 100
    · rw [if_pos hw] at hp ⊢
      rw [hp]
      simp only [zbind, bi0, pipe]
      split <;> rfl
    · rw [if_neg hw] at hp ⊢
      cases hn : f_X8_numberOf t (zrem w 100) i mem with
      | none => rw [hn] at hp; simp [zbind] at hp
      | some q =>
        rw [hn] at hp
        simp only [zbind] at hp ⊢
        rw [hp]
        simp only [bi0, pipe]
        split <;> rfl
  · show b_X8_personsOf_0 (f_X8_personsOf_0 n) t w x y (A 3) mem = _
    unfold b_X8_personsOf_0
    rw [r0, v4, if_pos (by omega)]
theorem cLeaf {mem : zMem} {A : Int → Int} (v : vP mem 4 A) (sc : vS mem 11 A) (o : oP A) (os : oS A) {k : Int} {w x : Int} (h : (∃ u, 16 ≤ u ∧ u ≤ 18 ∧ A (194 + 4 * k) = 50 + u ∧ w = u) ∨ (A (194 + 4 * k) = 69 ∧ w = 19 ∧ A (195 + 4 * k) = x ∧ 0 ≤ x ∧ x < A 2) ∨ (∃ u s, 20 ≤ u ∧ u ≤ 23 ∧ 0 ≤ s ∧ s ≤ 2 ∧ A (194 + 4 * k) = 50 + u ∧ A (197 + 4 * k) = 60 + s ∧ w = 100 * (s + 1) + u ∧ A (196 + 4 * k) = x ∧ 0 ≤ x ∧ x ≤ 999)) : f_X8_personsOf 20 w x mem = some (set0 (fun p => leafR A k p) (A 3), mem) := by
  have o1 := o.1
  have L2 : sLen (11 + 2) = 6 := rfl
  have L3 : sLen (11 + 3) = 6 := rfl
  refine cPersonsOf IL_20 v o (fun p p0 p1 => ?_)
  have q1 : mem (11 + 2) p = A (116 + p) := sc.2.2.1 p p0 p1
  have q2 : mem (11 + 3) p = A (122 + p) := sc.2.2.2.1 p p0 (by omega)
  have q3 : mem 11 4 = A 107 := sc.1.1
  have r1 : sRf 20 1 = 11 := rfl
  have i2 : ∀ {α : Type} {a b : α}, (if ix (11 + 2) p then a else b) = a := fun {α a b} => if_pos ⟨p0, by omega⟩
  have i3 : ∀ {α : Type} {a b : α}, (if ix (11 + 3) p then a else b) = a := fun {α a b} => if_pos ⟨p0, by omega⟩
  have ht := cHousesTouching IL_20 v sc o os (os.2.1 p p0 p1)
  rcases h with ⟨u, u0, u1, a, b⟩ | ⟨a, b, c, c0, c1⟩ | ⟨u, s, u0, u1, s0, s1, a, b, c, c1, c2, c3⟩
  · subst b
    rw [if_pos (by omega)]
    unfold f_X8_isSo
    rcases (by omega : w = 16 ∨ w = 17 ∨ w = 18) with h | h | h <;> subst h
    · simp only [r1, i2, i3, q1, q2, q3, ht, zbind, a, ↓reduceIte, Int.reduceEq, Int.reduceAdd, leafR, decide_eq_true_eq]
      by_cases hc : zand (shOn A (A (116 + p))) (zxor (A 107) (-1)) = 0 <;> simp [hc]
    · simp only [r1, i2, i3, q1, q2, q3, ht, zbind, a, ↓reduceIte, Int.reduceEq, Int.reduceAdd, leafR, decide_eq_true_eq]
      by_cases hc : A (122 + p) = 0 <;> simp [hc]
    · simp only [r1, i2, i3, q1, q2, q3, ht, zbind, a, ↓reduceIte, Int.reduceEq, Int.reduceAdd, leafR, decide_eq_true_eq]
      by_cases hc : A (122 + p) ≤ 0
      · rw [if_pos hc, bi_f (by omega)]
      · rw [if_neg hc, bi_t (by omega)]
  · subst b
    rw [if_pos (by omega)]
    unfold f_X8_isSo
    simp only [r1, i2, i3, q1, q2, q3, ht, zbind, a, ↓reduceIte, Int.reduceEq, Int.reduceAdd, leafR, decide_eq_true_eq, c]
    by_cases hc : zand (zshr (shOn A (A (116 + p))) x) 1 = 1 <;> simp [hc]
  · have z1 : zrem w 100 = u := by
      rw [zrem_nn (by omega) (by omega) (by omega) (by omega)]
      omega
    have z2 : w32 (zdiv w 100 - 1) = s := by
      rw [zdiv_nn (by omega) (by omega) (by omega) (by omega), w32_id ⟨by omega, by omega⟩]
      omega
    rw [if_neg (by omega), z1, z2]
    unfold f_X8_numberOf f_X8_isCompared
    have w0 : w32 (u - 20) = u - 20 := w32_id ⟨by omega, by omega⟩
    rw [w0]
    rcases (by omega : s = 0 ∨ s = 1 ∨ s = 2) with h | h | h <;> subst h <;> rcases (by omega : u = 20 ∨ u = 21 ∨ u = 22 ∨ u = 23) with h | h | h | h <;> subst h <;> simp only [r1, i2, i3, q1, q2, zbind, a, b, c1, ↓reduceIte, Int.reduceEq, Int.reduceAdd, Int.reduceSub, leafR, decide_eq_true_eq] <;> split <;> first | rfl | rw [bi_t (by omega)] | rw [bi_f (by omega)]
