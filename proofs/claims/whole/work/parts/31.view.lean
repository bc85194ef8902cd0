/-! the view of an island: A is a row as the reference lays it -/
def inC (A : Int → Int) (c : Int) : Prop := 0 ≤ c ∧ c < 64 ∧ c % 8 < A 0 ∧ c / 8 < A 1
def oP (A : Int → Int) : Prop := (2 ≤ A 0 ∧ A 0 ≤ 8 ∧ 2 ≤ A 1 ∧ A 1 ≤ 8 ∧ 0 ≤ A 2 ∧ A 2 ≤ 5 ∧ 0 ≤ A 3 ∧ A 3 ≤ 6 ∧ 0 ≤ A 4 ∧ A 4 ≤ 8) ∧ (∀ h, 0 ≤ h → h < A 2 → inC A (A (5 + h)) ∧ 1 ≤ A (10 + h) ∧ A (10 + h) ≤ 9) ∧ (∀ s, 0 ≤ s → s < A 4 → 0 ≤ A (26 + s) ∧ A (26 + s) ≤ 3 ∧ 1 ≤ A (34 + s) ∧ A (34 + s) ≤ 9)
def lP (pl : Nat) : Prop := sLen (pl + 1) = 5 ∧ sLen (pl + 2) = 5 ∧ sLen (pl + 3) = 5 ∧ sLen (pl + 4) = 6 ∧ sLen (pl + 5) = 8 ∧ sLen (pl + 6) = 8
def lS (sc : Nat) : Prop := sLen (sc + 1) = 64 ∧ sLen (sc + 2) = 6 ∧ sLen (sc + 3) = 6 ∧ sLen (sc + 4) = 5
def vP (mem : zMem) (pl : Nat) (A : Int → Int) : Prop := (mem pl 0 = A 0 ∧ mem pl 1 = A 1 ∧ mem pl 2 = A 2 ∧ mem pl 3 = A 3 ∧ mem pl 4 = A 4) ∧ (∀ h, 0 ≤ h → h < A 2 → mem (pl + 1) h = A (5 + h) ∧ mem (pl + 2) h = A (10 + h)) ∧ (∀ s, 0 ≤ s → s < A 4 → mem (pl + 5) s = A (26 + s) ∧ mem (pl + 6) s = A (34 + s))
def vS (mem : zMem) (sc : Nat) (A : Int → Int) : Prop := (mem sc 4 = A 107 ∧ mem sc 5 = A 106 ∧ mem sc 6 = A 108 ∧ mem sc 7 = A 109 ∧ mem sc 8 = A 110) ∧ (∀ c, 0 ≤ c → c < 64 → mem (sc + 1) c = A (128 + c)) ∧ (∀ p, 0 ≤ p → p < A 3 → mem (sc + 2) p = A (116 + p)) ∧ (∀ p, 0 ≤ p → p < 6 → mem (sc + 3) p = A (122 + p)) ∧ (∀ h, 0 ≤ h → h < A 2 → mem (sc + 4) h = A (111 + h))
def IL (t pl sc : Nat) : Prop := sRf t 0 = pl ∧ sRf t 1 = sc ∧ lP pl ∧ lS sc
theorem IL_20 : IL 20 4 11 := ⟨rfl, rfl, ⟨rfl, rfl, rfl, rfl, rfl, rfl⟩, ⟨rfl, rfl, rfl, rfl⟩⟩
theorem IL_21 : IL 21 4 22 := ⟨rfl, rfl, ⟨rfl, rfl, rfl, rfl, rfl, rfl⟩, ⟨rfl, rfl, rfl, rfl⟩⟩
theorem IL_40 : IL 40 28 35 := ⟨rfl, rfl, ⟨rfl, rfl, rfl, rfl, rfl, rfl⟩, ⟨rfl, rfl, rfl, rfl⟩⟩
theorem l140 : sLen 140 = 434 := rfl
/-! a first one; a set; a sum -/
def fst1 (P : Int → Bool) : Nat → Int → Int
  | 0, _ => -1
  | r + 1, i => if P i then i else fst1 P r (i + 1)
def setF (P : Int → Bool) : Nat → Int → Int → Int
  | 0, _, a => a
  | r + 1, i, a => setF P r (i + 1) (if P i then zor a (zshl 1 i) else a)
def sumF (f : Int → Int) : Nat → Int → Int → Int
  | 0, _, a => a
  | r + 1, i, a => sumF f r (i + 1) (w32 (a + f i))
theorem fst1_s (P : Int → Bool) (r : Nat) (i : Int) : fst1 P (r + 1) i = if P i then i else fst1 P r (i + 1) := rfl
theorem setF_s (P : Int → Bool) (r : Nat) (i a : Int) : setF P (r + 1) i a = setF P r (i + 1) (if P i then zor a (zshl 1 i) else a) := rfl
theorem sumF_s (f : Int → Int) (r : Nat) (i a : Int) : sumF f (r + 1) i a = sumF f r (i + 1) (w32 (a + f i)) := rfl
theorem bset_s (c : Nat → Bool) (n : Nat) : bset c (n + 1) = bset c n + if c n then 2 ^ n else 0 := rfl
theorem fst1_congr {P Q : Int → Bool} {r : Nat} {i : Int} (h : ∀ k, i ≤ k → k < i + r → P k = Q k) : fst1 P r i = fst1 Q r i := by
  induction r generalizing i with
  | zero => rfl
  | succ r ih =>
    rw [fst1_s, fst1_s, h i (by omega) (by omega), ih fun k h1 h2 => h k (by omega) (by omega)]
theorem setF_congr {P Q : Int → Bool} {r : Nat} {i a : Int} (h : ∀ k, i ≤ k → k < i + r → P k = Q k) : setF P r i a = setF Q r i a := by
  induction r generalizing i a with
  | zero => rfl
  | succ r ih =>
    rw [setF_s, setF_s, h i (by omega) (by omega), ih fun k h1 h2 => h k (by omega) (by omega)]
theorem fst1_spec (P : Int → Bool) (r : Nat) (i : Int) : (fst1 P r i = -1 ∧ ∀ k, i ≤ k → k < i + r → P k = false) ∨ (i ≤ fst1 P r i ∧ fst1 P r i < i + r ∧ P (fst1 P r i) = true ∧ ∀ k, i ≤ k → k < fst1 P r i → P k = false) := by
  induction r generalizing i with
  | zero => exact Or.inl ⟨rfl, fun k h1 h2 => by omega⟩
  | succ r ih =>
    rw [fst1_s]
    by_cases hp : P i = true
    · rw [if_pos hp]
      exact Or.inr ⟨by omega, by omega, hp, fun k h1 h2 => by omega⟩
    · rw [if_neg hp]
      have hf : P i = false := by simpa using hp
      rcases ih (i + 1) with ⟨h1, h2⟩ | ⟨h1, h2, h3, h4⟩
      · refine Or.inl ⟨h1, fun k hk1 hk2 => ?_⟩
        by_cases hk : k = i
        · rw [hk]; exact hf
        · exact h2 k (by omega) (by omega)
      · refine Or.inr ⟨by omega, by omega, h3, fun k hk1 hk2 => ?_⟩
        by_cases hk : k = i
        · rw [hk]; exact hf
        · exact h4 k (by omega) (by omega)
theorem setF_bset (P : Int → Bool) (r n : Nat) (h : n + r ≤ 8) : setF P r (n : Int) ((bset (fun k => P (k : Int)) n : Nat) : Int) = ((bset (fun k => P (k : Int)) (n + r) : Nat) : Int) := by
  induction r generalizing n with
  | zero => rfl
  | succ r ih =>
    rw [setF_s]
    have e : (if P (n : Int) then zor ((bset (fun k => P (k : Int)) n : Nat) : Int) (zshl 1 (n : Int)) else ((bset (fun k => P (k : Int)) n : Nat) : Int)) = ((bset (fun k => P (k : Int)) (n + 1) : Nat) : Int) := by
      rw [bset_s]
      by_cases hp : P (n : Int) = true
      · rw [if_pos hp, if_pos hp, zor_bit n (by omega) _ (bset_lt _ n)]
      · rw [if_neg hp, if_neg hp, Nat.add_zero]
    rw [e]
    have := ih (n + 1) (by omega)
    rw [show n + (r + 1) = n + 1 + r by omega]
    exact this
/-- a set of those below n, as a number -/
def set0 (P : Int → Bool) (n : Int) : Int := setF P n.toNat 0 0
theorem set0_bset (P : Int → Bool) {n : Int} (h0 : 0 ≤ n) (h : n ≤ 8) : set0 P n = ((bset (fun k => P (k : Int)) n.toNat : Nat) : Int) := by
  have := setF_bset P n.toNat 0 (by omega)
  simpa [set0, bset] using this
theorem set0_congr {P Q : Int → Bool} {n : Int} (h : ∀ k, 0 ≤ k → k < n → P k = Q k) : set0 P n = set0 Q n := setF_congr fun k h1 h2 => h k h1 (by omega)
theorem set0_range (P : Int → Bool) {n : Int} (h0 : 0 ≤ n) (h : n ≤ 8) : 0 ≤ set0 P n ∧ set0 P n < 256 := by
  rw [set0_bset P h0 h]
  have h1 := bset_lt (fun k => P (k : Int)) n.toNat
  have h2 : 2 ^ n.toNat ≤ 2 ^ 8 := Nat.pow_le_pow_right (by omega) (by omega)
  have h3 : (2 : Nat) ^ 8 = 256 := rfl
  omega
/-! houses, persons, heights -/
def hAt (A : Int → Int) (c : Int) : Int := fst1 (fun h => decide (A (5 + h) = c)) (A 2).toNat 0
def pAt (A : Int → Int) (c : Int) : Int := set0 (fun p => decide (A (116 + p) = c)) (A 3)
def htA (A : Int → Int) (c : Int) : Int := if hAt A c = -1 then A (128 + c) else A (10 + hAt A c)
theorem hAt_r {A : Int → Int} (o : oP A) (c : Int) : hAt A c = -1 ∨ (0 ≤ hAt A c ∧ hAt A c < A 2) := by
  obtain ⟨⟨_, _, _, _, h4, h5, _⟩, _⟩ := o
  rcases fst1_spec (fun h => decide (A (5 + h) = c)) (A 2).toNat 0 with ⟨h, _⟩ | ⟨h1, h2, _⟩
  · exact Or.inl h
  · exact Or.inr ⟨h1, by unfold hAt; omega⟩
/-! loops -/
theorem lp_fst {F : Nat → Int → Option (Int × zMem)} {mem : zMem} {P : Int → Bool} {N : Int} (hs : ∀ n i, 0 ≤ i → i < N → F (n + 1) i = if P i then some (i, mem) else F n (i + 1)) (he : ∀ n, F (n + 1) N = some (-1, mem)) (h0 : 0 ≤ N) (h1 : N ≤ 1000) : F zN 0 = some (fst1 P N.toNat 0, mem) := by
  have key : ∀ (r : Nat) (i : Int) (n : Nat), 0 ≤ i → i + r = N → r < n → F n i = some (fst1 P r i, mem) := by
    intro r
    induction r with
    | zero =>
      intro i n a b c
      obtain ⟨n, rfl⟩ : ∃ k, n = k + 1 := ⟨n - 1, by omega⟩
      have : i = N := by omega
      rw [this]; exact he n
    | succ r ih =>
      intro i n a b c
      obtain ⟨n, rfl⟩ : ∃ k, n = k + 1 := ⟨n - 1, by omega⟩
      rw [hs n i a (by omega), fst1_s, ih (i + 1) n (by omega) (by omega) (by omega)]
      split <;> rfl
  exact key N.toNat 0 zN (by omega) (by omega) (by have := zN_ge; omega)
theorem lp_set {F : Nat → Int → Int → Option (Int × zMem)} {mem : zMem} {P : Int → Bool} {N : Int} (hs : ∀ n a i, 0 ≤ i → i < N → F (n + 1) a i = F n (if P i then zor a (zshl 1 i) else a) (i + 1)) (he : ∀ n a, F (n + 1) a N = some (a, mem)) (h0 : 0 ≤ N) (h1 : N ≤ 1000) : F zN 0 0 = some (set0 P N, mem) := by
  have key : ∀ (r : Nat) (a i : Int) (n : Nat), 0 ≤ i → i + r = N → r < n → F n a i = some (setF P r i a, mem) := by
    intro r
    induction r with
    | zero =>
      intro a i n h b c
      obtain ⟨n, rfl⟩ : ∃ k, n = k + 1 := ⟨n - 1, by omega⟩
      have : i = N := by omega
      rw [this]; exact he n a
    | succ r ih =>
      intro a i n h b c
      obtain ⟨n, rfl⟩ : ∃ k, n = k + 1 := ⟨n - 1, by omega⟩
      rw [hs n a i h (by omega), setF_s, ih _ (i + 1) n (by omega) (by omega) (by omega)]
  exact key N.toNat 0 0 zN (by omega) (by omega) (by have := zN_ge; omega)
theorem lp_sum {F : Nat → Int → Int → Option (Int × zMem)} {mem : zMem} {f : Int → Int} {N : Int} (hs : ∀ n a i, 0 ≤ i → i < N → F (n + 1) a i = F n (w32 (a + f i)) (i + 1)) (he : ∀ n a, F (n + 1) a N = some (a, mem)) (h0 : 0 ≤ N) (h1 : N ≤ 1000) : F zN 0 0 = some (sumF f N.toNat 0 0, mem) := by
  have key : ∀ (r : Nat) (a i : Int) (n : Nat), 0 ≤ i → i + r = N → r < n → F n a i = some (sumF f r i a, mem) := by
    intro r
    induction r with
    | zero =>
      intro a i n h b c
      obtain ⟨n, rfl⟩ : ∃ k, n = k + 1 := ⟨n - 1, by omega⟩
      have : i = N := by omega
      rw [this]; exact he n a
    | succ r ih =>
      intro a i n h b c
      obtain ⟨n, rfl⟩ : ∃ k, n = k + 1 := ⟨n - 1, by omega⟩
      rw [hs n a i h (by omega), sumF_s, ih _ (i + 1) n (by omega) (by omega) (by omega)]
  exact key N.toNat 0 0 zN (by omega) (by omega) (by have := zN_ge; omega)
/-! the reference: houseAt, personsAt, heightOf -/
theorem mHouseAt {mem : zMem} (o : oP (mem 140)) (c : Int) : f_X12_houseAt c mem = some (hAt (mem 140) c, mem) := by
  have h := o.1
  have L := l140
  refine lp_fst (F := fun n i => f_X12_houseAt_0 n c i mem) (fun n i a b => ?_) (fun n => ?_) (by omega) (by omega)
  · show b_X12_houseAt_0 (f_X12_houseAt_0 n) c i mem = _
    unfold b_X12_houseAt_0
    simp (disch := omega) only [if_pos, if_neg, w32_id, decide_eq_true_eq]
  · show b_X12_houseAt_0 (f_X12_houseAt_0 n) c _ mem = _
    unfold b_X12_houseAt_0
    simp (disch := omega) only [if_pos, if_neg]
theorem mPersonsAt {mem : zMem} (o : oP (mem 140)) (c : Int) : f_X12_personsAt c mem = some (pAt (mem 140) c, mem) := by
  have h := o.1
  have L := l140
  refine lp_set (F := fun n a i => f_X12_personsAt_0 n c a i mem) (fun n x i a b => ?_) (fun n x => ?_) (by omega) (by omega)
  · show b_X12_personsAt_0 (f_X12_personsAt_0 n) c x i mem = _
    unfold b_X12_personsAt_0
    simp (disch := omega) only [if_pos, if_neg, w32_id, decide_eq_true_eq, pipe]
    split <;> rfl
  · show b_X12_personsAt_0 (f_X12_personsAt_0 n) c x _ mem = _
    unfold b_X12_personsAt_0
    simp (disch := omega) only [if_pos, if_neg]
theorem mHeightOf {mem : zMem} (o : oP (mem 140)) {c : Int} (h0 : 0 ≤ c) (h1 : c < 64) : f_X12_heightOf c mem = some (htA (mem 140) c, mem) := by
  have h := o.1
  have L := l140
  have hr := hAt_r o c
  unfold f_X12_heightOf htA
  simp only [mHouseAt o c, zbind]
  split
  · simp (disch := omega) only [if_pos, w32_id]
  · simp (disch := omega) only [if_pos, w32_id]
theorem cHouseOn {mem : zMem} {pl : Nat} {A : Int → Int} (l : lP pl) (v : vP mem pl A) (o : oP A) (c : Int) : f_X5_houseOn pl c mem = some (hAt A c, mem) := by
  have h := o.1
  have L := l.1
  have v1 := v.1
  refine lp_fst (F := fun n i => f_X5_houseOn_0 n pl c i mem) (fun n i a b => ?_) (fun n => ?_) (by omega) (by omega)
  · show b_X5_houseOn_0 (f_X5_houseOn_0 n) pl c i mem = _
    unfold b_X5_houseOn_0
    rw [(v.2.1 i a b).1]
    simp (disch := omega) only [if_pos, if_neg, w32_id, decide_eq_true_eq]
  · show b_X5_houseOn_0 (f_X5_houseOn_0 n) pl c _ mem = _
    unfold b_X5_houseOn_0
    simp (disch := omega) only [if_pos, if_neg]
