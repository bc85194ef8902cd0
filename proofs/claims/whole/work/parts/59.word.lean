/-! long numbers that are not below 0 -/
theorem zdivL_nn {x y : Int} (hx : 0 ≤ x) (hx2 : x ≤ 9223372036854775807) (hy : 0 < y) (hy2 : y ≤ 9223372036854775807) : zdivL x y = x / y := by
  unfold zdivL
  rw [Int64.toInt_div, i64_toInt ⟨by omega, hx2⟩, i64_toInt ⟨by omega, hy2⟩, Int.tdiv_eq_ediv_of_nonneg hx]
  have h0 : 0 ≤ x / y := Int.ediv_nonneg hx (by omega)
  have h1 : x / y ≤ x := Int.ediv_le_self _ hx
  exact Int.bmod_eq_of_le (by omega) (by omega)
theorem zremL_nn {x y : Int} (hx : 0 ≤ x) (hx2 : x ≤ 9223372036854775807) (hy : 0 < y) (hy2 : y ≤ 9223372036854775807) : zremL x y = x % y := by
  have hd := zdivL_nn hx hx2 hy hy2
  have h0 : 0 ≤ x / y := Int.ediv_nonneg hx (by omega)
  have h1 : x / y ≤ x := Int.ediv_le_self _ hx
  have hm : x % y = x - y * (x / y) := Int.emod_def x y
  have hq : i64 x / i64 y = i64 (x / y) := by
    rw [← Int64.toInt_inj, i64_toInt ⟨by omega, by omega⟩]
    exact hd
  have h2 : 0 ≤ x % y := Int.emod_nonneg _ (by omega)
  have h3 : x % y < y := Int.emod_lt_of_pos _ hy
  unfold zremL
  rw [hq, i64_mul, i64_sub]
  have e1 : w64 (x / y * y) = x / y * y := w64_id ⟨by rw [Int.mul_comm]; omega, by rw [Int.mul_comm]; omega⟩
  rw [e1, i64_toInt (lr_w _), w64_id ⟨by rw [Int.mul_comm]; omega, by rw [Int.mul_comm]; omega⟩, hm, Int.mul_comm]
theorem i64_bv {a : Int} (h0 : 0 ≤ a) (h1 : a < 2 ^ 62) : (i64 a).toBitVec.toNat = a.toNat := by
  have h : (i64 a).toBitVec.toInt = a := i64_toInt ⟨by omega, by omega⟩
  have h2 := BitVec.toInt_eq_toNat_cond (i64 a).toBitVec
  have h3 : (i64 a).toBitVec.toNat < 2 ^ 64 := (i64 a).toBitVec.isLt
  rw [h] at h2
  split at h2 <;> omega
theorem zandL_31 {a : Int} (h0 : 0 ≤ a) (h1 : a < 2 ^ 62) : zandL a 31 = a % 32 := by
  have h : (i64 a &&& i64 31).toBitVec.toNat = a.toNat % 32 := by
    rw [Int64.toBitVec_and, BitVec.toNat_and, i64_bv h0 h1, show (i64 31).toBitVec.toNat = 2 ^ 5 - 1 from rfl, Nat.and_two_pow_sub_one_eq_mod]
  have e : zandL a 31 = ((i64 a &&& i64 31).toBitVec.toNat : Int) := by
    unfold zandL
    exact BitVec.toInt_eq_toNat_of_lt (by omega)
  rw [e, h]
  omega
theorem zshrL_nn {a : Int} {s : Nat} (h0 : 0 ≤ a) (h1 : a < 2 ^ 62) (hs : s < 64) : zshrL a (s : Int) = a / 2 ^ s := by
  have e := sh64 s hs
  have h : (i64 a).toBitVec.toInt = a := i64_toInt ⟨by omega, by omega⟩
  unfold zshrL
  have : (i64 a >>> ((i32 (s : Int)).toInt64 &&& 63)).toInt = (i64 a >>> ((i32 (s : Int)).toInt64 &&& 63)).toBitVec.toInt := rfl
  rw [this, Int64.toBitVec_shiftRight, BitVec.sshiftRight', e, BitVec.toInt_sshiftRight, h, Int.shiftRight_eq_div_pow]
  rfl
/-! words as numbers -/
theorem powle {b : Int} (hb : 1 ≤ b) {m n : Nat} (h : m ≤ n) : b ^ m ≤ b ^ n := by
  induction h with
  | refl => exact Int.le_refl _
  | step h ih =>
    rename_i k
    rw [Int.pow_succ]
    have h0 : 0 < b ^ k := Int.pow_pos (by omega)
    have h1 : b ^ k * 1 ≤ b ^ k * b := Int.mul_le_mul_of_nonneg_left hb (by omega)
    omega
theorem pk_cat (b : Int) (l : List Int) (x : Int) : pk b (l ++ [x]) = b * pk b l + x := by
  unfold pk
  rw [List.foldl_append]
  rfl
theorem pk_nil (b : Int) : pk b [] = 0 := rfl
theorem pk_bound {b : Int} (hb : 2 ≤ b) (l : List Int) (h : ∀ x ∈ l, 0 ≤ x ∧ x < b) : 0 ≤ pk b l ∧ pk b l < b ^ l.length := by
  induction hl : l.length generalizing l with
  | zero =>
    have : l = [] := List.eq_nil_of_length_eq_zero hl
    subst this
    exact ⟨by rw [pk_nil]; omega, by rw [pk_nil]; simp⟩
  | succ n ih =>
    rcases List.eq_nil_or_concat l with h0 | ⟨l', x, h0⟩
    · subst h0; simp at hl
    · rw [List.concat_eq_append] at h0
      subst h0
      have hl' : l'.length = n := by simp at hl; omega
      have hx := h x (by simp)
      obtain ⟨i0, i1⟩ := ih l' (fun y hy => h y (by simp [hy])) hl'
      rw [pk_cat, Int.pow_succ]
      have h1 : 0 ≤ b * pk b l' := Int.mul_nonneg (by omega) i0
      have h2 : b * (pk b l' + 1) ≤ b * b ^ n := Int.mul_le_mul_of_nonneg_left (by omega) (by omega)
      rw [Int.mul_add, Int.mul_one, Int.mul_comm b (b ^ n)] at h2
      exact ⟨by omega, by omega⟩
theorem pk_app (b : Int) (a l : List Int) : pk b (a ++ l) = pk b a * b ^ l.length + pk b l := by
  induction hl : l.length generalizing l with
  | zero =>
    have : l = [] := List.eq_nil_of_length_eq_zero hl
    subst this
    simp [pk_nil]
  | succ n ih =>
    rcases List.eq_nil_or_concat l with h0 | ⟨l', x, h0⟩
    · subst h0; simp at hl
    · rw [List.concat_eq_append] at h0
      subst h0
      have hl' : l'.length = n := by simp at hl; omega
      rw [← List.append_assoc, pk_cat, pk_cat, ih l' hl', Int.pow_succ, Int.mul_add]
      have : b * (pk b a * b ^ n) = pk b a * (b ^ n * b) := by
        rw [Int.mul_comm (b ^ n) b, ← Int.mul_assoc, ← Int.mul_assoc, Int.mul_comm b (pk b a)]
      omega
theorem pk_dig {pre l : List Int} {x : Int} (hx : 0 ≤ x ∧ x < 32) (hl : ∀ y ∈ l, 0 ≤ y ∧ y < 32) : pk 32 (pre ++ x :: l) / 32 ^ l.length % 32 = x := by
  have e : pre ++ x :: l = (pre ++ [x]) ++ l := by simp
  have hb := pk_bound (b := 32) (by omega) l hl
  have hp : (0 : Int) < 32 ^ l.length := by omega
  rw [e, pk_app, pk_cat, Int.add_comm, Int.add_mul_ediv_right _ _ (by omega), Int.ediv_eq_zero_of_lt hb.1 hb.2]
  omega
/-! the slip's two writers -/
def Wc (m0 m : zMem) (L : List Int) : Prop := m 102 1 = L.length ∧ (∀ i : Nat, i < L.length → m 103 i = L.getD i 0) ∧ ∀ q, q ≠ 102 → q ≠ 103 → m q = m0 q
def Wr (m0 m : zMem) (L : List Int) : Prop := m 138 36 = L.length ∧ (∀ i : Nat, i < L.length → m 153 i = L.getD i 0) ∧ (∀ q, q ≠ 138 → q ≠ 153 → m q = m0 q) ∧ ∀ i, i ≠ 36 → m 138 i = m0 138 i
theorem cAdd1 {m0 m : zMem} {L : List Int} (w : Wc m0 m L) (h : L.length < 40) (x : Int) : ∃ m', f_X9_add x m = some (0, m') ∧ Wc m0 m' (L ++ [x]) := by
  have L3 : sLen 103 = 40 := rfl
  obtain ⟨w1, w2, w3⟩ := w
  unfold f_X9_add
  rw [w1, if_neg (by omega), if_pos (by omega)]
  simp only [pipe]
  rw [zup_off (by omega), w1, w32_id ⟨by omega, by omega⟩]
  refine ⟨_, rfl, ?_, ?_, ?_⟩
  · rw [zup_same, if_pos rfl]
    simp
  · intro i hi
    rw [zup_off (by omega), zup_same]
    by_cases hj : (i : Int) = (L.length : Int)
    · rw [if_pos hj]
      have : i = L.length := by omega
      subst this
      simp
    · rw [if_neg hj, w2 i (by simp at hi; omega)]
      have : i < L.length := by simp at hi; omega
      simp [List.getD, List.getElem?_append_left this]
  · intro q a b
    rw [zup_off a, zup_off b, w3 q a b]
theorem mAdd1 {m0 m : zMem} {L : List Int} (w : Wr m0 m L) (h : L.length < 64) (x : Int) : ∃ m', f_X12_write x m = some (0, m') ∧ Wr m0 m' (L ++ [x]) := by
  have L3 : sLen 153 = 64 := rfl
  obtain ⟨w1, w2, w3, w4⟩ := w
  unfold f_X12_write
  rw [w1, if_pos (by omega)]
  simp only [pipe]
  rw [zup_off (by omega), w1, w32_id ⟨by omega, by omega⟩]
  refine ⟨_, rfl, ?_, ?_, ?_, ?_⟩
  · rw [zup_same, if_pos rfl]
    simp
  · intro i hi
    rw [zup_off (by omega), zup_same]
    by_cases hj : (i : Int) = (L.length : Int)
    · rw [if_pos hj]
      have : i = L.length := by omega
      subst this
      simp
    · rw [if_neg hj, w2 i (by simp at hi; omega)]
      have : i < L.length := by simp at hi; omega
      simp [List.getD, List.getElem?_append_left this]
  · intro q a b
    rw [zup_off a, zup_off b, w3 q a b]
  · intro i hi
    rw [zup_same, if_neg hi, zup_off (by omega), w4 i hi]
/-! names -/
def okL (l : List Int) : Prop := ∀ x ∈ l, 1 ≤ x ∧ x ≤ 26
theorem cName_l {m0 : zMem} : ∀ (j : Nat) (pre l : List Int) (m : zMem) (L : List Int) (n : Nat), j ≤ 7 → okL pre → okL l → (l.length = j ∨ (pre = [] ∧ l.length ≤ j)) → pre.length + l.length ≤ 7 → j < n → Wc m0 m L → L.length + l.length ≤ 40 → ∃ m', f_X9_addName_0 n (pk 32 (pre ++ l)) (5 * (j : Int) - 5) m = some (0, m') ∧ Wc m0 m' (L ++ l.map fun x => 96 + x) := by
  intro j
  induction j with
  | zero =>
    intro pre l m L n hj hp hl h1 h2 hn w hL
    have : l = [] := List.eq_nil_of_length_eq_zero (by omega)
    subst this
    obtain ⟨n, rfl⟩ : ∃ k, n = k + 1 := ⟨n - 1, by omega⟩
    refine ⟨m, ?_, by simpa using w⟩
    show b_X9_addName_0 (f_X9_addName_0 n) (pk 32 (pre ++ [])) (5 * ((0 : Nat) : Int) - 5) m = _
    unfold b_X9_addName_0
    rw [if_pos (by omega)]
  | succ j ih =>
    intro pre l m L n hj hp hl h1 h2 hn w hL
    obtain ⟨n, rfl⟩ : ∃ k, n = k + 1 := ⟨n - 1, by omega⟩
    have hall : ∀ y ∈ pre ++ l, 0 ≤ y ∧ y < 32 := by
      intro y hy
      rcases List.mem_append.mp hy with h | h
      · have := hp y h; omega
      · have := hl y h; omega
    have hb := pk_bound (b := 32) (by omega) (pre ++ l) hall
    have hlen : (pre ++ l).length ≤ 7 := by simp; omega
    have h62 : pk 32 (pre ++ l) < 2 ^ 62 := by
      have : (32 : Int) ^ (pre ++ l).length ≤ 32 ^ 7 := powle (by omega) hlen
      omega
    have e5 : 5 * ((j + 1 : Nat) : Int) - 5 = ((5 * j : Nat) : Int) := by omega
    have e2 : (2 : Int) ^ (5 * j) = 32 ^ j := by rw [Int.pow_mul]; rfl
    have hd : 0 ≤ pk 32 (pre ++ l) / 32 ^ j := Int.ediv_nonneg hb.1 (Int.le_of_lt (Int.pow_pos (by omega)))
    have hd2 : pk 32 (pre ++ l) / 32 ^ j ≤ pk 32 (pre ++ l) := Int.ediv_le_self _ hb.1
    have hlet : w32 (zandL (zshrL (pk 32 (pre ++ l)) (((5 * j : Nat) : Int))) 31) = pk 32 (pre ++ l) / 32 ^ j % 32 := by
      rw [zshrL_nn hb.1 h62 (by omega), e2, zandL_31 hd (by omega), w32_id ⟨by omega, by omega⟩]
    have hnx : w32 (((5 * j : Nat) : Int) + (-5)) = 5 * (j : Int) - 5 := by rw [w32_id ⟨by omega, by omega⟩]; omega
    rw [e5]
    have u : f_X9_addName_0 (n + 1) (pk 32 (pre ++ l)) ((5 * j : Nat) : Int) m = if pk 32 (pre ++ l) / 32 ^ j % 32 = 0 then f_X9_addName_0 n (pk 32 (pre ++ l)) (5 * (j : Int) - 5) m else zbind (f_X9_add (w32 (96 + pk 32 (pre ++ l) / 32 ^ j % 32)) m) fun _ m4 => f_X9_addName_0 n (pk 32 (pre ++ l)) (5 * (j : Int) - 5) m4 := by
      show b_X9_addName_0 (f_X9_addName_0 n) (pk 32 (pre ++ l)) ((5 * j : Nat) : Int) m = _
      unfold b_X9_addName_0
      rw [if_neg (by omega), hlet, hnx]
      rfl
    rw [u]
    by_cases hc : l.length = j + 1
    · obtain ⟨x, l', rfl⟩ : ∃ x l', l = x :: l' := by
        cases l with
        | nil => simp at hc
        | cons x l' => exact ⟨x, l', rfl⟩
      have hx := hl x (by simp)
      have hl' : l'.length = j := by simp at hc; omega
      have hdig := pk_dig (pre := pre) (x := x) (l := l') (by omega) (fun y hy => by have := hl y (by simp [hy]); omega)
      rw [hl'] at hdig
      rw [hdig, if_neg (by omega), w32_id ⟨by omega, by omega⟩]
      obtain ⟨m1, a1, a2⟩ := cAdd1 w (by simp at hL; omega) (96 + x)
      rw [a1]
      simp only [zbind]
      have e : pre ++ x :: l' = (pre ++ [x]) ++ l' := by simp
      rw [e]
      obtain ⟨m', b1, b2⟩ := ih (pre ++ [x]) l' m1 (L ++ [96 + x]) n (by omega) (by intro y hy; rcases List.mem_append.mp hy with h | h; exact hp y h; simp at h; omega) (fun y hy => hl y (by simp [hy])) (Or.inl hl') (by simp at h2 ⊢; omega) (by omega) a2 (by simp at hL ⊢; omega)
      exact ⟨m', b1, by simpa using b2⟩
    · have hpre : pre = [] := by
        rcases h1 with h1 | h1
        · omega
        · exact h1.1
      subst hpre
      have hlj : l.length ≤ j := by
        rcases h1 with h1 | h1 <;> omega
      have hz : pk 32 ([] ++ l) / 32 ^ j % 32 = 0 := by
        have : (32 : Int) ^ ([] ++ l).length ≤ 32 ^ j := powle (by omega) (by simpa using hlj)
        rw [Int.ediv_eq_zero_of_lt hb.1 (by omega)]
        rfl
      rw [if_pos hz]
      exact ih [] l m L n (by omega) hp hl (Or.inr ⟨rfl, hlj⟩) (by omega) (by omega) w hL
theorem cName {m0 m : zMem} {L l : List Int} (o : okW l) (w : Wc m0 m L) (h : L.length + l.length ≤ 40) : ∃ m', f_X9_addName (pk 32 l) m = some (0, m') ∧ Wc m0 m' (L ++ l.map fun x => 96 + x) := by
  have hN := zN_ge
  have := cName_l (m0 := m0) 7 [] l m L zN (by omega) (fun x h => by simp at h) o.2.2 (Or.inr ⟨rfl, o.2.1⟩) (by have := o.2.1; simp; omega) (by omega) w h
  exact this
theorem mName_l {m0 : zMem} : ∀ (n : Nat) (l : List Int) (m : zMem) (L : List Int), okL l → 1 ≤ l.length → l.length ≤ n → l.length ≤ 7 → Wr m0 m L → L.length + l.length ≤ 64 → ∃ m', fg_writeWord n (pk 27 l) m = some (0, m') ∧ Wr m0 m' (L ++ l.map fun x => 96 + x) := by
  intro n
  induction n with
  | zero => intro l m L ho h1 h2; omega
  | succ n ih =>
    intro l m L ho h1 h2 h7 w hL
    rcases List.eq_nil_or_concat l with h0 | ⟨l', x, h0⟩
    · subst h0; simp at h1
    · rw [List.concat_eq_append] at h0
      subst h0
      have hx := ho x (by simp)
      have ho' : okL l' := fun y hy => ho y (by simp [hy])
      have hb := pk_bound (b := 27) (by omega) l' (fun y hy => by have := ho' y hy; omega)
      have hlen : l'.length ≤ 6 := by simp at h7; omega
      have hbb : pk 27 l' < 27 ^ 6 := by
        have : (27 : Int) ^ l'.length ≤ 27 ^ 6 := powle (by omega) hlen
        omega
      have er : w32 (96 + w32 (zremL (27 * pk 27 l' + x) 27)) = 96 + x := by
        rw [zremL_nn (by omega) (by omega) (by omega) (by omega), show (27 * pk 27 l' + x) % 27 = x by omega, w32_id (x := x) ⟨by omega, by omega⟩, w32_id ⟨by omega, by omega⟩]
      show ∃ m', fb_X12_writeWord (fg_writeWord n) (pk 27 (l' ++ [x])) m = _ ∧ _
      unfold fb_X12_writeWord
      rw [pk_cat, er]
      by_cases hn : l' = []
      · subst hn
        rw [pk_nil, if_pos (by unfold zcmp; rw [if_pos (by omega)]; omega)]
        obtain ⟨m', a1, a2⟩ := mAdd1 w (by simp at hL; omega) (96 + x)
        refine ⟨m', ?_, by simpa using a2⟩
        rw [a1]
        rfl
      · have hpos : 1 ≤ pk 27 l' := by
          rcases List.eq_nil_or_concat l' with h0 | ⟨l2, y, h0⟩
          · exact absurd h0 hn
          · rw [List.concat_eq_append] at h0
            subst h0
            have hy := ho' y (by simp)
            have := (pk_bound (b := 27) (by omega) l2 (fun z hz => by have := ho' z (by simp [hz]); omega)).1
            rw [pk_cat]
            omega
        have hl1 : 1 ≤ l'.length := by
          cases l' with
          | nil => exact absurd rfl hn
          | cons => simp
        rw [if_neg (by unfold zcmp; rw [if_neg (by omega)]; split <;> omega), zdivL_nn (by omega) (by omega) (by omega) (by omega), show (27 * pk 27 l' + x) / 27 = pk 27 l' by omega]
        obtain ⟨m1, a1, a2⟩ := ih l' m L ho' hl1 (by simp at h2; omega) (by omega) w (by simp at hL; omega)
        rw [a1]
        simp only [zbind]
        obtain ⟨m', b1, b2⟩ := mAdd1 a2 (by simp at hL ⊢; omega) (96 + x)
        refine ⟨m', ?_, by simpa using b2⟩
        rw [b1]
theorem mName {m0 m : zMem} {L l : List Int} (o : okW l) (w : Wr m0 m L) (h : L.length + l.length ≤ 64) : ∃ m', f_X12_writeWord (pk 27 l) m = some (0, m') ∧ Wr m0 m' (L ++ l.map fun x => 96 + x) := mName_l 20 l m L o.2.2 o.1 (by have := o.2.1; omega) o.2.1 w h
