/-! numbers -/
def digs (n : Int) : List Int := if n ≥ 100 then [48 + n / 100 % 10, 48 + n / 10 % 10, 48 + n % 10] else if n ≥ 10 then [48 + n / 10 % 10, 48 + n % 10] else [48 + n % 10]
theorem cNum_s {v u : Int} (hv : 0 ≤ v ∧ v < 1000) (hu : u = 100 ∨ u = 10) (n : Nat) (m : zMem) : f_X9_addNumber_0 (n + 1) v u m = if v ≥ u then (zbind (f_X9_add (48 + v / u % 10) m) fun _ m' => f_X9_addNumber_0 n v (u / 10) m') else f_X9_addNumber_0 n v (u / 10) m := by
  have hd : 0 ≤ v / u := Int.ediv_nonneg hv.1 (by omega)
  have hd2 : v / u ≤ v := Int.ediv_le_self _ hv.1
  show b_X9_addNumber_0 (f_X9_addNumber_0 n) v u m = _
  unfold b_X9_addNumber_0
  rw [if_neg (c := u < 1) (by omega), if_neg (c := u = 0) (by omega), if_neg (c := u = 1) (by omega), zdiv_nn hv.1 (by omega) (by omega) (by omega), zrem_nn hd (by omega) (by omega) (by omega), w32_id ⟨by omega, by omega⟩, zdiv_nn (x := u) (by omega) (by omega) (by omega) (by omega)]
  rfl
theorem cNum_1 {v : Int} (hv : 0 ≤ v ∧ v < 1000) (n : Nat) (m : zMem) : f_X9_addNumber_0 (n + 2) v 1 m = zbind (f_X9_add (48 + v % 10) m) fun _ m' => some (0, m') := by
  show b_X9_addNumber_0 (f_X9_addNumber_0 (n + 1)) v 1 m = _
  unfold b_X9_addNumber_0
  have e : ∀ m' : zMem, f_X9_addNumber_0 (n + 1) v 0 m' = some (0, m') := by
    intro m'
    show b_X9_addNumber_0 (f_X9_addNumber_0 n) v 0 m' = _
    unfold b_X9_addNumber_0
    rw [if_pos (by omega)]
  rw [if_neg (by omega), zdiv_nn hv.1 (by omega) (by omega) (by omega), Int.ediv_one, zrem_nn hv.1 (by omega) (by omega) (by omega), w32_id ⟨by omega, by omega⟩, zdiv_nn (x := 1) (by omega) (by omega) (by omega) (by omega)]
  simp only [pipe, show (1 : Int) / 10 = 0 from rfl, e, show ¬ ((1 : Int) = 0) by omega, ↓reduceIte]
  split <;> rfl
theorem cNum {m0 m : zMem} {L : List Int} {v : Int} (hv : 0 ≤ v ∧ v < 1000) (w : Wc m0 m L) (h : L.length + 3 ≤ 40) : ∃ m', f_X9_addNumber v m = some (0, m') ∧ Wc m0 m' (L ++ digs v) := by
  have hN := zN_ge
  unfold f_X9_addNumber
  obtain ⟨n, hn⟩ : ∃ k, zN = k + 4 := ⟨zN - 4, by omega⟩
  rw [hn, cNum_s hv (Or.inl rfl), show (100 : Int) / 10 = 10 from rfl]
  simp only [cNum_s hv (Or.inr rfl), show (10 : Int) / 10 = 1 from rfl, cNum_1 hv]
  unfold digs
  by_cases c1 : v ≥ 100
  · obtain ⟨m1, a1, a2⟩ := cAdd1 w (by omega) (48 + v / 100 % 10)
    obtain ⟨m2, b1, b2⟩ := cAdd1 a2 (by simp; omega) (48 + v / 10 % 10)
    obtain ⟨m3, d1, d2⟩ := cAdd1 b2 (by simp; omega) (48 + v % 10)
    rw [if_pos c1, if_pos c1, a1]
    simp only [zbind]
    rw [if_pos (by omega), b1]
    simp only
    rw [d1]
    exact ⟨m3, rfl, by simpa using d2⟩
  · rw [if_neg c1, if_neg c1]
    by_cases c2 : v ≥ 10
    · obtain ⟨m2, b1, b2⟩ := cAdd1 w (by omega) (48 + v / 10 % 10)
      obtain ⟨m3, d1, d2⟩ := cAdd1 b2 (by simp; omega) (48 + v % 10)
      rw [if_pos c2, if_pos c2, b1]
      simp only [zbind]
      rw [d1]
      exact ⟨m3, rfl, by simpa using d2⟩
    · obtain ⟨m3, d1, d2⟩ := cAdd1 w (by omega) (48 + v % 10)
      rw [if_neg c2, if_neg c2, d1]
      exact ⟨m3, rfl, d2⟩
theorem mNum_1 {m0 m : zMem} {L : List Int} {v : Int} (n : Nat) (hv : 0 ≤ v ∧ v ≤ 9) (w : Wr m0 m L) (h : L.length < 64) : ∃ m', fg_writeNumber (n + 1) v m = some (0, m') ∧ Wr m0 m' (L ++ [48 + v % 10]) := by
  obtain ⟨m', a1, a2⟩ := mAdd1 w h (48 + v % 10)
  refine ⟨m', ?_, a2⟩
  show fb_X12_writeNumber (fg_writeNumber n) v m = _
  unfold fb_X12_writeNumber
  rw [if_pos hv.2, zrem_nn hv.1 (by omega) (by omega) (by omega), w32_id ⟨by omega, by omega⟩, a1]
  rfl
theorem mNum_s {m0 m m1 : zMem} {L : List Int} {v : Int} (n : Nat) (hv : 10 ≤ v ∧ v < 1000) (e : fg_writeNumber n (v / 10) m = some (0, m1)) (w : Wr m0 m1 L) (h : L.length < 64) : ∃ m', fg_writeNumber (n + 1) v m = some (0, m') ∧ Wr m0 m' (L ++ [48 + v % 10]) := by
  obtain ⟨m', a1, a2⟩ := mAdd1 w h (48 + v % 10)
  refine ⟨m', ?_, a2⟩
  show fb_X12_writeNumber (fg_writeNumber n) v m = _
  unfold fb_X12_writeNumber
  rw [if_neg (by omega), zdiv_nn (by omega) (by omega) (by omega) (by omega), e, zrem_nn (by omega) (by omega) (by omega) (by omega), w32_id ⟨by omega, by omega⟩]
  simp only [zbind]
  rw [a1]
theorem mNum {m0 m : zMem} {L : List Int} {v : Int} (hv : 0 ≤ v ∧ v < 1000) (w : Wr m0 m L) (h : L.length + 3 ≤ 64) : ∃ m', f_X12_writeNumber v m = some (0, m') ∧ Wr m0 m' (L ++ digs v) := by
  unfold f_X12_writeNumber digs
  by_cases c1 : v ≥ 100
  · obtain ⟨m1, a1, a2⟩ := mNum_1 (v := v / 10 / 10) 17 (by omega) w (by omega)
    obtain ⟨m2, b1, b2⟩ := mNum_s (v := v / 10) 18 (by omega) a1 a2 (by simp; omega)
    obtain ⟨m3, d1, d2⟩ := mNum_s (v := v) 19 (by omega) b1 b2 (by simp; omega)
    refine ⟨m3, d1, ?_⟩
    rw [if_pos c1]
    have e : v / 10 / 10 % 10 = v / 100 % 10 := by omega
    rw [e] at d2
    simpa using d2
  · rw [if_neg c1]
    by_cases c2 : v ≥ 10
    · obtain ⟨m2, b1, b2⟩ := mNum_1 (v := v / 10) 18 (by omega) w (by omega)
      obtain ⟨m3, d1, d2⟩ := mNum_s (v := v) 19 (by omega) b1 b2 (by simp; omega)
      refine ⟨m3, d1, ?_⟩
      rw [if_pos c2]
      simpa using d2
    · rw [if_neg c2]
      exact mNum_1 (v := v) 19 (by omega) w (by omega)
/-! texts -/
def tl (i : Nat) : List Int := (List.range (zSlen.getD i 0)).map fun (j : Nat) => zSc i (j : Int)
theorem zl3 : zSlen.getD 3 0 = 4 := by decide
theorem zl4 : zSlen.getD 4 0 = 1 := by decide
theorem zl5 : zSlen.getD 5 0 = 5 := by decide
theorem zl6 : zSlen.getD 6 0 = 4 := by decide
theorem tl_3 : tl 3 = [32, 97, 116, 32] := by decide +kernel
theorem tl_4 : tl 4 = [32] := by decide +kernel
theorem tl_5 : tl 5 = [32, 104, 97, 115, 32] := by decide +kernel
theorem tl_6 : tl 6 = [32, 111, 102, 32] := by decide +kernel
theorem cText {m0 m : zMem} {L : List Int} {i : Nat} (hi : zSlen.getD i 0 ≤ 10) (w : Wc m0 m L) (h : L.length + zSlen.getD i 0 ≤ 40) : ∃ m', f_X9_addText i m = some (0, m') ∧ Wc m0 m' (L ++ tl i) := by
  have hN := zN_ge
  have e1 : zSl i = (zSlen.getD i 0 : Nat) := rfl
  generalize hk : zSlen.getD i 0 = k at *
  obtain ⟨n', m', ia, e⟩ := lp_gen (F := fun n (m : zMem) j => f_X9_addText_0 n i j m) (I := fun j m => Wc m0 m (L ++ (List.range j.toNat).map fun (j : Nat) => zSc i (j : Int))) (M := 0) (N := (k : Int)) (n := zN) (a := m) (by
    intro n j m j0 j1 hw
    obtain ⟨m1, a1, a2⟩ := cAdd1 hw (by simp; omega) (zSc i j)
    refine ⟨m1, ?_, ?_⟩
    · show b_X9_addText_0 (f_X9_addText_0 n) i j m = _
      unfold b_X9_addText_0 f_J0_length_8abf5 f_J0_charAt_5068e
      simp only [zbind]
      rw [if_neg (by omega), if_pos (by omega)]
      simp only
      rw [a1, w32_id ⟨by omega, by omega⟩]
    · have ej : (j + 1).toNat = j.toNat + 1 := by omega
      rw [ej, List.range_succ, List.map_append, ← List.append_assoc]
      have : zSc i j = zSc i ((j.toNat : Nat) : Int) := by rw [Int.toNat_of_nonneg j0]
      rw [this] at a2
      exact a2) (by omega) (by simpa using w) (by omega)
  refine ⟨m', ?_, ?_⟩
  · unfold f_X9_addText
    rw [show f_X9_addText_0 zN i 0 m = f_X9_addText_0 (n' + 1) i k m' from e]
    show b_X9_addText_0 (f_X9_addText_0 n') i k m' = _
    unfold b_X9_addText_0 f_J0_length_8abf5
    simp only [zbind]
    rw [if_pos (by omega)]
  · unfold tl
    rw [hk]
    simpa using ia
theorem sp_at (m : zMem) : f_X12_spelt 97 116 0 0 0 0 m = some (pk 27 [1, 20], m) := by
  unfold f_X12_spelt f_X12_spelt_j65
  simp only [pipe]
  rw [if_neg (by omega), if_pos (by omega), if_pos (by omega), if_pos (by omega), if_pos (by omega)]
  congr 2
theorem sp_has (m : zMem) : f_X12_spelt 104 97 115 0 0 0 m = some (pk 27 [8, 1, 19], m) := by
  unfold f_X12_spelt f_X12_spelt_j65
  simp only [pipe]
  rw [if_neg (by omega), if_neg (by omega), if_pos (by omega), if_pos (by omega), if_pos (by omega)]
  congr 2
theorem sp_of (m : zMem) : f_X12_wordOf 19 m = some (pk 27 [15, 6], m) := by
  have e : f_X12_spelt 111 102 0 0 0 0 m = some (pk 27 [15, 6], m) := by
    unfold f_X12_spelt f_X12_spelt_j65
    simp only [pipe]
    rw [if_neg (by omega), if_pos (by omega), if_pos (by omega), if_pos (by omega), if_pos (by omega)]
    congr 2
  unfold f_X12_wordOf
  simp only [↓reduceIte, Int.reduceEq, e, zbind]
theorem mNext {m0 m : zMem} {L l : List Int} (o : okW l) (w : Wr m0 m L) (h : L.length + 1 + l.length ≤ 64) : ∃ m', f_X12_writeNext (pk 27 l) m = some (0, m') ∧ Wr m0 m' (L ++ 32 :: l.map fun x => 96 + x) := by
  obtain ⟨m1, a1, a2⟩ := mAdd1 w (by omega) 32
  obtain ⟨m2, b1, b2⟩ := mName o a2 (by simp; omega)
  refine ⟨m2, ?_, by simpa using b2⟩
  unfold f_X12_writeNext
  simp only [a1, b1, zbind]
theorem mCount {m0 m : zMem} {L : List Int} {v : Int} (hv : 0 ≤ v ∧ v < 1000) (w : Wr m0 m L) (h : L.length + 4 ≤ 64) : ∃ m', f_X12_writeCount v m = some (0, m') ∧ Wr m0 m' (L ++ 32 :: digs v) := by
  obtain ⟨m1, a1, a2⟩ := mAdd1 w (by omega) 32
  obtain ⟨m2, b1, b2⟩ := mNum hv a2 (by simp; omega)
  refine ⟨m2, ?_, by simpa using b2⟩
  unfold f_X12_writeCount
  simp only [a1, b1, zbind]
theorem digs_len (v : Int) : (digs v).length ≤ 3 ∧ (v < 10 → (digs v).length = 1) := by
  unfold digs
  constructor
  · split
    · simp
    · split <;> simp
  · intro h
    rw [if_neg (by omega), if_neg (by omega)]
    rfl
theorem Rel_L {mem m' : zMem} (R : Rel mem) (h1 : ∀ q, ((2 ≤ q ∧ q ≤ 18) ∨ q = 0 ∨ q = 41 ∨ (53 ≤ q ∧ q ≤ 94) ∨ q = 96 ∨ (105 ≤ q ∧ q ≤ 119) ∨ (122 ≤ q ∧ q ≤ 136) ∨ q = 139 ∨ q = 140 ∨ q = 142 ∨ q = 143 ∨ q = 145 ∨ q = 147 ∨ q = 148 ∨ q = 155) → m' q = mem q) (h2 : m' 1 2 = mem 1 2) (h3 : ∀ i, 5 ≤ i → m' 45 i = mem 45 i) (h4 : ∀ i, (i = 2 ∨ i = 10 ∨ i = 25 ∨ i = 26 ∨ i = 32 ∨ i = 33 ∨ i = 34 ∨ i = 41) → m' 138 i = mem 138 i) (h5 : rL m') : Rel m' := by
  obtain ⟨a, b, t, vv, l, bb, g, k⟩ := R
  refine ⟨?_, ?_, rT_mem h2 (h1 2 (by omega)) (h4 2 (by omega)) (h1 139 (by omega)) t, rV_mem (h1 0 (by omega)) (fun i hi => h4 i (by omega)) vv, h5, rB_mem h3 (h1 155 (by omega)) (h4 41 (by omega)) bb, rG_mem (fun q hq => h1 q (by omega)) g, rK_mem (h1 3 (by omega)) (h1 41 (by omega)) k⟩
  · rw [h1 140 (by omega), h1 145 (by omega)]
    exact rI_mem (fun q _ _ => h1 q (by omega)) (fun q _ _ => h1 q (by omega)) (fun q _ _ => h1 q (by omega)) a
  · rw [h1 140 (by omega)]
    exact rH_mem (fun q _ _ => h1 q (by omega)) (h4 25 (by omega)) (h1 143 (by omega)) b
/-- whose shadow is told of first -/
def opn (A : Int → Int) (p : Int) : Int := zand (shOn A (A (116 + p))) (zxor (A 107) (-1))
theorem wsum_le {A : Int → Int} (o : oP A) (os : oS A) {p : Int} (hp : 0 ≤ p ∧ p < 6) : 0 ≤ A (122 + p) ∧ A (122 + p) < 1000 := by
  have o1 := o.1
  have h0 := os.2.2.2.2.1
  have hs := os.2.2.2.2.2
  have hg : 0 ≤ gsum A := by
    have g := os.2.2.2.1
    unfold gsum
    have g0 := g 0 (by omega)
    have g1 := g 1 (by omega)
    have g2 := g 2 (by omega)
    have g3 := g 3 (by omega)
    have g4 := g 4 (by omega)
    simp only [Int.reduceAdd] at g0 g1 g2 g3 g4
    repeat' split
    all_goals omega
  have a0 := h0 0 (by omega) (by omega)
  have a1 := h0 1 (by omega) (by omega)
  have a2 := h0 2 (by omega) (by omega)
  have a3 := h0 3 (by omega) (by omega)
  have a4 := h0 4 (by omega) (by omega)
  have a5 := h0 5 (by omega) (by omega)
  simp only [Int.reduceAdd] at a0 a1 a2 a3 a4 a5
  unfold wsum at hs
  rcases (by omega : p = 0 ∨ p = 1 ∨ p = 2 ∨ p = 3 ∨ p = 4 ∨ p = 5) with h | h | h | h | h | h <;> subst h <;> simp only [Int.reduceAdd] <;> omega
theorem shOn_32 {A : Int → Int} (o : oP A) (c : Int) : ∀ i, 0 ≤ i → i < 5 → zand (zshr (shOn A c) i) 1 = 1 → i < A 2 := by
  have o1 := o.1
  intro i i0 i1 h
  obtain ⟨q, rfl⟩ : ∃ q : Nat, i = (q : Int) := ⟨i.toNat, by omega⟩
  unfold shOn at h
  have hl := bset_lt (fun k => decide (sunA A ≠ -1) && tch A (k : Int) (sunA A) c) (A 2).toNat
  have h2 : 2 ^ (A 2).toNat ≤ 2 ^ 8 := Nat.pow_le_pow_right (by omega) (by omega)
  rw [set0_bset _ (by omega) (by omega), has_bit q (by omega) _ (by omega), bset_bit] at h
  simp at h
  omega
theorem opn_has {A : Int → Int} (o : oP A) (p : Int) {i : Int} (i0 : 0 ≤ i) (i1 : i < 5) (h : zand (zshr (opn A p) i) 1 = 1) : i < A 2 := by
  obtain ⟨q, rfl⟩ : ∃ q : Nat, i = (q : Int) := ⟨i.toNat, by omega⟩
  rw [b32_has _ (by omega)] at h
  unfold opn at h
  rw [b32_and, Bool.and_eq_true, ← b32_has _ (by omega)] at h
  exact shOn_32 o _ _ i0 i1 h.1
/-- the end of a slip, by both -/
theorem slip_tail {mem : zMem} {A : Int → Int} (o : oP A) {x : Int} (hx : ∀ i, 0 ≤ i → i < 5 → zand (zshr x i) 1 = 1 → i < A 2) {N : Int → Int} (rn : rN mem 4 A N) {L : List Int} (hL : L.length ≤ 28) {m0 r0 : zMem} (hm0 : m0 7 = mem 7) (hr0 : ∀ i, 0 ≤ i → i < 11 → r0 145 i = N i) : ∀ (k : Nat) (i : Int) (n n' : Nat) (m r : zMem), 0 ≤ i → i + k = 5 → k < n → k < n' → Wc m0 m L → Wr r0 r L → ∃ m' r' L', f_X9_write_0 n 20 x i m = some (0, m') ∧ f_X12_slip_0 n' x i r = some ((L'.length : Int), r') ∧ Wc m0 m' L' ∧ Wr r0 r' L' ∧ L'.length ≤ 40 := by
  have o1 := o.1
  have l7 : sLen (4 + 3) = 5 := rfl
  have l145 : sLen 145 = 11 := rfl
  intro k
  induction k with
  | zero =>
    intro i n n' m r i0 i1 h1 h2 wc wr
    obtain ⟨n, rfl⟩ : ∃ g, n = g + 1 := ⟨n - 1, by omega⟩
    obtain ⟨n', rfl⟩ : ∃ g, n' = g + 1 := ⟨n' - 1, by omega⟩
    refine ⟨m, r, L, ?_, ?_, wc, wr, by omega⟩
    · show b_X9_write_0 (f_X9_write_0 n) 20 x i m = _
      unfold b_X9_write_0
      rw [if_pos (by omega)]
    · show b_X12_slip_0 (f_X12_slip_0 n') x i r = _
      unfold b_X12_slip_0
      rw [if_pos (by omega), if_pos (by omega), wr.1]
  | succ k ih =>
    intro i n n' m r i0 i1 h1 h2 wc wr
    obtain ⟨n, rfl⟩ : ∃ g, n = g + 1 := ⟨n - 1, by omega⟩
    obtain ⟨n', rfl⟩ : ∃ g, n' = g + 1 := ⟨n' - 1, by omega⟩
    have uc : f_X9_write_0 (n + 1) 20 x i m = b_X9_write_0 (f_X9_write_0 n) 20 x i m := rfl
    have ur : f_X12_slip_0 (n' + 1) x i r = b_X12_slip_0 (f_X12_slip_0 n') x i r := rfl
    rw [uc, ur]
    unfold b_X9_write_0 b_X12_slip_0
    rw [if_neg (c := i ≥ 5) (by omega), if_neg (c := i ≥ 5) (by omega), mHas]
    simp only [zbind, bi0]
    rw [w32_id ⟨by omega, by omega⟩]
    by_cases hb : zand (zshr x i) 1 = 1
    · have hi := hx i i0 (by omega) hb
      obtain ⟨l, lo, le1, le2⟩ := rn.1 i i0 hi
      have lo7 := lo.2.1
      rw [if_pos hb, if_pos hb]
      obtain ⟨m1, a1, a2⟩ := cText (i := 6) (by decide) wc (by rw [zl6]; omega)
      rw [tl_6] at a2
      obtain ⟨m2, b1, b2⟩ := cName lo a2 (by simp; omega)
      obtain ⟨r1, c1, c2⟩ := mNext (l := [15, 6]) ⟨by decide, by decide, by decide⟩ wr (by simp; omega)
      obtain ⟨r2, d1, d2⟩ := mNext lo c2 (by simp; omega)
      have e7 : m1 (sRf 20 0 + 3) i = pk 32 l := by
        rw [← le1]
        have : m1 7 i = mem 7 i := by rw [a2.2.2 7 (by omega) (by omega), hm0]
        exact this
      have e145 : r1 145 i = pk 27 l := by rw [c2.2.2.1 145 (by omega) (by omega), hr0 i i0 (by omega), le2]
      refine ⟨m2, r2, _, ?_, ?_, b2, by simpa using d2, by simp; omega⟩
      · rw [a1]
        simp only
        rw [if_pos (show ix (sRf 20 0 + 3) i from ⟨i0, by rw [show sLen (sRf 20 0 + 3) = 5 from rfl]; omega⟩), e7, b1]
      · rw [if_neg (by omega), sp_of]
        simp only
        rw [c1]
        simp only
        rw [if_pos ⟨i0, by omega⟩, e145, d1]
        simp only
        rw [d2.1]
        simp
    · rw [if_neg hb, if_neg hb]
      exact ih (i + 1) n n' m r (by omega) (by omega) (by omega) (by omega) wc wr
theorem qSlip {mem : zMem} (R : Rel mem) (p : Int) : okC (f_X11_slip p) (f_X12_slip p) mem := by
  have hN := zN_ge
  obtain ⟨o, os, v, w, rn, _⟩ := R.1
  have o1 := o.1
  have e : m00 mem 140 = mem 140 := m00_off (by omega)
  have o' : oP (m00 mem 140) := by rw [e]; exact o
  have l13 : sLen (11 + 2) = 6 := rfl
  have l14 : sLen (11 + 3) = 6 := rfl
  have l8 : sLen (4 + 4) = 6 := rfl
  have l145 : sLen 145 = 11 := rfl
  by_cases hp : 0 ≤ p ∧ p < mem 140 3
  · have hc := os.2.1 p hp.1 hp.2
    have hc1 := hc.1
    have hc2 := hc.2.1
    have q1 : mem (11 + 2) p = mem 140 (116 + p) := w.2.2.1 p hp.1 hp.2
    have q2 : mem (11 + 3) p = mem 140 (122 + p) := w.2.2.2.1 p hp.1 (by omega)
    have q3 : mem 11 4 = mem 140 107 := w.1.1
    obtain ⟨l, lo, le1, le2⟩ := rn.2 p hp.1 hp.2
    have lo7 := lo.2.1
    have lo1 := lo.1
    have hx8 := rem8 hc1 (by omega)
    have hy8 := div8 hc1 (by omega)
    have hw := wsum_le o os (p := p) (by omega)
    have dl1 := (digs_len (mem 140 (116 + p) % 8)).2 (by omega)
    have dl2 := (digs_len (mem 140 (116 + p) / 8)).2 (by omega)
    have dl3 := (digs_len (mem 140 (122 + p))).1
    -- the class
    have w0 : Wc mem (zup mem 102 1 0) [] := ⟨by rw [zup_same, if_pos rfl]; rfl, fun i hi => by simp at hi, fun q a b => zup_off a⟩
    obtain ⟨m1, a1, a2⟩ := cName lo w0 (by simp; omega)
    obtain ⟨m2, b1, b2⟩ := cText (i := 3) (by decide) a2 (by rw [zl3]; simp; omega)
    rw [tl_3] at b2
    obtain ⟨m3, c1, c2⟩ := cNum (v := mem 140 (116 + p) % 8) (by omega) b2 (by simp; omega)
    obtain ⟨m4, d1, d2⟩ := cText (i := 4) (by decide) c2 (by rw [zl4]; simp; omega)
    rw [tl_4] at d2
    obtain ⟨m5, e1, e2⟩ := cNum (v := mem 140 (116 + p) / 8) (by omega) d2 (by simp; omega)
    obtain ⟨m6, f1, f2⟩ := cText (i := 5) (by decide) e2 (by rw [zl5]; simp; omega)
    rw [tl_5] at f2
    obtain ⟨m7, g1, g2⟩ := cNum (v := mem 140 (122 + p)) hw f2 (by simp; omega)
    -- the reference, behind any class that changed its own slip alone
    have key : ∀ mc : zMem, (∀ q, q ≠ 102 → q ≠ 103 → mc q = mem q) → ∃ r7, f_X12_slip p mc = f_X12_slip_0 zN (opn (mem 140) p) 0 r7 ∧ Wr (m00 mc) r7 (((((([] ++ l.map fun x => 96 + x) ++ [32, 97, 116, 32]) ++ digs (mem 140 (116 + p) % 8)) ++ [32]) ++ digs (mem 140 (116 + p) / 8)) ++ [32, 104, 97, 115, 32] ++ digs (mem 140 (122 + p))) := by
      intro mc hmc
      have em : m00 mc 140 = mem 140 := by rw [m00_off (by omega), hmc 140 (by omega) (by omega)]
      have om : oP (m00 mc 140) := by rw [em]; exact o
      have r0 : Wr (m00 mc) (zup (m00 mc) 138 36 0) [] := ⟨by rw [zup_same, if_pos rfl]; rfl, fun i hi => by simp at hi, fun q a b => zup_off a, fun i hi => by rw [zup_same, if_neg hi]⟩
      obtain ⟨r1, h1, h2⟩ := mName lo r0 (by simp; omega)
      obtain ⟨r2, i1, i2⟩ := mNext (l := [1, 20]) ⟨by decide, by decide, by decide⟩ h2 (by simp; omega)
      obtain ⟨r3, j1, j2⟩ := mCount (v := mem 140 (116 + p) % 8) (by omega) i2 (by simp; omega)
      obtain ⟨r4, k1, k2⟩ := mCount (v := mem 140 (116 + p) / 8) (by omega) j2 (by simp; omega)
      obtain ⟨r5, n1, n2⟩ := mNext (l := [8, 1, 19]) ⟨by decide, by decide, by decide⟩ k2 (by simp; omega)
      obtain ⟨r6, p1, p2⟩ := mCount (v := mem 140 (122 + p)) hw n2 (by simp; omega)
      refine ⟨r6, ?_, by simpa using p2⟩
      have e145 : zup (m00 mc) 138 36 0 145 (5 + p) = pk 27 l := by rw [zup_off (by omega), m00_off (by omega), hmc 145 (by omega) (by omega), le2]
      have f2' : r2 140 = mem 140 := by rw [i2.2.2.1 140 (by omega) (by omega), em]
      have f3' : r3 140 = mem 140 := by rw [j2.2.2.1 140 (by omega) (by omega), em]
      have f5' : r5 140 = mem 140 := by rw [n2.2.2.1 140 (by omega) (by omega), em]
      have f6' : r6 140 = mem 140 := by rw [p2.2.2.1 140 (by omega) (by omega), em]
      have hsh := mShadowsOn (mem := r6) (by rw [f6']; exact o) (by rw [f6']; exact os) (c := mem 140 (116 + p)) (by rw [f6']; exact hc)
      rw [f6'] at hsh
      unfold f_X12_slip
      simp only [pipe, m00_eq, mIsPerson om, zbind, bi0, em]
      rw [if_pos hp, w32_id (x := 5 + p) ⟨by omega, by omega⟩, w32_id (x := 116 + p) ⟨by omega, by omega⟩, w32_id (x := 122 + p) ⟨by omega, by omega⟩, if_pos (show ix 145 (5 + p) from ⟨by omega, by omega⟩), e145, h1]
      simp only [sp_at]
      rw [i1]
      simp only
      rw [ixl (by omega), f2', hx8, j1]
      simp only
      rw [ixl (by omega), f3', hy8, k1]
      simp only [sp_has]
      rw [n1]
      simp only
      rw [ixl (by omega), f5', p1]
      simp only
      rw [ixl (by omega), f6', hsh]
      simp only
      rw [ixl (by omega), f6']
      rfl
    -- class and reference: the end
    have hm7 : m7 7 = mem 7 := g2.2.2 7 (by omega) (by omega)
    have rnm : rN mem 4 (mem 140) (mem 145) := rn
    have len28 : ((((((([] ++ l.map fun x => 96 + x) ++ [32, 97, 116, 32]) ++ digs (mem 140 (116 + p) % 8)) ++ [32]) ++ digs (mem 140 (116 + p) / 8)) ++ [32, 104, 97, 115, 32] ++ digs (mem 140 (122 + p))) : List Int).length ≤ 28 := by
      simp
      omega
    -- the class's end alone first, over some reference
    obtain ⟨r7', s1', s2'⟩ := key mem (fun _ _ _ => rfl)
    obtain ⟨mE, rE, LE, t1, t2, t3, t4, t5⟩ := slip_tail (mem := mem) o (x := opn (mem 140) p) (fun i a b c => opn_has o p a b c) rnm len28 (m0 := mem) (r0 := m00 mem) rfl (fun i a b => by rw [m00_off (by omega)]) 5 0 zN zN m7 r7' (by omega) (by omega) (by omega) (by omega) g2 s2'
    have hE : ∀ q, q ≠ 102 → q ≠ 103 → mE q = mem q := t3.2.2
    obtain ⟨r7, s1, s2⟩ := key mE hE
    obtain ⟨mE2, rE2, LE2, u1, u2, u3, u4, u5⟩ := slip_tail (mem := mem) o (x := opn (mem 140) p) (fun i a b c => opn_has o p a b c) rnm len28 (m0 := mem) (r0 := m00 mE) rfl (fun i a b => by rw [m00_off (by omega), hE 145 (by omega) (by omega)]) 5 0 zN zN m7 r7 (by omega) (by omega) (by omega) (by omega) g2 s2
    have hme : mE2 = mE := by
      rw [t1] at u1
      simp only [Option.some.injEq, Prod.mk.injEq, true_and] at u1
      exact u1.symm
    subst hme
    refine ⟨(LE2.length : Int), mE2, rE2, ?_, s1.trans u2, ?_⟩
    · have r1' : sRf 20 1 = 11 := rfl
      have r0' : sRf 20 0 = 4 := rfl
      have n8 : zup mem 102 1 0 (4 + 4) p = pk 32 l := by
        rw [zup_off (by omega)]
        exact le1
      have n13 : zup mem 102 1 0 (11 + 2) p = mem 140 (116 + p) := by rw [zup_off (by omega), q1]
      have n14 : m6 (11 + 3) p = mem 140 (122 + p) := by rw [f2.2.2 (11 + 3) (by omega) (by omega), q2]
      have v7 : vP m7 4 (mem 140) := vP_mem (fun q _ _ => g2.2.2 q (by omega) (by omega)) v
      have w7 : vS m7 11 (mem 140) := vS_mem (fun q _ _ => g2.2.2 q (by omega) (by omega)) w
      have n4 : m7 11 4 = mem 140 107 := by rw [g2.2.2 11 (by omega) (by omega), q3]
      unfold f_X11_slip f_X9_write
      simp only [cHasPerson v o, zbind, bi0, pipe, r1', r0', n8, n13]
      rw [if_pos hp, if_pos (show ix (11 + 2) p from ⟨hp.1, by omega⟩), if_pos (show ix (4 + 4) p from ⟨hp.1, by omega⟩), a1]
      simp only
      rw [b1]
      simp only
      rw [hx8, c1]
      simp only
      rw [d1]
      simp only
      rw [hy8, e1]
      simp only
      rw [f1]
      simp only
      rw [if_pos (show ix (11 + 3) p from ⟨hp.1, by omega⟩), n14, g1]
      simp only
      rw [cHousesTouching IL_20 v7 w7 o os hc]
      simp only
      rw [n4, show zand (shOn (mem 140) (mem 140 (116 + p))) (zxor (mem 140 107) (-1)) = opn (mem 140) p from rfl, u1]
      simp only
      rw [u3.1]
    · refine Rel_L R (fun q hq => by rw [u4.2.2.1 q (by omega) (by omega), m00_off (by omega), hE q (by omega) (by omega)]) (by rw [u4.2.2.1 1 (by omega) (by omega), m00_off (by omega), hE 1 (by omega) (by omega)]) (fun i _ => by rw [u4.2.2.1 45 (by omega) (by omega), m00_off (by omega), hE 45 (by omega) (by omega)]) (fun i hi => by rw [u4.2.2.2 i (by omega), m00_at (by omega), hE 138 (by omega) (by omega)]) ?_
      have x1 : rE2 102 = mE2 102 := by rw [u4.2.2.1 102 (by omega) (by omega), m00_off (by omega)]
      have x2 : rE2 103 = mE2 103 := by rw [u4.2.2.1 103 (by omega) (by omega), m00_off (by omega)]
      unfold rL
      rw [x1, x2, u3.1, u4.1]
      refine ⟨rfl, by omega, by omega, fun i i0 i1 => ?_⟩
      have y1 := u3.2.1 i.toNat (by omega)
      have y2 := u4.2.1 i.toNat (by omega)
      rw [Int.toNat_of_nonneg i0] at y1 y2
      rw [y1, y2]
  · refine okQ R (-1) ?_ ?_
    · unfold f_X11_slip
      simp only [cHasPerson v o, zbind, bi0]
      rw [if_neg hp]
    · unfold f_X12_slip
      simp only [pipe, m00_eq, mIsPerson o', zbind, bi0, e]
      rw [if_neg hp]
