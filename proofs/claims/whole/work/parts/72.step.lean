theorem zup_zup (m : zMem) (a : Nat) (i v w : Int) : zup (zup m a i v) a i w = zup m a i w := by
  funext q j
  unfold zup
  by_cases h : q = a ∧ j = i
  · rw [if_pos h, if_pos h]
  · rw [if_neg h, if_neg h, if_neg h]
theorem zup_id (m : zMem) (a : Nat) (i : Int) : zup m a i (m a i) = m := by
  funext q j
  unfold zup
  by_cases h : q = a ∧ j = i
  · rw [if_pos h, h.1, h.2]
  · rw [if_neg h]
theorem zcmp_0 (a b : Int) : zcmp a b = 0 ↔ a = b := by
  unfold zcmp
  by_cases h : a < b
  · rw [if_pos h]; omega
  · rw [if_neg h]
    by_cases h2 : a = b
    · rw [if_pos h2]; simp [h2]
    · rw [if_neg h2]; omega
def nlN (T : Int → Int) (b : Int) : Nat → Int
  | 0 => 0
  | k + 1 => if isL (T (b + k)) = true then nlN T b k + 1 else nlN T b k
def ndN (T : Int → Int) (b : Int) : Nat → Int
  | 0 => 0
  | k + 1 => if isL (T (b + k)) = true then ndN T b k else ndN T b k + 1
def cwN (T : Int → Int) (b : Int) : Nat → Int
  | 0 => 0
  | k + 1 => if isL (T (b + k)) = true then w64 (w64 (cwN T b k * 32) + w32 (w32 (T (b + k) - 97) + 1)) else cwN T b k
def cnN (T : Int → Int) (b : Int) : Nat → Int
  | 0 => 0
  | k + 1 => if isL (T (b + k)) = true then cnN T b k else w32 (w32 (cnN T b k * 10) + w32 (T (b + k) - 48))
theorem nlN_s (T : Int → Int) (b : Int) (k : Nat) : nlN T b (k + 1) = if isL (T (b + k)) = true then nlN T b k + 1 else nlN T b k := rfl
theorem ndN_s (T : Int → Int) (b : Int) (k : Nat) : ndN T b (k + 1) = if isL (T (b + k)) = true then ndN T b k else ndN T b k + 1 := rfl
theorem cwN_s (T : Int → Int) (b : Int) (k : Nat) : cwN T b (k + 1) = if isL (T (b + k)) = true then w64 (w64 (cwN T b k * 32) + w32 (w32 (T (b + k) - 97) + 1)) else cwN T b k := rfl
theorem cnN_s (T : Int → Int) (b : Int) (k : Nat) : cnN T b (k + 1) = if isL (T (b + k)) = true then cnN T b k else w32 (w32 (cnN T b k * 10) + w32 (T (b + k) - 48)) := rfl
theorem nld (T : Int → Int) (b : Int) (k : Nat) : 0 ≤ nlN T b k ∧ 0 ≤ ndN T b k ∧ nlN T b k + ndN T b k = k ∧ (ndN T b k = 0 ↔ allP isL T b k = true) ∧ (nlN T b k = 0 ↔ ∀ j : Nat, j < k → isL (T (b + j)) = false) := by
  induction k with
  | zero => exact ⟨Int.le_refl _, Int.le_refl _, rfl, ⟨fun _ => rfl, fun _ => rfl⟩, ⟨fun _ j h => by omega, fun _ => rfl⟩⟩
  | succ k ih =>
    obtain ⟨a, c, d, e, f⟩ := ih
    rw [nlN_s, ndN_s, allP_s, Bool.and_eq_true]
    by_cases h : isL (T (b + k)) = true
    · rw [if_pos h, if_pos h]
      refine ⟨by omega, c, by omega, ?_, ?_⟩
      · rw [e]; exact ⟨fun x => ⟨x, h⟩, fun x => x.1⟩
      · constructor
        · intro x; omega
        · intro x
          have := x k (by omega)
          rw [h] at this
          exact absurd this (by simp)
    · rw [if_neg h, if_neg h]
      refine ⟨a, by omega, by omega, ?_, ?_⟩
      · constructor
        · intro x; omega
        · intro x; exact absurd x.2 h
      · rw [f]
        constructor
        · intro x j hj
          by_cases hjk : j = k
          · rw [hjk]; simpa using h
          · exact x j (by omega)
        · intro x j hj
          exact x j (by omega)
theorem cwN_ok {T : Int → Int} {b : Int} : ∀ k : Nat, k ≤ 7 → allP isL T b k = true → cwN T b k = pk 32 (wlF T b k) := by
  intro k
  induction k with
  | zero => intro _ _; rfl
  | succ k ih =>
    intro hk h
    rw [allP_s, Bool.and_eq_true] at h
    have hl := h.2
    unfold isL at hl
    simp only [decide_eq_true_eq] at hl
    obtain ⟨o1, o2⟩ := wlF_ok h.1
    have hb := pk_bound (b := 32) (by omega) (wlF T b k) (fun x hx => by have := o2 x hx; omega)
    rw [o1] at hb
    have hp : (32 : Int) ^ k ≤ 32 ^ 6 := powle (by omega) (by omega)
    rw [cwN_s, if_pos h.2, ih (by omega) h.1, wlF_s, pk_cat, w32_id (x := T (b + k) - 97) ⟨by omega, by omega⟩, w32_id ⟨by omega, by omega⟩, w64_id (x := pk 32 (wlF T b k) * 32) ⟨by omega, by omega⟩, w64_id ⟨by omega, by omega⟩]
    omega
theorem decF_s (T : Int → Int) (b : Int) (k : Nat) : decF T b (k + 1) = 10 * decF T b k + T (b + k) - 48 := rfl
theorem decF_r {T : Int → Int} {b : Int} : ∀ k : Nat, allP isD T b k = true → 0 ≤ decF T b k ∧ decF T b k < 10 ^ k := by
  intro k
  induction k with
  | zero => intro _; exact ⟨by unfold decF; omega, by unfold decF; decide⟩
  | succ k ih =>
    intro h
    rw [allP_s, Bool.and_eq_true] at h
    have hl := h.2
    unfold isD at hl
    simp only [decide_eq_true_eq] at hl
    have := ih h.1
    rw [decF_s, Int.pow_succ]
    omega
theorem cnN_ok {T : Int → Int} {b : Int} : ∀ k : Nat, k ≤ 3 → allP isD T b k = true → cnN T b k = decF T b k := by
  intro k
  induction k with
  | zero => intro _ _; rfl
  | succ k ih =>
    intro hk h
    rw [allP_s, Bool.and_eq_true] at h
    have hl := h.2
    unfold isD at hl
    simp only [decide_eq_true_eq] at hl
    have hr := decF_r k h.1
    have hp : (10 : Int) ^ k ≤ 10 ^ 2 := powle (by omega) (by omega)
    have hn : ¬ isL (T (b + k)) = true := by unfold isL; simp only [decide_eq_true_eq]; omega
    rw [cnN_s, if_neg hn, ih (by omega) h.1, decF_s, w32_id (x := decF T b k * 10) ⟨by omega, by omega⟩, w32_id (x := T (b + k) - 48) ⟨by omega, by omega⟩, w32_id ⟨by omega, by omega⟩]
    omega
/-- a run of letters and digits, by the class -/
theorem cRunT {m : zMem} {T : Int → Int} {n lim b : Int} (cx : CX m T n lim) (ok : okTx T n) (h0 : 0 ≤ b) (hb : m 1 4 = b) (hbn : b < n) (hc : (isL (T b) || isD (T b)) = true) : f_X6_readRun m = f_X6_readRun_j121 (nlN T b (lexK T n b)) (ndN T b (lexK T n b)) (cwN T b (lexK T n b)) (cnN T b (lexK T n b)) (zup m 1 4 (b + lexK T n b)) := by
  have hN := zN_ge
  have l2 : sLen 2 = 940 := rfl
  obtain ⟨k1, k2, k3, k4⟩ := lexK_r hbn hc
  obtain ⟨c1, c2, c3, c4⟩ := cx
  obtain ⟨ok1, ok2, ok3⟩ := ok
  generalize hK : lexK T n b = K at *
  have e4 : ∀ x, zup m 1 4 x 1 4 = x := fun x => by rw [zup_same, if_pos rfl]
  have e2 : ∀ x, zup m 1 4 x 1 2 = n := fun x => by rw [zup_same, if_neg (by omega), c1]
  have eT : ∀ x i, 0 ≤ i → i < n → zup m 1 4 x 2 i = T i := fun x i a b => by rw [zup_off (by omega), c3 i a b]
  obtain ⟨n', a', ia, e⟩ := lp_gen (F := fun f (a : Int × Int × Int × Int × zMem) j => f_X6_readRun_2 f a.1 a.2.1 a.2.2.1 a.2.2.2.1 a.2.2.2.2) (I := fun j a => a = (nlN T b j.toNat, ndN T b j.toNat, cwN T b j.toNat, cnN T b j.toNat, zup m 1 4 (b + j))) (M := 0) (N := (K : Int)) (n := zN) (a := (0, 0, 0, 0, m)) (by
    intro f j a j0 j1 ha
    obtain ⟨q, rfl⟩ : ∃ q : Nat, j = (q : Int) := ⟨j.toNat, by omega⟩
    have al := k3 q (by omega)
    have hT := ok3 (b + q) (by omega) (by omega)
    have hnl := nld T b q
    rw [ha]
    show ∃ a', b_X6_readRun_2 (f_X6_readRun_2 f) _ _ _ _ _ = _ ∧ _
    unfold b_X6_readRun_2
    simp only [Int.toNat_natCast]
    rw [e4, e2, if_neg (by omega), if_neg (by omega), if_pos (show ix 2 (b + q) from ⟨by omega, by omega⟩), eT _ _ (by omega) (by omega)]
    simp only [pipe]
    rw [zup_zup, w32_id (x := b + q + 1) ⟨by omega, by omega⟩, w32_id (x := nlN T b q + 1) ⟨by omega, by omega⟩, w32_id (x := ndN T b q + 1) ⟨by omega, by omega⟩]
    have eq1 : ((q : Int) + 1).toNat = q + 1 := by omega
    have eq2 : b + (q : Int) + 1 = b + ((q : Int) + 1) := by omega
    by_cases hl : isL (T (b + q)) = true
    · have hl' := hl
      unfold isL at hl'
      simp only [decide_eq_true_eq] at hl'
      rw [if_neg (by omega), if_neg (by omega)]
      refine ⟨(nlN T b q + 1, ndN T b q, w64 (w64 (cwN T b q * 32) + w32 (w32 (T (b + q) - 97) + 1)), cnN T b q, zup m 1 4 (b + q + 1)), rfl, ?_⟩
      rw [eq1, nlN_s, ndN_s, cwN_s, cnN_s, if_pos hl, if_pos hl, if_pos hl, if_pos hl, eq2]
    · have hd : isD (T (b + q)) = true := by
        cases h : isL (T (b + q)) with
        | true => exact absurd h hl
        | false => rw [h] at al; simpa using al
      unfold isD at hd
      simp only [decide_eq_true_eq] at hd
      rw [if_pos (by omega), if_neg (by omega), if_neg (by omega)]
      refine ⟨(nlN T b q, ndN T b q + 1, cwN T b q, w32 (w32 (cnN T b q * 10) + w32 (T (b + q) - 48)), zup m 1 4 (b + q + 1)), rfl, ?_⟩
      rw [eq1, nlN_s, ndN_s, cwN_s, cnN_s, if_neg hl, if_neg hl, if_neg hl, if_neg hl, eq2]) (by omega) (by
        show (0, 0, 0, 0, m) = (nlN T b 0, ndN T b 0, cwN T b 0, cnN T b 0, zup m 1 4 (b + 0))
        rw [Int.add_zero, ← hb, zup_id]
        rfl) (by omega)
  unfold f_X6_readRun
  rw [show f_X6_readRun_2 zN 0 0 0 0 m = f_X6_readRun_2 (n' + 1) a'.1 a'.2.1 a'.2.2.1 a'.2.2.2.1 a'.2.2.2.2 from e, ia]
  show b_X6_readRun_2 (f_X6_readRun_2 n') _ _ _ _ _ = _
  unfold b_X6_readRun_2
  simp only [Int.toNat_natCast]
  rw [e4, e2]
  by_cases hend : b + (K : Int) < n
  · have ne := k4 hend
    have hT := ok3 (b + K) (by omega) hend
    rw [if_neg (by omega), if_neg (by omega), if_pos (show ix 2 (b + K) from ⟨by omega, by omega⟩), eT _ _ (by omega) hend]
    simp only [pipe]
    simp only [Bool.or_eq_false_iff] at ne
    unfold isL isD at ne
    simp only [decide_eq_false_iff_not] at ne
    by_cases h1 : T (b + K) < 97
    · rw [if_pos h1]
      by_cases h2 : T (b + K) < 48
      · rw [if_pos h2]
      · rw [if_neg h2, if_pos (by omega)]
    · rw [if_neg h1, if_pos (by omega), if_neg (by omega), if_pos (by omega)]
  · rw [if_pos (by omega)]
/-- which kept word it is -/
theorem cKnown {w : List Int} : ∀ (k : Nat) (i : Int) (f : Nat) (m : zMem), 0 ≤ i → i + k = 24 → k < f → m 1 8 = -1 → (∀ k : Nat, k < 24 → m 3 k = kw32.getD k 0) → ∃ m', f_X6_readRun_0 f (pk 32 w) i m = some (0, m') ∧ m' 1 8 = fst1 (fun k => decide (pk 32 (kwL.getD k.toNat []) = pk 32 w)) k i ∧ (∀ q, q ≠ 1 → m' q = m q) ∧ ∀ j, j ≠ 8 → m' 1 j = m 1 j := by
  have l3 : sLen 3 = 24 := rfl
  intro k
  induction k with
  | zero =>
    intro i f m i0 i1 hf h8 hk
    obtain ⟨f, rfl⟩ : ∃ q, f = q + 1 := ⟨f - 1, by omega⟩
    refine ⟨m, ?_, h8, fun _ _ => rfl, fun _ _ => rfl⟩
    show b_X6_readRun_0 (f_X6_readRun_0 f) (pk 32 w) i m = _
    unfold b_X6_readRun_0
    rw [if_pos (by omega)]
  | succ k ih =>
    intro i f m i0 i1 hf h8 hk
    obtain ⟨f, rfl⟩ : ∃ q, f = q + 1 := ⟨f - 1, by omega⟩
    have hki : m 3 i = pk 32 (kwL.getD i.toNat []) := by
      have := hk i.toNat (by omega)
      rw [Int.toNat_of_nonneg i0] at this
      rw [this, kwL_32 _ (by omega)]
    rw [fst1_s]
    have u : f_X6_readRun_0 (f + 1) (pk 32 w) i m = if pk 32 (kwL.getD i.toNat []) = pk 32 w then f_X6_readRun_0 f (pk 32 w) (i + 1) (zup m 1 8 i) else f_X6_readRun_0 f (pk 32 w) (i + 1) m := by
      show b_X6_readRun_0 (f_X6_readRun_0 f) (pk 32 w) i m = _
      unfold b_X6_readRun_0
      rw [if_neg (by omega), if_pos h8, if_pos (show ix 3 i from ⟨i0, by omega⟩), hki, w32_id ⟨by omega, by omega⟩]
      simp only [pipe]
      have e8 : zup m 1 8 (-1) = m := by
        have := zup_id m 1 8
        rw [h8] at this
        exact this
      rw [e8]
      by_cases hc : pk 32 (kwL.getD i.toNat []) = pk 32 w
      · rw [if_pos hc, if_pos ((zcmp_0 _ _).2 hc)]
      · rw [if_neg hc, if_neg (fun c => hc ((zcmp_0 _ _).1 c))]
    rw [u]
    by_cases hc : pk 32 (kwL.getD i.toNat []) = pk 32 w
    · rw [if_pos hc, if_pos (by simpa using hc)]
      obtain ⟨f, rfl⟩ : ∃ q, f = q + 1 := ⟨f - 1, by omega⟩
      refine ⟨zup m 1 8 i, ?_, by rw [zup_same, if_pos rfl], fun q hq => zup_off hq, fun j hj => by rw [zup_same, if_neg hj]⟩
      show b_X6_readRun_0 (f_X6_readRun_0 f) (pk 32 w) (i + 1) (zup m 1 8 i) = _
      unfold b_X6_readRun_0
      by_cases hi : i + 1 ≥ 24
      · rw [if_pos hi]
      · rw [if_neg hi, if_neg (by rw [zup_same, if_pos rfl]; omega)]
    · rw [if_neg hc, if_neg (by simpa using hc)]
      exact ih (i + 1) f m (by omega) (by omega) (by omega) h8 hk
def FX (m m' : zMem) : Prop := (∀ q, q ≠ 1 → m' q = m q) ∧ ∀ i, (i < 4 ∨ 8 < i) → m' 1 i = m 1 i
theorem FX_r (m : zMem) : FX m m := ⟨fun _ _ => rfl, fun _ _ => rfl⟩
theorem FX_t {a b c : zMem} (h1 : FX a b) (h2 : FX b c) : FX a c := ⟨fun q x => (h2.1 q x).trans (h1.1 q x), fun i x => (h2.2 i x).trans (h1.2 i x)⟩
theorem FX_up {m : zMem} {i v : Int} (h : 4 ≤ i ∧ i ≤ 8) : FX m (zup m 1 i v) := ⟨fun q hq => zup_off hq, fun j hj => by rw [zup_same, if_neg (by omega)]⟩
theorem CX_fx {m m' : zMem} {T : Int → Int} {n lim : Int} (c : CX m T n lim) (h : FX m m') : CX m' T n lim := ⟨by rw [h.2 2 (by omega)]; exact c.1, by rw [h.2 3 (by omega)]; exact c.2.1, by rw [h.1 2 (by omega)]; exact c.2.2.1, by rw [h.1 3 (by omega)]; exact c.2.2.2⟩
theorem cStep {m : zMem} {T : Int → Int} {n lim p : Int} (cx : CX m T n lim) (ok : okTx T n) (h0 : 0 ≤ p) (h1 : p ≤ n) (hp : m 1 4 = p) : ∃ m', f_X6_step m = some (0, m') ∧ CH m' (lexT T n lim p) ∧ FX m m' := by
  have hN := zN_ge
  have l2 : sLen 2 = 940 := rfl
  obtain ⟨b1, b2, b3, b4⟩ := lexB_r (T := T) h1
  have ok' := ok
  obtain ⟨ok1, ok2, ok3⟩ := ok
  have cx' := cx
  obtain ⟨c1, c2, c3, c4⟩ := cx
  -- blanks
  have skip : ∀ (k : Nat) (i : Int) (f : Nat), p ≤ i → i + k = lexB T n p → k < f → f_X6_step_3 f (zup m 1 4 i) = f_X6_step_j67 (zup m 1 4 (lexB T n p)) := by
    intro k
    induction k with
    | zero =>
      intro i f i0 i1 hf
      obtain ⟨f, rfl⟩ : ∃ q, f = q + 1 := ⟨f - 1, by omega⟩
      have : i = lexB T n p := by omega
      subst this
      show b_X6_step_3 (f_X6_step_3 f) (zup m 1 4 (lexB T n p)) = _
      unfold b_X6_step_3
      have e4 : zup m 1 4 (lexB T n p) 1 4 = lexB T n p := by rw [zup_same, if_pos rfl]
      have e2 : zup m 1 4 (lexB T n p) 1 2 = n := by rw [zup_same, if_neg (by omega), c1]
      rw [e4, e2]
      by_cases hb : lexB T n p ≥ n
      · rw [if_pos hb]
      · have hT := b3 (by omega)
        unfold isB at hT
        simp only [decide_eq_false_iff_not] at hT
        rw [if_neg hb, if_neg (by omega), if_pos (show ix 2 (lexB T n p) from ⟨by omega, by omega⟩), zup_off (by omega), c3 _ (by omega) (by omega), if_neg (by omega), if_pos (show ix 2 (lexB T n p) from ⟨by omega, by omega⟩), if_neg (by omega)]
    | succ k ih =>
      intro i f i0 i1 hf
      obtain ⟨f, rfl⟩ : ∃ q, f = q + 1 := ⟨f - 1, by omega⟩
      have hT := b4 i i0 (by omega)
      unfold isB at hT
      simp only [decide_eq_true_eq] at hT
      have e4 : zup m 1 4 i 1 4 = i := by rw [zup_same, if_pos rfl]
      have e2 : zup m 1 4 i 1 2 = n := by rw [zup_same, if_neg (by omega), c1]
      rw [← ih (i + 1) f (by omega) (by omega) (by omega)]
      show b_X6_step_3 (f_X6_step_3 f) (zup m 1 4 i) = _
      unfold b_X6_step_3
      rw [e4, e2, if_neg (by omega), if_neg (by omega), if_pos (show ix 2 i from ⟨by omega, by omega⟩), zup_off (by omega), c3 _ (by omega) (by omega), if_pos (show ix 2 i from ⟨by omega, by omega⟩)]
      simp only [pipe]
      rw [zup_zup, w32_id ⟨by omega, by omega⟩]
      by_cases h32 : T i = 32
      · rw [if_pos h32]
      · rw [if_neg h32, if_pos (by omega)]
  have e0 : zup m 1 4 p = m := by rw [← hp, zup_id]
  have hsk := skip (lexB T n p - p).toNat p zN (by omega) (by omega) (by omega)
  rw [e0] at hsk
  unfold f_X6_step
  rw [hsk]
  generalize hB : lexB T n p = B at *
  -- at the token
  generalize hm4 : zup (zup (zup (zup m 1 4 B) 1 5 B) 1 7 0) 1 8 (-1) = m4
  have fx4 : FX m m4 := by rw [← hm4]; exact FX_t (FX_t (FX_t (FX_up (by omega)) (FX_up (by omega))) (FX_up (by omega))) (FX_up (by omega))
  have g4 : m4 1 4 = B := by rw [← hm4, zup_same, if_neg (by omega), zup_same, if_neg (by omega), zup_same, if_neg (by omega), zup_same, if_pos rfl]
  have g5 : m4 1 5 = B := by rw [← hm4, zup_same, if_neg (by omega), zup_same, if_neg (by omega), zup_same, if_pos rfl]
  have g8 : m4 1 8 = -1 := by rw [← hm4, zup_same, if_pos rfl]
  have cx4 := CX_fx cx' fx4
  have g2 : m4 1 2 = n := cx4.1
  have g3 : m4 1 3 = lim := cx4.2.1
  have u67 : f_X6_step_j67 (zup m 1 4 B) = if lim < n ∧ lim ≤ B then some (0, zup (zup m4 1 5 lim) 1 6 4) else f_X6_step_j121 m4 := by
    unfold f_X6_step_j67
    simp only [pipe]
    rw [show zup m 1 4 B 1 4 = B by rw [zup_same, if_pos rfl], hm4, g4, g3, g2]
    by_cases hh : lim < n ∧ lim ≤ B
    · rw [if_pos hh, if_neg (by omega), if_neg (by omega)]
    · rw [if_neg hh]
      by_cases h2 : B < lim
      · rw [if_pos h2]
      · rw [if_neg h2, if_pos (by omega)]
  rw [u67]
  unfold lexT
  rw [hB]
  by_cases hlim : lim < n ∧ lim ≤ B
  · rw [if_pos hlim, if_pos hlim]
    refine ⟨_, rfl, ⟨?_, ?_, ?_, fun h => by simp at h, ?_, fun h => by simp at h⟩, FX_t fx4 (FX_t (FX_up (by omega)) (FX_up (by omega)))⟩
    · rw [zup_same, if_neg (by omega), zup_same, if_neg (by omega), g4]
    · rw [zup_same, if_neg (by omega), zup_same, if_pos rfl]
    · rw [zup_same, if_pos rfl]; simp
    · rw [zup_same, if_neg (by omega), zup_same, if_neg (by omega), g8]; simp
  · rw [if_neg hlim, if_neg hlim]
    unfold f_X6_step_j121
    rw [g4, g2]
    by_cases hend : n ≤ B
    · rw [if_pos hend, if_pos hend]
      refine ⟨_, rfl, ⟨?_, ?_, ?_, fun h => by simp at h, ?_, fun h => by simp at h⟩, FX_t fx4 (FX_up (by omega))⟩
      · rw [zup_same, if_neg (by omega), g4]
      · rw [zup_same, if_neg (by omega), g5]
      · rw [zup_same, if_pos rfl]; simp
      · rw [zup_same, if_neg (by omega), g8]; simp
    · rw [if_neg hend, if_neg hend, if_pos (by omega), if_pos (show ix 2 B from ⟨by omega, by omega⟩), cx4.2.2.1 B (by omega) (by omega)]
      simp only [pipe]
      -- a sign, or what is none
      have single : (isL (T B) || isD (T B)) = false → ∃ m', f_X6_step_j189 (T B) m4 = some (0, m') ∧ CH m' (B, B + 1, if isS (T B) = true then 4 else 1, T B, []) ∧ FX m m' := by
        intro _
        unfold f_X6_step_j189
        simp only [pipe]
        rw [g4, w32_id ⟨by omega, by omega⟩]
        have fin : ∀ k : Int, (isS (T B) = true → k = 3) → (isS (T B) = false → k = 4) → CH (zup (zup (zup m4 1 4 (B + 1)) 1 7 (T B)) 1 6 k) (B, B + 1, if isS (T B) = true then 4 else 1, T B, []) ∧ FX m (zup (zup (zup m4 1 4 (B + 1)) 1 7 (T B)) 1 6 k) := by
          intro k k3 k4
          refine ⟨⟨?_, ?_, ?_, ?_, ?_, ?_⟩, FX_t fx4 (FX_t (FX_t (FX_up (by omega)) (FX_up (by omega))) (FX_up (by omega)))⟩
          · rw [zup_same, if_neg (by omega), zup_same, if_neg (by omega), zup_same, if_pos rfl]
          · rw [zup_same, if_neg (by omega), zup_same, if_neg (by omega), zup_same, if_neg (by omega), g5]
          · rw [zup_same, if_pos rfl]
            cases hs : isS (T B) with
            | true => rw [k3 hs]; simp
            | false => rw [k4 hs]; simp
          · intro h
            cases hs : isS (T B) <;> simp [hs] at h
          · rw [zup_same, if_neg (by omega), zup_same, if_neg (by omega), zup_same, if_neg (by omega), g8]
            cases hs : isS (T B) <;> simp
          · intro _
            rw [zup_same, if_neg (by omega), zup_same, if_pos rfl]
        have hsig : isS (T B) = true ↔ (T B = 59 ∨ T B = 60 ∨ T B = 61 ∨ T B = 62 ∨ T B = 40 ∨ T B = 41) := by unfold isS; exact decide_eq_true_iff
        by_cases s : T B = 59 ∨ T B = 60 ∨ T B = 61 ∨ T B = 62 ∨ T B = 40 ∨ T B = 41
        · have f3 := fin 3 (fun _ => rfl) (fun h => by rw [hsig.2 s] at h; exact absurd h (by simp))
          refine ⟨_, ?_, f3⟩
          rcases s with h | h | h | h | h | h <;> rw [h] <;> rfl
        · have f4 := fin 4 (fun h => absurd (hsig.1 h) s) (fun _ => rfl)
          refine ⟨_, ?_, f4⟩
          rw [if_neg (by omega), if_neg (by omega), if_neg (by omega), if_neg (by omega), if_neg (by omega), if_neg (by omega)]
      -- a run
      have running : (isL (T B) || isD (T B)) = true → ∃ m', (zbind (f_X6_readRun m4) fun _ m14 => some (0, m14)) = some ((0 : Int), m') ∧ CH m' (if allP isL T B (lexK T n B) = true ∧ lexK T n B ≤ 7 then (B, B + lexK T n B, 2, 0, wlF T B (lexK T n B)) else if allP isD T B (lexK T n B) = true ∧ lexK T n B ≤ 3 then (B, B + lexK T n B, 3, decF T B (lexK T n B), []) else (B, B + lexK T n B, 1, 0, [])) ∧ FX m m' := by
        intro hc
        obtain ⟨k1, k2, k3, k4⟩ := lexK_r (by omega : B < n) hc
        rw [cRunT cx4 ok' (by omega) g4 (by omega) hc]
        obtain ⟨n1, n2, n3, n4, n5⟩ := nld T B (lexK T n B)
        have nD : nlN T B (lexK T n B) = 0 ↔ allP isD T B (lexK T n B) = true := by
          rw [n5, allP_iff]
          constructor
          · intro h j hj
            have := k3 j hj
            rw [h j hj] at this
            simpa using this
          · intro h j hj
            have := h j hj
            unfold isD at this
            unfold isL
            simp only [decide_eq_true_eq] at this
            simp only [decide_eq_false_iff_not]
            omega
        generalize lexK T n B = K at *
        have fxB : FX m (zup m4 1 4 (B + K)) := FX_t fx4 (FX_up (by omega))
        have w4 : zup m4 1 4 (B + K) 1 4 = B + K := by rw [zup_same, if_pos rfl]
        have w5 : zup m4 1 4 (B + K) 1 5 = B := by rw [zup_same, if_neg (by omega), g5]
        have w8 : zup m4 1 4 (B + K) 1 8 = -1 := by rw [zup_same, if_neg (by omega), g8]
        generalize zup m4 1 4 (B + K) = mb at *
        have cxb := CX_fx cx' fxB
        unfold f_X6_readRun_j121
        simp only [pipe]
        have wrong : CH (zup mb 1 6 4) (B, B + K, 1, 0, []) ∧ FX m (zup mb 1 6 4) := by
          refine ⟨⟨?_, ?_, ?_, fun h => by simp at h, ?_, fun h => by simp at h⟩, FX_t fxB (FX_up (by omega))⟩
          · rw [zup_same, if_neg (by omega), w4]
          · rw [zup_same, if_neg (by omega), w5]
          · rw [zup_same, if_pos rfl]; simp
          · rw [zup_same, if_neg (by omega), w8]; simp
        by_cases hL : allP isL T B K = true
        · have hnd := n4.2 hL
          rw [if_pos hnd]
          by_cases h7 : K ≤ 7
          · rw [if_neg (by omega), if_pos ⟨hL, h7⟩, cwN_ok K h7 hL]
            obtain ⟨m', x1, x2, x3, x4⟩ := cKnown (w := wlF T B K) 24 0 zN (zup (zup mb 1 6 1) 1 7 (pk 32 (wlF T B K))) (by omega) (by omega) (by omega) (by rw [zup_same, if_neg (by omega), zup_same, if_neg (by omega), w8]) (by rw [zup_off (by omega), zup_off (by omega)]; exact cxb.2.2.2)
            rw [x1]
            refine ⟨m', rfl, ⟨?_, ?_, ?_, ?_, ?_, fun h => by simp at h⟩, FX_t fxB (FX_t (FX_t (FX_up (by omega)) (FX_up (by omega))) ⟨x3, fun i hi => x4 i (by omega)⟩)⟩
            · rw [x4 4 (by omega), zup_same, if_neg (by omega), zup_same, if_neg (by omega), w4]
            · rw [x4 5 (by omega), zup_same, if_neg (by omega), zup_same, if_neg (by omega), w5]
            · rw [x4 6 (by omega), zup_same, if_neg (by omega), zup_same, if_pos rfl]; simp
            · intro _
              rw [x4 7 (by omega), zup_same, if_pos rfl]
            · rw [x2]; simp; rfl
          · have hnot : ¬ (allP isD T B K = true) := by
              intro h
              have := nD.2 h
              omega
            rw [if_pos (by omega), if_neg (by omega), if_neg (fun c => h7 c.2), if_neg (fun c => hnot c.1)]
            exact ⟨_, rfl, wrong⟩
        · have hnd : ¬ ndN T B K = 0 := fun c => hL (n4.1 c)
          rw [if_neg hnd, if_neg (c := allP isL T B K = true ∧ K ≤ 7) (fun c => hL c.1)]
          by_cases hD : allP isD T B K = true
          · have hnl := nD.2 hD
            rw [if_pos hnl]
            by_cases h3 : K ≤ 3
            · rw [if_neg (by omega), if_pos ⟨hD, h3⟩, cnN_ok K h3 hD]
              refine ⟨zup (zup mb 1 6 2) 1 7 (decF T B K), rfl, ⟨?_, ?_, ?_, fun h => by simp at h, ?_, fun _ => ?_⟩, FX_t fxB (FX_t (FX_up (by omega)) (FX_up (by omega)))⟩
              · rw [zup_same, if_neg (by omega), zup_same, if_neg (by omega), w4]
              · rw [zup_same, if_neg (by omega), zup_same, if_neg (by omega), w5]
              · rw [zup_same, if_neg (by omega), zup_same, if_pos rfl]; simp
              · rw [zup_same, if_neg (by omega), zup_same, if_neg (by omega), w8]; simp
              · rw [zup_same, if_pos rfl]
            · rw [if_pos (by omega), if_neg (fun c => h3 c.2)]
              exact ⟨_, rfl, wrong⟩
          · have hnl : ¬ nlN T B K = 0 := fun c => hD (nD.1 c)
            rw [if_neg hnl, if_neg (c := allP isD T B K = true ∧ K ≤ 3) (fun c => hD c.1)]
            exact ⟨_, rfl, wrong⟩
      have hlr : isL (T B) = true ↔ (97 ≤ T B ∧ T B ≤ 122) := by unfold isL; exact decide_eq_true_iff
      have hdr : isD (T B) = true ↔ (48 ≤ T B ∧ T B ≤ 57) := by unfold isD; exact decide_eq_true_iff
      by_cases hc : (isL (T B) || isD (T B)) = true
      · rw [if_pos hc]
        obtain ⟨m', y1, y2⟩ := running hc
        refine ⟨m', ?_, y2⟩
        simp only [Bool.or_eq_true] at hc
        by_cases h97 : T B < 97
        · have : 48 ≤ T B ∧ T B ≤ 57 := by
            rcases hc with h | h
            · have := hlr.1 h; omega
            · exact hdr.1 h
          rw [if_pos h97, if_neg (by omega), if_neg (by omega)]
          exact y1
        · have : T B ≤ 122 := by
            rcases hc with h | h
            · exact (hlr.1 h).2
            · have := hdr.1 h; omega
          rw [if_neg h97, if_pos this]
          exact y1
      · have hcf : (isL (T B) || isD (T B)) = false := by simpa using hc
        rw [if_neg hc]
        obtain ⟨m', y1, y2⟩ := single hcf
        refine ⟨m', ?_, y2⟩
        simp only [Bool.or_eq_false_iff] at hcf
        have q1 : ¬ (97 ≤ T B ∧ T B ≤ 122) := fun c => by rw [hlr.2 c] at hcf; exact absurd hcf.1 (by simp)
        have q2 : ¬ (48 ≤ T B ∧ T B ≤ 57) := fun c => by rw [hdr.2 c] at hcf; exact absurd hcf.2 (by simp)
        by_cases h97 : T B < 97
        · rw [if_pos h97]
          by_cases h48 : T B < 48
          · rw [if_pos h48]; exact y1
          · rw [if_neg h48, if_pos (by omega)]; exact y1
        · rw [if_neg h97, if_neg (by omega), if_neg (by omega), if_pos (by omega)]
          exact y1
