theorem mIsLetter (c : Int) (m : zMem) : f_X12_isLetter c m = some (bi (isL c = true), m) := by
  unfold f_X12_isLetter isL
  simp only [decide_eq_true_eq]
  by_cases h1 : c < 97
  · rw [if_pos h1, bi_f (by omega)]
  · rw [if_neg h1]
    by_cases h2 : c > 122
    · rw [if_pos h2, bi_f (by omega)]
    · rw [if_neg h2, bi_t (by omega)]
theorem mIsDigit (c : Int) (m : zMem) : f_X12_isDigit c m = some (bi (isD c = true), m) := by
  unfold f_X12_isDigit isD
  simp only [decide_eq_true_eq]
  by_cases h1 : c < 48
  · rw [if_pos h1, bi_f (by omega)]
  · rw [if_neg h1]
    by_cases h2 : c > 57
    · rw [if_pos h2, bi_f (by omega)]
    · rw [if_neg h2, bi_t (by omega)]
def rwN (T : Int → Int) (b : Int) : Nat → Int
  | 0 => 0
  | k + 1 => if k < 7 then w64 (w64 (w64 (27 * rwN T b k) + T (b + k)) - 96) else rwN T b k
def rnN (T : Int → Int) (b : Int) : Nat → Int
  | 0 => 0
  | k + 1 => if k < 3 then w32 (w32 (w32 (10 * rnN T b k) + T (b + k)) - 48) else rnN T b k
def gdN (T : Int → Int) (b v : Int) : Nat → Int
  | 0 => 1
  | k + 1 => if gdN T b v k = 0 then 0 else if bi (isL (T (b + k)) = true) = v then 1 else 0
theorem rwN_s (T : Int → Int) (b : Int) (k : Nat) : rwN T b (k + 1) = if k < 7 then w64 (w64 (w64 (27 * rwN T b k) + T (b + k)) - 96) else rwN T b k := rfl
theorem rnN_s (T : Int → Int) (b : Int) (k : Nat) : rnN T b (k + 1) = if k < 3 then w32 (w32 (w32 (10 * rnN T b k) + T (b + k)) - 48) else rnN T b k := rfl
theorem gdN_s (T : Int → Int) (b v : Int) (k : Nat) : gdN T b v (k + 1) = if gdN T b v k = 0 then 0 else if bi (isL (T (b + k)) = true) = v then 1 else 0 := rfl
theorem gdN_r (T : Int → Int) (b v : Int) (k : Nat) : (gdN T b v k = 0 ∨ gdN T b v k = 1) ∧ (gdN T b v k = 1 ↔ ∀ j : Nat, j < k → bi (isL (T (b + j)) = true) = v) := by
  induction k with
  | zero => exact ⟨Or.inr rfl, ⟨fun _ j h => by omega, fun _ => rfl⟩⟩
  | succ k ih =>
    rw [gdN_s]
    by_cases h0 : gdN T b v k = 0
    · rw [if_pos h0]
      refine ⟨Or.inl rfl, fun h => by omega, fun h => ?_⟩
      have := ih.2.2 (fun j hj => h j (by omega))
      omega
    · rw [if_neg h0]
      have h1 := ih.2.1 (by omega)
      by_cases hk : bi (isL (T (b + k)) = true) = v
      · rw [if_pos hk]
        refine ⟨Or.inr rfl, fun _ j hj => ?_, fun _ => rfl⟩
        by_cases h : j = k
        · rw [h]; exact hk
        · exact h1 j (by omega)
      · rw [if_neg hk]
        exact ⟨Or.inl rfl, fun h => by omega, fun h => absurd (h k (by omega)) hk⟩
theorem rwN_ok {T : Int → Int} {b : Int} : ∀ k : Nat, k ≤ 7 → allP isL T b k = true → rwN T b k = pk 27 (wlF T b k) := by
  intro k
  induction k with
  | zero => intro _ _; rfl
  | succ k ih =>
    intro hk h
    rw [allP_s, Bool.and_eq_true] at h
    have hl := h.2
    unfold isL at hl
    simp only [decide_eq_true_eq] at hl
    obtain ⟨o1, o2⟩ := wlF_ok h.1
    have hb := pk_bound (b := 27) (by omega) (wlF T b k) (fun x hx => by have := o2 x hx; omega)
    rw [o1] at hb
    have hp : (27 : Int) ^ k ≤ 27 ^ 6 := powle (by omega) (by omega)
    rw [rwN_s, if_pos (by omega), ih (by omega) h.1, wlF_s, pk_cat, w64_id (x := 27 * pk 27 (wlF T b k)) ⟨by omega, by omega⟩, w64_id (x := 27 * pk 27 (wlF T b k) + T (b + k)) ⟨by omega, by omega⟩, w64_id ⟨by omega, by omega⟩]
    omega
theorem rnN_ok {T : Int → Int} {b : Int} : ∀ k : Nat, k ≤ 3 → allP isD T b k = true → rnN T b k = decF T b k := by
  intro k
  induction k with
  | zero => intro _ _; rfl
  | succ k ih =>
    intro hk h
    rw [allP_s, Bool.and_eq_true] at h
    have hl := h.2
    unfold isD at hl
    simp only [decide_eq_true_eq] at hl
    have hr := decF_r k h.1
    have hp : (10 : Int) ^ k ≤ 10 ^ 2 := powle (by omega) (by omega)
    rw [rnN_s, if_pos (by omega), ih (by omega) h.1, decF_s, w32_id (x := 10 * decF T b k) ⟨by omega, by omega⟩, w32_id (x := 10 * decF T b k + T (b + k)) ⟨by omega, by omega⟩, w32_id ⟨by omega, by omega⟩]
def FY (r r' : zMem) : Prop := (∀ q, q ≠ 138 → r' q = r q) ∧ ∀ i, (i < 5 ∨ (9 < i ∧ i ≠ 12)) → r' 138 i = r 138 i
theorem FY_r (m : zMem) : FY m m := ⟨fun _ _ => rfl, fun _ _ => rfl⟩
theorem FY_t {a b c : zMem} (h1 : FY a b) (h2 : FY b c) : FY a c := ⟨fun q x => (h2.1 q x).trans (h1.1 q x), fun i x => (h2.2 i x).trans (h1.2 i x)⟩
theorem FY_up {m : zMem} {i v : Int} (h : (5 ≤ i ∧ i ≤ 9) ∨ i = 12) : FY m (zup m 138 i v) := ⟨fun q hq => zup_off hq, fun j hj => by rw [zup_same, if_neg (by omega)]⟩
theorem RX_fy {m m' : zMem} {T : Int → Int} {n lim : Int} (c : RX m T n lim) (h : FY m m') : RX m' T n lim := ⟨by rw [h.2 3 (by omega)]; exact c.1, by rw [h.2 4 (by omega)]; exact c.2.1, by rw [h.1 139 (by omega)]; exact c.2.2⟩
theorem mTapeAt {r : zMem} {T : Int → Int} {n lim i : Int} (rx : RX r T n lim) (ok : okTx T n) (h0 : 0 ≤ i) : f_X12_tapeAt i r = some (if i < n then T i else 0, r) := by
  have l139 : sLen 139 = 940 := rfl
  have ok2 := ok.2.1
  unfold f_X12_tapeAt
  rw [rx.1]
  by_cases h : i < n
  · rw [if_neg (by omega), if_pos (show ix 139 i from ⟨h0, by omega⟩), rx.2.2 i h0 h, if_pos h]
  · rw [if_pos (by omega), if_neg h]
/-- a run of letters and digits, by the reference -/
theorem mRunT {T : Int → Int} {n lim b v : Int} (ok : okTx T n) (h0 : 0 ≤ b) (hbn : b < n) (hc : (isL (T b) || isD (T b)) = true) (hv : v = bi (isL (T b) = true)) : ∀ (k j : Nat) (f : Nat) (m : zMem), j + k = lexK T n b → 3 * k < f → RX m T n lim → m 138 5 = b + j → m 138 6 = b → m 138 12 = rwN T b j → m 138 8 = rnN T b j → ∃ m', f_X12_go_0 f 0 v (gdN T b v j) 0 m = some (0, m') ∧ FY m m' ∧ m' 138 5 = b + lexK T n b ∧ m' 138 6 = b ∧ m' 138 12 = rwN T b (lexK T n b) ∧ m' 138 8 = rnN T b (lexK T n b) ∧ m' 138 7 = (if gdN T b v (lexK T n b) = 0 then 1 else if v = 0 then (if lexK T n b ≤ 3 then 3 else 1) else (if lexK T n b ≤ 7 then 2 else 1)) := by
  have l139 : sLen 139 = 940 := rfl
  obtain ⟨k1, k2, k3, k4⟩ := lexK_r hbn hc
  have ok2 := ok.2.1
  have ok3 := ok.2.2
  generalize lexK T n b = K at *
  intro k
  induction k with
  | zero =>
    intro j f m hj hf rx e5 e6 e12 e8
    obtain ⟨f, rfl⟩ : ∃ q, f = q + 1 := ⟨f - 1, by omega⟩
    have hjK : j = K := by omega
    subst hjK
    have ht := mTapeAt (i := b + j) rx ok (by omega)
    have hnl : isL (if b + (j : Int) < n then T (b + j) else 0) = false ∧ isD (if b + (j : Int) < n then T (b + j) else 0) = false := by
      by_cases h : b + (j : Int) < n
      · rw [if_pos h]
        have := k4 h
        simp only [Bool.or_eq_false_iff] at this
        exact this
      · rw [if_neg h]
        exact ⟨rfl, rfl⟩
    have ew : w32 (b + (j : Int) - b) = (j : Int) := by rw [w32_id ⟨by omega, by omega⟩]; omega
    have u : f_X12_go_0 (f + 1) 0 v (gdN T b v j) 0 m = some (0, zup m 138 7 (if gdN T b v j = 0 then 1 else if v = 0 then (if j ≤ 3 then 3 else 1) else (if j ≤ 7 then 2 else 1))) := by
      show b_X12_go_0 (f_X12_go_0 f) 0 v (gdN T b v j) 0 m = _
      simp only [b_X12_go_0, e5, e6, ht, zbind, mIsLetter, mIsDigit, bi0, pipe]
      rw [hnl.1, hnl.2, if_neg (by simp), if_neg (by simp), ew]
      by_cases hg : gdN T b v j = 0
      · rw [if_pos hg, if_pos hg]
      · rw [if_neg hg, if_neg hg]
        by_cases hv0 : v = 0
        · rw [if_pos hv0, if_pos hv0]
          by_cases h3 : j ≤ 3
          · rw [if_pos (by omega), if_pos hv0, if_pos h3]
          · rw [if_neg (by omega), if_neg h3, if_pos hv0]
        · rw [if_neg hv0, if_neg hv0]
          by_cases h7 : j ≤ 7
          · rw [if_pos (by omega), if_neg hv0, if_pos h7]
          · rw [if_neg (by omega), if_neg h7, if_neg hv0]
    refine ⟨_, u, FY_up (by omega), ?_, ?_, ?_, ?_, ?_⟩
    · rw [zup_same, if_neg (by omega), e5]
    · rw [zup_same, if_neg (by omega), e6]
    · rw [zup_same, if_neg (by omega), e12]
    · rw [zup_same, if_neg (by omega), e8]
    · rw [zup_same, if_pos rfl]
  | succ k ih =>
    intro j f m hj hf rx e5 e6 e12 e8
    obtain ⟨f, rfl⟩ : ∃ q, f = q + 3 := ⟨f - 3, by omega⟩
    have ht := mTapeAt (i := b + j) rx ok (by omega)
    rw [if_pos (by omega)] at ht
    have al := k3 j (by omega)
    have hT := ok3 (b + j) (by omega) (by omega)
    have ew : w32 (b + (j : Int) - b) = (j : Int) := by rw [w32_id ⟨by omega, by omega⟩]; omega
    have eT : m 139 (b + j) = T (b + j) := rx.2.2 _ (by omega) (by omega)
    -- the word so far
    have A : ∃ m1, f_X12_go_0 (f + 3) 0 v (gdN T b v j) 0 m = f_X12_go_0 (f + 1) 2 v (gdN T b v (j + 1)) (T (b + j)) m1 ∧ FY m m1 ∧ m1 138 5 = b + j ∧ m1 138 6 = b ∧ m1 138 12 = rwN T b (j + 1) ∧ m1 138 8 = rnN T b j := by
      have u0 : f_X12_go_0 (f + 3) 0 v (gdN T b v j) 0 m = f_X12_go_0 (f + 2) 1 v (gdN T b v j) 0 m := by
        show b_X12_go_0 (f_X12_go_0 (f + 2)) 0 v (gdN T b v j) 0 m = _
        simp only [b_X12_go_0, e5, e6, ht, zbind, mIsLetter, mIsDigit, bi0, pipe]
        by_cases hl : isL (T (b + j)) = true
        · rw [if_pos hl]
        · rw [if_neg hl]
          have hd : isD (T (b + j)) = true := by
            cases h : isL (T (b + j)) with
            | true => exact absurd h hl
            | false => rw [h] at al; simpa using al
          rw [if_pos hd]
      rw [u0]
      refine ⟨if j < 7 then zup m 138 12 (w64 (w64 (w64 (27 * rwN T b j) + T (b + j)) - 96)) else m, ?_, ?_, ?_, ?_, ?_, ?_⟩
      · show b_X12_go_0 (f_X12_go_0 (f + 1)) 1 v (gdN T b v j) 0 m = _
        simp only [b_X12_go_0, e5, e6, e12, eT, zbind, mIsLetter, pipe, ew]
        rw [if_pos (show ix 139 (b + j) from ⟨by omega, by omega⟩), gdN_s]
        by_cases hg : gdN T b v j = 0
        · rw [if_pos hg, if_pos hg]
          by_cases h7 : j < 7
          · rw [if_neg (by omega), if_pos h7]
          · rw [if_pos (by omega), if_neg h7]
        · rw [if_neg hg, if_neg hg]
          by_cases hl : bi (isL (T (b + j)) = true) = v
          · rw [if_pos hl, if_pos hl]
            by_cases h7 : j < 7
            · rw [if_neg (by omega), if_pos h7]
            · rw [if_pos (by omega), if_neg h7]
          · rw [if_neg hl, if_neg hl]
            by_cases h7 : j < 7
            · rw [if_neg (by omega), if_pos h7]
            · rw [if_pos (by omega), if_neg h7]
      · split
        · exact FY_up (by omega)
        · exact FY_r m
      · split
        · rw [zup_same, if_neg (by omega), e5]
        · exact e5
      · split
        · rw [zup_same, if_neg (by omega), e6]
        · exact e6
      · rw [rwN_s]
        by_cases h7 : j < 7
        · rw [if_pos h7, if_pos h7, zup_same, if_pos rfl]
        · rw [if_neg h7, if_neg h7, e12]
      · split
        · rw [zup_same, if_neg (by omega), e8]
        · exact e8
    obtain ⟨m1, a1, a2, a3, a4, a5, a6⟩ := A
    have Bx : ∃ m2, f_X12_go_0 (f + 1) 2 v (gdN T b v (j + 1)) (T (b + j)) m1 = f_X12_go_0 f 0 v (gdN T b v (j + 1)) 0 m2 ∧ FY m1 m2 ∧ m2 138 5 = b + ((j + 1 : Nat) : Int) ∧ m2 138 6 = b ∧ m2 138 12 = rwN T b (j + 1) ∧ m2 138 8 = rnN T b (j + 1) := by
      have e1 : w32 (b + (j : Int) + 1) = b + ((j + 1 : Nat) : Int) := by rw [w32_id ⟨by omega, by omega⟩]; omega
      by_cases h3 : j < 3
      · refine ⟨zup (zup m1 138 8 (w32 (w32 (w32 (10 * rnN T b j) + T (b + j)) - 48))) 138 5 (b + ((j + 1 : Nat) : Int)), ?_, FY_t (FY_up (by omega)) (FY_up (by omega)), ?_, ?_, ?_, ?_⟩
        · show b_X12_go_0 (f_X12_go_0 f) 2 v (gdN T b v (j + 1)) (T (b + j)) m1 = _
          simp only [b_X12_go_0, a3, a4, a6, ew, pipe]
          rw [if_neg (by omega), zup_same, if_neg (by omega), a3, e1]
        · rw [zup_same, if_pos rfl]
        · rw [zup_same, if_neg (by omega), zup_same, if_neg (by omega), a4]
        · rw [zup_same, if_neg (by omega), zup_same, if_neg (by omega), a5]
        · rw [zup_same, if_neg (by omega), zup_same, if_pos rfl, rnN_s, if_pos h3]
      · refine ⟨zup m1 138 5 (b + ((j + 1 : Nat) : Int)), ?_, FY_up (by omega), ?_, ?_, ?_, ?_⟩
        · show b_X12_go_0 (f_X12_go_0 f) 2 v (gdN T b v (j + 1)) (T (b + j)) m1 = _
          simp only [b_X12_go_0, a3, a4, a6, ew, pipe]
          rw [if_pos (by omega), e1]
        · rw [zup_same, if_pos rfl]
        · rw [zup_same, if_neg (by omega), a4]
        · rw [zup_same, if_neg (by omega), a5]
        · rw [zup_same, if_neg (by omega), a6, rnN_s, if_neg h3]
    obtain ⟨m2, c1, c2, c3, c4, c5, c6⟩ := Bx
    obtain ⟨m', d1, d2, d3⟩ := ih (j + 1) f m2 (by omega) (by omega) (RX_fy rx (FY_t a2 c2)) c3 c4 c5 c6
    exact ⟨m', by rw [a1, c1, d1], FY_t (FY_t a2 c2) d2, d3⟩
theorem mGoT {r : zMem} {T : Int → Int} {n lim p : Int} (rx : RX r T n lim) (ok : okTx T n) (h0 : 0 ≤ p) (h1 : p ≤ n) (hp : r 138 5 = p) : ∃ r', f_X12_go r = some (0, r') ∧ RH r' (lexT T n lim p) ∧ FY r r' := by
  have hN := zN_ge
  have l139 : sLen 139 = 940 := rfl
  obtain ⟨b1, b2, b3, b4⟩ := lexB_r (T := T) h1
  have ok' := ok
  obtain ⟨ok1, ok2, ok3⟩ := ok
  have rx' := rx
  obtain ⟨c1, c2, c3⟩ := rx
  -- blanks
  have skip : ∀ (k : Nat) (i : Int) (f : Nat), p ≤ i → i + k = lexB T n p → k < f → f_X12_go_2 f (zup r 138 5 i) = (if lim < n ∧ lim ≤ lexB T n p then some (0, zup (zup (zup (zup r 138 5 (lexB T n p)) 138 6 (lexB T n p)) 138 6 lim) 138 7 1) else f_X12_go_j96 (zup (zup r 138 5 (lexB T n p)) 138 6 (lexB T n p))) := by
    intro k
    induction k with
    | zero =>
      intro i f i0 i1 hf
      obtain ⟨f, rfl⟩ : ∃ q, f = q + 1 := ⟨f - 1, by omega⟩
      have : i = lexB T n p := by omega
      subst this
      have e5 : zup r 138 5 (lexB T n p) 138 5 = lexB T n p := by rw [zup_same, if_pos rfl]
      have e3 : zup r 138 5 (lexB T n p) 138 3 = n := by rw [zup_same, if_neg (by omega), c1]
      have e3' : zup (zup r 138 5 (lexB T n p)) 138 6 (lexB T n p) 138 3 = n := by rw [zup_same, if_neg (by omega), e3]
      have e4' : zup (zup r 138 5 (lexB T n p)) 138 6 (lexB T n p) 138 4 = lim := by rw [zup_same, if_neg (by omega), zup_same, if_neg (by omega), c2]
      have e6' : zup (zup r 138 5 (lexB T n p)) 138 6 (lexB T n p) 138 6 = lexB T n p := by rw [zup_same, if_pos rfl]
      have tail : (if (zup (zup r 138 5 (lexB T n p)) 138 6 (lexB T n p) 138 3) ≤ (zup (zup r 138 5 (lexB T n p)) 138 6 (lexB T n p) 138 4) then (f_X12_go_j96 (zup (zup r 138 5 (lexB T n p)) 138 6 (lexB T n p))) else (if (zup (zup r 138 5 (lexB T n p)) 138 6 (lexB T n p) 138 6) < (zup (zup r 138 5 (lexB T n p)) 138 6 (lexB T n p) 138 4) then (f_X12_go_j96 (zup (zup r 138 5 (lexB T n p)) 138 6 (lexB T n p))) else some ((0 : Int), zup (zup (zup (zup r 138 5 (lexB T n p)) 138 6 (lexB T n p)) 138 6 (zup (zup r 138 5 (lexB T n p)) 138 6 (lexB T n p) 138 4)) 138 7 1))) = (if lim < n ∧ lim ≤ lexB T n p then some (0, zup (zup (zup (zup r 138 5 (lexB T n p)) 138 6 (lexB T n p)) 138 6 lim) 138 7 1) else f_X12_go_j96 (zup (zup r 138 5 (lexB T n p)) 138 6 (lexB T n p))) := by
        rw [e3', e4', e6']
        by_cases hh : lim < n ∧ lim ≤ lexB T n p
        · rw [if_pos hh, if_neg (by omega), if_neg (by omega)]
        · rw [if_neg hh]
          by_cases h2 : n ≤ lim
          · rw [if_pos h2]
          · rw [if_neg h2, if_pos (by omega)]
      rw [← tail]
      show b_X12_go_2 (f_X12_go_2 f) (zup r 138 5 (lexB T n p)) = _
      unfold b_X12_go_2
      simp only [pipe]
      rw [e5, e3]
      by_cases hb : lexB T n p ≥ n
      · rw [if_pos hb]
      · have hT := b3 (by omega)
        unfold isB at hT
        simp only [decide_eq_false_iff_not] at hT
        rw [if_neg hb, if_pos (show ix 139 (lexB T n p) from ⟨by omega, by omega⟩), zup_off (p := 139) (by omega), c3 _ (by omega) (by omega), if_neg (by omega), if_pos (show ix 139 (lexB T n p) from ⟨by omega, by omega⟩), if_neg (by omega)]
    | succ k ih =>
      intro i f i0 i1 hf
      obtain ⟨f, rfl⟩ : ∃ q, f = q + 1 := ⟨f - 1, by omega⟩
      have hT := b4 i i0 (by omega)
      unfold isB at hT
      simp only [decide_eq_true_eq] at hT
      have e5 : zup r 138 5 i 138 5 = i := by rw [zup_same, if_pos rfl]
      have e3 : zup r 138 5 i 138 3 = n := by rw [zup_same, if_neg (by omega), c1]
      rw [← ih (i + 1) f (by omega) (by omega) (by omega)]
      show b_X12_go_2 (f_X12_go_2 f) (zup r 138 5 i) = _
      unfold b_X12_go_2
      simp only [pipe]
      rw [e5, e3, if_neg (by omega), if_pos (show ix 139 i from ⟨by omega, by omega⟩), zup_off (p := 139) (by omega), c3 _ (by omega) (by omega), if_pos (show ix 139 i from ⟨by omega, by omega⟩), zup_zup, w32_id ⟨by omega, by omega⟩]
      by_cases h32 : T i = 32
      · rw [if_pos h32]
      · rw [if_neg h32, if_pos (by omega)]
  have e0 : zup r 138 5 p = r := by rw [← hp, zup_id]
  have hsk := skip (lexB T n p - p).toNat p zN (by omega) (by omega) (by omega)
  rw [e0] at hsk
  unfold f_X12_go
  rw [hsk]
  generalize hB : lexB T n p = B at *
  generalize hm4 : zup (zup r 138 5 B) 138 6 B = m4
  have fx4 : FY r m4 := by rw [← hm4]; exact FY_t (FY_up (by omega)) (FY_up (by omega))
  have g5 : m4 138 5 = B := by rw [← hm4, zup_same, if_neg (by omega), zup_same, if_pos rfl]
  have g6 : m4 138 6 = B := by rw [← hm4, zup_same, if_pos rfl]
  have rx4 := RX_fy rx' fx4
  unfold lexT
  rw [hB]
  by_cases hlim : lim < n ∧ lim ≤ B
  · rw [if_pos hlim, if_pos hlim]
    refine ⟨_, rfl, ⟨?_, ?_, ?_, fun h => by simp at h, fun h => by simp at h, fun h => by simp at h⟩, FY_t fx4 (FY_t (FY_up (by omega)) (FY_up (by omega)))⟩
    · rw [zup_same, if_neg (by omega), zup_same, if_neg (by omega), g5]
    · rw [zup_same, if_neg (by omega), zup_same, if_pos rfl]
    · rw [zup_same, if_pos rfl]
  · rw [if_neg hlim, if_neg hlim]
    unfold f_X12_go_j96
    rw [g5, rx4.1]
    by_cases hend : n ≤ B
    · rw [if_neg (by omega), if_pos hend]
      refine ⟨_, rfl, ⟨?_, ?_, ?_, fun h => by simp at h, fun h => by simp at h, fun h => by simp at h⟩, FY_t fx4 (FY_up (by omega))⟩
      · rw [zup_same, if_neg (by omega), g5]
      · rw [zup_same, if_neg (by omega), g6]
      · rw [zup_same, if_pos rfl]
    · rw [if_pos (by omega), if_neg hend, if_pos (show ix 139 B from ⟨by omega, by omega⟩), rx4.2.2 B (by omega) (by omega)]
      simp only [pipe, mIsLetter, mIsDigit, zbind, bi0]
      by_cases hc : (isL (T B) || isD (T B)) = true
      · rw [if_pos hc]
        obtain ⟨k1, k2, k3, k4⟩ := lexK_r (by omega : B < n) hc
        generalize hm6 : zup (zup m4 138 12 0) 138 8 0 = m6
        have fx6 : FY r m6 := by rw [← hm6]; exact FY_t fx4 (FY_t (FY_up (by omega)) (FY_up (by omega)))
        obtain ⟨m', y1, y2, y3, y4, y5, y6, y7⟩ := mRunT ok' (by omega : 0 ≤ B) (by omega : B < n) hc (v := bi (isL (T B) = true)) rfl (lexK T n B) 0 zN m6 (by omega) (by omega) (RX_fy rx' fx6) (by rw [← hm6, zup_same, if_neg (by omega), zup_same, if_neg (by omega), g5]; simp) (by rw [← hm6, zup_same, if_neg (by omega), zup_same, if_neg (by omega), g6]) (by rw [← hm6, zup_same, if_neg (by omega), zup_same, if_pos rfl]; rfl) (by rw [← hm6, zup_same, if_pos rfl]; rfl)
        have run1 : f_X12_go_0 zN 0 (bi (isL (T B) = true)) 1 0 m6 = some (0, m') := y1
        refine ⟨m', ?_, ?_, FY_t fx6 y2⟩
        · by_cases hl : isL (T B) = true
          · rw [if_pos hl]
            exact run1
          · rw [if_neg hl]
            have hd : isD (T B) = true := by
              cases h : isL (T B) with
              | true => exact absurd h hl
              | false => rw [h] at hc; simpa using hc
            rw [if_pos hd]
            exact run1
        · have gr := gdN_r T B (bi (isL (T B) = true)) (lexK T n B)
          have hb0 : bi (isL (T (B + ((0 : Nat) : Int))) = true) = bi (isL (T B) = true) := by simp
          by_cases hl : isL (T B) = true
          · rw [bi_t hl] at gr y7
            have gL : gdN T B 1 (lexK T n B) = 1 ↔ allP isL T B (lexK T n B) = true := by
              rw [gr.2, allP_iff]
              constructor
              · intro h j hj
                have := h j hj
                cases h2 : isL (T (B + j)) with
                | true => rfl
                | false => rw [h2] at this; simp at this
              · intro h j hj
                rw [bi_t (h j hj)]
            have nD : ¬ allP isD T B (lexK T n B) = true := by
              rw [allP_iff]
              intro h
              have := h 0 (by omega)
              unfold isD at this
              unfold isL at hl
              simp only [decide_eq_true_eq] at hl
              simp at this
              omega
            by_cases hL : allP isL T B (lexK T n B) = true ∧ lexK T n B ≤ 7
            · rw [if_pos hL]
              have hg := gL.2 hL.1
              rw [if_neg (by omega), if_neg (by omega), if_pos hL.2] at y7
              exact ⟨y3, y4, y7, fun _ => by rw [y5, rwN_ok _ hL.2 hL.1], fun h => by simp at h, fun h => by simp at h⟩
            · rw [if_neg hL, if_neg (fun c => nD c.1)]
              have hy : m' 138 7 = 1 := by
                rw [y7]
                by_cases hg : gdN T B 1 (lexK T n B) = 0
                · rw [if_pos hg]
                · have h1 : gdN T B 1 (lexK T n B) = 1 := by omega
                  rw [if_neg hg, if_neg (by omega), if_neg (fun c => hL ⟨gL.1 h1, c⟩)]
              exact ⟨y3, y4, hy, fun h => by simp at h, fun h => by simp at h, fun h => by simp at h⟩
          · rw [bi_f hl] at gr y7
            have gD : gdN T B 0 (lexK T n B) = 1 ↔ allP isD T B (lexK T n B) = true := by
              rw [gr.2, allP_iff]
              constructor
              · intro h j hj
                have := h j hj
                have al := k3 j hj
                cases h2 : isL (T (B + j)) with
                | true => rw [h2] at this; simp at this
                | false => rw [h2] at al; simpa using al
              · intro h j hj
                have := h j hj
                refine bi_f ?_
                unfold isD at this
                unfold isL
                simp only [decide_eq_true_eq] at this ⊢
                omega
            have nL : ¬ allP isL T B (lexK T n B) = true := by
              rw [allP_iff]
              intro h
              have := h 0 (by omega)
              simp at this
              exact hl this
            rw [if_neg (c := allP isL T B (lexK T n B) = true ∧ lexK T n B ≤ 7) (fun c => nL c.1)]
            by_cases hD : allP isD T B (lexK T n B) = true ∧ lexK T n B ≤ 3
            · rw [if_pos hD]
              have hg := gD.2 hD.1
              rw [if_neg (by omega), if_pos rfl, if_pos hD.2] at y7
              exact ⟨y3, y4, y7, fun h => by simp at h, fun _ => by rw [y6, rnN_ok _ hD.2 hD.1], fun h => by simp at h⟩
            · rw [if_neg hD]
              have hy : m' 138 7 = 1 := by
                rw [y7]
                by_cases hg : gdN T B 0 (lexK T n B) = 0
                · rw [if_pos hg]
                · have h1 : gdN T B 0 (lexK T n B) = 1 := by omega
                  rw [if_neg hg, if_pos rfl, if_neg (fun c => hD ⟨gD.1 h1, c⟩)]
              exact ⟨y3, y4, hy, fun h => by simp at h, fun h => by simp at h, fun h => by simp at h⟩
      · rw [if_neg hc]
        have hcf : (isL (T B) || isD (T B)) = false := by simpa using hc
        simp only [Bool.or_eq_false_iff] at hcf
        rw [if_neg (by rw [hcf.1]; simp), if_neg (by rw [hcf.2]; simp)]
        have fin : ∀ k : Int, (isS (T B) = true → k = 4) → (isS (T B) = false → k = 1) → RH (zup (zup (zup m4 138 7 k) 138 9 (T B)) 138 5 (B + 1)) (B, B + 1, if isS (T B) = true then 4 else 1, T B, []) ∧ FY r (zup (zup (zup m4 138 7 k) 138 9 (T B)) 138 5 (B + 1)) := by
          intro k k3 k4
          refine ⟨⟨?_, ?_, ?_, ?_, ?_, ?_⟩, FY_t fx4 (FY_t (FY_t (FY_up (by omega)) (FY_up (by omega))) (FY_up (by omega)))⟩
          · rw [zup_same, if_pos rfl]
          · rw [zup_same, if_neg (by omega), zup_same, if_neg (by omega), zup_same, if_neg (by omega), g6]
          · rw [zup_same, if_neg (by omega), zup_same, if_neg (by omega), zup_same, if_pos rfl]
            cases hs : isS (T B) with
            | true => rw [k3 hs]; simp
            | false => rw [k4 hs]; simp
          · intro h
            cases hs : isS (T B) <;> simp [hs] at h
          · intro h
            cases hs : isS (T B) <;> simp [hs] at h
          · intro _
            rw [zup_same, if_neg (by omega), zup_same, if_pos rfl]
        have e5 : ∀ k : Int, w32 (zup (zup m4 138 7 k) 138 9 (T B) 138 5 + 1) = B + 1 := fun k => by rw [zup_same, if_neg (by omega), zup_same, if_neg (by omega), g5, w32_id ⟨by omega, by omega⟩]
        rw [e5, e5]
        have hsig : isS (T B) = true ↔ (T B = 59 ∨ T B = 60 ∨ T B = 61 ∨ T B = 62 ∨ T B = 40 ∨ T B = 41) := by unfold isS; exact decide_eq_true_iff
        by_cases s : T B = 59 ∨ T B = 60 ∨ T B = 61 ∨ T B = 62 ∨ T B = 40 ∨ T B = 41
        · have f3 := fin 4 (fun _ => rfl) (fun h => by rw [hsig.2 s] at h; exact absurd h (by simp))
          refine ⟨_, ?_, f3⟩
          rcases s with h | h | h | h | h | h <;> rw [h] <;> rfl
        · have f4 := fin 1 (fun h => absurd (hsig.1 h) s) (fun _ => rfl)
          refine ⟨_, ?_, f4⟩
          rw [if_neg (by omega), if_neg (by omega), if_neg (by omega), if_neg (by omega), if_neg (by omega), if_neg (by omega)]
