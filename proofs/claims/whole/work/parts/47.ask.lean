/-! calls that answer alone -/
theorem qFault {mem : zMem} (R : Rel mem) : okC f_X11_fault f_X12_fault mem := by
  have V := R.2.2.2.1
  refine okQ R (mem 0 15) rfl ?_
  unfold f_X12_fault
  simp only [pipe, m00_eq]
  rw [m00_at (by omega), V.1]
theorem qSpareAt {mem : zMem} (R : Rel mem) : okC f_X11_spareAt f_X12_spareAt mem := by
  have V := R.2.2.2.1
  refine okQ R (mem 0 16) rfl ?_
  unfold f_X12_spareAt
  simp only [pipe, m00_eq]
  rw [m00_at (by omega), V.2.1]
theorem qAsk {mem : zMem} (R : Rel mem) : okC f_X11_ask f_X12_ask mem := by
  have V := R.2.2.2.1
  refine okQ R (mem 0 17) rfl ?_
  unfold f_X12_ask
  simp only [pipe, m00_eq]
  rw [m00_at (by omega), V.2.2.1]
theorem qLongestAt {mem : zMem} (R : Rel mem) (w : Int) : okC (f_X11_longestAt w) (f_X12_longestAt w) mem := by
  have V := R.2.2.2.1
  refine okQ R (if w = 0 then mem 0 18 else if w = 1 then mem 0 19 else -1) ?_ ?_
  · unfold f_X11_longestAt
    repeat' split
    all_goals rfl
  · unfold f_X12_longestAt
    simp only [pipe, m00_eq]
    rw [m00_at (by omega), m00_at (by omega), V.2.2.2.1, V.2.2.2.2]
    repeat' split
    all_goals rfl
theorem qCount {mem : zMem} (R : Rel mem) (w : Int) : okC (f_X11_count w) (f_X12_count w) mem := by
  have T := R.2.2.1
  have L := l140
  obtain ⟨v1, v2, v3, v4, v5⟩ := R.1.2.2.1.1
  refine okQ R (if w = 0 then mem 140 0 else if w = 1 then mem 140 1 else if w = 2 then mem 140 2 else if w = 3 then mem 140 3 else if w = 4 then mem 140 4 else if w = 5 then mem 1 2 else -1) ?_ ?_
  · unfold f_X11_count
    rw [v1, v2, v3, v4, v5]
    repeat' split
    all_goals rfl
  · unfold f_X12_count
    simp only [pipe, m00_eq]
    rw [m00_off (by omega), m00_at (by omega), T.1, ixl (k := 0) (by omega), ixl (k := 1) (by omega), ixl (k := 2) (by omega), ixl (k := 3) (by omega), ixl (k := 4) (by omega)]
    repeat' split
    all_goals rfl
theorem qTold {mem : zMem} (R : Rel mem) (w : Int) : okC (f_X11_told w) (f_X12_told w) mem := by
  have B := R.2.2.2.2.2.1
  have L : sLen 155 = 4 := rfl
  refine okQ R (if mem 45 5 = 0 then -1 else if w = 0 then mem 45 6 else if w = 1 then mem 45 7 else if w = 2 then mem 45 8 else if w = 3 then mem 45 9 else -1) ?_ ?_
  · unfold f_X11_told
    repeat' split
    all_goals rfl
  · unfold f_X12_told
    simp only [pipe, m00_eq]
    simp only [mIsIn, zbind, bi0]
    rw [m00_at (by omega), B.1]
    by_cases h : mem 45 5 = 0
    · rw [if_pos h, if_pos h]
    · rw [if_neg h, if_neg h]
      obtain ⟨b1, b2, b3, b4, b5⟩ := B.2.resolve_left h
      by_cases hw : 0 ≤ w ∧ w ≤ 3
      · rw [if_pos hw, if_pos (by omega), m00_off (by omega)]
        rcases (by omega : w = 0 ∨ w = 1 ∨ w = 2 ∨ w = 3) with h | h | h | h <;> subst h <;> simp [b2, b3, b4, b5]
      · rw [if_neg hw, if_neg (by omega), if_neg (by omega), if_neg (by omega), if_neg (by omega)]
theorem qByteAt {mem : zMem} (R : Rel mem) (w : Int) : okC (f_X11_byteAt w) (f_X12_byteAt w) mem := by
  have S := R.2.2.2.2.1
  have L : sLen 153 = 64 := rfl
  have L2 : sLen 103 = 40 := rfl
  obtain ⟨s1, s2, s3, s4⟩ := S
  by_cases hw : 0 ≤ w ∧ w < mem 102 1
  · refine okQ R (mem 103 w) ?_ ?_
    · unfold f_X11_byteAt f_X9_byteOn
      rw [if_neg (by omega), if_neg (by omega), if_neg (by omega), if_pos (by omega)]
      rfl
    · unfold f_X12_byteAt
      simp only [pipe, m00_eq]
      rw [m00_at (by omega), s1, w32_id ⟨by omega, by omega⟩, mIsIn]
      simp only [zbind, bi0]
      rw [if_pos (by omega), if_pos (by omega), m00_off (by omega), s4 w (by omega) (by omega)]
  · refine okQ R (-1) ?_ ?_
    · unfold f_X11_byteAt f_X9_byteOn
      by_cases h : w < 0
      · rw [if_pos h]; rfl
      · rw [if_neg h, if_pos (by omega)]; rfl
    · unfold f_X12_byteAt
      simp only [pipe, m00_eq]
      rw [m00_at (by omega), s1, w32_id ⟨by omega, by omega⟩, mIsIn]
      simp only [zbind, bi0]
      rw [if_neg (by omega)]
/-! the tape -/
theorem qEnd {mem : zMem} (R : Rel mem) (n : Int) : okC (f_X11_end n) (f_X12_end n) mem := by
  have T := R.2.2.1
  by_cases h : 0 ≤ n ∧ n ≤ mem 1 2
  · refine ⟨1, zup mem 1 2 n, zup (m00 (zup mem 1 2 n)) 138 2 n, ?_, ?_, ?_⟩
    · unfold f_X11_end
      rw [if_neg (by omega), if_pos (by omega)]
      rfl
    · unfold f_X12_end
      simp only [pipe, m00_eq]
      rw [m00_at (by omega), zup_off (by omega), T.1, if_neg (by omega), if_pos (by omega)]
    · have e1 : ∀ q, q ≠ 1 → q ≠ 138 → zup (m00 (zup mem 1 2 n)) 138 2 n q = mem q := fun q a b => by rw [zup_off b, m00_off b, zup_off a]
      have e2 : ∀ i, i ≠ 0 → i ≠ 2 → zup (m00 (zup mem 1 2 n)) 138 2 n 138 i = mem 138 i := fun i a b => by rw [zup_same, if_neg b, m00_at a, zup_off (by omega)]
      have e3 : zup (m00 (zup mem 1 2 n)) 138 2 n 138 2 = n := by rw [zup_same, if_pos rfl]
      have e4 : zup (m00 (zup mem 1 2 n)) 138 2 n 1 2 = n := by rw [zup_off (by omega), m00_off (by omega), zup_same, if_pos rfl]
      obtain ⟨a, b, t, vv, l, bb, g, k⟩ := R
      refine ⟨?_, ?_, ?_, rV_mem (e1 0 (by omega) (by omega)) (fun i hi => e2 i (by omega) (by omega)) vv, rL_mem (e2 36 (by omega) (by omega)) (e1 102 (by omega) (by omega)) (e1 103 (by omega) (by omega)) (e1 153 (by omega) (by omega)) l, rB_mem (fun i _ => by rw [e1 45 (by omega) (by omega)]) (e1 155 (by omega) (by omega)) (e2 41 (by omega) (by omega)) bb, rG_mem (fun q hq => e1 q (by omega) (by omega)) g, rK_mem (e1 3 (by omega) (by omega)) (e1 41 (by omega) (by omega)) k⟩
      · rw [e1 140 (by omega) (by omega), e1 145 (by omega) (by omega)]
        exact rI_mem (fun q _ _ => e1 q (by omega) (by omega)) (fun q _ _ => e1 q (by omega) (by omega)) (fun q _ _ => e1 q (by omega) (by omega)) a
      · rw [e1 140 (by omega) (by omega)]
        exact rH_mem (fun q _ _ => e1 q (by omega) (by omega)) (e2 25 (by omega) (by omega)) (e1 143 (by omega) (by omega)) b
      · unfold rT
        rw [e3, e4, e1 2 (by omega) (by omega), e1 139 (by omega) (by omega)]
        obtain ⟨t1, t2, t3, t4⟩ := t
        exact ⟨rfl, h.1, by omega, fun i a b => t4 i a (by omega)⟩
  · refine okQ R 0 ?_ ?_
    · unfold f_X11_end
      by_cases h1 : n < 0
      · rw [if_pos h1]
      · rw [if_neg h1, if_neg (by omega)]
    · unfold f_X12_end
      simp only [pipe, m00_eq]
      rw [m00_at (by omega), T.1]
      by_cases h1 : n < 0
      · rw [if_pos h1]
      · rw [if_neg h1, if_neg (by omega)]
/-! cell -/
theorem spot_eq {A : Int → Int} (o : oP A) {x y : Int} (h : isC A x y) : w32 (w32 (8 * y) + x) = 8 * y + x ∧ 0 ≤ 8 * y + x ∧ 8 * y + x < 64 ∧ inC A (8 * y + x) := by
  have o1 := o.1
  refine ⟨?_, by omega, by omega, by omega, by omega, by omega, by omega⟩
  rw [w32_id (x := 8 * y) ⟨by omega, by omega⟩, w32_id ⟨by omega, by omega⟩]
theorem qCell {mem : zMem} (R : Rel mem) (x y w : Int) : okC (f_X11_cell x y w) (f_X12_cell x y w) mem := by
  obtain ⟨o, os, v, s, _⟩ := R.1
  have e : m00 mem 140 = mem 140 := m00_off (by omega)
  have o' : oP (m00 mem 140) := by rw [e]; exact o
  have os' : oS (m00 mem 140) := by rw [e]; exact os
  refine okQ R (if isC (mem 140) x y then (if w = 0 then htA (mem 140) (8 * y + x) else if w = 1 then hAt (mem 140) (8 * y + x) else if w = 2 then pAt (mem 140) (8 * y + x) else if w = 3 then shOn (mem 140) (8 * y + x) else -1) else -1) ?_ ?_
  · unfold f_X11_cell
    rw [cHasCell v]
    simp only [zbind, pipe, bi0]
    by_cases hc : isC (mem 140) x y
    · obtain ⟨h1, h2, h3, h4⟩ := spot_eq o hc
      rw [if_pos hc, if_pos hc, h1, cHeightAt IL_20 v s o h2 h3, cHouseOn IL_20.2.2.1 v o, cPersonsOn IL_20 v s o, cHousesTouching IL_20 v s o os h4]
      simp only
      repeat' split
      all_goals rfl
    · rw [if_neg hc, if_neg hc]
  · unfold f_X12_cell
    simp only [pipe, m00_eq]
    rw [mIsCell o']
    simp only [zbind, pipe, bi0]
    rw [e]
    by_cases hc : isC (mem 140) x y
    · obtain ⟨h1, h2, h3, h4⟩ := spot_eq o hc
      rw [if_pos hc, if_pos hc, h1, mHeightOf o' h2 h3, mHouseAt o', mPersonsAt o', mShadowsOn o' os' (by rw [e]; exact h4), e]
      simp only
      repeat' split
      all_goals rfl
    · rw [if_neg hc, if_neg hc]
/-! now -/
theorem sumF_congr {f g : Int → Int} {r : Nat} {i a : Int} (h : ∀ k, i ≤ k → k < i + r → f k = g k) : sumF f r i a = sumF g r i a := by
  induction r generalizing i a with
  | zero => rfl
  | succ r ih =>
    rw [sumF_s, sumF_s, h i (by omega) (by omega), ih fun k h1 h2 => h k (by omega) (by omega)]
theorem mSum {mem : zMem} {b n : Int} (hb : 0 ≤ b) (hn : 0 ≤ n) (h : b + n ≤ 434) : f_X12_sum b n mem = some (sumF (fun i => mem 140 (b + i)) n.toNat 0 0, mem) := by
  have L := l140
  refine lp_sum (F := fun k a i => f_X12_sum_0 k b n a i mem) (fun k x i a c => ?_) (fun k x => ?_) (by omega) (by omega)
  · show b_X12_sum_0 (f_X12_sum_0 k) b n x i mem = _
    unfold b_X12_sum_0
    rw [if_neg (by omega), w32_id (x := b + i) ⟨by omega, by omega⟩, if_pos (by omega), w32_id (x := i + 1) ⟨by omega, by omega⟩]
    rfl
  · show b_X12_sum_0 (f_X12_sum_0 k) b n x _ mem = _
    unfold b_X12_sum_0
    rw [if_pos (by omega)]
theorem cAllStones {mem : zMem} {sc : Nat} {A : Int → Int} (l : lS sc) (w : vS mem sc A) : f_X7_allStones sc mem = some (sumF (fun i => A (128 + i)) 64 0 0, mem) := by
  have L := l.1
  have e : f_X7_allStones sc mem = some (sumF (fun i => mem (sc + 1) i) (64 : Int).toNat 0 0, mem) := by
    refine lp_sum (F := fun k a i => f_X7_allStones_0 k sc a i mem) (fun k x i a c => ?_) (fun k x => ?_) (by omega) (by omega)
    · show b_X7_allStones_0 (f_X7_allStones_0 k) sc x i mem = _
      unfold b_X7_allStones_0
      rw [if_neg (by omega), if_pos (by omega), w32_id (x := i + 1) ⟨by omega, by omega⟩]
      rfl
    · show b_X7_allStones_0 (f_X7_allStones_0 k) sc x 64 mem = _
      unfold b_X7_allStones_0
      rw [if_pos (by omega)]
  have e2 : sumF (fun i => mem (sc + 1) i) (64 : Int).toNat 0 0 = sumF (fun i => A (128 + i)) (64 : Int).toNat 0 0 := sumF_congr fun k a b => w.2.1 k a (by omega)
  rw [e, e2]
  rfl
theorem cAllWealth {mem : zMem} {sc : Nat} {A : Int → Int} (l : lS sc) (w : vS mem sc A) : f_X7_allWealth sc mem = some (sumF (fun i => A (122 + i)) 6 0 0, mem) := by
  have L := l.2.2.1
  have e : f_X7_allWealth sc mem = some (sumF (fun i => mem (sc + 3) i) (6 : Int).toNat 0 0, mem) := by
    refine lp_sum (F := fun k a i => f_X7_allWealth_0 k sc a i mem) (fun k x i a c => ?_) (fun k x => ?_) (by omega) (by omega)
    · show b_X7_allWealth_0 (f_X7_allWealth_0 k) sc x i mem = _
      unfold b_X7_allWealth_0
      rw [if_neg (by omega), if_pos (by omega), w32_id (x := i + 1) ⟨by omega, by omega⟩]
      rfl
    · show b_X7_allWealth_0 (f_X7_allWealth_0 k) sc x 6 mem = _
      unfold b_X7_allWealth_0
      rw [if_pos (by omega)]
  have e2 : sumF (fun i => mem (sc + 3) i) (6 : Int).toNat 0 0 = sumF (fun i => A (122 + i)) (6 : Int).toNat 0 0 := sumF_congr fun k a b => w.2.2.2.1 k a (by omega)
  rw [e, e2]
  rfl
theorem qNow {mem : zMem} (R : Rel mem) (w : Int) : okC (f_X11_now w) (f_X12_now w) mem := by
  have L := l140
  obtain ⟨o, os, v, s, _⟩ := R.1
  have e : m00 mem 140 = mem 140 := m00_off (by omega)
  have o' : oP (m00 mem 140) := by rw [e]; exact o
  have hh : 0 ≤ mem 140 106 ∧ mem 140 106 ≤ 400 := ⟨os.1.1, os.1.2.1⟩
  obtain ⟨s1, s2, s3, s4, s5⟩ := s.1
  refine okQ R (if w = 0 then mem 140 106 else if w = 1 then sunA (mem 140) else if w = 2 then mem 140 107 else if w = 3 then sumF (fun i => mem 140 (128 + i)) 64 0 0 else if w = 4 then sumF (fun i => mem 140 (122 + i)) 6 0 0 else if w = 5 then mem 140 108 else if w = 6 then mem 140 109 else if w = 7 then mem 140 110 else -1) ?_ ?_
  · unfold f_X11_now
    rw [s1, s2, s3, s4, s5, cTableHour IL_20 v s o hh, cAllStones IL_20.2.2.2 s, cAllWealth IL_20.2.2.2 s]
    simp only [zbind]
    repeat' split
    all_goals rfl
  · unfold f_X12_now
    simp only [pipe, m00_eq]
    rw [mSunNow o' (by rw [e]; exact hh), mSum (by omega) (by omega) (by omega), mSum (by omega) (by omega) (by omega), e, ixl (k := 106) (by omega), ixl (k := 107) (by omega), ixl (k := 108) (by omega), ixl (k := 109) (by omega), ixl (k := 110) (by omega)]
    simp only [zbind]
    repeat' split
    all_goals rfl
