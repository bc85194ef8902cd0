/-! the call book -/
theorem rO_txt {mem r : zMem} (R : rO mem) (h : ∀ q, (q = 3 ∨ q = 41 ∨ q = 96 ∨ q = 102 ∨ q = 103 ∨ (105 ≤ q ∧ q ≤ 119) ∨ (122 ≤ q ∧ q ≤ 136) ∨ q = 142 ∨ q = 147 ∨ q = 148 ∨ q = 153) → r q = mem q) (h1 : r 1 2 = 0) (h2 : r 138 2 = 0) (hv : r 138 10 = r 0 15) (h0 : ∀ i, i ≠ 15 → r 0 i = mem 0 i) (h8 : ∀ i, (i = 26 ∨ i = 32 ∨ i = 33 ∨ i = 34 ∨ i = 36) → r 138 i = mem 138 i) (hb : rB r) : rO r := by
  obtain ⟨t, v, l, b, g, k⟩ := R
  refine ⟨⟨by omega, by omega, by omega, fun i a b => by omega⟩, ⟨hv, ?_, ?_, ?_, ?_⟩, rL_mem (h8 36 (by omega)) (h 102 (by omega)) (h 103 (by omega)) (h 153 (by omega)) l, hb, rG_mem (fun q hq => h q (by omega)) g, rK_mem (h 3 (by omega)) (h 41 (by omega)) k⟩
  · rw [h8 26 (by omega), h0 16 (by omega)]; exact v.2.1
  · rw [h8 32 (by omega), h0 17 (by omega)]; exact v.2.2.1
  · rw [h8 33 (by omega), h0 18 (by omega)]; exact v.2.2.2.1
  · rw [h8 34 (by omega), h0 19 (by omega)]; exact v.2.2.2.2
/-- the reference at the end of a book: nothing is kept -/
theorem bkE_0 {x rt wy : Int} {r : zMem} {A A' : Int → Int} (e : r 140 = A') (hp : pq A A') (h4 : ∀ i, 0 ≤ i → i < 86 → r 144 i = A (106 + i)) (hx : x = 0 ∨ rt ≤ 0) : ∃ r', bkE x rt wy r = some (if wy = 0 then -1 else rt, r') ∧ r' 140 = A ∧ (∀ q, q ≠ 138 → q ≠ 140 → q ≠ 144 → q ≠ 155 → r' q = r q) ∧ (∀ i, r' 138 i = if i = 41 then 1 else r 138 i) ∧ r' 155 0 = wy ∧ r' 155 1 = rt ∧ r' 155 2 = A' 106 ∧ r' 155 3 = wsm A' := by
  obtain ⟨r', s1, s2, s3, s4⟩ := mStay_0 (bkM rt wy r)
  obtain ⟨b0, b1, b2, b3⟩ := bkM_155 (rt := rt) (wy := wy) (r := r)
  rw [e] at b2 b3
  refine ⟨r', ?_, ?_, fun q h1 h2 h3 h5 => by rw [s2 q h2 h3, bkM_off h5 h1], fun i => by rw [s2 138 (by omega) (by omega), bkM_138], by rw [s2 155 (by omega) (by omega), b0], by rw [s2 155 (by omega) (by omega), b1], by rw [s2 155 (by omega) (by omega), b2], by rw [s2 155 (by omega) (by omega), b3]⟩
  · rw [bkE_eq, s1]
    simp only [zbind]
    have hq : (if wy = 0 then (some (-1, r') : Option (Int × zMem)) else some (rt, r')) = some (if wy = 0 then -1 else rt, r') := by split <;> rfl
    rw [hq]
    by_cases h1 : x = 1
    · rw [if_pos h1, if_pos (by omega)]
    · rw [if_neg h1]
  · funext j
    rw [s3 j, bkM_off (by omega) (by omega), bkM_off (by omega) (by omega), e]
    by_cases hj : 106 ≤ j ∧ j < 192
    · rw [if_pos hj, h4 _ (by omega) (by omega)]
      congr 1
      omega
    · rw [if_neg hj]
      exact hp j (by omega)
/-- the same, where it is kept: as far as the snap -/
theorem bkE_1 {rt wy : Int} {r : zMem} {A A' : Int → Int} (e : r 140 = A') (hp : pq A A') (h4 : ∀ i, 0 ≤ i → i < 86 → r 144 i = A (106 + i)) (hx : ¬ rt ≤ 0) : ∃ r', r' 140 = A ∧ (∀ q, q ≠ 138 → q ≠ 140 → q ≠ 144 → q ≠ 155 → r' q = r q) ∧ (∀ i, r' 138 i = if i = 41 then 1 else r 138 i) ∧ r' 155 0 = wy ∧ r' 155 1 = rt ∧ r' 155 2 = A' 106 ∧ r' 155 3 = wsm A' ∧ ∀ ms, f_X12_snap r' = some (0, ms) → (∀ q, q ≠ 143 → q ≠ 138 → ms q = r' q) → bkE 1 rt wy r = some (if wy = 0 then -1 else rt, set140 ms A') := by
  obtain ⟨r', s1, s2, s3, s4⟩ := mStay_1 (bkM rt wy r)
  obtain ⟨b0, b1, b2, b3⟩ := bkM_155 (rt := rt) (wy := wy) (r := r)
  rw [e] at b2 b3
  have e1 : r' 140 = A := by
    funext j
    rw [s3 j, bkM_off (by omega) (by omega), bkM_off (by omega) (by omega), e]
    by_cases hj : 106 ≤ j ∧ j < 192
    · rw [if_pos hj, h4 _ (by omega) (by omega)]
      congr 1
      omega
    · rw [if_neg hj]
      exact hp j (by omega)
  refine ⟨r', e1, fun q h1 h2 h3 h5 => by rw [s2 q h2 h3, bkM_off h5 h1], fun i => by rw [s2 138 (by omega) (by omega), bkM_138], by rw [s2 155 (by omega) (by omega), b0], by rw [s2 155 (by omega) (by omega), b1], by rw [s2 155 (by omega) (by omega), b2], by rw [s2 155 (by omega) (by omega), b3], fun ms t1 t2 => ?_⟩
  have tb := mTakeBack (mem := ms) (A := A') (B := A) (by rw [t2 140 (by omega) (by omega), e1]) (fun i hi => (hp i hi).symm) (fun i i0 i1 => by
    rw [t2 144 (by omega) (by omega), s4 i, if_pos ⟨i0, i1⟩, bkM_off (by omega) (by omega), e])
  rw [bkE_eq, if_pos rfl, if_neg hx, s1, t1]
  simp only [zbind]
  rw [tb]
  simp only
  split <;> rfl
theorem qBook {mem : zMem} (R : Rel mem) (x : Int) : okC (f_X11_book x) (f_X12_book x) mem := by
  have hN := zN_ge
  have R0 := R
  obtain ⟨ri, rh, ro⟩ := R
  obtain ⟨o, os, v, w, nn, ss⟩ := ri
  have o1 := o.1
  obtain ⟨t1, t2, t3, t4⟩ := ro.1
  have kk := ro.2.2.2.2.2
  have rb0 := ro.2.2.2.1
  by_cases hx : x = 0 ∨ x = 1
  · generalize hn : mem 1 2 = n at t1 t2 t3 t4
    have ok : okTx (mem 2) n := ⟨t2, t3, fun i a b => (t4 i a b).2⟩
    obtain ⟨m1, b1, b2, b3, b4⟩ := cBegin (m := mem) (T := mem 2) (n := n) 400 hn (fun _ _ _ => rfl) kk.1
    have cl : f_X11_book x mem = f_X11_book_j13 x mem := by
      unfold f_X11_book
      by_cases h : x = 0
      · rw [if_pos h]
      · rw [if_neg h, if_pos (by omega)]
    have cl2 : f_X0_readLines 4 mem = f_X0_readLines_0 zN 4 0 (zup m1 45 4 0) := by
      unfold f_X0_readLines
      rw [b1]
      rfl
    have pc : PC (zup m1 45 4 0) (mem 140) (mem 145) := ⟨o, vP_mem (mem := mem) (fun q _ _ => by rw [zup_off (by omega), b3 q (by omega)]) v, rN_mem (mem := mem) (fun q _ _ => by rw [zup_off (by omega), b3 q (by omega)]) nn⟩
    have cb : CB (zup m1 45 4 0) 0 0 (fun _ => 0) := ⟨by rw [zup_same, if_pos rfl], fun j a b => by omega⟩
    have rf : ∀ m : zMem, m 138 = mem 138 → m 139 = mem 139 → ∃ r2, f_X12_book x m = f_X12_book_1 zN x r2 ∧ RU (mem 2) n 400 r2 0 ∧ RB r2 0 0 (fun _ => 0) ∧ (∀ q, q ≠ 138 → r2 q = m q) ∧ r2 138 2 = 0 ∧ ∀ i, (12 < i ∧ i ≠ 40) → r2 138 i = mem 138 i := by
      intro m e1 e2
      obtain ⟨r1, x1, x2, x3, x4, x5⟩ := mBegin (r := m00 m) (lim := 400) ok (by rw [m00_at (by omega), e1]; exact t1) (fun i a b => by rw [m00_off (by omega), e2]; exact (t4 i a b).1)
      refine ⟨zup r1 138 40 0, ?_, RU_up x2 (by omega), ⟨by rw [zup_same, if_pos rfl], fun j a b => by omega⟩, fun q h => by rw [zup_off h, x3 q h, m00_off h], by rw [zup_same, if_neg (by omega), x4], fun i hi => by rw [zup_same, if_neg (by omega), x5 i (by omega), m00_at (by omega), e1]⟩
      unfold f_X12_book
      simp only [pipe, m00_eq, mIsIn, zbind, bi0]
      rw [if_pos (by omega), x1]
    rcases book_lines ok (by omega : (0 : Int) ≤ 400) o (N := mem 145) x 1000 0 0 (fun _ => 0) (by omega) (by omega) (by omega) (by omega) (by omega) (fun j a b => by omega) with ⟨k, pl, k0, hc, hr⟩ | ⟨k', L', k0, k1, okb, hc, hr⟩
    · obtain ⟨m3, z1, z2, z3⟩ := hc zN _ (by omega) (CU_45 b2) pc cb
      have w9 : zup m3 1 2 0 1 9 = k := by rw [zup_same, if_neg (by omega)]; exact z2.1
      generalize h4 : zup (zup m3 1 2 0) 0 15 (zup m3 1 2 0 1 9) = m4
      have g1 : ∀ q, q ≠ 0 → q ≠ 1 → (q < 45 ∨ 48 < q) → m4 q = mem q := fun q a b c => by rw [← h4, zup_off a, zup_off b, z3.1 q b (by omega) (by omega) (by omega) (by omega), zup_off (by omega), b3 q b]
      have g45 : ∀ i, i ≠ 4 → m4 45 i = mem 45 i := fun i hi => by rw [← h4, zup_off (by omega), zup_off (by omega), z3.2.2 i hi, zup_same, if_neg hi, b3 45 (by omega)]
      obtain ⟨r2, y1, y2, y3, y4, y5, y6⟩ := rf m4 (g1 138 (by omega) (by omega) (by omega)) (g1 139 (by omega) (by omega) (by omega))
      obtain ⟨r3, s1, s2, s3⟩ := hr zN r2 (by omega) y2 (by rw [y4 140 (by omega), g1 140 (by omega) (by omega) (by omega)]) (by rw [y4 145 (by omega), g1 145 (by omega) (by omega) (by omega)]) y3
      have o15 : m4 0 15 = k := by rw [← h4, zup_same, if_pos rfl, w9]
      have o10 : m4 1 10 = pl := by rw [← h4, zup_off (by omega), zup_same, if_neg (by omega)]; exact z2.2
      have fin : ∀ q, q ≠ 138 → q ≠ 154 → r3 q = m4 q := fun q a b => by rw [s3.1 q a b, y4 q a]
      have fin2 : ∀ q, q ≠ 0 → q ≠ 1 → (q < 45 ∨ 48 < q) → q ≠ 138 → q ≠ 154 → r3 q = mem q := fun q a b c d e => by rw [fin q d e, g1 q a b c]
      have fin3 : ∀ i, 13 < i → i ≠ 40 → r3 138 i = mem 138 i := fun i hi hj => by rw [s3.2 i (by omega), y6 i (by omega)]
      refine ⟨w32 (-2 - pl), m4, r3, ?_, by rw [y1, s1], ?_, ?_, ?_⟩
      · rw [cl]
        unfold f_X11_book_j13 f_X11_closeTape
        rw [cl2, z1]
        simp only [zbind, pipe]
        rw [h4, if_neg (by rw [o15]; exact k0)]
        simp only
        rw [if_neg (by omega), o10]
      · rw [fin2 140 (by omega) (by omega) (by omega) (by omega) (by omega), fin2 145 (by omega) (by omega) (by omega) (by omega) (by omega)]
        exact rI_mem (fun q _ _ => fin2 q (by omega) (by omega) (by omega) (by omega) (by omega)) (fun q _ _ => fin2 q (by omega) (by omega) (by omega) (by omega) (by omega)) (fun q _ _ => fin2 q (by omega) (by omega) (by omega) (by omega) (by omega)) ⟨o, os, v, w, nn, ss⟩
      · rw [fin2 140 (by omega) (by omega) (by omega) (by omega) (by omega)]
        exact rH_mem (fun q _ _ => fin2 q (by omega) (by omega) (by omega) (by omega) (by omega)) (fin3 25 (by omega) (by omega)) (fin2 143 (by omega) (by omega) (by omega) (by omega) (by omega)) rh
      · refine rO_txt ro (fun q hq => fin2 q (by omega) (by omega) (by omega) (by omega) (by omega)) ?_ ?_ ?_ ?_ (fun i hi => fin3 i (by omega) (by omega)) ?_
        · rw [fin 1 (by omega) (by omega), ← h4, zup_off (by omega), zup_same, if_pos rfl]
        · rw [s3.2 2 (by omega), y5]
        · rw [s2.1, fin 0 (by omega) (by omega), o15]
        · intro i hi
          rw [fin 0 (by omega) (by omega), ← h4, zup_same, if_neg hi, zup_off (by omega), z3.1 0 (by omega) (by omega) (by omega) (by omega) (by omega), zup_off (by omega), b3 0 (by omega)]
        · exact rB_mem (fun i hi => by rw [fin 45 (by omega) (by omega), g45 i (by omega)]) (fin2 155 (by omega) (by omega) (by omega) (by omega) (by omega)) (fin3 41 (by omega) (by omega)) rb0
    · obtain ⟨m3, z1, z2, cb3, z3⟩ := hc zN _ (by omega) (CU_45 b2) pc cb
      have w9 : zup m3 1 2 0 1 9 = 0 := by rw [zup_same, if_neg (by omega)]; exact z2
      generalize h4 : zup (zup m3 1 2 0) 0 15 (zup m3 1 2 0 1 9) = m4
      have g1 : ∀ q, q ≠ 0 → q ≠ 1 → (q < 45 ∨ 48 < q) → m4 q = mem q := fun q a b c => by rw [← h4, zup_off a, zup_off b, z3.1 q b (by omega) (by omega) (by omega) (by omega), zup_off (by omega), b3 q b]
      have o15 : m4 0 15 = 0 := by rw [← h4, zup_same, if_pos rfl, w9]
      have o12 : m4 1 2 = 0 := by rw [← h4, zup_off (by omega), zup_same, if_pos rfl]
      have o0 : ∀ i, i ≠ 15 → m4 0 i = mem 0 i := fun i hi => by rw [← h4, zup_same, if_neg hi, zup_off (by omega), z3.1 0 (by omega) (by omega) (by omega) (by omega) (by omega), zup_off (by omega), b3 0 (by omega)]
      have cb4 : CB m4 k' k' L' := by
        unfold CB
        rw [← h4, zup_off (by omega), zup_off (by omega), zup_off (by omega), zup_off (by omega), zup_off (by omega), zup_off (by omega), zup_off (by omega), zup_off (by omega)]
        exact cb3
      obtain ⟨m5, c1, c2, c3⟩ := cCopyS (mem := m4) (to := 22) (fr := 11) IL_21.2.2.2 IL_20.2.2.2 (by omega) (vS_mem (fun q _ _ => g1 q (by omega) (by omega) (by omega)) w) (by omega) (by omega)
      obtain ⟨A', wy, rt, l1, l2, l3, l4, l5, l6⟩ := live_book (L := L') (k := k') (x := x) k1 k'.toNat 0 (mem 140) (by omega) (by omega) o os okb
      obtain ⟨m6, d1, d2, d3, d4, d5, d6, d7⟩ := l5 zN (zup (zup (zup m5 45 5 1) 45 6 0) 45 7 0) (by omega) (vP_mem (mem := mem) (fun q _ _ => by rw [zup_off (by omega), zup_off (by omega), zup_off (by omega), c3 q (by omega), g1 q (by omega) (by omega) (by omega)]) v) (vS_mem (mem := m5) (fun q _ _ => by rw [zup_off (by omega), zup_off (by omega), zup_off (by omega)]) c2) (by
        unfold CB
        rw [zup_same, if_neg (by omega), zup_same, if_neg (by omega), zup_same, if_neg (by omega)]
        rw [zup_off (by omega), zup_off (by omega), zup_off (by omega), zup_off (by omega), zup_off (by omega), zup_off (by omega), zup_off (by omega), zup_off (by omega), zup_off (by omega), c3 45 (by omega), c3 46 (by omega), c3 47 (by omega), c3 48 (by omega)]
        exact cb4) (by rw [zup_same, if_neg (by omega), zup_same, if_pos rfl]) (by rw [zup_same, if_pos rfl])
      have d8 : m6 45 5 = 1 := by rw [d7.2 5 (by omega), zup_same, if_neg (by omega), zup_same, if_neg (by omega), zup_same, if_pos rfl]
      have f6 : ∀ q, (q < 22 ∨ 26 < q) → q ≠ 45 → m6 q = m4 q := fun q a b => by rw [d7.1 q a b, zup_off b, zup_off b, zup_off b, c3 q (by omega)]
      have f7 : ∀ q, q ≠ 0 → q ≠ 1 → (q < 22 ∨ 26 < q) → (q < 45 ∨ 48 < q) → m6 q = mem q := fun q a b c d => by rw [f6 q c (by omega), g1 q a b d]
      have cl3 : f_X11_book x mem = (if x = 1 then (if (m6 45 7) ≤ 0 then (if (m6 45 6) = 0 then (some ((-1), m6)) else (some ((m6 45 7), m6))) else (zbind (f_X2_keep 11 m6) fun _ m13 => zbind (f_X7_copyFrom 11 22 m13) fun _ m14 => if (m14 45 6) = 0 then (some ((-1), m14)) else (some ((m14 45 7), m14)))) else (if (m6 45 6) = 0 then (some ((-1), m6)) else (some ((m6 45 7), m6)))) := by
        rw [cl]
        unfold f_X11_book_j13 f_X11_closeTape f_X0_liveOn
        rw [cl2, z1]
        simp only [zbind, pipe]
        rw [h4, if_pos o15]
        simp only
        rw [if_pos trivial, c1]
        simp only
        rw [d1]
      have rr : ∀ m : zMem, m 138 = mem 138 → m 139 = mem 139 → m 140 = mem 140 → m 145 = mem 145 → ∃ ra, f_X12_book x m = bkE x rt wy ra ∧ ra 140 = A' ∧ (∀ i, 0 ≤ i → i < 86 → ra 144 i = mem 140 (106 + i)) ∧ (∀ q, q ≠ 138 → q ≠ 140 → q ≠ 144 → q ≠ 154 → ra q = m q) ∧ ra 138 2 = 0 ∧ ra 138 10 = 0 ∧ ∀ i, (13 < i ∧ i ≠ 40) → ra 138 i = mem 138 i := by
        intro m e1 e2 e3 e4
        obtain ⟨r2, y1, y2, y3, y4, y5, y6⟩ := rf m e1 e2
        obtain ⟨r3, s1, s2, s3, s4⟩ := hr zN r2 (by omega) y2 (by rw [y4 140 (by omega), e3]) (by rw [y4 145 (by omega), e4]) y3
        obtain ⟨ra, a1, a2, a3⟩ := mLayAside r3
        have e140 : r3 140 = mem 140 := by rw [s4.1 140 (by omega) (by omega), y4 140 (by omega), e3]
        refine ⟨set140 ra A', ?_, set140_at _ _, fun i i0 i1 => by rw [set140_off (by omega), a3 i i0 i1, e140], fun q h1 h2 h3 h5 => by rw [set140_off h2, a2 q h3, s4.1 q h1 h5, y4 q h1], by rw [set140_off (by omega), a2 138 (by omega), s4.2 2 (by omega), y5], by rw [set140_off (by omega), a2 138 (by omega), s2], fun i hi => by rw [set140_off (by omega), a2 138 (by omega), s4.2 i (by omega), y6 i (by omega)]⟩
        rw [y1, s1, a1]
        simp only [zbind]
        refine l6 zN ra (by omega) (by rw [a2 140 (by omega), e140]) ?_
        unfold RB
        rw [a2 138 (by omega), a2 154 (by omega)]
        exact s3
      by_cases hk : x = 0 ∨ rt ≤ 0
      · obtain ⟨ra, y1, y2, y3, y4, y5, y6, y7⟩ := rr m6 (f7 138 (by omega) (by omega) (by omega) (by omega)) (f7 139 (by omega) (by omega) (by omega) (by omega)) (f7 140 (by omega) (by omega) (by omega) (by omega)) (f7 145 (by omega) (by omega) (by omega) (by omega))
        obtain ⟨r', s1, s2, s3, s4, s5, s6, s7, s8⟩ := bkE_0 (x := x) (rt := rt) (wy := wy) y2 l1 y3 hk
        have fin : ∀ q, q ≠ 138 → q ≠ 140 → q ≠ 144 → q ≠ 154 → q ≠ 155 → r' q = m6 q := fun q a b c d e => by rw [s3 q a b c e, y4 q a b c d]
        have fin2 : ∀ q, q ≠ 0 → q ≠ 1 → (q < 22 ∨ 26 < q) → (q < 45 ∨ 48 < q) → q ≠ 138 → q ≠ 140 → q ≠ 144 → q ≠ 154 → q ≠ 155 → r' q = mem q := fun q a b c d e f g h i => by rw [fin q e f g h i, f7 q a b c d]
        have fin3 : ∀ i, 13 < i → i ≠ 40 → i ≠ 41 → r' 138 i = mem 138 i := fun i h1 h2 h3 => by rw [s4 i, if_neg h3, y7 i ⟨h1, h2⟩]
        refine ⟨if wy = 0 then -1 else rt, m6, r', ?_, by rw [y1, s1], ?_, ?_, ?_⟩
        · rw [cl3, d3, d4]
          have hq : (if wy = 0 then (some (-1, m6) : Option (Int × zMem)) else some (rt, m6)) = some (if wy = 0 then -1 else rt, m6) := by split <;> rfl
          rw [hq]
          by_cases h1 : x = 1
          · rw [if_pos h1, if_pos (by omega)]
          · rw [if_neg h1]
        · rw [s2, fin2 145 (by omega) (by omega) (by omega) (by omega) (by omega) (by omega) (by omega) (by omega) (by omega)]
          exact rI_mem (mem := mem) (fun q _ _ => fin2 q (by omega) (by omega) (by omega) (by omega) (by omega) (by omega) (by omega) (by omega) (by omega)) (fun q _ _ => fin2 q (by omega) (by omega) (by omega) (by omega) (by omega) (by omega) (by omega) (by omega) (by omega)) (fun q _ _ => fin2 q (by omega) (by omega) (by omega) (by omega) (by omega) (by omega) (by omega) (by omega) (by omega)) ⟨o, os, v, w, nn, ss⟩
        · rw [s2]
          exact rH_mem (fun q _ _ => fin2 q (by omega) (by omega) (by omega) (by omega) (by omega) (by omega) (by omega) (by omega) (by omega)) (fin3 25 (by omega) (by omega) (by omega)) (fin2 143 (by omega) (by omega) (by omega) (by omega) (by omega) (by omega) (by omega) (by omega) (by omega)) rh
        · refine rO_txt ro (fun q hq => fin2 q (by omega) (by omega) (by omega) (by omega) (by omega) (by omega) (by omega) (by omega) (by omega)) ?_ ?_ ?_ ?_ (fun i hi => fin3 i (by omega) (by omega) (by omega)) ?_
          · rw [fin 1 (by omega) (by omega) (by omega) (by omega) (by omega), f6 1 (by omega) (by omega), o12]
          · rw [s4 2, if_neg (by omega), y5]
          · rw [s4 10, if_neg (by omega), y6, fin 0 (by omega) (by omega) (by omega) (by omega) (by omega), f6 0 (by omega) (by omega), o15]
          · intro i hi
            rw [fin 0 (by omega) (by omega) (by omega) (by omega) (by omega), f6 0 (by omega) (by omega), o0 i hi]
          · unfold rB
            rw [fin 45 (by omega) (by omega) (by omega) (by omega) (by omega), s4 41, if_pos rfl, d8]
            exact ⟨rfl, Or.inr ⟨rfl, by rw [s5, d3], by rw [s6, d4], by rw [s7, d5], by rw [s8, d6]⟩⟩
      · have hx1 : x = 1 := by omega
        subst hx1
        have e140 : m6 140 = mem 140 := f7 140 (by omega) (by omega) (by omega) (by omega)
        have a5 : rI m6 4 11 16 (m6 140) (m6 145) := by
          rw [e140, f7 145 (by omega) (by omega) (by omega) (by omega)]
          exact rI_mem (mem := mem) (fun q _ _ => f7 q (by omega) (by omega) (by omega) (by omega)) (fun q _ _ => f7 q (by omega) (by omega) (by omega) (by omega)) (fun q _ _ => f7 q (by omega) (by omega) (by omega) (by omega)) ⟨o, os, v, w, nn, ss⟩
        have b5 : rH m6 (m6 140) := by
          rw [e140]
          exact rH_mem (fun q _ _ => f7 q (by omega) (by omega) (by omega) (by omega)) (by rw [f7 138 (by omega) (by omega) (by omega) (by omega)]) (f7 143 (by omega) (by omega) (by omega) (by omega)) rh
        obtain ⟨mk, mc, k0', k1', k2', k3', k4'⟩ := act_ok a5 b5 (A' := A') (fun i _ h => by rw [e140]; exact l1 i (by omega)) (fun i h _ => by rw [e140]; exact l1 i (by omega)) l2 (act := f_X7_copyFrom 11 22) (fun m hm => cCopyS (to := 11) (fr := 22) IL_20.2.2.2 IL_21.2.2.2 (by omega) (vS_mem (fun q _ _ => hm q (by omega)) d2) (by rw [l1 2 (by omega)]; omega) (by rw [l1 3 (by omega)]; omega))
        have fm : ∀ q, q ≠ 0 → q ≠ 1 → (q < 11 ∨ 15 < q) → (q < 22 ∨ 26 < q) → (q < 45 ∨ 48 < q) → (q < 53 ∨ 94 < q) → mc q = mem q := fun q a b c d e f => by rw [k3' q c f, f7 q a b d e]
        obtain ⟨ra, y1, y2, y3, y4, y5, y6, y7⟩ := rr mc (fm 138 (by omega) (by omega) (by omega) (by omega) (by omega) (by omega)) (fm 139 (by omega) (by omega) (by omega) (by omega) (by omega) (by omega)) (fm 140 (by omega) (by omega) (by omega) (by omega) (by omega) (by omega)) (fm 145 (by omega) (by omega) (by omega) (by omega) (by omega) (by omega))
        obtain ⟨r', s2, s3, s4, s5, s6, s7, s8, s9⟩ := bkE_1 (rt := rt) (wy := wy) y2 l1 y3 (by omega)
        obtain ⟨ms, u0, u1, u2, u3⟩ := k4' r' (by rw [s2, e140]) (by rw [s3 143 (by omega) (by omega) (by omega) (by omega), y4 143 (by omega) (by omega) (by omega) (by omega), k3' 143 (by omega) (by omega)]) (by rw [s4 25, if_neg (by omega), y7 25 (by omega), f7 138 (by omega) (by omega) (by omega) (by omega)])
        have eb := s9 ms u0 u1
        have fin : ∀ q, q ≠ 138 → q ≠ 140 → q ≠ 143 → q ≠ 144 → q ≠ 154 → q ≠ 155 → set140 ms A' q = mc q := fun q a b b' c d e => by rw [set140_off b, u1 q b' a, s3 q a b c e, y4 q a b c d]
        have fin2 : ∀ q, q ≠ 0 → q ≠ 1 → (q < 11 ∨ 15 < q) → (q < 22 ∨ 26 < q) → (q < 45 ∨ 48 < q) → (q < 53 ∨ 94 < q) → q ≠ 138 → q ≠ 140 → q ≠ 143 → q ≠ 144 → q ≠ 154 → q ≠ 155 → set140 ms A' q = mem q := fun q a b c d e f g h i j k l => by rw [fin q g h i j k l, fm q a b c d e f]
        have fin3 : ∀ i, i ≠ 25 → set140 ms A' 138 i = if i = 41 then 1 else ra 138 i := fun i h1 => by rw [set140_off (by omega), u2 i h1, s4 i]
        have e45 : set140 ms A' 45 = m6 45 := by rw [fin 45 (by omega) (by omega) (by omega) (by omega) (by omega) (by omega), k3' 45 (by omega) (by omega)]
        have e155 : set140 ms A' 155 = r' 155 := by rw [set140_off (by omega), u1 155 (by omega) (by omega)]
        obtain ⟨v1, v2⟩ := u3 (set140 ms A') (set140_at _ _) (by rw [fin 145 (by omega) (by omega) (by omega) (by omega) (by omega) (by omega), k3' 145 (by omega) (by omega)]) (fun q hq => fin q (by omega) (by omega) (by omega) (by omega) (by omega) (by omega)) (set140_off (by omega)) (by rw [set140_off (by omega)])
        refine ⟨if wy = 0 then -1 else rt, mc, set140 ms A', ?_, by rw [y1, eb], v1, v2, ?_⟩
        · rw [cl3, if_pos rfl, d4, if_neg (by omega), k0']
          simp only [zbind]
          rw [k2']
          simp only
          rw [k3' 45 (by omega) (by omega), d3, d4]
          split <;> rfl
        · refine rO_txt ro (fun q hq => fin2 q (by omega) (by omega) (by omega) (by omega) (by omega) (by omega) (by omega) (by omega) (by omega) (by omega) (by omega) (by omega)) ?_ ?_ ?_ ?_ (fun i hi => by rw [fin3 i (by omega), if_neg (by omega), y7 i (by omega)]) ?_
          · rw [fin 1 (by omega) (by omega) (by omega) (by omega) (by omega) (by omega), k3' 1 (by omega) (by omega), f6 1 (by omega) (by omega), o12]
          · rw [fin3 2 (by omega), if_neg (by omega), y5]
          · rw [fin3 10 (by omega), if_neg (by omega), y6, fin 0 (by omega) (by omega) (by omega) (by omega) (by omega) (by omega), k3' 0 (by omega) (by omega), f6 0 (by omega) (by omega), o15]
          · intro i hi
            rw [fin 0 (by omega) (by omega) (by omega) (by omega) (by omega) (by omega), k3' 0 (by omega) (by omega), f6 0 (by omega) (by omega), o0 i hi]
          · unfold rB
            rw [e45, e155, fin3 41 (by omega), if_pos rfl, d8]
            exact ⟨rfl, Or.inr ⟨rfl, by rw [s5, d3], by rw [s6, d4], by rw [s7, d5], by rw [s8, d6]⟩⟩
  · refine okQ R0 (-1000) ?_ ?_
    · unfold f_X11_book
      rw [if_neg (by omega), if_neg (by omega)]
    · unfold f_X12_book
      simp only [pipe, m00_eq, mIsIn, zbind, bi0]
      rw [if_neg (by omega)]
