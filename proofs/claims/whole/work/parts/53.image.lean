/-! feed -/
theorem zand_255 (x : Int) : 0 ≤ zand x 255 ∧ zand x 255 ≤ 255 := by
  have h : (i32 x &&& i32 255).toBitVec.toNat ≤ 255 := by
    rw [Int32.toBitVec_and, BitVec.toNat_and]
    exact Nat.and_le_right
  have e : zand x 255 = ((i32 x &&& i32 255).toBitVec.toNat : Int) := by
    unfold zand
    exact BitVec.toInt_eq_toNat_of_lt (by omega)
  omega
theorem cAdd {mem : zMem} (x : Int) (h0 : 0 ≤ mem 1 2) (h1 : mem 1 2 + 4 ≤ 940) : ∃ m', f_X6_addNumber x mem = some (0, m') ∧ m' 1 2 = mem 1 2 + 4 ∧ (∀ i, i ≠ 2 → m' 1 i = mem 1 i) ∧ (∀ q, q ≠ 1 → q ≠ 2 → m' q = mem q) ∧ ∀ i, m' 2 i = if mem 1 2 ≤ i ∧ i < mem 1 2 + 4 then zand (zush x (24 - 8 * (i - mem 1 2))) 255 else mem 2 i := by
  have hz := zN_ge
  have L : sLen 2 = 940 := rfl
  generalize hs : mem 1 2 = s at *
  obtain ⟨n', m', ⟨i1, i2, i3, i4⟩, e⟩ := lp_gen (F := fun n (m : zMem) i => f_X6_addNumber_0 n x (24 - 8 * i) m) (I := fun i m => m 1 2 = s + i ∧ (∀ j, j ≠ 2 → m 1 j = mem 1 j) ∧ (∀ q, q ≠ 1 → q ≠ 2 → m q = mem q) ∧ ∀ j, m 2 j = if s ≤ j ∧ j < s + i then zand (zush x (24 - 8 * (j - s))) 255 else mem 2 j) (M := 0) (N := 4) (n := zN) (a := mem) (by
    intro n i m a b ⟨c1, c2, c3, c4⟩
    show ∃ a', b_X6_addNumber_0 (f_X6_addNumber_0 n) x (24 - 8 * i) m = _ ∧ _
    unfold b_X6_addNumber_0
    rw [if_neg (by omega), c1, if_neg (by omega), if_pos (by omega), w32_id (x := 24 - 8 * i + -8) ⟨by omega, by omega⟩]
    simp only [pipe]
    rw [zup_off (by omega), c1, w32_id ⟨by omega, by omega⟩, show 24 - 8 * i + -8 = 24 - 8 * (i + 1) by omega]
    refine ⟨_, rfl, ?_, ?_, ?_, ?_⟩
    · rw [zup_same, if_pos rfl]; omega
    · intro j hj
      rw [zup_same, if_neg hj, zup_off (by omega), c2 j hj]
    · intro q q1 q2
      rw [zup_off q1, zup_off q2, c3 q q1 q2]
    · intro j
      rw [zup_off (by omega), zup_same]
      by_cases hj : j = s + i
      · rw [if_pos hj, if_pos (by omega), hj]
        congr 3
        omega
      · rw [if_neg hj, c4 j]
        by_cases hk : s ≤ j ∧ j < s + i
        · rw [if_pos hk, if_pos (by omega)]
        · rw [if_neg hk, if_neg (by omega)]) (by omega) ⟨by omega, fun _ _ => rfl, fun _ _ _ => rfl, fun j => by rw [if_neg (by omega)]⟩ (by omega)
  refine ⟨m', ?_, i1, i2, i3, i4⟩
  unfold f_X6_addNumber
  rw [show f_X6_addNumber_0 zN x 24 mem = f_X6_addNumber_0 (n' + 1) x (24 - 8 * 4) m' from e]
  show b_X6_addNumber_0 (f_X6_addNumber_0 n') x (24 - 8 * 4) m' = _
  unfold b_X6_addNumber_0
  rw [if_pos (by omega)]
theorem mCome {mem : zMem} (x : Int) (h0 : 0 ≤ mem 138 2) (h1 : mem 138 2 + 4 ≤ 940) : ∃ m', f_X12_come x mem = some (0, m') ∧ m' 138 2 = mem 138 2 + 4 ∧ (∀ i, i ≠ 2 → m' 138 i = mem 138 i) ∧ (∀ q, q ≠ 138 → q ≠ 139 → m' q = mem q) ∧ ∀ i, m' 139 i = if mem 138 2 ≤ i ∧ i < mem 138 2 + 4 then zand (zush x (24 - 8 * (i - mem 138 2))) 255 else mem 139 i := by
  have hz := zN_ge
  have L : sLen 139 = 940 := rfl
  generalize hs : mem 138 2 = s at *
  obtain ⟨n', m', ⟨i1, i2, i3, i4⟩, e⟩ := lp_gen (F := fun n (m : zMem) i => f_X12_come_0 n x (24 - 8 * i) m) (I := fun i m => m 138 2 = s + i ∧ (∀ j, j ≠ 2 → m 138 j = mem 138 j) ∧ (∀ q, q ≠ 138 → q ≠ 139 → m q = mem q) ∧ ∀ j, m 139 j = if s ≤ j ∧ j < s + i then zand (zush x (24 - 8 * (j - s))) 255 else mem 139 j) (M := 0) (N := 4) (n := zN) (a := mem) (by
    intro n i m a b ⟨c1, c2, c3, c4⟩
    show ∃ a', b_X12_come_0 (f_X12_come_0 n) x (24 - 8 * i) m = _ ∧ _
    unfold b_X12_come_0
    rw [if_neg (by omega), c1, if_pos (by omega), w32_id (x := 24 - 8 * i + -8) ⟨by omega, by omega⟩]
    simp only [pipe]
    rw [zup_off (by omega), c1, w32_id ⟨by omega, by omega⟩, show 24 - 8 * i + -8 = 24 - 8 * (i + 1) by omega]
    refine ⟨_, rfl, ?_, ?_, ?_, ?_⟩
    · rw [zup_same, if_pos rfl]; omega
    · intro j hj
      rw [zup_same, if_neg hj, zup_off (by omega), c2 j hj]
    · intro q q1 q2
      rw [zup_off q1, zup_off q2, c3 q q1 q2]
    · intro j
      rw [zup_off (by omega), zup_same]
      by_cases hj : j = s + i
      · rw [if_pos hj, if_pos (by omega), hj]
        congr 3
        omega
      · rw [if_neg hj, c4 j]
        by_cases hk : s ≤ j ∧ j < s + i
        · rw [if_pos hk, if_pos (by omega)]
        · rw [if_neg hk, if_neg (by omega)]) (by omega) ⟨by omega, fun _ _ => rfl, fun _ _ _ => rfl, fun j => by rw [if_neg (by omega)]⟩ (by omega)
  refine ⟨m', ?_, i1, i2, i3, i4⟩
  unfold f_X12_come
  rw [show f_X12_come_0 zN x 24 mem = f_X12_come_0 (n' + 1) x (24 - 8 * 4) m' from e]
  show b_X12_come_0 (f_X12_come_0 n') x (24 - 8 * 4) m' = _
  unfold b_X12_come_0
  rw [if_pos (by omega)]
def TT (m r : zMem) : Prop := r 138 2 = m 1 2 ∧ 0 ≤ m 1 2 ∧ ∀ i, 0 ≤ i → i < m 1 2 → r 139 i = m 2 i ∧ 0 ≤ m 2 i ∧ m 2 i ≤ 255
theorem TT_step {m m' r : zMem} {x : Int} (t : TT m r) (h : m 1 2 + 4 ≤ 940) (a1 : m' 1 2 = m 1 2 + 4) (a2 : ∀ i, m' 2 i = if m 1 2 ≤ i ∧ i < m 1 2 + 4 then zand (zush x (24 - 8 * (i - m 1 2))) 255 else m 2 i) : ∃ r', f_X12_come x r = some (0, r') ∧ (∀ i, i ≠ 2 → r' 138 i = r 138 i) ∧ (∀ q, q ≠ 138 → q ≠ 139 → r' q = r q) ∧ TT m' r' := by
  obtain ⟨t1, t2, t3⟩ := t
  obtain ⟨r', b1, b2, b3, b4, b5⟩ := mCome (mem := r) x (by omega) (by omega)
  refine ⟨r', b1, b3, b4, by omega, by omega, fun i c d => ?_⟩
  rw [b5 i, a2 i, t1]
  by_cases hk : m 1 2 ≤ i ∧ i < m 1 2 + 4
  · rw [if_pos hk, if_pos hk]
    exact ⟨rfl, zand_255 _⟩
  · rw [if_neg hk, if_neg hk]
    exact t3 i c (by omega)
theorem qFeed {mem : zMem} (R : Rel mem) (x1 x2 x3 x4 x5 : Int) : okC (f_X11_feed x1 x2 x3 x4 x5) (f_X12_feed x1 x2 x3 x4 x5) mem := by
  have T := R.2.2.1
  have t1 := T.1
  have t2 := T.2.1
  have t3 := T.2.2.1
  by_cases h : mem 1 2 + 20 ≤ 940
  · obtain ⟨m1, a1, a2, a3, a4, a5⟩ := cAdd (mem := mem) x1 (by omega) (by omega)
    obtain ⟨m2, b1, b2, b3, b4, b5⟩ := cAdd (mem := m1) x2 (by omega) (by omega)
    obtain ⟨m3, c1, c2, c3, c4, c5⟩ := cAdd (mem := m2) x3 (by omega) (by omega)
    obtain ⟨m4, d1, d2, d3, d4, d5⟩ := cAdd (mem := m3) x4 (by omega) (by omega)
    obtain ⟨m5, e1, e2, e3, e4, e5⟩ := cAdd (mem := m4) x5 (by omega) (by omega)
    have f1 : ∀ q, q ≠ 1 → q ≠ 2 → m5 q = mem q := fun q y z => by rw [e4 q y z, d4 q y z, c4 q y z, b4 q y z, a4 q y z]
    have g0 : m00 m5 138 2 = mem 138 2 := by rw [m00_at (by omega), f1 138 (by omega) (by omega)]
    have tt0 : TT mem (m00 m5) := ⟨by rw [g0]; exact t1, t2, fun i y z => by rw [m00_off (by omega), f1 139 (by omega) (by omega)]; exact T.2.2.2 i y z⟩
    obtain ⟨r1, p1, p2, p3, p4⟩ := TT_step tt0 (by omega) a2 a5
    obtain ⟨r2, q1, q2, q3, q4⟩ := TT_step p4 (by omega) b2 b5
    obtain ⟨r3, s1, s2, s3, s4⟩ := TT_step q4 (by omega) c2 c5
    obtain ⟨r4, u1, u2, u3, u4⟩ := TT_step s4 (by omega) d2 d5
    obtain ⟨r5, v1, v2, v3, v4⟩ := TT_step u4 (by omega) e2 e5
    have k1 : ∀ q, q ≠ 138 → q ≠ 139 → r5 q = m5 q := fun q y z => by rw [v3 q y z, u3 q y z, s3 q y z, q3 q y z, p3 q y z, m00_off y]
    have k2 : ∀ i, i ≠ 0 → i ≠ 2 → r5 138 i = mem 138 i := fun i y z => by rw [v2 i z, u2 i z, s2 i z, q2 i z, p2 i z, m00_at y, f1 138 (by omega) (by omega)]
    have k3 : ∀ q, q ≠ 1 → q ≠ 2 → q ≠ 138 → q ≠ 139 → r5 q = mem q := fun q w x y z => by rw [k1 q y z, f1 q w x]
    refine ⟨m5 1 2, m5, r5, ?_, ?_, ?_⟩
    · unfold f_X11_feed f_X6_hasRoom
      rw [w32_id (x := mem 1 2 + 20) ⟨by omega, by omega⟩, if_neg (by omega)]
      simp only [zbind, a1, b1, c1, d1, e1]
      rfl
    · unfold f_X12_feed
      simp only [pipe, m00_eq]
      rw [g0, t1, w32_id (x := mem 1 2 + 20) ⟨by omega, by omega⟩, if_pos (by omega)]
      simp only [zbind, p1, q1, s1, u1, v1]
      rw [v4.1]
    · obtain ⟨a, b, t, vv, l, bb, g, k⟩ := R
      refine ⟨?_, ?_, ?_, rV_mem (k3 0 (by omega) (by omega) (by omega) (by omega)) (fun i hi => k2 i (by omega) (by omega)) vv, rL_mem (k2 36 (by omega) (by omega)) (k3 102 (by omega) (by omega) (by omega) (by omega)) (k3 103 (by omega) (by omega) (by omega) (by omega)) (k3 153 (by omega) (by omega) (by omega) (by omega)) l, rB_mem (fun i _ => by rw [k3 45 (by omega) (by omega) (by omega) (by omega)]) (k3 155 (by omega) (by omega) (by omega) (by omega)) (k2 41 (by omega) (by omega)) bb, rG_mem (fun q hq => k3 q (by omega) (by omega) (by omega) (by omega)) g, rK_mem (k3 3 (by omega) (by omega) (by omega) (by omega)) (k3 41 (by omega) (by omega) (by omega) (by omega)) k⟩
      · rw [k3 140 (by omega) (by omega) (by omega) (by omega), k3 145 (by omega) (by omega) (by omega) (by omega)]
        exact rI_mem (fun q _ _ => k3 q (by omega) (by omega) (by omega) (by omega)) (fun q _ _ => k3 q (by omega) (by omega) (by omega) (by omega)) (fun q _ _ => k3 q (by omega) (by omega) (by omega) (by omega)) a
      · rw [k3 140 (by omega) (by omega) (by omega) (by omega)]
        exact rH_mem (fun q _ _ => k3 q (by omega) (by omega) (by omega) (by omega)) (k2 25 (by omega) (by omega)) (k3 143 (by omega) (by omega) (by omega) (by omega)) b
      · obtain ⟨w1, w2, w3⟩ := v4
        unfold rT
        rw [k1 1 (by omega) (by omega), k1 2 (by omega) (by omega)]
        exact ⟨w1, w2, by omega, w3⟩
  · refine okQ R (-1) ?_ ?_
    · unfold f_X11_feed f_X6_hasRoom
      rw [w32_id (x := mem 1 2 + 20) ⟨by omega, by omega⟩, if_pos (by omega)]
      rfl
    · unfold f_X12_feed
      simp only [pipe, m00_eq]
      rw [m00_at (by omega), t1, w32_id (x := mem 1 2 + 20) ⟨by omega, by omega⟩, if_neg (by omega)]
/-! an island copied -/
theorem cCopyP {mem : zMem} {to fr : Nat} {A N : Int → Int} (l1 : lP to) (l2 : lP fr) (hd : to + 6 < fr ∨ fr + 6 < to) (o : oP A) (v : vP mem fr A) (n : rN mem fr A N) : ∃ m', f_X5_copyFrom to fr mem = some (0, m') ∧ vP m' to A ∧ rN m' to A N ∧ ∀ q, (q < to ∨ to + 6 < q) → m' q = mem q := by
  have o1 := o.1
  unfold f_X5_copyFrom
  simp only [cCopyRow l2.1 l1.1 (by omega), cCopyRow l2.2.1 l1.2.1 (by omega), cCopyNames l2.2.2.1 l1.2.2.1 (by omega), cCopyNames l2.2.2.2.1 l1.2.2.2.1 (by omega), cCopyRow l2.2.2.2.2.1 l1.2.2.2.2.1 (by omega), cCopyRow l2.2.2.2.2.2 l1.2.2.2.2.2 (by omega), zbind, pipe]
  refine ⟨_, rfl, ⟨?_, ?_, ?_⟩, ⟨?_, ?_⟩, ?_⟩
  · have w1 := v.1
    simp (disch := omega) only [zup_same, zup_off, zcpy_off, ↓reduceIte, Int.reduceEq, w1, and_self]
  · intro q a b
    simp (disch := omega) only [zup_off, zcpy_off, zcpy_at]
    exact v.2.1 q a b
  · intro q a b
    simp (disch := omega) only [zup_off, zcpy_off, zcpy_at]
    exact v.2.2 q a b
  · intro q a b
    simp (disch := omega) only [zup_off, zcpy_off, zcpy_at]
    exact n.1 q a b
  · intro q a b
    simp (disch := omega) only [zup_off, zcpy_off, zcpy_at]
    exact n.2 q a b
  · intro q hq
    simp (disch := omega) only [zup_off, zcpy_off]
def lE (se : Nat) : Prop := sLen (se + 1) = 40 ∧ sLen (se + 2) = 40
theorem Rep_cgB {B B' D D' A : Int → Int} (h1 : ∀ i, 0 ≤ i → i < 40 → B' i = B i) (h2 : ∀ i, 0 ≤ i → i < 40 → D' i = D i) : ∀ (d : Nat) (k i j : Int) (n : Nat), Rep B D A d k i j n → Rep B' D' A d k i j n := by
  intro d
  induction d with
  | zero => intro k i j n r; exact r
  | succ d ih =>
    intro k i j n r
    unfold Rep at r ⊢
    obtain ⟨hk, r⟩ := r
    refine ⟨hk, ?_⟩
    rw [h1 (j - 1) (by omega) (by omega), h1 i (by omega) (by omega), h2 i (by omega) (by omega)]
    rcases r with ⟨a, b, c⟩ | ⟨m, n1, n2, a, b, c, e⟩ | r
    · exact Or.inl ⟨a, b, ih _ _ _ _ c⟩
    · exact Or.inr (Or.inl ⟨m, n1, n2, a, b, ih _ _ _ _ c, ih _ _ _ _ e⟩)
    · exact Or.inr (Or.inr r)
theorem cCopyE {mem : zMem} {to fr : Nat} {A : Int → Int} (l1 : lE to) (l2 : lE fr) (hd : to + 2 < fr ∨ fr + 2 < to) (s : rS mem fr A) : ∃ m', f_X8_copyFrom to fr mem = some (0, m') ∧ rS m' to A ∧ m' to 3 = mem fr 3 ∧ m' to 4 = mem fr 4 ∧ ∀ q, (q < to ∨ to + 2 < q) → m' q = mem q := by
  unfold f_X8_copyFrom
  simp only [cCopyRow l2.1 l1.1 (by omega), cCopyRow l2.2 l1.2 (by omega), zbind, pipe]
  have e3 : ∀ m : zMem, zup (zup m to 3 (m fr 3)) to 4 (zup m to 3 (m fr 3) fr 4) to 3 = m fr 3 := fun m => by rw [zup_same, if_neg (by omega), zup_same, if_pos rfl]
  have e4 : ∀ m : zMem, zup (zup m to 3 (m fr 3)) to 4 (zup m to 3 (m fr 3) fr 4) to 4 = m fr 4 := fun m => by rw [zup_same, if_pos rfl, zup_off (by omega)]
  have g3 : zcpy (zcpy mem (fr + 1) (to + 1) 40) (fr + 2) (to + 2) 40 fr 3 = mem fr 3 := by rw [zcpy_off (by omega), zcpy_off (by omega)]
  have g4 : zcpy (zcpy mem (fr + 1) (to + 1) 40) (fr + 2) (to + 2) 40 fr 4 = mem fr 4 := by rw [zcpy_off (by omega), zcpy_off (by omega)]
  refine ⟨_, rfl, ?_, ?_, ?_, ?_⟩
  · rcases s with ⟨a, b⟩ | ⟨a, b, c, d, n, e, f, g⟩
    · refine Or.inl ⟨a, ?_⟩
      rw [e4]
      exact g4.trans b
    · refine Or.inr ⟨a, ?_, ?_, d, n, e, f, ?_⟩
      · rw [e4]
        exact Int.le_trans b (Int.le_of_eq g4.symm)
      · rw [e3]
        exact Int.le_trans (Int.le_of_eq g3) c
      · rw [e3]
        have g5 := Rep_cgB (B' := zup (zup (zcpy (zcpy mem (fr + 1) (to + 1) 40) (fr + 2) (to + 2) 40) to 3 (zcpy (zcpy mem (fr + 1) (to + 1) 40) (fr + 2) (to + 2) 40 fr 3)) to 4 (zup (zcpy (zcpy mem (fr + 1) (to + 1) 40) (fr + 2) (to + 2) 40) to 3 (zcpy (zcpy mem (fr + 1) (to + 1) 40) (fr + 2) (to + 2) 40 fr 3) fr 4) (to + 1)) (D' := zup (zup (zcpy (zcpy mem (fr + 1) (to + 1) 40) (fr + 2) (to + 2) 40) to 3 (zcpy (zcpy mem (fr + 1) (to + 1) 40) (fr + 2) (to + 2) 40 fr 3)) to 4 (zup (zcpy (zcpy mem (fr + 1) (to + 1) 40) (fr + 2) (to + 2) 40) to 3 (zcpy (zcpy mem (fr + 1) (to + 1) 40) (fr + 2) (to + 2) 40 fr 3) fr 4) (to + 2)) (fun i a b => by rw [zup_off (by omega), zup_off (by omega), zcpy_off (by omega), zcpy_at _ _ _ _ a b]) (fun i a b => by rw [zup_off (by omega), zup_off (by omega), zcpy_at _ _ _ _ a b, zcpy_off (by omega)]) _ _ _ _ _ g
        rw [← g3] at g5
        exact g5
  · rw [e3]
    exact g3
  · rw [e4]
    exact g4
  · intro q hq
    rw [zup_off (by omega), zup_off (by omega), zcpy_off (by omega), zcpy_off (by omega)]
def IT (t pl sc se : Nat) : Prop := (sRf t 0 = pl ∧ sRf t 1 = sc ∧ sRf t 2 = se) ∧ lP pl ∧ lS sc ∧ lE se ∧ pl + 6 < sc ∧ sc + 4 < se
theorem cCopyI {mem : zMem} {t pl sc se u pl' sc' se' : Nat} {A N : Int → Int} (i1 : IT t pl sc se) (i2 : IT u pl' sc' se') (hd : se + 2 < pl' ∨ se' + 2 < pl) (r : rI mem pl' sc' se' A N) : ∃ m', f_X3_copyFrom t u mem = some (0, m') ∧ rI m' pl sc se A N ∧ m' se 4 = mem se' 4 ∧ ∀ q, (q < pl ∨ pl + 6 < q) → (q < sc ∨ sc + 4 < q) → (q < se ∨ se + 2 < q) → m' q = mem q := by
  obtain ⟨⟨r1, r2, r3⟩, lp, ls, le, h1, h2⟩ := i1
  obtain ⟨⟨r1', r2', r3'⟩, lp', ls', le', h1', h2'⟩ := i2
  obtain ⟨o, os, v, w, n, s⟩ := r
  have o1 := o.1
  obtain ⟨m1, a1, a2, a3, a4⟩ := cCopyP lp lp' (by omega) o v n
  obtain ⟨m2, b1, b2, b3⟩ := cCopyS (to := sc) (fr := sc') ls ls' (by omega) (vS_mem (fun q _ _ => a4 q (by omega)) w) (by omega) (by omega)
  obtain ⟨m3, c1, c2, c3, c4, c5⟩ := cCopyE (to := se) (fr := se') le le' (by omega) (rS_mem (m' := m2) (fun q _ _ => by rw [b3 q (by omega), a4 q (by omega)]) s)
  refine ⟨m3, ?_, ⟨o, os, vP_mem (fun q _ _ => by rw [c5 q (by omega), b3 q (by omega)]) a2, vS_mem (fun q _ _ => c5 q (by omega)) b2, rN_mem (fun q _ _ => by rw [c5 q (by omega), b3 q (by omega)]) a3, c2⟩, ?_, fun q x y z => by rw [c5 q z, b3 q y, a4 q x]⟩
  · unfold f_X3_copyFrom
    simp only [r1, r2, r3, r1', r2', r3', a1, b1, c1, zbind]
  · rw [c4, b3 se' (by omega), a4 se' (by omega)]
theorem IT_20 : IT 20 4 11 16 := ⟨⟨rfl, rfl, rfl⟩, ⟨rfl, rfl, rfl, rfl, rfl, rfl⟩, ⟨rfl, rfl, rfl, rfl⟩, ⟨rfl, rfl⟩, by omega, by omega⟩
theorem IT_40 : IT 40 28 35 41 := ⟨⟨rfl, rfl, rfl⟩, ⟨rfl, rfl, rfl, rfl, rfl, rfl⟩, ⟨rfl, rfl, rfl, rfl⟩, ⟨rfl, rfl⟩, by omega, by omega⟩
theorem IT_im {k : Nat} (h : k < 2) : IT (sRf 95 k) (105 + 17 * k) (112 + 17 * k) (117 + 17 * k) := by
  rcases (by omega : k = 0 ∨ k = 1) with h | h <;> subst h
  · exact ⟨⟨rfl, rfl, rfl⟩, ⟨rfl, rfl, rfl, rfl, rfl, rfl⟩, ⟨rfl, rfl, rfl, rfl⟩, ⟨rfl, rfl⟩, by omega, by omega⟩
  · exact ⟨⟨rfl, rfl, rfl⟩, ⟨rfl, rfl, rfl, rfl, rfl, rfl⟩, ⟨rfl, rfl, rfl, rfl⟩, ⟨rfl, rfl⟩, by omega, by omega⟩
