/-! the lines of the book lived, by both -/
theorem l155 : sLen 155 = 4 := rfl
noncomputable def bkE (v1 v2 v3 : Int) (mem : zMem) : Option (Int × zMem) := if ix 155 0 then pipe (zup mem 155 0 v3) fun m4 => if ix 155 1 then pipe (zup m4 155 1 v2) fun m6 => if ix 140 106 then if ix 155 2 then pipe (zup m6 155 2 (m6 140 106)) fun m10 => zbind (f_X12_sum 122 6 m10) fun y11 m12 => if ix 155 3 then pipe (zup m12 155 3 y11) fun m14 => pipe (zup m14 138 41 1) fun m15 => if v1 = 1 then (if v2 ≤ 0 then (zbind (f_X12_stay 0 m15) fun _ m18 => if v3 = 0 then (some ((-1), m18)) else (some (v2, m18))) else (zbind (f_X12_stay 1 m15) fun _ m20 => if v3 = 0 then (some ((-1), m20)) else (some (v2, m20)))) else (zbind (f_X12_stay 0 m15) fun _ m22 => if v3 = 0 then (some ((-1), m22)) else (some (v2, m22))) else none else none else none else none else none
theorem bk_u (rec : Int → Int → Int → zMem → Option (Int × zMem)) (v1 v2 v3 : Int) (mem : zMem) : b_X12_book_0 rec v1 v2 v3 mem = if v2 ≥ mem 138 40 then bkE v1 v2 v3 mem else (if v3 = 0 then (zbind (f_X12_goBy (w32 (3 * v2)) mem) fun y25 m26 => if y25 = 0 then rec v1 (w32 (v2 + 1)) y25 m26 else rec v1 v2 y25 m26) else bkE v1 v2 v3 mem) := rfl
def wsm (A : Int → Int) : Int := sumF (fun i => A (122 + i)) 6 0 0
def bkM (rt wy : Int) (r : zMem) : zMem := zup (zup (zup (zup (zup r 155 0 wy) 155 1 rt) 155 2 (r 140 106)) 155 3 (wsm (r 140))) 138 41 1
theorem bkE_eq (x rt wy : Int) (r : zMem) : bkE x rt wy r = if x = 1 then (if rt ≤ 0 then (zbind (f_X12_stay 0 (bkM rt wy r)) fun _ m18 => if wy = 0 then (some ((-1), m18)) else (some (rt, m18))) else (zbind (f_X12_stay 1 (bkM rt wy r)) fun _ m20 => if wy = 0 then (some ((-1), m20)) else (some (rt, m20)))) else (zbind (f_X12_stay 0 (bkM rt wy r)) fun _ m22 => if wy = 0 then (some ((-1), m22)) else (some (rt, m22))) := by
  have L := l155
  unfold bkE bkM wsm
  simp only [pipe]
  rw [if_pos (show ix 155 0 from ⟨by omega, by omega⟩), if_pos (show ix 155 1 from ⟨by omega, by omega⟩), ixl (by omega), if_pos (show ix 155 2 from ⟨by omega, by omega⟩), mSum (by omega) (by omega) (by omega)]
  simp only [zbind]
  rw [if_pos (show ix 155 3 from ⟨by omega, by omega⟩)]
  rw [zup_off (mem := zup (zup r 155 0 wy) 155 1 rt) (by omega : (140 : Nat) ≠ 155), zup_off (mem := zup r 155 0 wy) (by omega : (140 : Nat) ≠ 155), zup_off (mem := r) (by omega : (140 : Nat) ≠ 155)]
  rfl
theorem bkM_off {rt wy : Int} {r : zMem} {q : Nat} (h1 : q ≠ 155) (h2 : q ≠ 138) : bkM rt wy r q = r q := by
  unfold bkM
  rw [zup_off h2, zup_off h1, zup_off h1, zup_off h1, zup_off h1]
theorem bkM_138 {rt wy : Int} {r : zMem} (i : Int) : bkM rt wy r 138 i = if i = 41 then 1 else r 138 i := by
  unfold bkM
  rw [zup_same, zup_off (by omega), zup_off (by omega), zup_off (by omega), zup_off (by omega)]
theorem bkM_155 {rt wy : Int} {r : zMem} : bkM rt wy r 155 0 = wy ∧ bkM rt wy r 155 1 = rt ∧ bkM rt wy r 155 2 = r 140 106 ∧ bkM rt wy r 155 3 = wsm (r 140) := by
  unfold bkM
  rw [zup_off (by omega)]
  simp only [zup_same]
  refine ⟨?_, ?_, ?_, ?_⟩
  · rw [if_neg (by omega), if_neg (by omega), if_neg (by omega), if_pos trivial]
  · rw [if_neg (by omega), if_neg (by omega), if_pos trivial]
  · rw [if_neg (by omega), if_pos trivial]
  · rw [if_pos trivial]
theorem okB_pq {A A' L : Int → Int} {k : Int} (h : pq A A') (b : okB A L k) : okB A' L k := by
  intro j j0 j1
  have := b j j0 j1
  unfold vL at this ⊢
  rw [h 3 (by omega), h 2 (by omega)]
  exact this
theorem cLiveEnd {m : zMem} {A : Int → Int} (w : vS m 22 A) : (pipe (zup m 45 8 (m (sRf 21 1) 5)) fun m4 => zbind (f_X7_allWealth (sRf 21 1) m4) fun y5 m6 => pipe (zup m6 45 9 y5) fun m7 => (some (0, m7) : Option (Int × zMem))) = some (0, zup (zup m 45 8 (A 106)) 45 9 (wsm A)) := by
  have s1 : sRf 21 1 = 22 := rfl
  have e5 : m 22 5 = A 106 := w.1.2.1
  rw [s1, e5]
  simp only [pipe]
  rw [cAllWealth IL_21.2.2.2 (vS_mem (mem := m) (fun q _ _ => zup_off (by omega)) w)]
  rfl
def frB (m m' : zMem) : Prop := (∀ q, (q < 22 ∨ 26 < q) → q ≠ 45 → m' q = m q) ∧ ∀ i, i < 6 → m' 45 i = m 45 i
theorem frB_t {a b c : zMem} (h1 : frB a b) (h2 : frB b c) : frB a c := ⟨fun q x y => (h2.1 q x y).trans (h1.1 q x y), fun i x => (h2.2 i x).trans (h1.2 i x)⟩
theorem frB_S {m m' : zMem} (h : onlyS m m' 22) : frB m m' := ⟨fun q a _ => h q (by omega), fun i _ => by rw [h 45 (by omega)]⟩
theorem frB_u {m : zMem} {i v : Int} (h : 6 ≤ i) : frB m (zup m 45 i v) := ⟨fun q _ b => zup_off b, fun j hj => by rw [zup_same, if_neg (by omega)]⟩
theorem live_book {L : Int → Int} {k x : Int} (hk : k ≤ 40) : ∀ (d : Nat) (j : Int) (A : Int → Int), j + d = k → 0 ≤ j → oP A → oS A → okB A L k → ∃ A' wy rt, pq A A' ∧ oS A' ∧ 0 ≤ rt ∧ rt ≤ 40 ∧ (∀ (f : Nat) m, d < f → vP m 4 A → vS m 22 A → CB m k k L → m 45 6 = 0 → m 45 7 = j → ∃ m', f_X0_liveOn_0 f 21 j m = some (0, m') ∧ vS m' 22 A' ∧ m' 45 6 = wy ∧ m' 45 7 = rt ∧ m' 45 8 = A' 106 ∧ m' 45 9 = wsm A' ∧ frB m m') ∧ (∀ (f : Nat) r, d + 1 < f → r 140 = A → RB r k k L → f_X12_book_0 f x j 0 r = bkE x rt wy (set140 r A')) := by
  intro d
  have L154 := l154
  have L46 : sLen 46 = 40 := rfl
  have L47 : sLen 47 = 40 := rfl
  have L48 : sLen 48 = 40 := rfl
  have uc : ∀ (f : Nat) y m, f_X0_liveOn_0 (f + 1) 21 y m = b_X0_liveOn_0 (f_X0_liveOn_0 f) 21 y m := fun _ _ _ => rfl
  have ur : ∀ (f : Nat) v2 v3 m, f_X12_book_0 (f + 1) x v2 v3 m = b_X12_book_0 (f_X12_book_0 f) x v2 v3 m := fun _ _ _ _ => rfl
  have fe : ∀ (m : zMem) (A : Int → Int), vS m 22 A → vS (zup (zup m 45 8 (A 106)) 45 9 (wsm A)) 22 A ∧ zup (zup m 45 8 (A 106)) 45 9 (wsm A) 45 6 = m 45 6 ∧ zup (zup m 45 8 (A 106)) 45 9 (wsm A) 45 7 = m 45 7 ∧ zup (zup m 45 8 (A 106)) 45 9 (wsm A) 45 8 = A 106 ∧ zup (zup m 45 8 (A 106)) 45 9 (wsm A) 45 9 = wsm A ∧ frB m (zup (zup m 45 8 (A 106)) 45 9 (wsm A)) := by
    intro m A w
    refine ⟨vS_mem (mem := m) (fun q _ _ => by rw [zup_off (by omega), zup_off (by omega)]) w, ?_, ?_, ?_, ?_, frB_t (frB_u (by omega)) (frB_u (by omega))⟩
    · rw [zup_same, if_neg (by omega), zup_same, if_neg (by omega)]
    · rw [zup_same, if_neg (by omega), zup_same, if_neg (by omega)]
    · rw [zup_same, if_neg (by omega), zup_same, if_pos rfl]
    · rw [zup_same, if_pos rfl]
  induction d with
  | zero =>
    intro j A hj j0 o os b
    refine ⟨A, 0, j, pq_r A, os, j0, by omega, fun f m hf v w cb c6 c7 => ?_, fun f r hf e rb => ?_⟩
    · obtain ⟨f, rfl⟩ : ∃ g, f = g + 1 := ⟨f - 1, by omega⟩
      obtain ⟨x1, x2, x3, x4, x5, x6⟩ := fe m A w
      refine ⟨_, ?_, x1, by rw [x2, c6], by rw [x3, c7], x4, x5, x6⟩
      rw [uc]
      unfold b_X0_liveOn_0
      rw [if_pos (by rw [cb.1]; omega), cLiveEnd w]
    · obtain ⟨f, rfl⟩ : ∃ g, f = g + 1 := ⟨f - 1, by omega⟩
      rw [ur, bk_u, if_pos (by rw [rb.1]; omega), ← e, set140_id]
  | succ d ih =>
    intro j A hj j0 o os b
    have hv := b j j0 (by omega)
    have lw := lvW_r A (L (3 * j)) (L (3 * j + 1)) (L (3 * j + 2))
    have ra : 0 ≤ L (3 * j) ∧ L (3 * j) ≤ 4 := by
      rcases hv with ⟨h, _⟩ | ⟨h, _⟩ | ⟨h, _⟩ | ⟨h, _⟩ <;> omega
    have goR : ∀ r : zMem, r 140 = A → RB r k k L → f_X12_goBy (3 * j) r = (if lvW A (L (3 * j)) (L (3 * j + 1)) (L (3 * j + 2)) = 0 then some (0, set140 r (lvA A (L (3 * j)) (L (3 * j + 1)) (L (3 * j + 2)))) else some (10 * L (3 * j) + lvW A (L (3 * j)) (L (3 * j + 1)) (L (3 * j + 2)), r)) := by
      intro r e rb
      have := mGoByT (r := r) (i := 3 * j) (a := L (3 * j)) (f := L (3 * j + 1)) (s := L (3 * j + 2)) (by omega) (by omega) (rb.2 _ (by omega) (by omega)) (rb.2 _ (by omega) (by omega)) (rb.2 _ (by omega) (by omega)) (by rw [e]; exact o) (by rw [e]; exact os) (by rw [e]; exact hv)
      rw [e] at this
      exact this
    by_cases hw : lvW A (L (3 * j)) (L (3 * j + 1)) (L (3 * j + 2)) = 0
    · have hp := lvA_pq o hv hw
      obtain ⟨A', wy, rt, p1, p2, p3, p4, p5, p6⟩ := ih (j + 1) (lvA A (L (3 * j)) (L (3 * j + 1)) (L (3 * j + 2))) (by omega) (by omega) (pq_P hp o) (lvA_S o os hv hw) (okB_pq hp b)
      refine ⟨A', wy, rt, pq_t hp p1, p2, p3, p4, fun f m hf v w cb c6 c7 => ?_, fun f r hf e rb => ?_⟩
      · obtain ⟨f, rfl⟩ : ∃ g, f = g + 1 := ⟨f - 1, by omega⟩
        have c0 := cb.2 j j0 (by omega)
        obtain ⟨m1, y1, y2, y3⟩ := cLiveB v w o os hv (z := m 48 j) c0.2.2 hw
        have e45 : m1 45 = m 45 := y3 45 (by omega)
        obtain ⟨m', z1, z2, z3, z4, z5, z6, z7⟩ := p5 f (zup (zup m1 45 6 0) 45 7 (j + 1)) (by omega) (vP_mem (mem := m) (fun q _ _ => by rw [zup_off (by omega), zup_off (by omega), y3 q (by omega)]) (pq_V hp o v)) (vS_mem (mem := m1) (fun q _ _ => by rw [zup_off (by omega), zup_off (by omega)]) y2) (by
          refine ⟨by rw [zup_same, if_neg (by omega), zup_same, if_neg (by omega), e45]; exact cb.1, ?_⟩
          rw [zup_off (by omega), zup_off (by omega), zup_off (by omega), zup_off (by omega), zup_off (by omega), zup_off (by omega), y3 46 (by omega), y3 47 (by omega), y3 48 (by omega)]
          exact cb.2) (by rw [zup_same, if_neg (by omega), zup_same, if_pos rfl]) (by rw [zup_same, if_pos rfl])
        refine ⟨m', ?_, z2, z3, z4, z5, z6, frB_t (frB_S y3) (frB_t (frB_t (frB_u (by omega)) (frB_u (by omega))) z7)⟩
        rw [uc]
        unfold b_X0_liveOn_0
        rw [if_neg (by rw [cb.1]; omega), if_neg (by omega), if_pos (show ix 46 j from ⟨by omega, by omega⟩), if_pos (show ix 47 j from ⟨by omega, by omega⟩), if_pos (show ix 48 j from ⟨by omega, by omega⟩), c0.1, c0.2.1, y1]
        simp only [zbind, pipe]
        rw [if_pos (by rw [zup_same, if_pos rfl])]
        have e7 : zup m1 45 6 0 45 7 = j := by rw [zup_same, if_neg (by omega), e45, c7]
        rw [e7, w32_id ⟨by omega, by omega⟩]
        exact z1
      · obtain ⟨f, rfl⟩ : ∃ g, f = g + 1 := ⟨f - 1, by omega⟩
        rw [ur, bk_u, if_neg (by rw [rb.1]; omega), if_pos rfl, w32_id (x := 3 * j) ⟨by omega, by omega⟩, goR r e rb, if_pos hw]
        simp only [zbind]
        rw [if_pos trivial, w32_id (x := j + 1) ⟨by omega, by omega⟩, p6 f _ (by omega) (set140_at _ _) ?_, set140_2]
        refine ⟨by rw [set140_off (by omega)]; exact rb.1, ?_⟩
        rw [set140_off (by omega)]
        exact rb.2
    · refine ⟨A, 10 * L (3 * j) + lvW A (L (3 * j)) (L (3 * j + 1)) (L (3 * j + 2)), j, pq_r A, os, j0, by omega, fun f m hf v w cb c6 c7 => ?_, fun f r hf e rb => ?_⟩
      · obtain ⟨f, rfl⟩ : ∃ g, f = g + 1 := ⟨f - 1, by omega⟩
        have c0 := cb.2 j j0 (by omega)
        have y1 := cLiveN v w o os hv (z := m 48 j) c0.2.2 hw
        have wn : 10 * L (3 * j) + lvW A (L (3 * j)) (L (3 * j + 1)) (L (3 * j + 2)) ≠ 0 := by omega
        generalize 10 * L (3 * j) + lvW A (L (3 * j)) (L (3 * j + 1)) (L (3 * j + 2)) = wy at y1 wn ⊢
        have w2 : vS (zup m 45 6 wy) 22 A := vS_mem (mem := m) (fun q _ _ => zup_off (by omega)) w
        obtain ⟨x1, x2, x3, x4, x5, x6⟩ := fe (zup m 45 6 wy) A w2
        refine ⟨_, ?_, x1, by rw [x2, zup_same, if_pos rfl], by rw [x3, zup_same, if_neg (by omega), c7], x4, x5, frB_t (frB_u (by omega)) x6⟩
        rw [uc]
        unfold b_X0_liveOn_0
        rw [if_neg (by rw [cb.1]; omega), if_neg (by omega), if_pos (show ix 46 j from ⟨by omega, by omega⟩), if_pos (show ix 47 j from ⟨by omega, by omega⟩), if_pos (show ix 48 j from ⟨by omega, by omega⟩), c0.1, c0.2.1, y1]
        simp only [zbind]
        rw [pipe, if_neg (by rw [zup_same, if_pos rfl]; exact wn)]
        exact cLiveEnd w2
      · obtain ⟨f, rfl⟩ : ∃ g, f = g + 2 := ⟨f - 2, by omega⟩
        rw [ur, bk_u, if_neg (by rw [rb.1]; omega), if_pos rfl, w32_id (x := 3 * j) ⟨by omega, by omega⟩, goR r e rb, if_neg hw]
        simp only [zbind]
        rw [if_neg (by omega), ur, bk_u, if_neg (by rw [rb.1]; omega), if_neg (by omega), ← e, set140_id]
