theorem qDrawn {mem : zMem} (R : Rel mem) (n x : Int) : okC (f_X11_drawn n x) (f_X12_drawn n x) mem := by
  obtain ⟨a, b, c⟩ := R
  obtain ⟨o, os, v, w, nn, ss⟩ := a
  have o1 := o.1
  have os1 := os.1
  have e : m00 mem 140 = mem 140 := m00_off (by omega)
  by_cases hn : 1 ≤ n ∧ n ≤ 60
  · obtain ⟨m3, c1, c2, c3⟩ := cCopyS (to := 22) (fr := 11) IL_21.2.2.2 IL_20.2.2.2 (by omega) w (by omega) (by omega)
    obtain ⟨A', x', g, l1, l2, l3, l4, l5, l6⟩ := live_all o os hn x
    obtain ⟨m5, d1, d2, d3⟩ := l5 m3 (vP_mem (fun q _ _ => c3 q (by omega)) v) c2
    have f5 : ∀ q, (q < 22 ∨ 26 < q) → q ≠ 101 → m5 q = mem q := fun q h1 h2 => by rw [d3 q h1 h2, c3 q (by omega)]
    have e140 : m5 140 = mem 140 := f5 140 (by omega) (by omega)
    have a5 : rI m5 4 11 16 (m5 140) (m5 145) := by
      rw [e140, f5 145 (by omega) (by omega)]
      exact rI_mem (fun q _ _ => f5 q (by omega) (by omega)) (fun q _ _ => f5 q (by omega) (by omega)) (fun q _ _ => f5 q (by omega) (by omega)) ⟨o, os, v, w, nn, ss⟩
    have b5 : rH m5 (m5 140) := by
      rw [e140]
      exact rH_mem (fun q _ _ => f5 q (by omega) (by omega)) (by rw [f5 138 (by omega) (by omega)]) (f5 143 (by omega) (by omega)) b
    by_cases hg : g = 0
    · have R5 : Rel (m00 m5) := Rel_m00 (Rel_mem ⟨fun q hq => f5 q (by omega) (by omega), by rw [f5 1 (by omega) (by omega)], fun i _ => by rw [f5 45 (by omega) (by omega)], fun i _ => by rw [f5 138 (by omega) (by omega)]⟩ (fun q hq => f5 q (by omega) (by omega)) (by rw [f5 138 (by omega) (by omega)]) ⟨⟨o, os, v, w, nn, ss⟩, b, c⟩)
      refine ⟨0, m5, m00 m5, ?_, ?_, R5⟩
      · unfold f_X11_drawn
        rw [if_neg (by omega), if_pos (by omega), c1]
        simp only [zbind]
        rw [d1]
        simp only
        rw [if_pos (by omega), hg]
      · unfold f_X12_drawn
        simp only [pipe, m00_eq, mIsIn, zbind, bi0]
        have e6 : m00 m5 140 106 = 400 := by rw [m00_off (by omega), e140]; exact l4.1 hg
        rw [if_pos (by omega), ixl (by omega), if_pos e6]
    · obtain ⟨mk, mc, k0, k1, k2, k3, k4⟩ := act_ok a5 b5 (A' := A') (fun i _ h => by rw [e140]; exact l1 i (by omega)) (fun i h _ => by rw [e140]; exact l1 i (by omega)) l2 (act := f_X7_copyFrom 11 22) (fun m hm => cCopyS (to := 11) (fr := 22) IL_20.2.2.2 IL_21.2.2.2 (by omega) (vS_mem (fun q _ _ => hm q (by omega)) d2.2.1) (by rw [l1 2 (by omega)]; omega) (by rw [l1 3 (by omega)]; omega))
      have e1 : m00 mc 140 = m5 140 := by rw [m00_off (by omega), k3 140 (by omega) (by omega)]
      obtain ⟨ms, s0, s1, s2, s3⟩ := k4 (m00 mc) e1 (by rw [m00_off (by omega), k3 143 (by omega) (by omega)]) (by rw [m00_at (by omega), k3 138 (by omega) (by omega)])
      have e2 : ms 140 = mem 140 := by rw [s1 140 (by omega) (by omega), e1, e140]
      obtain ⟨mf, t1, t2, t3⟩ := l6 ms e2
      have g1 : ∀ q, q ≠ 138 → q ≠ 140 → q ≠ 143 → mf q = mc q := fun q h1 h2 h3 => by rw [t3.1 q h1 h2, s1 q h3 h1, m00_off h1]
      have g2 : ∀ i, i ≠ 0 → i ≠ 25 → i ≠ 37 → mf 138 i = mem 138 i := fun i h1 h2 h3 => by rw [t3.2 i h3, s2 i h2, m00_at h1, k3 138 (by omega) (by omega), f5 138 (by omega) (by omega)]
      have g3 : ∀ q, q ≠ 138 → q ≠ 140 → q ≠ 143 → (q < 11 ∨ 15 < q) → (q < 22 ∨ 26 < q) → (q < 53 ∨ 94 < q) → q ≠ 101 → mf q = mem q := fun q h1 h2 h3 h4 h5 h6 h7 => by rw [g1 q h1 h2 h3, k3 q h4 h6, f5 q h5 h7]
      obtain ⟨x1, x2⟩ := s3 mf t2.1 (by rw [g1 145 (by omega) (by omega) (by omega), k3 145 (by omega) (by omega)]) (fun q hq => g1 q (by omega) (by omega) (by omega)) (t3.1 143 (by omega) (by omega)) (t3.2 25 (by omega))
      refine ⟨g, mc, mf, ?_, ?_, x1, x2, rO_mem ⟨fun q hq => g3 q (by omega) (by omega) (by omega) (by omega) (by omega) (by omega) (by omega), by rw [g3 1 (by omega) (by omega) (by omega) (by omega) (by omega) (by omega) (by omega)], fun i _ => by rw [g3 45 (by omega) (by omega) (by omega) (by omega) (by omega) (by omega) (by omega)], fun i hi => g2 i (by omega) (by omega) (by omega)⟩ c⟩
      · unfold f_X11_drawn
        rw [if_neg (by omega), if_pos (by omega), c1]
        simp only [zbind]
        rw [d1]
        simp only
        rw [if_neg (by omega), k0]
        simp only
        rw [k2]
      · unfold f_X12_drawn
        simp only [pipe, m00_eq, mIsIn, zbind, bi0]
        have e6 : ¬ m00 mc 140 106 = 400 := by rw [e1, e140]; exact fun h => hg (l4.2 h)
        rw [if_pos (by omega), ixl (by omega), if_neg e6, s0]
        simp only
        rw [t1]
  · refine okQ ⟨⟨o, os, v, w, nn, ss⟩, b, c⟩ (-1) ?_ ?_
    · unfold f_X11_drawn
      by_cases h : n < 1
      · rw [if_pos h]
      · rw [if_neg h, if_neg (by omega)]
    · unfold f_X12_drawn
      simp only [pipe, m00_eq, mIsIn, zbind, bi0]
      rw [if_neg (by omega)]
/-! laid aside, taken back -/
theorem mLayAside (mem : zMem) : ∃ m', f_X12_layAside mem = some (0, m') ∧ (∀ q, q ≠ 144 → m' q = mem q) ∧ ∀ i, 0 ≤ i → i < 86 → m' 144 i = mem 140 (106 + i) := by
  have L : sLen 144 = 86 := rfl
  obtain ⟨n', m', ⟨i1, i2⟩, e⟩ := lp_inv (F := fun n i m => f_X12_layAside_0 n i m) (N := 86) (m := mem) (I := fun i m => (∀ q, q ≠ 144 → m q = mem q) ∧ ∀ j, 0 ≤ j → j < i → m 144 j = mem 140 (106 + j)) (by
    intro n i m a b ⟨c, d⟩
    show ∃ m', b_X12_layAside_0 (f_X12_layAside_0 n) i m = _ ∧ _
    unfold b_X12_layAside_0
    rw [if_neg (by omega), w32_id (x := 106 + i) ⟨by omega, by omega⟩, ixl (by omega), if_pos (by omega), w32_id (x := i + 1) ⟨by omega, by omega⟩, c 140 (by omega)]
    refine ⟨_, rfl, fun q hq => by rw [zup_off hq, c q hq], fun j j0 j1 => ?_⟩
    rw [zup_same]
    by_cases hj : j = i
    · rw [if_pos hj, hj]
    · rw [if_neg hj, d j j0 (by omega)]) (by omega) (by omega) ⟨fun _ _ => rfl, fun j a b => by omega⟩
  refine ⟨m', ?_, i1, i2⟩
  unfold f_X12_layAside
  rw [show f_X12_layAside_0 zN 0 mem = f_X12_layAside_0 (n' + 1) 86 m' from e]
  show b_X12_layAside_0 (f_X12_layAside_0 n') 86 m' = _
  unfold b_X12_layAside_0
  rw [if_pos (by omega)]
theorem mTakeBack {mem : zMem} {A B : Int → Int} (h : mem 140 = B) (hp : pq A B) (ha : ∀ i, 0 ≤ i → i < 86 → mem 144 i = A (106 + i)) : f_X12_takeBack mem = some (0, set140 mem A) := by
  have L : sLen 144 = 86 := rfl
  obtain ⟨n', m', ⟨i1, i2⟩, e⟩ := lp_inv (F := fun n i m => f_X12_takeBack_0 n i m) (N := 86) (m := mem) (I := fun i m => (∀ q, q ≠ 140 → m q = mem q) ∧ ∀ j, m 140 j = if j < 106 + i ∨ 192 ≤ j then A j else B j) (by
    intro n i m a b ⟨c, d⟩
    show ∃ m', b_X12_takeBack_0 (f_X12_takeBack_0 n) i m = _ ∧ _
    unfold b_X12_takeBack_0
    rw [if_neg (by omega), w32_id (x := 106 + i) ⟨by omega, by omega⟩, if_pos (by omega), ixl (by omega), w32_id (x := i + 1) ⟨by omega, by omega⟩, c 144 (by omega), ha i a b]
    refine ⟨_, rfl, fun q hq => by rw [zup_off hq, c q hq], fun j => ?_⟩
    rw [zup_same]
    by_cases hj : j = 106 + i
    · rw [if_pos hj, if_pos (by omega), hj]
    · rw [if_neg hj, d j]
      by_cases hk : j < 106 + i ∨ 192 ≤ j
      · rw [if_pos hk, if_pos (by omega)]
      · rw [if_neg hk, if_neg (by omega)]) (by omega) (by omega) ⟨fun _ _ => rfl, fun j => by
        rw [h]
        by_cases hk : j < 106 + 0 ∨ 192 ≤ j
        · rw [if_pos hk, hp j (by omega)]
        · rw [if_neg hk]⟩
  have hm : m' = set140 mem A := by
    funext q
    by_cases hq : q = 140
    · subst hq
      rw [set140_at]
      funext j
      rw [i2 j]
      by_cases hk : j < 106 + 86 ∨ 192 ≤ j
      · rw [if_pos hk]
      · omega
    · rw [set140_off hq, i1 q hq]
  rw [← hm]
  unfold f_X12_takeBack
  rw [show f_X12_takeBack_0 zN 0 mem = f_X12_takeBack_0 (n' + 1) 86 m' from e]
  show b_X12_takeBack_0 (f_X12_takeBack_0 n') 86 m' = _
  unfold b_X12_takeBack_0
  rw [if_pos (by omega)]
theorem odds_l {A : Int → Int} (o : oP A) (os : oS A) {p n x : Int} (hp : 0 ≤ p ∧ p < A 3) (hn : n ≤ 30) : ∀ (k : Nat) (a i : Int) (f f' : Nat) (m : zMem), 0 ≤ i → i + k = n → 0 ≤ a → a ≤ i → k < f → k < f' → vP m 4 A → vS m 11 A → ∃ y m', f_X11_odds_0 f p n x a i m = some (y, m') ∧ frC m m' ∧ ∀ r : zMem, r 140 = A → (∀ i, 0 ≤ i → i < 86 → r 144 i = A (106 + i)) → ∃ r', f_X12_odds_0 f' p n x a i r = some (y, r') ∧ r' 140 = A ∧ frR r r' := by
  have o1 := o.1
  have l25 : sLen 25 = 6 := rfl
  have l14 : sLen 14 = 6 := rfl
  have l144 : sLen 144 = 86 := rfl
  intro k
  induction k with
  | zero =>
    intro a i f f' m i0 i1 a0 a1 hf hf' v w
    obtain ⟨f, rfl⟩ : ∃ q, f = q + 1 := ⟨f - 1, by omega⟩
    obtain ⟨f', rfl⟩ : ∃ q, f' = q + 1 := ⟨f' - 1, by omega⟩
    refine ⟨a, m, ?_, frC_r m, fun r h1 h2 => ⟨r, ?_, h1, frR_r r⟩⟩
    · show b_X11_odds_0 (f_X11_odds_0 f) p n x a i m = _
      unfold b_X11_odds_0
      rw [if_pos (by omega)]
    · show b_X12_odds_0 (f_X12_odds_0 f') p n x a i r = _
      unfold b_X12_odds_0
      rw [if_pos (by omega)]
  | succ k ih =>
    intro a i f f' m i0 i1 a0 a1 hf hf' v w
    obtain ⟨f, rfl⟩ : ∃ q, f = q + 1 := ⟨f - 1, by omega⟩
    obtain ⟨f', rfl⟩ : ∃ q, f' = q + 1 := ⟨f' - 1, by omega⟩
    obtain ⟨m3, c1, c2, c3⟩ := cCopyS (to := 22) (fr := 11) IL_21.2.2.2 IL_20.2.2.2 (by omega) w (by omega) (by omega)
    obtain ⟨A', x', g, l1, l2, l3, l4, l5, l6⟩ := live_all o os (n := 20) (by omega) (w32 (x + i))
    obtain ⟨m5, d1, d2, d3⟩ := l5 m3 (vP_mem (fun q _ _ => c3 q (by omega)) v) c2
    have f5 : frC m m5 := frC_t (frC_S c3) d3
    have v5 : vP m5 4 A := vP_mem (fun q _ _ => f5 q (by omega) (by omega)) v
    have w5 : vS m5 11 A := vS_mem (fun q _ _ => f5 q (by omega) (by omega)) w
    have e25 : m5 25 p = A' (122 + p) := d2.2.1.2.2.2.1 p hp.1 (by omega)
    have e14 : m5 14 p = A (122 + p) := w5.2.2.2.1 p hp.1 (by omega)
    obtain ⟨y, m', h1, h2, h3⟩ := ih (if A' (122 + p) ≤ A (122 + p) then a else a + 1) (i + 1) f f' m5 (by omega) (by omega) (by split <;> omega) (by split <;> omega) (by omega) (by omega) v5 w5
    refine ⟨y, m', ?_, frC_t f5 h2, fun r r1 r2 => ?_⟩
    · show b_X11_odds_0 (f_X11_odds_0 f) p n x a i m = _
      unfold b_X11_odds_0
      rw [if_neg (by omega), c1]
      simp only [zbind]
      rw [d1]
      simp only
      rw [if_pos (show ix 25 p from ⟨hp.1, by omega⟩), if_pos (show ix 14 p from ⟨hp.1, by omega⟩), e25, e14, w32_id (x := i + 1) ⟨by omega, by omega⟩, w32_id (x := a + 1) ⟨by omega, by omega⟩]
      by_cases hc : A' (122 + p) ≤ A (122 + p)
      · rw [if_pos hc] at h1 ⊢
        exact h1
      · rw [if_neg hc] at h1 ⊢
        exact h1
    · obtain ⟨r3, t1, t2, t3⟩ := l6 r r1
      have tb := mTakeBack (mem := r3) t2.1 l1 (fun i a b => by rw [t3.1 144 (by omega) (by omega)]; exact r2 i a b)
      obtain ⟨r', u1, u2, u3⟩ := h3 (set140 r3 A) (set140_at _ _) (fun i a b => by rw [set140_off (by omega), t3.1 144 (by omega) (by omega)]; exact r2 i a b)
      refine ⟨r', ?_, u2, frR_t (frR_t t3 (frR_140 _ _)) u3⟩
      have e144 : r3 144 (16 + p) = A (122 + p) := by
        rw [t3.1 144 (by omega) (by omega), r2 (16 + p) (by omega) (by omega)]
        congr 1
        omega
      show b_X12_odds_0 (f_X12_odds_0 f') p n x a i r = _
      unfold b_X12_odds_0
      rw [if_neg (by omega), t1]
      simp only [zbind]
      rw [w32_id (x := 122 + p) ⟨by omega, by omega⟩, w32_id (x := 16 + p) ⟨by omega, by omega⟩, ixl (by omega), if_pos (show ix 144 (16 + p) from ⟨by omega, by omega⟩), w32_id (x := i + 1) ⟨by omega, by omega⟩, w32_id (x := a + 1) ⟨by omega, by omega⟩, tb]
      have e122 : r3 140 (122 + p) = A' (122 + p) := by rw [t2.1]
      by_cases hc : A' (122 + p) ≤ A (122 + p)
      · rw [if_pos hc] at u1
        rw [if_pos (by omega)]
        exact u1
      · rw [if_neg hc] at u1
        rw [if_neg (by omega)]
        exact u1
theorem qOdds {mem : zMem} (R : Rel mem) (p n x : Int) : okC (f_X11_odds p n x) (f_X12_odds p n x) mem := by
  have hN := zN_ge
  obtain ⟨o, os, v, w, _⟩ := R.1
  have o1 := o.1
  have e : m00 mem 140 = mem 140 := m00_off (by omega)
  have o' : oP (m00 mem 140) := by rw [e]; exact o
  by_cases hp : 0 ≤ p ∧ p < mem 140 3
  · by_cases hn : 1 ≤ n ∧ n ≤ 30
    · obtain ⟨y, mc, c1, c2, c3⟩ := odds_l o os (p := p) (n := n) (x := x) hp hn.2 n.toNat 0 0 zN zN mem (by omega) (by omega) (by omega) (by omega) (by omega) (by omega) v w
      have e1 : m00 mc 140 = mem 140 := by rw [m00_off (by omega), c2 140 (by omega) (by omega)]
      have o2 : oP (m00 mc 140) := by rw [e1]; exact o
      obtain ⟨ma, d1, d2, d3⟩ := mLayAside (m00 mc)
      obtain ⟨mf, f1, f2, f3⟩ := c3 ma (by rw [d2 140 (by omega), e1]) (fun i a b => by rw [d3 i a b, e1])
      have g1 : ∀ q, q ≠ 138 → q ≠ 140 → q ≠ 144 → (q < 22 ∨ 26 < q) → q ≠ 101 → mf q = mem q := fun q h1 h2 h3 h4 h5 => by rw [f3.1 q h1 h2, d2 q h3, m00_off h1, c2 q h4 h5]
      have g2 : ∀ i, i ≠ 0 → i ≠ 37 → mf 138 i = mem 138 i := fun i h1 h2 => by rw [f3.2 i h2, d2 138 (by omega), m00_at h1, c2 138 (by omega) (by omega)]
      refine ⟨y, mc, mf, ?_, ?_, Rel_mem ⟨fun q hq => g1 q (by omega) (by omega) (by omega) (by omega) (by omega), by rw [g1 1 (by omega) (by omega) (by omega) (by omega) (by omega)], fun i _ => by rw [g1 45 (by omega) (by omega) (by omega) (by omega) (by omega)], fun i hi => g2 i (by omega) (by omega)⟩ (fun q hq => ?_) (g2 25 (by omega) (by omega)) R⟩
      · unfold f_X11_odds
        simp only [cHasPerson v o, zbind, bi0]
        rw [if_pos hp, if_neg (by omega), if_pos (by omega), c1]
      · unfold f_X12_odds
        simp only [pipe, m00_eq, mIsPerson o2, mIsIn, zbind, bi0, e1]
        rw [if_pos hp, if_pos (by omega), d1]
        simp only
        rw [f1]
      · by_cases h : q = 140
        · rw [h, f2]
        · exact g1 q (by omega) h (by omega) (by omega) (by omega)
    · refine okQ R (-1) ?_ ?_
      · unfold f_X11_odds
        simp only [cHasPerson v o, zbind, bi0]
        rw [if_pos hp]
        by_cases h : n < 1
        · rw [if_pos h]
        · rw [if_neg h, if_neg (by omega)]
      · unfold f_X12_odds
        simp only [pipe, m00_eq, mIsPerson o', mIsIn, zbind, bi0, e]
        rw [if_pos hp, if_neg (by omega)]
  · refine okQ R (-1) ?_ ?_
    · unfold f_X11_odds
      simp only [cHasPerson v o, zbind, bi0]
      rw [if_neg hp]
    · unfold f_X12_odds
      simp only [pipe, m00_eq, mIsPerson o', zbind, bi0, e]
      rw [if_neg hp]
