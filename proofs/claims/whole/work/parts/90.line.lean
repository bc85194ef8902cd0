/-! a line of the book, by both: the join -/
def CB (m : zMem) (c k : Int) (L : Int → Int) : Prop := m 45 4 = c ∧ ∀ j, 0 ≤ j → j < k → m 46 j = 10 * L (3 * j) ∧ m 47 j = L (3 * j + 1) ∧ (L (3 * j) ≤ 2 → m 48 j = L (3 * j + 2))
def RB (r : zMem) (c k : Int) (L : Int → Int) : Prop := r 138 40 = c ∧ ∀ i, 0 ≤ i → i < 3 * k → r 154 i = L i
def FB (m m' : zMem) : Prop := (∀ q, q ≠ 1 → q ≠ 45 → q ≠ 46 → q ≠ 47 → q ≠ 48 → m' q = m q) ∧ (∀ i, (i < 4 ∨ 10 < i) → m' 1 i = m 1 i) ∧ ∀ i, i ≠ 4 → m' 45 i = m 45 i
def GB (r r' : zMem) : Prop := (∀ q, q ≠ 138 → q ≠ 154 → r' q = r q) ∧ ∀ i, (i < 5 ∨ (13 < i ∧ i ≠ 40)) → r' 138 i = r 138 i
noncomputable def lineC (m : zMem) : Option (Int × zMem) := zbind (f_X0_readLine 4 m) fun y m6 => if y = 0 then (some (0, m6)) else (f_X6_wantSign 59 m6)
def up3 (L : Int → Int) (k a f s : Int) : Int → Int := fun i => if i = 3 * k then a else if i = 3 * k + 1 then f else if i = 3 * k + 2 then s else L i
def BO (T : Int → Int) (n lim p k : Int) (L A N : Int → Int) : Prop :=
  (∃ kk pl, kk ≠ 0 ∧ (∀ m, CT T n lim m p → PC m A N → CB m k k L → ∃ m', lineC m = some (0, m') ∧ CF m' kk pl ∧ FB m m') ∧ (∀ r, RU T n lim r p → r 140 = A → r 145 = N → RB r k k L → ∃ r', f_X12_readBookLine r = some (0, r') ∧ RF r' kk pl ∧ GB r r')) ∨
  (∃ a f s p', k < 40 ∧ vL A a f s ∧ p < p' ∧ p' ≤ n ∧ (∀ m, CT T n lim m p → PC m A N → CB m k k L → ∃ m', lineC m = some (1, m') ∧ CU T n lim m' p' ∧ CB m' k (k + 1) (up3 L k a f s) ∧ FB m m') ∧ (∀ r, RU T n lim r p → r 140 = A → r 145 = N → RB r k k L → ∃ r', f_X12_readBookLine r = some (1, r') ∧ RU T n lim r' p' ∧ RB r' k (k + 1) (up3 L k a f s) ∧ GB r r'))
theorem FE_B {m m' : zMem} {k : Int} (h : FE m m' k) : FB m m' := ⟨fun q a _ _ d e => h.1 q a d e, h.2.1, fun i _ => by rw [h.1 45 (by omega) (by omega) (by omega)]⟩
theorem FB_t {a b c : zMem} (h1 : FB a b) (h2 : FB b c) : FB a c := ⟨fun q x1 x2 x3 x4 x5 => (h2.1 q x1 x2 x3 x4 x5).trans (h1.1 q x1 x2 x3 x4 x5), fun i x => (h2.2.1 i x).trans (h1.2.1 i x), fun i x => (h2.2.2 i x).trans (h1.2.2 i x)⟩
theorem GE_B {r r' : zMem} {k : Int} (h : GE r r' k) : GB r r' := ⟨h.1, fun i x => h.2.1 i (by omega)⟩
theorem GB_t {a b c : zMem} (h1 : GB a b) (h2 : GB b c) : GB a c := ⟨fun q x y => (h2.1 q x y).trans (h1.1 q x y), fun i x => (h2.2 i x).trans (h1.2 i x)⟩
theorem FXF_B {m m' : zMem} (h : FXF m m') : FB m m' := FE_B (k := 0) (FE_F h)
theorem FYF_B {m m' : zMem} (h : FYF m m') : GB m m' := GE_B (k := 0) (GE_F h)
theorem line_join {T : Int → Int} {n lim p q k a f0 : Int} {L A N : Int → Int} {gc gr : zMem → Option (Int × zMem)} (ok : okTx T n) (hl : 0 ≤ lim) (h0 : 0 ≤ q) (h1 : q ≤ n) (hpq : p < q) (k0 : 0 ≤ k) (k1 : k < 40) (ao : AO T n lim q k a f0 A N gc gr)
    (hc : ∀ m, CT T n lim m p → PC m A N → m 45 4 = k → ∃ M, f_X0_readLine 4 m = gc M ∧ CU T n lim M q ∧ PC M A N ∧ M 45 4 = k ∧ (a = 0 → M 47 k = f0) ∧ M 46 k = 10 * a ∧ (∀ j, j ≠ k → M 46 j = m 46 j ∧ M 47 j = m 47 j ∧ M 48 j = m 48 j) ∧ FB m M)
    (hr : ∀ r, RU T n lim r p → r 140 = A → r 145 = N → r 138 40 = k → ∃ R, f_X12_readBookLine r = (zbind (gr R) fun y m => if y = 0 then (some (0, m)) else (zbind (f_X12_readEnd m) fun y2 m2 => if y2 = 0 then (some (0, m2)) else (some (1, m2)))) ∧ RU T n lim R q ∧ R 140 = A ∧ R 145 = N ∧ (a = 0 → R 154 (3 * k + 1) = f0) ∧ R 154 (3 * k + 2) = 0 ∧ R 154 (3 * k) = a ∧ (∀ i, i < 3 * k → R 154 i = r 154 i) ∧ R 138 40 = k ∧ GB r R) : BO T n lim p k L A N := by
  rcases ao with ⟨kk, pl, kn, ac, ar⟩ | ⟨q', f, s, q1, q2, hv, ac, ar⟩
  · refine Or.inl ⟨kk, pl, kn, fun m x y z => ?_, fun r x y z w => ?_⟩
    · obtain ⟨M, b1, b2, b3, b4, b5, b6, b7, b8⟩ := hc m x y z.1
      obtain ⟨m', c1, c2, c3⟩ := ac M b2 b3 b4
      refine ⟨m', ?_, c2, FB_t b8 (FE_B c3)⟩
      unfold lineC
      rw [b1, c1]
      simp [zbind]
    · obtain ⟨R, b1, b2, b3, b4, b5, b6, b7, b8, b9, b10⟩ := hr r x y z w.1
      obtain ⟨r', c1, c2, c3⟩ := ar R b2 b3 b4
      refine ⟨r', ?_, c2, GB_t b10 (GE_B c3)⟩
      rw [b1, c1]
      simp [zbind]
  · have lr := lexT_r (T := T) (n := n) (lim := lim) hl (by omega : 0 ≤ q') q2
    by_cases g : (lexT T n lim q').2.2.1 = 4 ∧ (lexT T n lim q').2.2.2.1 = 59
    · refine Or.inr ⟨a, f, s, (lexT T n lim q').2.1, k1, hv, by omega, lr.2.1, fun m x y z => ?_, fun r x y z w => ?_⟩
      · obtain ⟨M, b1, b2, b3, b4, b5, b6, b7, b8⟩ := hc m x y z.1
        obtain ⟨m', c1, c2, c3, c4, c5⟩ := ac M b2 b3 b4 b5
        obtain ⟨m2, d1, d2, d3⟩ := (cSemi ok (by omega) q2 c2).1 g
        refine ⟨m2, ?_, CT_U d2, ⟨?_, fun j j0 j1 => ?_⟩, FB_t b8 (FB_t (FE_B c5) (FXF_B d3))⟩
        · unfold lineC
          rw [b1, c1]
          simp only [zbind]
          rw [if_neg (by omega), d1]
        · rw [d3.1 45 (by omega), c5.1 45 (by omega) (by omega) (by omega), b4]
        · rw [d3.1 46 (by omega), d3.1 47 (by omega), d3.1 48 (by omega), c5.1 46 (by omega) (by omega) (by omega)]
          unfold up3
          by_cases hj : j = k
          · subst hj
            rw [if_pos rfl, if_neg (by omega), if_pos rfl, if_neg (by omega), if_neg (by omega), if_pos rfl]
            exact ⟨b6, c3, c4⟩
          · rw [if_neg (by omega), if_neg (by omega), if_neg (by omega), if_neg (by omega), if_neg (by omega), if_neg (by omega), if_neg (by omega), if_neg (by omega), if_neg (by omega), (c5.2.2 j hj).1, (c5.2.2 j hj).2, (b7 j hj).1, (b7 j hj).2.1, (b7 j hj).2.2]
            exact z.2 j j0 (by omega)
      · obtain ⟨R, b1, b2, b3, b4, b5, b6, b7, b8, b9, b10⟩ := hr r x y z w.1
        obtain ⟨r', c1, c2, c3, c4, c5⟩ := ar R b2 b3 b4 b5 b6
        obtain ⟨r2, d1, d2, d3⟩ := (mSemi ok hl (by omega) q2 c2).1 g
        refine ⟨r2, ?_, d2, ⟨?_, fun i i0 i1 => ?_⟩, GB_t b10 (GB_t (GE_B c5) (FYF_B d3))⟩
        · rw [b1, c1]
          simp only [zbind]
          rw [if_neg (by omega), d1]
          simp
        · rw [d3.2 40 (by omega), c5.2.1 40 (by omega), b9]
        · rw [d3.1 154 (by omega)]
          unfold up3
          by_cases i2 : i = 3 * k
          · rw [if_pos i2, i2, c5.2.2 _ (by omega), b7]
          · rw [if_neg i2]
            by_cases i3 : i = 3 * k + 1
            · rw [if_pos i3, i3, c3]
            · rw [if_neg i3]
              by_cases i4 : i = 3 * k + 2
              · rw [if_pos i4, i4, c4]
              · rw [if_neg i4, c5.2.2 _ (by omega), b8 _ (by omega)]
                exact w.2 i i0 (by omega)
    · refine Or.inl ⟨1, (lexT T n lim q').1, by omega, fun m x y z => ?_, fun r x y z w => ?_⟩
      · obtain ⟨M, b1, b2, b3, b4, b5, b6, b7, b8⟩ := hc m x y z.1
        obtain ⟨m', c1, c2, c3, c4, c5⟩ := ac M b2 b3 b4 b5
        obtain ⟨m2, d1, d2, d3⟩ := (cSemi ok (by omega) q2 c2).2 g
        refine ⟨m2, ?_, d2, FB_t b8 (FB_t (FE_B c5) (FXF_B d3))⟩
        unfold lineC
        rw [b1, c1]
        simp only [zbind]
        rw [if_neg (by omega), d1]
      · obtain ⟨R, b1, b2, b3, b4, b5, b6, b7, b8, b9, b10⟩ := hr r x y z w.1
        obtain ⟨r', c1, c2, c3, c4, c5⟩ := ar R b2 b3 b4 b5 b6
        obtain ⟨r2, d1, d2, d3⟩ := (mSemi ok hl (by omega) q2 c2).2 g
        refine ⟨r2, ?_, d2, GB_t b10 (GB_t (GE_B c5) (FYF_B d3))⟩
        rw [b1, c1]
        simp only [zbind]
        rw [if_neg (by omega), d1]
        simp
