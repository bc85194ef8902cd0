/-! the lines of the book, by both -/
def okB (A L : Int → Int) (k : Int) : Prop := ∀ j, 0 ≤ j → j < k → vL A (L (3 * j)) (L (3 * j + 1)) (L (3 * j + 2))
theorem okB_up {A L : Int → Int} {k a f s : Int} (h : okB A L k) (v : vL A a f s) : okB A (up3 L k a f s) (k + 1) := by
  intro j j0 j1
  unfold up3
  by_cases hj : j = k
  · subst hj
    rw [if_pos rfl, if_neg (by omega), if_pos rfl, if_neg (by omega), if_neg (by omega), if_pos rfl]
    exact v
  · rw [if_neg (by omega), if_neg (by omega), if_neg (by omega), if_neg (by omega), if_neg (by omega), if_neg (by omega), if_neg (by omega), if_neg (by omega), if_neg (by omega)]
    exact h j j0 (by omega)
theorem CU_45 {T : Int → Int} {n lim p i v : Int} {m : zMem} (c : CU T n lim m p) : CU T n lim (zup m 45 i v) p := CU_up c (by omega)
theorem FB_45 {m : zMem} {v : Int} : FB m (zup m 45 4 v) := ⟨fun q _ b _ _ _ => zup_off b, fun i _ => by rw [zup_off (by omega)], fun i hi => by rw [zup_same, if_neg hi]⟩
theorem GB_40 {m : zMem} {v : Int} : GB m (zup m 138 40 v) := ⟨fun q b _ => zup_off b, fun i hi => by rw [zup_same, if_neg (by omega)]⟩
theorem book_lines {T : Int → Int} {n lim : Int} {A N : Int → Int} (ok : okTx T n) (hl : 0 ≤ lim) (o : oP A) (x : Int) : ∀ (d : Nat) (p k : Int) (L : Int → Int), n - p < d → 0 ≤ p → p ≤ n → 0 ≤ k → k ≤ 40 → okB A L k → (∃ kk pl, kk ≠ 0 ∧ (∀ (f : Nat) m, d ≤ f → CU T n lim m p → PC m A N → CB m k k L → ∃ m', f_X0_readLines_0 f 4 k m = some (0, m') ∧ CF m' kk pl ∧ FB m m') ∧ (∀ (f : Nat) r, d ≤ f → RU T n lim r p → r 140 = A → r 145 = N → RB r k k L → ∃ r', f_X12_book_1 f x r = some (w32 (-2 - pl), r') ∧ RF r' kk pl ∧ GB r r')) ∨ (∃ k' L', 0 ≤ k' ∧ k' ≤ 40 ∧ okB A L' k' ∧ (∀ (f : Nat) m, d ≤ f → CU T n lim m p → PC m A N → CB m k k L → ∃ m', f_X0_readLines_0 f 4 k m = some (0, m') ∧ m' 1 9 = 0 ∧ CB m' k' k' L' ∧ FB m m') ∧ (∀ (f : Nat) r, d ≤ f → RU T n lim r p → r 140 = A → r 145 = N → RB r k k L → ∃ r', f_X12_book_1 f x r = (zbind (f_X12_layAside r') fun _ m3 => f_X12_book_0 zN x 0 0 m3) ∧ r' 138 10 = 0 ∧ RB r' k' k' L' ∧ GB r r')) := by
  intro d
  induction d with
  | zero => intro p k L h1 h2 h3; omega
  | succ d ih =>
    intro p k L h1 h2 h3 h4 h5 hb
    have lr := lexT_r (T := T) (n := n) (lim := lim) hl h2 h3
    have uc : ∀ (f : Nat) y m, f_X0_readLines_0 (f + 1) 4 y m = b_X0_readLines_0 (f_X0_readLines_0 f) 4 y m := fun _ _ _ => rfl
    have ur : ∀ (f : Nat) m, f_X12_book_1 (f + 1) x m = b_X12_book_1 (f_X12_book_1 f) x m := fun _ _ => rfl
    by_cases hz : (lexT T n lim p).2.2.1 = 0
    · refine Or.inr ⟨k, L, h4, h5, hb, fun f m hf a pc b => ?_, fun f r hf a eA eN b => ?_⟩
      · obtain ⟨f, rfl⟩ : ∃ j, f = j + 1 := ⟨f - 1, by omega⟩
        obtain ⟨m', x1, x2, x3⟩ := cStepU ok h2 h3 a
        refine ⟨m', ?_, x2.2.2, ?_, FXF_B x3⟩
        · rw [uc]
          unfold b_X0_readLines_0
          have e6 := x2.2.1.2.2.1
          rw [if_pos hz] at e6
          rw [if_neg (by omega), x1]
          simp only [zbind]
          rw [if_pos e6]
        · unfold CB
          rw [x3.1 45 (by omega), x3.1 46 (by omega), x3.1 47 (by omega), x3.1 48 (by omega)]
          exact b
      · obtain ⟨f, rfl⟩ : ∃ j, f = j + 1 := ⟨f - 1, by omega⟩
        refine ⟨r, ?_, a.1.2, b, FYF_B (FYF_r r)⟩
        rw [ur]
        unfold b_X12_book_1
        rw [if_pos (by rw [a.2.2.2.1]; exact hz)]
    · have cl : ∀ m, CU T n lim m p → PC m A N → CB m k k L → ∃ m2, CT T n lim m2 p ∧ PC m2 A N ∧ CB m2 k k L ∧ FB m m2 ∧ ∀ f : Nat, f_X0_readLines_0 (f + 1) 4 k m = (zbind (lineC m2) fun y m9 => if y = 0 then (some (0, m9)) else (pipe (zup m9 45 4 (w32 ((m9 45 4) + 1))) fun m12 => f_X0_readLines_0 f 4 (w32 (k + 1)) m12)) := by
        intro m a pc b
        obtain ⟨m', x1, x2, x3⟩ := cStepU ok h2 h3 a
        refine ⟨m', x2, PC_f pc (fun q _ _ => x3.1 q (by omega)), ?_, FXF_B x3, fun f => ?_⟩
        · unfold CB
          rw [x3.1 45 (by omega), x3.1 46 (by omega), x3.1 47 (by omega), x3.1 48 (by omega)]
          exact b
        · rw [uc]
          unfold b_X0_readLines_0 lineC
          have e6 := x2.2.1.2.2.1
          have e7 : m' 1 6 ≠ 0 := by
            rw [e6, if_neg hz]
            split <;> omega
          rw [if_neg (by omega), x1]
          simp only [zbind]
          rw [if_neg e7]
          cases f_X0_readLine 4 m' with
          | none => rfl
          | some y =>
            simp only
            by_cases hy : y.1 = 0
            · rw [if_pos hy, if_pos hy]
              rfl
            · rw [if_neg hy, if_neg hy]
      have rl : ∀ (f : Nat) r, RU T n lim r p → f_X12_book_1 (f + 1) x r = (zbind (f_X12_readBookLine r) fun y4 m5 => if y4 = 0 then (some ((w32 ((-2) - (m5 138 11))), m5)) else (pipe (zup m5 138 40 (w32 ((m5 138 40) + 1))) fun m9 => f_X12_book_1 f x m9)) := by
        intro f r a
        rw [ur]
        unfold b_X12_book_1
        rw [if_neg (by rw [a.2.2.2.1]; exact hz)]
      rcases line_book (L := L) (N := N) ok hl h2 h3 o h4 h5 with ⟨kk, pl, kn, hc, hr⟩ | ⟨a', f', s', p', k1, hv, q1, q2, hc, hr⟩
      · refine Or.inl ⟨kk, pl, kn, fun f m hf a pc b => ?_, fun f r hf a eA eN b => ?_⟩
        · obtain ⟨f, rfl⟩ : ∃ j, f = j + 1 := ⟨f - 1, by omega⟩
          obtain ⟨m2, x1, x2, x3, x4, x5⟩ := cl m a pc b
          obtain ⟨m', y1, y2, y3⟩ := hc m2 x1 x2 x3
          refine ⟨m', ?_, y2, FB_t x4 y3⟩
          rw [x5, y1]
          simp [zbind]
        · obtain ⟨f, rfl⟩ : ∃ j, f = j + 1 := ⟨f - 1, by omega⟩
          obtain ⟨r', y1, y2, y3⟩ := hr r a eA eN b
          refine ⟨r', ?_, y2, y3⟩
          rw [rl f r a, y1]
          simp only [zbind]
          rw [if_pos trivial, y2.2]
      · have cl2 : ∀ m, CU T n lim m p → PC m A N → CB m k k L → ∃ m9, CU T n lim m9 p' ∧ PC m9 A N ∧ CB m9 (k + 1) (k + 1) (up3 L k a' f' s') ∧ FB m m9 ∧ ∀ f : Nat, f_X0_readLines_0 (f + 1) 4 k m = f_X0_readLines_0 f 4 (k + 1) m9 := by
          intro m a pc b
          obtain ⟨m2, x1, x2, x3, x4, x5⟩ := cl m a pc b
          obtain ⟨m', y1, y2, y3, y4⟩ := hc m2 x1 x2 x3
          refine ⟨zup m' 45 4 (k + 1), CU_45 y2, PC_f x2 (fun q _ _ => by rw [zup_off (by omega), y4.1 q (by omega) (by omega) (by omega) (by omega) (by omega)]), ⟨by rw [zup_same, if_pos rfl], ?_⟩, FB_t x4 (FB_t y4 FB_45), fun f => ?_⟩
          · rw [zup_off (by omega), zup_off (by omega), zup_off (by omega)]
            exact y3.2
          · rw [x5, y1]
            simp only [zbind]
            rw [if_neg (by omega), y3.1, w32_id ⟨by omega, by omega⟩]
            rfl
        have rl2 : ∀ r, RU T n lim r p → r 140 = A → r 145 = N → RB r k k L → ∃ r9, RU T n lim r9 p' ∧ r9 140 = A ∧ r9 145 = N ∧ RB r9 (k + 1) (k + 1) (up3 L k a' f' s') ∧ GB r r9 ∧ ∀ f : Nat, f_X12_book_1 (f + 1) x r = f_X12_book_1 f x r9 := by
          intro r a eA eN b
          obtain ⟨r', y1, y2, y3, y4⟩ := hr r a eA eN b
          refine ⟨zup r' 138 40 (k + 1), RU_up y2 (by omega), by rw [zup_off (by omega), y4.1 140 (by omega) (by omega)]; exact eA, by rw [zup_off (by omega), y4.1 145 (by omega) (by omega)]; exact eN, ⟨by rw [zup_same, if_pos rfl], ?_⟩, GB_t y4 GB_40, fun f => ?_⟩
          · rw [zup_off (by omega)]
            exact y3.2
          · rw [rl f r a, y1]
            simp only [zbind]
            rw [if_neg (by omega), y3.1, w32_id ⟨by omega, by omega⟩]
            rfl
        rcases ih p' (k + 1) (up3 L k a' f' s') (by omega) (by omega) q2 (by omega) (by omega) (okB_up hb hv) with ⟨kk, pl, kn, hc', hr'⟩ | ⟨k', L', s1, s2, s3, hc', hr'⟩
        · refine Or.inl ⟨kk, pl, kn, fun f m hf a pc b => ?_, fun f r hf a eA eN b => ?_⟩
          · obtain ⟨f, rfl⟩ : ∃ j, f = j + 1 := ⟨f - 1, by omega⟩
            obtain ⟨m9, x1, x2, x3, x4, x5⟩ := cl2 m a pc b
            obtain ⟨m', y1, y2, y3⟩ := hc' f m9 (by omega) x1 x2 x3
            exact ⟨m', by rw [x5, y1], y2, FB_t x4 y3⟩
          · obtain ⟨f, rfl⟩ : ∃ j, f = j + 1 := ⟨f - 1, by omega⟩
            obtain ⟨r9, x1, x2, x3, x4, x5, x6⟩ := rl2 r a eA eN b
            obtain ⟨r', y1, y2, y3⟩ := hr' f r9 (by omega) x1 x2 x3 x4
            exact ⟨r', by rw [x6, y1], y2, GB_t x5 y3⟩
        · refine Or.inr ⟨k', L', s1, s2, s3, fun f m hf a pc b => ?_, fun f r hf a eA eN b => ?_⟩
          · obtain ⟨f, rfl⟩ : ∃ j, f = j + 1 := ⟨f - 1, by omega⟩
            obtain ⟨m9, x1, x2, x3, x4, x5⟩ := cl2 m a pc b
            obtain ⟨m', y1, y2, y3, y4⟩ := hc' f m9 (by omega) x1 x2 x3
            exact ⟨m', by rw [x5, y1], y2, y3, FB_t x4 y4⟩
          · obtain ⟨f, rfl⟩ : ∃ j, f = j + 1 := ⟨f - 1, by omega⟩
            obtain ⟨r9, x1, x2, x3, x4, x5, x6⟩ := rl2 r a eA eN b
            obtain ⟨r', y1, y2, y3, y4⟩ := hr' f r9 (by omega) x1 x2 x3 x4
            exact ⟨r', by rw [x6, y1], y2, y3, GB_t x5 y4⟩
