/-! the lines of an island, by both -/
theorem LO_eq {fc fr gc gr : zMem → Option (Int × zMem)} {T : Int → Int} {n lim p : Int} {B N : Int → Int} {g c : Int} (h : LO fc fr T n lim p B N g c)
    (hc : ∀ m x m', CT T n lim m p → (x = 0 ∨ x = 1) → fc m = some (x, m') → gc m = some (x, m'))
    (hr : ∀ r x r', RU T n lim r p → (x = 0 ∨ x = 1) → fr r = some (x, r') → gr r = some (x, r')) : LO gc gr T n lim p B N g c := by
  rcases h with ⟨k, pl, h1, h2, h3⟩ | ⟨B', N', g', c', p', h1, h2, h3, h4, h5⟩
  · refine Or.inl ⟨k, pl, h1, fun m a b => ?_, fun r a b => ?_⟩
    · obtain ⟨m', x, y⟩ := h2 m a b
      exact ⟨m', hc m 0 m' a (Or.inl rfl) x, y⟩
    · obtain ⟨m', x, y⟩ := h3 r a b
      exact ⟨m', hr r 0 m' a (Or.inl rfl) x, y⟩
  · refine Or.inr ⟨B', N', g', c', p', h1, h2, h3, fun m a b => ?_, fun r a b => ?_⟩
    · obtain ⟨m', x, y⟩ := h4 m a b
      exact ⟨m', hc m 1 m' a (Or.inr rfl) x, y⟩
    · obtain ⟨m', x, y⟩ := h5 r a b
      exact ⟨m', hr r 1 m' a (Or.inr rfl) x, y⟩
theorem line_any {T : Int → Int} {n lim p : Int} (ok : okTx T n) (hl : 0 ≤ lim) (h0 : 0 ≤ p) (h1 : p ≤ n) {B N : Int → Int} {g c : Int} (iv : InvL B g c) : LO f_X4_readLine f_X12_readLine T n lim p B N g c := by
  have hc8 : ∀ m, CT T n lim m p → m 1 8 = (if (lexT T n lim p).2.2.1 = 2 then kno (lexT T n lim p).2.2.2.2 else -1) := fun m a => a.2.1.2.2.2.2.1
  have hW : ∀ r, RU T n lim r p → ∀ k, 0 ≤ k → k ≤ 23 → f_X12_isWord k r = some (bi ((lexT T n lim p).2.2.1 = 2 ∧ kno (lexT T n lim p).2.2.2.2 = k), r) := fun r a k k0 k1 => mIsWord hl h0 h1 a k0 k1
  by_cases hk : (lexT T n lim p).2.2.1 = 2
  · rw [if_pos hk] at hc8
    by_cases e0 : kno (lexT T n lim p).2.2.2.2 = 0
    · refine LO_eq (line_ground ok hl h0 h1 hk iv) (fun m x m' a b d => ?_) (fun r x r' a b d => ?_)
      · unfold f_X4_readLine
        rw [if_pos (by rw [hc8 m a]; exact e0), d]
        simp only [zbind]
        rw [if_pos b]
      · unfold f_X12_readLine
        simp only [hW r a 0 (by omega) (by omega), zbind, bi0]
        rw [if_pos ⟨hk, e0⟩, d]
        simp only
        rw [if_pos b]
    · by_cases e1 : kno (lexT T n lim p).2.2.2.2 = 1
      · refine LO_eq (line_stones ok hl h0 h1 hk iv) (fun m x m' a b d => ?_) (fun r x r' a b d => ?_)
        · unfold f_X4_readLine
          rw [if_neg (by rw [hc8 m a]; exact e0), if_pos (by rw [hc8 m a]; exact e1), d]
          simp only [zbind]
          rw [if_pos b]
        · unfold f_X12_readLine
          simp only [hW r a 0 (by omega) (by omega), hW r a 1 (by omega) (by omega), zbind, bi0]
          rw [if_neg (fun h => e0 h.2), if_pos ⟨hk, e1⟩, d]
          simp only
          rw [if_pos b]
      · by_cases e2 : kno (lexT T n lim p).2.2.2.2 = 2
        · refine LO_eq (line_house ok hl h0 h1 hk iv) (fun m x m' a b d => ?_) (fun r x r' a b d => ?_)
          · unfold f_X4_readLine
            rw [if_neg (by rw [hc8 m a]; exact e0), if_neg (by rw [hc8 m a]; exact e1), if_pos (by rw [hc8 m a]; exact e2), d]
            simp only [zbind]
            rw [if_pos b]
          · unfold f_X12_readLine
            simp only [hW r a 0 (by omega) (by omega), hW r a 1 (by omega) (by omega), hW r a 2 (by omega) (by omega), zbind, bi0]
            rw [if_neg (fun h => e0 h.2), if_neg (fun h => e1 h.2), if_pos ⟨hk, e2⟩, d]
            simp only
            rw [if_pos b]
        · by_cases e3 : kno (lexT T n lim p).2.2.2.2 = 3
          · refine LO_eq (line_person ok hl h0 h1 hk iv) (fun m x m' a b d => ?_) (fun r x r' a b d => ?_)
            · unfold f_X4_readLine
              rw [if_neg (by rw [hc8 m a]; exact e0), if_neg (by rw [hc8 m a]; exact e1), if_neg (by rw [hc8 m a]; exact e2), if_pos (by rw [hc8 m a]; exact e3), d]
              simp only [zbind]
              rw [if_pos b]
            · unfold f_X12_readLine
              simp only [hW r a 0 (by omega) (by omega), hW r a 1 (by omega) (by omega), hW r a 2 (by omega) (by omega), hW r a 3 (by omega) (by omega), zbind, bi0]
              rw [if_neg (fun h => e0 h.2), if_neg (fun h => e1 h.2), if_neg (fun h => e2 h.2), if_pos ⟨hk, e3⟩, d]
              simp only
              rw [if_pos b]
          · by_cases e4 : kno (lexT T n lim p).2.2.2.2 = 4
            · refine LO_eq (line_sun ok hl h0 h1 hk iv) (fun m x m' a b d => ?_) (fun r x r' a b d => ?_)
              · unfold f_X4_readLine
                rw [if_neg (by rw [hc8 m a]; exact e0), if_neg (by rw [hc8 m a]; exact e1), if_neg (by rw [hc8 m a]; exact e2), if_neg (by rw [hc8 m a]; exact e3), if_pos (by rw [hc8 m a]; exact e4), d]
                simp only [zbind]
                rw [if_pos b]
              · unfold f_X12_readLine
                simp only [hW r a 0 (by omega) (by omega), hW r a 1 (by omega) (by omega), hW r a 2 (by omega) (by omega), hW r a 3 (by omega) (by omega), hW r a 4 (by omega) (by omega), zbind, bi0]
                rw [if_neg (fun h => e0 h.2), if_neg (fun h => e1 h.2), if_neg (fun h => e2 h.2), if_neg (fun h => e3 h.2), if_pos ⟨hk, e4⟩, d]
                simp only
                rw [if_pos b]
            · refine Or.inl ⟨1, (lexT T n lim p).1, by omega, fun m a b => ?_, fun r a b => ?_⟩
              · obtain ⟨m', x1, x2, x3⟩ := cFail a (k := 1) (by omega)
                refine ⟨m', ?_, x2, FXF_I x3⟩
                unfold f_X4_readLine
                rw [if_neg (by rw [hc8 m a]; exact e0), if_neg (by rw [hc8 m a]; exact e1), if_neg (by rw [hc8 m a]; exact e2), if_neg (by rw [hc8 m a]; exact e3), if_neg (by rw [hc8 m a]; exact e4), x1]
                simp [zbind]
              · obtain ⟨r', x1, x2, x3⟩ := mBad a 1
                refine ⟨r', ?_, by rw [if_neg (by omega)] at x2; exact x2, FYF_J x3⟩
                unfold f_X12_readLine
                simp only [hW r a 0 (by omega) (by omega), hW r a 1 (by omega) (by omega), hW r a 2 (by omega) (by omega), hW r a 3 (by omega) (by omega), hW r a 4 (by omega) (by omega), zbind, bi0]
                rw [if_neg (fun h => e0 h.2), if_neg (fun h => e1 h.2), if_neg (fun h => e2 h.2), if_neg (fun h => e3 h.2), if_neg (fun h => e4 h.2), x1]
                simp
  · rw [if_neg hk] at hc8
    refine Or.inl ⟨1, (lexT T n lim p).1, by omega, fun m a b => ?_, fun r a b => ?_⟩
    · obtain ⟨m', x1, x2, x3⟩ := cFail a (k := 1) (by omega)
      refine ⟨m', ?_, x2, FXF_I x3⟩
      have e := hc8 m a
      unfold f_X4_readLine
      rw [if_neg (by omega), if_neg (by omega), if_neg (by omega), if_neg (by omega), if_neg (by omega), x1]
      simp [zbind]
    · obtain ⟨r', x1, x2, x3⟩ := mBad a 1
      have : (if (lexT T n lim p).2.2.1 = 1 then (1 : Int) else 1) = 1 := by split <;> rfl
      rw [this] at x2
      refine ⟨r', ?_, x2, FYF_J x3⟩
      unfold f_X12_readLine
      simp only [hW r a 0 (by omega) (by omega), hW r a 1 (by omega) (by omega), hW r a 2 (by omega) (by omega), hW r a 3 (by omega) (by omega), hW r a 4 (by omega) (by omega), zbind, bi0]
      rw [if_neg (fun h => hk h.1), if_neg (fun h => hk h.1), if_neg (fun h => hk h.1), if_neg (fun h => hk h.1), if_neg (fun h => hk h.1), x1]
      simp
/-- the loop of lines -/
theorem lines_o {T : Int → Int} {n lim : Int} (ok : okTx T n) (hl : 0 ≤ lim) : ∀ (d : Nat) (p v : Int) (B N : Int → Int) (g c : Int), n - p < d → 0 ≤ p → p ≤ n → 0 ≤ v → 2 * v ≤ p → InvL B g c → (∃ k pl, k ≠ 0 ∧ (∀ (f : Nat) m, d ≤ f → CU T n lim m p → CSt m B N g c → ∃ m' x, f_X4_readLines_0 f v m = some (x, m') ∧ CF m' k pl ∧ FI m m') ∧ (∀ (f : Nat) r, d ≤ f → RU T n lim r p → RSt r B N g c → ∃ r', f_X12_island_2 f v r = some (w32 (-1 - pl), r') ∧ RF r' k pl ∧ FJ r r')) ∨ (∃ B' N' g' c' v', InvL B' g' c' ∧ 0 ≤ v' ∧ v' ≤ 470 ∧ (∀ (f : Nat) m, d ≤ f → CU T n lim m p → CSt m B N g c → ∃ m', f_X4_readLines_0 f v m = some (v', m') ∧ m' 1 9 = 0 ∧ CSt m' B' N' g' c' ∧ FI m m') ∧ (∀ (f : Nat) r, d ≤ f → RU T n lim r p → RSt r B N g c → ∃ r', f_X12_island_2 f v r = f_X12_island_1 zN v' 0 r' ∧ r' 138 10 = 0 ∧ RSt r' B' N' g' c' ∧ FJ r r')) := by
  intro d
  induction d with
  | zero => intro p v B N g c h1 h2 h3; omega
  | succ d ih =>
    intro p v B N g c h1 h2 h3 h4 h5 iv
    have n0 := ok.1
    have n1 := ok.2.1
    have lr := lexT_r (T := T) (n := n) (lim := lim) hl h2 h3
    have uc : ∀ (f : Nat) x m, f_X4_readLines_0 (f + 1) x m = b_X4_readLines_0 (f_X4_readLines_0 f) x m := fun _ _ _ => rfl
    have ur : ∀ (f : Nat) x m, f_X12_island_2 (f + 1) x m = b_X12_island_2 (f_X12_island_2 f) x m := fun _ _ _ => rfl
    by_cases hz : (lexT T n lim p).2.2.1 = 0
    · refine Or.inr ⟨B, N, g, c, v, iv, h4, by omega, fun f m hf a b => ?_, fun f r hf a b => ?_⟩
      · obtain ⟨f, rfl⟩ : ∃ j, f = j + 1 := ⟨f - 1, by omega⟩
        obtain ⟨m', x1, x2, x3⟩ := cStepU ok h2 h3 a
        refine ⟨m', ?_, x2.2.2, CSt_f b x3, FXF_I x3⟩
        rw [uc]
        unfold b_X4_readLines_0
        have e6 := x2.2.1.2.2.1
        rw [if_pos hz] at e6
        rw [if_neg (by omega), x1]
        simp only [zbind]
        rw [if_pos e6]
      · obtain ⟨f, rfl⟩ : ∃ j, f = j + 1 := ⟨f - 1, by omega⟩
        refine ⟨r, ?_, a.1.2, b, FJ_r r⟩
        rw [ur]
        unfold b_X12_island_2
        rw [if_pos (by rw [a.2.2.2.1]; exact hz)]
    · have cl : ∀ m, CU T n lim m p → CSt m B N g c → ∃ m2, CT T n lim m2 p ∧ CSt m2 B N g c ∧ FI m m2 ∧ ∀ f : Nat, f_X4_readLines_0 (f + 1) v m = (zbind (f_X4_readLine m2) fun y5 m6 => if y5 = 0 then (some (v, m6)) else (zbind (f_X6_wantSign 59 m6) fun y8 m9 => if y8 = 0 then (some (v, m9)) else (f_X4_readLines_0 f (w32 (v + 1)) m9))) := by
        intro m a b
        obtain ⟨m', x1, x2, x3⟩ := cStepU ok h2 h3 a
        refine ⟨m', x2, CSt_f b x3, FXF_I x3, fun f => ?_⟩
        rw [uc]
        unfold b_X4_readLines_0
        have e6 := x2.2.1.2.2.1
        have e7 : m' 1 6 ≠ 0 := by
          rw [e6, if_neg hz]
          split <;> omega
        rw [if_neg (by omega), x1]
        simp only [zbind]
        rw [if_neg e7]
      have rl : ∀ (f : Nat) r, RU T n lim r p → f_X12_island_2 (f + 1) v r = (zbind (f_X12_readLine r) fun y3 m4 => if y3 = 0 then (some ((w32 ((-1) - (m4 138 11))), m4)) else (zbind (f_X12_readEnd m4) fun y7 m8 => if y7 = 0 then (some ((w32 ((-1) - (m8 138 11))), m8)) else (f_X12_island_2 f (w32 (v + 1)) m8))) := by
        intro f r a
        rw [ur]
        unfold b_X12_island_2
        rw [if_neg (by rw [a.2.2.2.1]; exact hz)]
      rcases line_any ok hl h2 h3 (N := N) iv with ⟨k, pl, k0, hc, hr⟩ | ⟨B', N', g', c', p', iv', q1, q2, hc, hr⟩
      · refine Or.inl ⟨k, pl, k0, fun f m hf a b => ?_, fun f r hf a b => ?_⟩
        · obtain ⟨f, rfl⟩ : ∃ j, f = j + 1 := ⟨f - 1, by omega⟩
          obtain ⟨m2, x1, x2, x3, x4⟩ := cl m a b
          obtain ⟨m', y1, y2, y3⟩ := hc m2 x1 x2
          refine ⟨m', v, ?_, y2, FI_t x3 y3⟩
          rw [x4, y1]
          simp [zbind]
        · obtain ⟨f, rfl⟩ : ∃ j, f = j + 1 := ⟨f - 1, by omega⟩
          obtain ⟨r', y1, y2, y3⟩ := hr r a b
          refine ⟨r', ?_, y2, y3⟩
          rw [rl f r a, y1]
          simp only [zbind]
          rw [if_pos trivial, y2.2]
      · have lr' := lexT_r (T := T) (n := n) (lim := lim) hl (by omega : 0 ≤ p') q2
        by_cases hs : (lexT T n lim p').2.2.1 = 4 ∧ (lexT T n lim p').2.2.2.1 = 59
        · have pp := lr'.2.2.2.1 (by omega)
          have cl2 : ∀ m, CU T n lim m p → CSt m B N g c → ∃ m9, CU T n lim m9 (lexT T n lim p').2.1 ∧ CSt m9 B' N' g' c' ∧ FI m m9 ∧ ∀ f : Nat, f_X4_readLines_0 (f + 1) v m = f_X4_readLines_0 f (v + 1) m9 := by
            intro m a b
            obtain ⟨m2, x1, x2, x3, x4⟩ := cl m a b
            obtain ⟨m6, y1, y2, y3, y4⟩ := hc m2 x1 x2
            obtain ⟨m9, z1, z2, z3⟩ := (cSemi ok (by omega) q2 y2).1 hs
            refine ⟨m9, CT_U z2, CSt_f y3 z3, FI_t x3 (FI_t y4 (FXF_I z3)), fun f => ?_⟩
            rw [x4, y1]
            simp only [zbind]
            rw [if_neg (by omega), z1]
            simp only
            rw [if_neg (by omega), w32_id ⟨by omega, by omega⟩]
          have rl2 : ∀ r, RU T n lim r p → RSt r B N g c → ∃ r9, RU T n lim r9 (lexT T n lim p').2.1 ∧ RSt r9 B' N' g' c' ∧ FJ r r9 ∧ ∀ f : Nat, f_X12_island_2 (f + 1) v r = f_X12_island_2 f (v + 1) r9 := by
            intro r a b
            obtain ⟨r6, y1, y2, y3, y4⟩ := hr r a b
            obtain ⟨r9, z1, z2, z3⟩ := (mSemi ok hl (by omega) q2 y2).1 hs
            refine ⟨r9, z2, RSt_g y3 z3, FJ_t y4 (FYF_J z3), fun f => ?_⟩
            rw [rl f r a, y1]
            simp only [zbind]
            rw [if_neg (by omega), z1]
            simp only
            rw [if_neg (by omega), w32_id ⟨by omega, by omega⟩]
          rcases ih (lexT T n lim p').2.1 (v + 1) B' N' g' c' (by omega) (by omega) lr'.2.1 (by omega) (by omega) iv' with ⟨k, pl, k0, hc', hr'⟩ | ⟨B2, N2, g2, c2, v', iv2, s1, s2, hc', hr'⟩
          · refine Or.inl ⟨k, pl, k0, fun f m hf a b => ?_, fun f r hf a b => ?_⟩
            · obtain ⟨f, rfl⟩ : ∃ j, f = j + 1 := ⟨f - 1, by omega⟩
              obtain ⟨m9, x1, x2, x3, x4⟩ := cl2 m a b
              obtain ⟨m', x, y1, y2, y3⟩ := hc' f m9 (by omega) x1 x2
              exact ⟨m', x, by rw [x4, y1], y2, FI_t x3 y3⟩
            · obtain ⟨f, rfl⟩ : ∃ j, f = j + 1 := ⟨f - 1, by omega⟩
              obtain ⟨r9, x1, x2, x3, x4⟩ := rl2 r a b
              obtain ⟨r', y1, y2, y3⟩ := hr' f r9 (by omega) x1 x2
              exact ⟨r', by rw [x4, y1], y2, FJ_t x3 y3⟩
          · refine Or.inr ⟨B2, N2, g2, c2, v', iv2, s1, s2, fun f m hf a b => ?_, fun f r hf a b => ?_⟩
            · obtain ⟨f, rfl⟩ : ∃ j, f = j + 1 := ⟨f - 1, by omega⟩
              obtain ⟨m9, x1, x2, x3, x4⟩ := cl2 m a b
              obtain ⟨m', y1, y2, y3, y4⟩ := hc' f m9 (by omega) x1 x2
              exact ⟨m', by rw [x4, y1], y2, y3, FI_t x3 y4⟩
            · obtain ⟨f, rfl⟩ : ∃ j, f = j + 1 := ⟨f - 1, by omega⟩
              obtain ⟨r9, x1, x2, x3, x4⟩ := rl2 r a b
              obtain ⟨r', y1, y2, y3, y4⟩ := hr' f r9 (by omega) x1 x2
              exact ⟨r', by rw [x4, y1], y2, y3, FJ_t x3 y4⟩
        · refine Or.inl ⟨1, (lexT T n lim p').1, by omega, fun f m hf a b => ?_, fun f r hf a b => ?_⟩
          · obtain ⟨f, rfl⟩ : ∃ j, f = j + 1 := ⟨f - 1, by omega⟩
            obtain ⟨m2, x1, x2, x3, x4⟩ := cl m a b
            obtain ⟨m6, y1, y2, y3, y4⟩ := hc m2 x1 x2
            obtain ⟨m9, z1, z2, z3⟩ := (cSemi ok (by omega) q2 y2).2 hs
            refine ⟨m9, v, ?_, z2, FI_t x3 (FI_t y4 (FXF_I z3))⟩
            rw [x4, y1]
            simp only [zbind]
            rw [if_neg (by omega), z1]
            simp only
            rw [if_pos trivial]
          · obtain ⟨f, rfl⟩ : ∃ j, f = j + 1 := ⟨f - 1, by omega⟩
            obtain ⟨r6, y1, y2, y3, y4⟩ := hr r a b
            obtain ⟨r9, z1, z2, z3⟩ := (mSemi ok hl (by omega) q2 y2).2 hs
            refine ⟨r9, ?_, z2, FJ_t y4 (FYF_J z3)⟩
            rw [rl f r a, y1]
            simp only [zbind]
            rw [if_neg (by omega), z1]
            simp only
            rw [if_pos trivial, z2.2]
