theorem cnt_0 {P : Int → Bool} {n : Nat} (h : ∀ k : Nat, k < n → P k = false) : cnt P n = 0 := by
  rw [cnt_congr (Q := fun _ => false) h, cnt_false]
theorem spread_all {A : Int → Int} (o : oP A) (os : oS A) {p : Int} (hp : 0 ≤ p ∧ p < A 3) : ∃ st' : Int → Int, (∀ c : Int, 0 ≤ c → c < 64 → st' c = -1 ∨ (0 ≤ st' c ∧ st' c < 64)) ∧ (∀ m : zMem, vP m 4 A → vS m 11 A → ∃ m', f_X10_spread p m = some (0, m') ∧ (∀ c : Int, 0 ≤ c → c < 64 → m' 98 c = st' c) ∧ ∀ q, q ≠ 98 → q ≠ 99 → m' q = m q) ∧ (∀ r : zMem, r 140 = A → ∃ r', f_X12_layFar (A (116 + p)) r = some (0, r') ∧ (∀ c : Int, 0 ≤ c → c < 64 → r' 149 c = fr5 (st' c)) ∧ ∀ q, q ≠ 149 → q ≠ 150 → r' q = r q) := by
  have hN := zN_ge
  have o1 := o.1
  have l98 : sLen 98 = 64 := rfl
  have l99 : sLen 99 = 64 := rfl
  have l149 : sLen 149 = 64 := rfl
  have l150 : sLen 150 = 64 := rfl
  have l13 : sLen 13 = 6 := rfl
  have hc := os.2.1 p hp.1 hp.2
  have c0 := hc.1
  have c1 := hc.2.1
  generalize hf : A (116 + p) = from0 at *
  have J : okQ5 (up (fun _ => -1) from0 0) (fun _ => from0) 1 := by
    refine ⟨by omega, by omega, ?_, fun c a b => ?_, fun i a b => ⟨c0, c1, by rw [up_eq]; omega⟩⟩
    · rw [cnt_up c0 c1 rfl (by omega), cnt_0 (fun k _ => by simp)]
      rfl
    · by_cases h : c = from0
      · rw [h, up_eq]; omega
      · rw [up_ne h]; omega
  obtain ⟨st', g1, g2, g3⟩ := bfs o os 645 0 1 0 0 (up (fun _ => -1) from0 0) (fun _ => from0) J (by omega) (Or.inl ⟨rfl, rfl, by omega, by omega⟩)
  refine ⟨st', g1, fun m v w => ?_, fun r hr => ?_⟩
  · obtain ⟨n', m1, ⟨i1, i2⟩, e⟩ := lp_inv (F := fun n i m => f_X10_spread_1 n p i m) (N := 64) (m := m) (I := fun i m1 => (∀ q, q ≠ 98 → m1 q = m q) ∧ ∀ j, 0 ≤ j → j < i → m1 98 j = -1) (by
      intro n i m1 a b ⟨c, d⟩
      show ∃ m', b_X10_spread_1 (f_X10_spread_1 n) p i m1 = _ ∧ _
      unfold b_X10_spread_1
      rw [if_neg (by omega), if_pos (show ix 98 i from ⟨a, by omega⟩), w32_id (x := i + 1) ⟨by omega, by omega⟩]
      refine ⟨_, rfl, fun q hq => by rw [zup_off hq, c q hq], fun j j0 j1 => ?_⟩
      rw [zup_same]
      by_cases hj : j = i
      · rw [if_pos hj]
      · rw [if_neg hj, d j j0 (by omega)]) (by omega) (by omega) ⟨fun _ _ => rfl, fun j a b => by omega⟩
    have v1 : vP m1 4 A := vP_mem (fun q _ _ => i1 q (by omega)) v
    have w1 : vS m1 11 A := vS_mem (fun q _ _ => i1 q (by omega)) w
    have e13 : m1 13 p = from0 := by
      rw [← hf]
      exact w1.2.2.1 p hp.1 hp.2
    have C : Cq A (up (fun _ => -1) from0 0) (fun _ => from0) 1 (zup (zup m1 98 from0 0) 99 0 from0) := by
      refine ⟨vP_mem (fun q _ _ => by rw [zup_off (by omega), zup_off (by omega)]) v1, vS_mem (fun q _ _ => by rw [zup_off (by omega), zup_off (by omega)]) w1, fun d a b => ?_, fun j a b => ?_⟩
      · rw [zup_off (by omega), zup_same]
        unfold up
        split
        · rfl
        · exact i2 d a b
      · rw [zup_same, if_pos (by omega)]
    obtain ⟨m', h1, h2, h3⟩ := g2 _ zN C (by omega)
    refine ⟨m', ?_, h2, fun q a b => by rw [h3 q a b, zup_off b, zup_off a, i1 q a]⟩
    unfold f_X10_spread
    rw [show f_X10_spread_1 zN p 0 m = f_X10_spread_1 (n' + 1) p 64 m1 from e]
    show b_X10_spread_1 (f_X10_spread_1 n') p 64 m1 = _
    unfold b_X10_spread_1
    rw [if_pos (by omega), cHasPerson v1 o]
    simp only [zbind, bi0, pipe]
    rw [if_pos hp, if_pos (show ix 13 p from ⟨hp.1, by omega⟩), if_neg (show ¬ m1 13 p < 0 by omega), if_pos (show m1 13 p < 64 by omega), if_pos (show ix 98 (m1 13 p) from ⟨by omega, by omega⟩), if_pos (show ix 99 0 from ⟨by omega, by omega⟩), e13]
    exact h1
  · obtain ⟨n', m1, ⟨i1, i2⟩, e⟩ := lp_inv (F := fun n i m => f_X12_layFar_1 n from0 i m) (N := 64) (m := r) (I := fun i m1 => (∀ q, q ≠ 149 → m1 q = r q) ∧ ∀ j, 0 ≤ j → j < i → m1 149 j = 100000) (by
      intro n i m1 a b ⟨c, d⟩
      show ∃ m', b_X12_layFar_1 (f_X12_layFar_1 n) from0 i m1 = _ ∧ _
      unfold b_X12_layFar_1
      rw [if_neg (by omega), if_pos (show ix 149 i from ⟨a, by omega⟩), w32_id (x := i + 1) ⟨by omega, by omega⟩]
      refine ⟨_, rfl, fun q hq => by rw [zup_off hq, c q hq], fun j j0 j1 => ?_⟩
      rw [zup_same]
      by_cases hj : j = i
      · rw [if_pos hj]
      · rw [if_neg hj, d j j0 (by omega)]) (by omega) (by omega) ⟨fun _ _ => rfl, fun j a b => by omega⟩
    have C : Rq A (up (fun _ => -1) from0 0) (fun _ => from0) 1 (zup (zup m1 149 from0 0) 150 0 from0) := by
      refine ⟨by rw [zup_off (by omega), zup_off (by omega), i1 140 (by omega)]; exact hr, fun d a b => ?_, fun j a b => ?_⟩
      · rw [zup_off (by omega), zup_same]
        unfold up
        split
        · rfl
        · rw [i2 d a b]
          rfl
      · rw [zup_same, if_pos (by omega)]
    obtain ⟨r', h1, h2, h3⟩ := g3 _ zN C (by omega)
    refine ⟨r', ?_, h2, fun q a b => by rw [h3 q a b, zup_off b, zup_off a, i1 q a]⟩
    unfold f_X12_layFar
    rw [show f_X12_layFar_1 zN from0 0 r = f_X12_layFar_1 (n' + 1) from0 64 m1 from e]
    show b_X12_layFar_1 (f_X12_layFar_1 n') from0 64 m1 = _
    unfold b_X12_layFar_1
    rw [if_pos (by omega), if_pos (show ix 149 from0 from ⟨c0, by omega⟩)]
    simp only [pipe]
    rw [if_pos (show ix 150 0 from ⟨by omega, by omega⟩)]
    exact h1
theorem cStepsToShade {m : zMem} {A st : Int → Int} (v : vP m 4 A) (o : oP A) (os : oS A) {h s k : Int} (hh : 0 ≤ h ∧ h < A 2) (hs : 0 ≤ s ∧ s < A 4) (h1 : 1 ≤ k) (h2 : k ≤ rc A h s) (hst : ∀ c : Int, 0 ≤ c → c < 64 → m 98 c = st c) : f_X10_stepsToShade h s k m = some (st (stp A (A (5 + h)) (A (26 + s)) k), m) := by
  have o1 := o.1
  have rr := rc_r A h s
  have l5 : sLen 5 = 5 := rfl
  have l9 : sLen 9 = 8 := rfl
  have l98 : sLen 98 = 64 := rfl
  have hc := (o.2.1 h hh.1 hh.2).1
  have hs3 := o.2.2 s hs.1 hs.2
  obtain ⟨c, _⟩ := lit_r o os hh hs h1 h2
  have q1 : m 5 h = A (5 + h) := (v.2.1 h hh.1 hh.2).1
  have q2 : m 9 s = A (26 + s) := (v.2.2 s hs.1 hs.2).1
  unfold f_X10_stepsToShade
  simp only [cHasShadow v o, zbind, bi0, q1, q2, cSpotFrom v o ⟨hc.1, hc.2.1⟩ ⟨hs3.1, hs3.2.1⟩ (k := k) ⟨by omega, by omega⟩]
  have cc := c.1
  have cc2 := c.2.1
  rw [if_pos ⟨hh, hs⟩, if_pos (show ix 5 h from ⟨hh.1, by omega⟩), if_pos (show ix 9 s from ⟨hs.1, by omega⟩), if_neg (by omega), if_pos (show ix 98 _ from ⟨c.1, by omega⟩), hst _ c.1 c.2.1]
theorem qNear {mem : zMem} (R : Rel mem) (p h s : Int) : okC (f_X11_near p h s) (f_X12_near p h s) mem := by
  have hN := zN_ge
  obtain ⟨o, os, v, w, _⟩ := R.1
  have o1 := o.1
  have e : m00 mem 140 = mem 140 := m00_off (by omega)
  have o' : oP (m00 mem 140) := by rw [e]; exact o
  have l149 : sLen 149 = 64 := rfl
  by_cases hp : 0 ≤ p ∧ p < mem 140 3
  · by_cases hv : (0 ≤ h ∧ h < mem 140 2) ∧ 0 ≤ s ∧ s < mem 140 4
    · obtain ⟨st, s1, s2, s3⟩ := spread_all o os hp
      obtain ⟨m1, c1, c2, c3⟩ := s2 mem v w
      have v1 : vP m1 4 (mem 140) := vP_mem (fun q _ _ => c3 q (by omega) (by omega)) v
      have w1 : vS m1 11 (mem 140) := vS_mem (fun q _ _ => c3 q (by omega) (by omega)) w
      have rr := rc_r (mem 140) h s
      -- the class's loop
      obtain ⟨y, y1, y2⟩ : ∃ y, f_X10_stepsIntoShadow_0 zN h s (rc (mem 140) h s) (-1) 1 m1 = some (y, m1) ∧ ((y = -1 ∧ ∀ k, 1 ≤ k → k ≤ rc (mem 140) h s → st (stp (mem 140) (mem 140 (5 + h)) (mem 140 (26 + s)) k) = -1) ∨ (y ≠ -1 ∧ (∃ k, 1 ≤ k ∧ k ≤ rc (mem 140) h s ∧ st (stp (mem 140) (mem 140 (5 + h)) (mem 140 (26 + s)) k) = y) ∧ ∀ k, 1 ≤ k → k ≤ rc (mem 140) h s → st (stp (mem 140) (mem 140 (5 + h)) (mem 140 (26 + s)) k) = -1 ∨ y ≤ st (stp (mem 140) (mem 140 (5 + h)) (mem 140 (26 + s)) k))) := by
        generalize hg : (fun k => st (stp (mem 140) (mem 140 (5 + h)) (mem 140 (26 + s)) k)) = g
        have hg' : ∀ k, st (stp (mem 140) (mem 140 (5 + h)) (mem 140 (26 + s)) k) = g k := fun k => by rw [← hg]
        simp only [hg']
        obtain ⟨n', a', ia, ee⟩ := lp_gen (F := fun n a i => f_X10_stepsIntoShadow_0 n h s (rc (mem 140) h s) a i m1) (I := fun i a => (a = -1 ∧ ∀ k, 1 ≤ k → k < i → g k = -1) ∨ (a ≠ -1 ∧ (∃ k, 1 ≤ k ∧ k < i ∧ g k = a) ∧ ∀ k, 1 ≤ k → k < i → g k = -1 ∨ a ≤ g k)) (M := 1) (N := rc (mem 140) h s + 1) (n := zN) (a := -1) (by
          intro n i a i0 i1 ha
          have cs := cStepsToShade v1 o os hv.1 hv.2 i0 (by omega) c2
          rw [hg'] at cs
          show ∃ a', b_X10_stepsIntoShadow_0 (f_X10_stepsIntoShadow_0 n) h s (rc (mem 140) h s) a i m1 = _ ∧ _
          unfold b_X10_stepsIntoShadow_0
          rw [if_neg (by omega), cs, w32_id ⟨by omega, by omega⟩]
          simp only [zbind]
          by_cases h1 : g i = -1
          · rw [if_pos h1]
            refine ⟨a, rfl, ?_⟩
            rcases ha with ⟨b1, b2⟩ | ⟨b1, ⟨k, b2, b3, b4⟩, b5⟩
            · refine Or.inl ⟨b1, fun k k0 k1 => ?_⟩
              by_cases hk : k = i
              · rw [hk]; exact h1
              · exact b2 k k0 (by omega)
            · refine Or.inr ⟨b1, ⟨k, b2, by omega, b4⟩, fun k k0 k1 => ?_⟩
              by_cases hk : k = i
              · rw [hk]; exact Or.inl h1
              · exact b5 k k0 (by omega)
          · rw [if_neg h1]
            by_cases h2 : a = -1
            · rw [if_pos h2]
              refine ⟨g i, rfl, ?_⟩
              rcases ha with ⟨b1, b2⟩ | ⟨b1, _⟩
              · refine Or.inr ⟨h1, ⟨i, i0, by omega, rfl⟩, fun k k0 k1 => ?_⟩
                by_cases hk : k = i
                · rw [hk]; exact Or.inr (Int.le_refl _)
                · exact Or.inl (b2 k k0 (by omega))
              · exact absurd h2 b1
            · rw [if_neg h2]
              rcases ha with ⟨b1, _⟩ | ⟨b1, ⟨k, b2, b3, b4⟩, b5⟩
              · exact absurd b1 h2
              · by_cases h3 : g i ≥ a
                · rw [if_pos h3]
                  refine ⟨a, rfl, Or.inr ⟨b1, ⟨k, b2, by omega, b4⟩, fun k k0 k1 => ?_⟩⟩
                  by_cases hk : k = i
                  · rw [hk]; exact Or.inr h3
                  · exact b5 k k0 (by omega)
                · rw [if_neg h3]
                  refine ⟨g i, rfl, Or.inr ⟨h1, ⟨i, i0, by omega, rfl⟩, fun k k0 k1 => ?_⟩⟩
                  by_cases hk : k = i
                  · rw [hk]; exact Or.inr (Int.le_refl _)
                  · rcases b5 k k0 (by omega) with h | h
                    · exact Or.inl h
                    · exact Or.inr (by omega)) (by omega) (Or.inl ⟨rfl, fun k a b => by omega⟩) (by omega)
        refine ⟨a', ?_, ?_⟩
        · rw [show f_X10_stepsIntoShadow_0 zN h s (rc (mem 140) h s) (-1) 1 m1 = f_X10_stepsIntoShadow_0 (n' + 1) h s (rc (mem 140) h s) a' (rc (mem 140) h s + 1) m1 from ee]
          show b_X10_stepsIntoShadow_0 (f_X10_stepsIntoShadow_0 n') h s (rc (mem 140) h s) a' (rc (mem 140) h s + 1) m1 = _
          unfold b_X10_stepsIntoShadow_0
          rw [if_pos (by omega)]
        · rcases ia with ⟨b1, b2⟩ | ⟨b1, ⟨k, b2, b3, b4⟩, b5⟩
          · exact Or.inl ⟨b1, fun k a b => b2 k a (by omega)⟩
          · exact Or.inr ⟨b1, ⟨k, b2, by omega, b4⟩, fun k a b => b5 k a (by omega)⟩
      -- the reference
      have e1 : m00 m1 140 = mem 140 := by rw [m00_off (by omega), c3 140 (by omega) (by omega)]
      have o2 : oP (m00 m1 140) := by rw [e1]; exact o
      obtain ⟨r1, d1, d2, d3⟩ := s3 (m00 m1) e1
      have e3 : r1 140 = mem 140 := by rw [d3 140 (by omega) (by omega), e1]
      have o3 : oP (r1 140) := by rw [e3]; exact o
      obtain ⟨M, f1, f2⟩ := mShadowOf (mem := r1) o3 (h := h) (s := s) (by rw [e3]; exact hv.1) (by rw [e3]; exact hv.2)
      rw [e3] at f2
      have hr : f_X12_near_0 zN M 100000 0 r1 = some (y, r1) := by
        obtain ⟨n', a', ia, ee⟩ := lp_gen (F := fun n a i => f_X12_near_0 n M a i r1) (I := fun i a => (a = 100000 ∧ ∀ c, 0 ≤ c → c < i → mk (mem 140) h s (rc (mem 140) h s).toNat c = true → st c = -1) ∨ (a < 64 ∧ 0 ≤ a ∧ (∃ c, 0 ≤ c ∧ c < i ∧ mk (mem 140) h s (rc (mem 140) h s).toNat c = true ∧ st c = a) ∧ ∀ c, 0 ≤ c → c < i → mk (mem 140) h s (rc (mem 140) h s).toNat c = true → st c = -1 ∨ a ≤ st c)) (M := 0) (N := 64) (n := zN) (a := 100000) (by
          intro n i a i0 i1 ha
          have hcb := f2 i.toNat (by omega)
          rw [Int.toNat_of_nonneg i0] at hcb
          have sr := s1 i i0 i1
          show ∃ a', b_X12_near_0 (f_X12_near_0 n) M a i r1 = _ ∧ _
          unfold b_X12_near_0 f_X12_least
          rw [if_neg (by omega), mIsCast, w32_id ⟨by omega, by omega⟩]
          simp only [zbind, bi0]
          rw [hcb, d2 i i0 i1]
          by_cases h1 : mk (mem 140) h s (rc (mem 140) h s).toNat i = true
          · rw [if_pos h1, if_pos (show ix 149 i from ⟨i0, by omega⟩)]
            by_cases h2 : st i = -1
            · have hf : fr5 (st i) = 100000 := by unfold fr5; rw [if_pos h2]
              rw [hf]
              have hle : (if a ≥ 100000 then some ((100000 : Int), r1) else some (a, r1)) = some (a, r1) := by
                rcases ha with ⟨b1, _⟩ | ⟨b0, b1, _⟩
                · rw [if_pos (by omega), b1]
                · rw [if_neg (by omega)]
              rw [hle]
              refine ⟨a, rfl, ?_⟩
              rcases ha with ⟨b1, b2⟩ | ⟨b0, b1, ⟨k, b2, b3, b4⟩, b5⟩
              · refine Or.inl ⟨b1, fun k k0 k1 => ?_⟩
                by_cases hk : k = i
                · rw [hk]; exact fun _ => h2
                · exact b2 k k0 (by omega)
              · refine Or.inr ⟨b0, b1, ⟨k, b2, by omega, b4⟩, fun k k0 k1 => ?_⟩
                by_cases hk : k = i
                · rw [hk]; exact fun _ => Or.inl h2
                · exact b5 k k0 (by omega)
            · have hf : fr5 (st i) = st i := by unfold fr5; rw [if_neg h2]
              rw [hf]
              by_cases h3 : a ≥ st i
              · rw [if_pos h3]
                refine ⟨st i, rfl, Or.inr ⟨by omega, by omega, ⟨i, i0, by omega, h1, rfl⟩, fun k k0 k1 hm => ?_⟩⟩
                by_cases hk : k = i
                · rw [hk]; exact Or.inr (Int.le_refl _)
                · rcases ha with ⟨b1, b2⟩ | ⟨b0, b1, _, b5⟩
                  · exact Or.inl (b2 k k0 (by omega) hm)
                  · rcases b5 k k0 (by omega) hm with h | h
                    · exact Or.inl h
                    · exact Or.inr (by omega)
              · rw [if_neg h3]
                refine ⟨a, rfl, ?_⟩
                rcases ha with ⟨b1, b2⟩ | ⟨b0, b1, ⟨k, b2, b3, b4⟩, b5⟩
                · omega
                · refine Or.inr ⟨b0, b1, ⟨k, b2, by omega, b4⟩, fun k k0 k1 hm => ?_⟩
                  by_cases hk : k = i
                  · rw [hk]; exact Or.inr (by omega)
                  · exact b5 k k0 (by omega) hm
          · rw [if_neg h1]
            refine ⟨a, rfl, ?_⟩
            rcases ha with ⟨b1, b2⟩ | ⟨b0, b1, ⟨k, b2, b3, b4⟩, b5⟩
            · refine Or.inl ⟨b1, fun k k0 k1 hm => ?_⟩
              by_cases hk : k = i
              · rw [hk] at hm; exact absurd hm h1
              · exact b2 k k0 (by omega) hm
            · refine Or.inr ⟨b0, b1, ⟨k, b2, by omega, b4⟩, fun k k0 k1 hm => ?_⟩
              by_cases hk : k = i
              · rw [hk] at hm; exact absurd hm h1
              · exact b5 k k0 (by omega) hm) (by omega) (Or.inl ⟨rfl, fun c a b => by omega⟩) (by omega)
        rw [show f_X12_near_0 zN M 100000 0 r1 = f_X12_near_0 (n' + 1) M a' 64 r1 from ee]
        show b_X12_near_0 (f_X12_near_0 n') M a' 64 r1 = _
        unfold b_X12_near_0
        rw [if_pos (by omega)]
        have toC : ∀ k, 1 ≤ k → k ≤ rc (mem 140) h s → 0 ≤ stp (mem 140) (mem 140 (5 + h)) (mem 140 (26 + s)) k ∧ stp (mem 140) (mem 140 (5 + h)) (mem 140 (26 + s)) k < 64 ∧ mk (mem 140) h s (rc (mem 140) h s).toNat (stp (mem 140) (mem 140 (5 + h)) (mem 140 (26 + s)) k) = true := by
          intro k k0 k1
          obtain ⟨c, _⟩ := lit_r o os hv.1 hv.2 k0 k1
          exact ⟨c.1, c.2.1, (mk_spec _ _ _ _ _).2 ⟨k, k0, by omega, rfl⟩⟩
        rcases ia with ⟨b1, b2⟩ | ⟨b0, b1, ⟨c, b2, b3, b4, b4'⟩, b5⟩
        · rw [if_pos b1]
          rcases y2 with ⟨x1, _⟩ | ⟨x1, ⟨k, x2, x3, x4⟩, _⟩
          · rw [x1]
          · exfalso
            obtain ⟨t1, t2, t3⟩ := toC k x2 x3
            exact x1 (by rw [← x4]; exact b2 _ t1 t2 t3)
        · rw [if_neg (by omega)]
          obtain ⟨k, k0, k1, k2⟩ := (mk_spec _ _ _ _ _).1 b4
          rcases y2 with ⟨x1, x2⟩ | ⟨x1, ⟨k', x2, x3, x4⟩, x5⟩
          · exfalso
            have := x2 k k0 (by omega)
            rw [← k2] at this
            omega
          · obtain ⟨t1, t2, t3⟩ := toC k' x2 x3
            have z1 := b5 _ t1 t2 t3
            have z2 := x5 k k0 (by omega)
            rw [← k2] at z2
            have : a' = y := by omega
            rw [this]
      have g1 : ∀ q, q ≠ 98 → q ≠ 99 → q ≠ 149 → q ≠ 150 → q ≠ 138 → r1 q = mem q := fun q a b c d e => by rw [d3 q c d, m00_off e, c3 q a b]
      have g2 : ∀ i, i ≠ 0 → r1 138 i = mem 138 i := fun i hi => by rw [d3 138 (by omega) (by omega), m00_at hi, c3 138 (by omega) (by omega)]
      refine ⟨y, m1, r1, ?_, ?_, Rel_mem ⟨fun q hq => g1 q (by omega) (by omega) (by omega) (by omega) (by omega), by rw [g1 1 (by omega) (by omega) (by omega) (by omega) (by omega)], fun i _ => by rw [g1 45 (by omega) (by omega) (by omega) (by omega) (by omega)], fun i hi => g2 i (by omega)⟩ (fun q hq => g1 q (by omega) (by omega) (by omega) (by omega) (by omega)) (g2 25 (by omega)) R⟩
      · unfold f_X11_near f_X10_stepsIntoShadow
        simp only [cHasPerson v o, cHasShadow v o, zbind, bi0]
        rw [if_pos hp, if_pos hv, c1]
        simp only
        rw [cReach IL_20 v1 w1 o, if_pos hv]
        simp only
        rw [y1]
      · unfold f_X12_near
        simp only [pipe, m00_eq, mIsPerson o2, mIsHouse o2, mIsSun o2, zbind, bi0, e1]
        rw [if_pos hp, if_pos hv.1, if_pos hv.2, w32_id (x := 116 + p) ⟨by omega, by omega⟩, ixl (by omega), d1]
        simp only
        rw [f1]
        simp only
        rw [hr]
    · refine okQ R (-1) ?_ ?_
      · unfold f_X11_near
        simp only [cHasPerson v o, cHasShadow v o, zbind, bi0]
        rw [if_pos hp, if_neg hv]
      · unfold f_X12_near
        simp only [pipe, m00_eq, mIsPerson o', mIsHouse o', mIsSun o', zbind, bi0, e]
        rw [if_pos hp]
        by_cases hh : 0 ≤ h ∧ h < mem 140 2
        · rw [if_pos hh, if_neg (fun c => hv ⟨hh, c⟩)]
        · rw [if_neg hh]
  · refine okQ R (-1) ?_ ?_
    · unfold f_X11_near
      simp only [cHasPerson v o, zbind, bi0]
      rw [if_neg hp]
    · unfold f_X12_near
      simp only [pipe, m00_eq, mIsPerson o', zbind, bi0, e]
      rw [if_neg hp]
