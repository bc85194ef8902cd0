theorem incC {m : zMem} {B : Int → Int} {x : Int} (o : oP B) (os : oS B) (c : Cs m B x) : Cs (zup m 22 5 (w32 (m 22 5 + 1))) (up B 106 (B 106 + 1)) x ∧ frC m (zup m 22 5 (w32 (m 22 5 + 1))) := by
  have o1 := o.1
  have os1 := os.1
  have e : m 22 5 = B 106 := c.2.1.1.2.1
  rw [e, w32_id ⟨by omega, by omega⟩]
  exact ⟨⟨pq_V (hour_pq _) o (vP_mem (fun q _ _ => zup_off (by omega)) c.1), vS_f c.2.1 (by omega) (by omega) _ (by omega), by rw [zup_off (by omega)]; exact c.2.2⟩, fun q a _ => zup_off (by omega)⟩
theorem incR {r : zMem} {B : Int → Int} {x : Int} (os : oS B) (c : Rs r B x) : Rs (zup r 140 106 (w32 (r 140 106 + 1))) (up B 106 (B 106 + 1)) x ∧ frR r (zup r 140 106 (w32 (r 140 106 + 1))) := by
  have os1 := os.1
  rw [c.1, w32_id ⟨by omega, by omega⟩, zup_140, c.1]
  exact ⟨Rs_140 c, frR_140 _ _⟩
theorem live_h (g i : Int) {A : Int → Int} {x : Int} (o : oP A) (os : oS A) (hh : A 106 < 400) : ∃ A' x', pq A A' ∧ oS A' ∧ A' 106 = A 106 + 1 ∧ (∀ m (n : Nat), Cs m A x → ∃ m', f_X1_liveHours_0 (n + 1) 1 21 g i (A 3) m = f_X1_liveHours_0 n 0 21 g (w32 (i + 1)) 0 m' ∧ Cs m' A' x' ∧ frC m m') ∧ (∀ r (n : Nat), Rs r A x → ∃ r', f_X12_drawHours_0 (n + 1) 1 g i (A 3) r = f_X12_drawHours_0 n 0 g (w32 (i + 1)) 0 r' ∧ Rs r' A' x' ∧ frR r r') := by
  have o1 := o.1
  have os1 := os.1
  have r0 : sRf 21 0 = 4 := rfl
  have r1 : sRf 21 1 = 22 := rfl
  generalize hd : drw (nxs x) 10 = d
  by_cases h0 : d = 0 ∧ 0 < A 2
  · have hdh := drw_r (nxs (nxs x)) (n := A 2) (by omega) (by omega)
    generalize hdd : drw (nxs (nxs x)) (A 2) = h at hdh
    have hhh : 0 ≤ h ∧ h < A 2 := hdh
    have Bp : pq A (if wBury A h = 0 then buryA A h else A) := by
      split
      · exact buryA_pq (by omega)
      · exact pq_r A
    have Bs : oS (if wBury A h = 0 then buryA A h else A) := by
      split
      · exact oS_bury o os hhh
      · exact os
    have B6 : (if wBury A h = 0 then buryA A h else A) 106 = A 106 := by
      split
      · exact buryA_106 hhh.1
      · rfl
    have cb : ∀ m, Cs m A (nxs (nxs x)) → ∃ m', (zbind (f_X3_whyNotBury 21 h m) fun y1013 m1014 => if y1013 = 0 then (zbind (f_X3_buryHouse 21 h m1014) fun _ m1016 => some (0, m1016)) else some (0, m1014)) = some ((0 : Int), m') ∧ Cs m' (if wBury A h = 0 then buryA A h else A) (nxs (nxs x)) ∧ frC m m' := by
      intro m c
      rw [cWhyNotBury IL_21 c.2.1]
      simp only [zbind]
      by_cases hl : wBury A h = 0
      · obtain ⟨m4, d1, d2, d3⟩ := cBuryHouse IL_21 c.1 c.2.1 o os hhh
        rw [if_pos hl, if_pos hl, d1]
        exact ⟨m4, rfl, Cs_S o (buryA_pq (by omega)) c d2 d3, frC_S d3⟩
      · rw [if_neg hl, if_neg hl]
        exact ⟨m, rfl, c, frC_r m⟩
    have rb : ∀ r, Rs r A (nxs (nxs x)) → ∃ r', f_X12_doIf 3 h 0 r = some (0, r') ∧ Rs r' (if wBury A h = 0 then buryA A h else A) (nxs (nxs x)) ∧ frR r r' := by
      intro r c
      unfold f_X12_doIf
      rw [mWhyBury, c.1]
      simp only [zbind]
      by_cases hl : wBury A h = 0
      · have := mLiveBury (mem := r) (by rw [c.1]; exact o) (by rw [c.1]; exact os) 0 (h := h) (by rw [c.1]; exact hhh)
        rw [c.1] at this
        rw [if_pos hl, if_pos hl, this]
        exact ⟨_, rfl, Rs_140 c, frR_140 _ _⟩
      · rw [if_neg hl, if_neg hl]
        exact ⟨r, rfl, c, frR_r r⟩
    generalize (if wBury A h = 0 then buryA A h else A) = B at *
    refine ⟨up B 106 (B 106 + 1), nxs (nxs x), pq_t Bp (hour_pq _), oS_hour (pq_P Bp o) Bs ⟨by omega, by omega⟩, by rw [up_eq, B6], fun m n c => ?_, fun r n c => ?_⟩
    · obtain ⟨m1, a1, a2, a3⟩ := cDraw c (n := 10) (by omega)
      rw [hd, h0.1] at a1
      obtain ⟨m2, b1, b2, b3⟩ := cDraw a2 (n := A 2) (by omega)
      rw [hdd] at b1
      obtain ⟨m3, c1, c2, c3⟩ := cb m2 b2
      obtain ⟨d1, d2⟩ := incC (pq_P Bp o) Bs c2
      have e3 : m 4 3 = A 3 := c.1.1.2.2.2.1
      have e2 : m1 4 2 = A 2 := a2.1.1.2.2.1
      refine ⟨_, ?_, d1, frC_t (frC_t (frC_t a3 b3) c3) d2⟩
      show b_X1_liveHours_0 (f_X1_liveHours_0 n) 1 21 g i (A 3) m = _
      simp only [b_X1_liveHours_0, r0, r1]
      rw [e3, if_pos (by omega), a1]
      simp only [zbind, ↓reduceIte]
      rw [if_neg (by omega), e2, b1]
      simp only
      rw [cWhyNotBury IL_21 b2.2.1]
      rw [cWhyNotBury IL_21 b2.2.1] at c1
      simp only [zbind, pipe] at c1 ⊢
      by_cases hl : wBury A h = 0
      · rw [if_pos hl] at c1 ⊢
        cases hq : f_X3_buryHouse 21 h m2 with
        | none => rw [hq] at c1; simp at c1
        | some q =>
          rw [hq] at c1
          simp only [Option.some.injEq, Prod.mk.injEq, true_and] at c1
          simp only
          rw [c1]
      · rw [if_neg hl] at c1 ⊢
        simp only [Option.some.injEq, Prod.mk.injEq, true_and] at c1
        rw [c1]
    · obtain ⟨m1, a1, a2, a3⟩ := mDraw c (n := 10) (by omega)
      rw [hd, h0.1] at a1
      obtain ⟨m2, b1, b2, b3⟩ := mDraw a2 (n := A 2) (by omega)
      rw [hdd] at b1
      obtain ⟨m3, c1, c2, c3⟩ := rb m2 b2
      obtain ⟨d1, d2⟩ := incR Bs c2
      refine ⟨_, ?_, d1, frR_t (frR_t (frR_t a3 b3) c3) d2⟩
      show b_X12_drawHours_0 (f_X12_drawHours_0 n) 1 g i (A 3) r = _
      simp only [b_X12_drawHours_0]
      rw [ixl (by omega), c.1, if_pos (by omega), a1]
      simp only [zbind, ↓reduceIte]
      have e2 : m1 140 2 = A 2 := by rw [a2.1]
      rw [ixl (by omega), if_neg (by omega), ixl (by omega), e2, b1]
      simp only
      rw [c1]
      simp only [pipe]
      rw [ixl (by omega), ixl (by omega)]
  · refine ⟨up A 106 (A 106 + 1), nxs x, hour_pq _, oS_hour o os ⟨by omega, by omega⟩, up_eq _ _ _, fun m n c => ?_, fun r n c => ?_⟩
    · obtain ⟨m1, a1, a2, a3⟩ := cDraw c (n := 10) (by omega)
      rw [hd] at a1
      obtain ⟨d1, d2⟩ := incC o os a2
      have e3 : m 4 3 = A 3 := c.1.1.2.2.2.1
      have e2 : m1 4 2 = A 2 := a2.1.1.2.2.1
      refine ⟨_, ?_, d1, frC_t a3 d2⟩
      show b_X1_liveHours_0 (f_X1_liveHours_0 n) 1 21 g i (A 3) m = _
      simp only [b_X1_liveHours_0, r0, r1]
      rw [e3, if_pos (by omega), a1]
      simp only [zbind]
      by_cases hz : d = 0
      · rw [if_pos hz, if_pos (by omega)]
        rfl
      · rw [if_neg hz]
        rfl
    · obtain ⟨m1, a1, a2, a3⟩ := mDraw c (n := 10) (by omega)
      rw [hd] at a1
      obtain ⟨d1, d2⟩ := incR os a2
      refine ⟨_, ?_, d1, frR_t a3 d2⟩
      show b_X12_drawHours_0 (f_X12_drawHours_0 n) 1 g i (A 3) r = _
      simp only [b_X12_drawHours_0]
      rw [ixl (by omega), c.1, if_pos (by omega), a1]
      simp only [zbind]
      by_cases hz : d = 0
      · have e2 : m1 140 2 = A 2 := by rw [a2.1]
        rw [if_pos hz, ixl (by omega), if_pos (by omega), ixl (by omega), ixl (by omega)]
        rfl
      · rw [if_neg hz, ixl (by omega), ixl (by omega)]
        rfl
theorem live_hs (g : Int) : ∀ (k : Nat) (A : Int → Int) (x i : Int), oP A → oS A → 0 ≤ i → i + k = g → g ≤ 1000 → A 106 + k ≤ 400 → ∃ A' x', pq A A' ∧ oS A' ∧ A' 106 = A 106 + k ∧ (∀ m (n : Nat), Cs m A x → 10 * k < n → ∃ m', f_X1_liveHours_0 n 0 21 g i 0 m = some (g, m') ∧ Cs m' A' x' ∧ frC m m') ∧ (∀ r (n : Nat), Rs r A x → 10 * k < n → ∃ r', f_X12_drawHours_0 n 0 g i 0 r = some (g, r') ∧ Rs r' A' x' ∧ frR r r') := by
  intro k
  induction k with
  | zero =>
    intro A x i o os i0 i1 hg hh
    refine ⟨A, x, pq_r A, os, by omega, fun m n c hn => ?_, fun r n c hn => ?_⟩
    · obtain ⟨n, rfl⟩ : ∃ q, n = q + 1 := ⟨n - 1, by omega⟩
      refine ⟨m, ?_, c, frC_r m⟩
      show b_X1_liveHours_0 (f_X1_liveHours_0 n) 0 21 g i 0 m = _
      simp only [b_X1_liveHours_0]
      rw [if_pos (by omega)]
    · obtain ⟨n, rfl⟩ : ∃ q, n = q + 1 := ⟨n - 1, by omega⟩
      refine ⟨r, ?_, c, frR_r r⟩
      show b_X12_drawHours_0 (f_X12_drawHours_0 n) 0 g i 0 r = _
      simp only [b_X12_drawHours_0]
      rw [if_pos (by omega)]
  | succ k ih =>
    intro A x i o os i0 i1 hg hh
    have o1 := o.1
    obtain ⟨A1, x1, a1, a2, a3, a4, a5⟩ := live_ps g i (A 3).toNat A x 0 o os (by omega) (by omega)
    have o2 := pq_P a1 o
    have e3 : A1 3 = A 3 := a1 3 (by omega)
    obtain ⟨A2, x2, b1, b2, b3, b4, b5⟩ := live_h g i (x := x1) o2 a2 (by omega)
    obtain ⟨A3, x3, c1, c2, c3, c4, c5⟩ := ih A2 x2 (i + 1) (pq_P b1 o2) b2 (by omega) (by omega) hg (by omega)
    refine ⟨A3, x3, pq_t (pq_t a1 b1) c1, c2, by omega, fun m n c hn => ?_, fun r n c hn => ?_⟩
    · obtain ⟨n, rfl⟩ : ∃ q, n = q + 1 := ⟨n - 1, by omega⟩
      obtain ⟨m1, n1, d0, d1, d2, d3⟩ := a4 m n c (by omega)
      obtain ⟨n1, rfl⟩ : ∃ q, n1 = q + 1 := ⟨n1 - 1, by omega⟩
      obtain ⟨m2, f1, f2, f3⟩ := b4 m1 n1 d2
      obtain ⟨m3, g1, g2, g3⟩ := c4 m2 n1 f2 (by omega)
      refine ⟨m3, ?_, g2, frC_t (frC_t d3 f3) g3⟩
      show b_X1_liveHours_0 (f_X1_liveHours_0 n) 0 21 g i 0 m = _
      simp only [b_X1_liveHours_0]
      rw [e3, w32_id (x := i + 1) ⟨by omega, by omega⟩] at f1
      rw [if_neg (by omega), d1, f1, g1]
    · obtain ⟨n, rfl⟩ : ∃ q, n = q + 1 := ⟨n - 1, by omega⟩
      obtain ⟨m1, n1, d0, d1, d2, d3⟩ := a5 r n c (by omega)
      obtain ⟨n1, rfl⟩ : ∃ q, n1 = q + 1 := ⟨n1 - 1, by omega⟩
      obtain ⟨m2, f1, f2, f3⟩ := b5 m1 n1 d2
      obtain ⟨m3, g1, g2, g3⟩ := c5 m2 n1 f2 (by omega)
      refine ⟨m3, ?_, g2, frR_t (frR_t d3 f3) g3⟩
      show b_X12_drawHours_0 (f_X12_drawHours_0 n) 0 g i 0 r = _
      simp only [b_X12_drawHours_0]
      rw [e3, w32_id (x := i + 1) ⟨by omega, by omega⟩] at f1
      rw [if_neg (by omega), d1, f1, g1]
/-- hours drawn, by both -/
theorem live_all {A : Int → Int} (o : oP A) (os : oS A) {n : Int} (hn : 1 ≤ n ∧ n ≤ 60) (x : Int) : ∃ A' x' g, pq A A' ∧ oS A' ∧ 0 ≤ g ∧ (g = 0 ↔ A 106 = 400) ∧ (∀ m, vP m 4 A → vS m 22 A → ∃ m', f_X1_liveHours 21 n x m = some (g, m') ∧ Cs m' A' x' ∧ frC m m') ∧ (∀ r : zMem, r 140 = A → ∃ r', f_X12_drawHours n x r = some (g, r') ∧ Rs r' A' x' ∧ frR r r') := by
  have hN := zN_ge
  have os1 := os.1
  have r1 : sRf 21 1 = 22 := rfl
  have hg : 0 ≤ (if n ≥ 400 - A 106 then 400 - A 106 else n) ∧ (if n ≥ 400 - A 106 then 400 - A 106 else n) ≤ 60 ∧ A 106 + (if n ≥ 400 - A 106 then 400 - A 106 else n) ≤ 400 ∧ ((if n ≥ 400 - A 106 then 400 - A 106 else n) = 0 ↔ A 106 = 400) := by
    split <;> omega
  have e1 : zmin n (w32 (400 - A 106)) = if n ≥ 400 - A 106 then 400 - A 106 else n := by
    unfold zmin
    rw [w32_id ⟨by omega, by omega⟩]
    by_cases h : 400 - A 106 < n
    · rw [if_pos h, if_pos (by omega)]
    · rw [if_neg h]
      split <;> omega
  have e2 : ∀ r : zMem, f_X12_least n (w32 (400 - A 106)) r = some (if n ≥ 400 - A 106 then 400 - A 106 else n, r) := by
    intro r
    unfold f_X12_least
    rw [w32_id ⟨by omega, by omega⟩]
    split <;> rfl
  generalize (if n ≥ 400 - A 106 then 400 - A 106 else n) = g at *
  obtain ⟨A', x', a1, a2, a3, a4, a5⟩ := live_hs g g.toNat A x 0 o os (by omega) (by omega) (by omega) (by omega)
  refine ⟨A', x', g, a1, a2, hg.1, hg.2.2.2, fun m v w => ?_, fun r hr => ?_⟩
  · have c : Cs (zup m 101 0 x) A x := ⟨vP_mem (fun q _ _ => zup_off (by omega)) v, vS_mem (fun q _ _ => zup_off (by omega)) w, by rw [zup_same, if_pos rfl]⟩
    obtain ⟨m', b1, b2, b3⟩ := a4 _ zN c (by omega)
    refine ⟨m', ?_, b2, frC_t (fun q _ h => zup_off h) b3⟩
    have e5 : zup m 101 0 x 22 5 = A 106 := c.2.1.1.2.1
    unfold f_X1_liveHours
    simp only [pipe, r1]
    rw [e5, e1, b1]
  · have c : Rs (zup r 138 37 x) A x := ⟨by rw [zup_off (by omega)]; exact hr, by rw [zup_same, if_pos rfl]⟩
    obtain ⟨m', b1, b2, b3⟩ := a5 _ zN c (by omega)
    refine ⟨m', ?_, b2, frR_t ⟨fun q h _ => zup_off h, fun i hi => by rw [zup_same, if_neg hi]⟩ b3⟩
    unfold f_X12_drawHours
    simp only [pipe]
    rw [ixl (by omega), c.1, e2]
    simp only [zbind]
    rw [b1]
