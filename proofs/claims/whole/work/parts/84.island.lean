/-! the call island -/
theorem rO_text {mem r : zMem} (R : rO mem) (h : ∀ q, (q = 3 ∨ q = 41 ∨ q = 45 ∨ q = 96 ∨ q = 102 ∨ q = 103 ∨ (105 ≤ q ∧ q ≤ 119) ∨ (122 ≤ q ∧ q ≤ 136) ∨ q = 142 ∨ q = 147 ∨ q = 148 ∨ q = 153 ∨ q = 155) → r q = mem q) (h1 : r 1 2 = 0) (h2 : r 138 2 = 0) (hv : r 138 10 = r 0 15) (h0 : ∀ i, i ≠ 15 → r 0 i = mem 0 i) (h8 : ∀ i, 24 < i → i ≠ 25 → r 138 i = mem 138 i) : rO r := by
  obtain ⟨t, v, l, b, g, k⟩ := R
  refine ⟨⟨by omega, by omega, by omega, fun i a b => by omega⟩, ⟨hv, ?_, ?_, ?_, ?_⟩, rL_mem (h8 36 (by omega) (by omega)) (h 102 (by omega)) (h 103 (by omega)) (h 153 (by omega)) l, rB_mem (fun i _ => by rw [h 45 (by omega)]) (h 155 (by omega)) (h8 41 (by omega) (by omega)) b, rG_mem (fun q hq => h q (by omega)) g, rK_mem (h 3 (by omega)) (h 41 (by omega)) k⟩
  · rw [h8 26 (by omega) (by omega), h0 16 (by omega)]; exact v.2.1
  · rw [h8 32 (by omega) (by omega), h0 17 (by omega)]; exact v.2.2.1
  · rw [h8 33 (by omega) (by omega), h0 18 (by omega)]; exact v.2.2.2.1
  · rw [h8 34 (by omega) (by omega), h0 19 (by omega)]; exact v.2.2.2.2
theorem qIsland {mem : zMem} (R : Rel mem) : okC f_X11_island f_X12_island mem := by
  have hN := zN_ge
  obtain ⟨ri, rh, ro⟩ := R
  obtain ⟨t1, t2, t3, t4⟩ := ro.1
  have kk := ro.2.2.2.2.2
  generalize hn : mem 1 2 = n at t1 t2 t3 t4
  have ok : okTx (mem 2) n := ⟨t2, t3, fun i a b => (t4 i a b).2⟩
  obtain ⟨m1, b1, b2, b3, b4⟩ := cBegin (m := mem) (T := mem 2) (n := n) 900 hn (fun _ _ _ => rfl) kk.1
  obtain ⟨m2, d1, d2, d3⟩ := cDraft m1 (mem 141) (mem 146)
  have cu : CU (mem 2) n 900 m2 0 := by
    unfold CU CX
    rw [d3 1 (by omega), d3 2 (by omega), d3 3 (by omega)]
    exact b2
  have cl : f_X4_readLines mem = f_X4_readLines_0 zN 0 m2 := by
    unfold f_X4_readLines
    rw [b1, ← d1]
    rfl
  have f12 : m2 1 2 = n := by rw [d3 1 (by omega), b4 2 (by omega), hn]
  have fo : ∀ q, q ≠ 1 → (q < 27 ∨ 39 < q) → m2 q = mem q := fun q a b => by rw [d3 q b, b3 q a]
  have rf : ∀ m, m 138 = mem 138 → m 139 = mem 139 → m 141 = mem 141 → m 146 = mem 146 → ∃ r2, f_X12_island m = f_X12_island_2 zN 0 r2 ∧ RU (mem 2) n 900 r2 0 ∧ RSt r2 (B00 (mem 141)) (mem 146) 0 0 ∧ (∀ q, q ≠ 138 → q ≠ 141 → r2 q = m q) ∧ r2 138 2 = 0 ∧ ∀ i, 24 < i → r2 138 i = mem 138 i := by
    intro m e1 e2 e3 e4
    obtain ⟨r1, x1, x2, x3, x4, x5⟩ := mBegin (r := m) (lim := 900) ok (by rw [e1]; exact t1) (fun i a b => by rw [e2]; exact (t4 i a b).1)
    obtain ⟨r2, y1, y2, y3, y4, y5⟩ := mDraft x2
    rw [x3 141 (by omega), x3 146 (by omega), e3, e4] at y3
    refine ⟨r2, ?_, y2, y3, fun q a b => by rw [y4 q a b, x3 q a], by rw [y5 2 (by omega) (by omega), x4], fun i hi => by rw [y5 i (by omega) (by omega), x5 i (by omega), e1]⟩
    unfold f_X12_island
    rw [x1, ← y1]
    rfl
  rcases lines_o ok (by omega : (0 : Int) ≤ 900) 1000 0 0 (B00 (mem 141)) (mem 146) 0 0 (by omega) (by omega) (by omega) (by omega) (by omega) (B00_ok _) with ⟨k, pl, k0, hc, hr⟩ | ⟨B', N', g', c', v', iv, v0, v1, hc, hr⟩
  · obtain ⟨m3, x, z1, z2, z3⟩ := hc zN m2 (by omega) cu d2
    have w9 : zup m3 1 2 0 1 9 = k := by rw [zup_same, if_neg (by omega)]; exact z2.1
    generalize h4 : zup (zup m3 1 2 0) 0 15 (zup m3 1 2 0 1 9) = m4
    have g1 : ∀ q, q ≠ 0 → q ≠ 1 → (q < 27 ∨ 39 < q) → m4 q = mem q := fun q a b c => by rw [← h4, zup_off a, zup_off b, z3.1 q b c, fo q b c]
    obtain ⟨r2, y1, y2, y3, y4, y5, y6⟩ := rf m4 (g1 138 (by omega) (by omega) (by omega)) (g1 139 (by omega) (by omega) (by omega)) (g1 141 (by omega) (by omega) (by omega)) (g1 146 (by omega) (by omega) (by omega))
    obtain ⟨r3, s1, s2, s3⟩ := hr zN r2 (by omega) y2 y3
    have o15 : m4 0 15 = k := by rw [← h4, zup_same, if_pos rfl, w9]
    have o10 : m4 1 10 = pl := by rw [← h4, zup_off (by omega), zup_same, if_neg (by omega)]; exact z2.2
    have fin : ∀ q, q ≠ 138 → q ≠ 141 → q ≠ 146 → r3 q = m4 q := fun q a b c => by rw [s3.1 q a b c, y4 q a b]
    have fin2 : ∀ q, q ≠ 0 → q ≠ 1 → (q < 27 ∨ 39 < q) → q ≠ 138 → q ≠ 141 → q ≠ 146 → r3 q = mem q := fun q a b c d e f => by rw [fin q d e f, g1 q a b c]
    have fin3 : ∀ i, 24 < i → r3 138 i = mem 138 i := fun i hi => by rw [s3.2 i (by omega), y6 i hi]
    refine ⟨w32 (-1 - pl), m4, r3, ?_, by rw [y1, s1], ?_, ?_, ?_⟩
    · unfold f_X11_island f_X11_closeTape
      rw [cl, z1]
      simp only [zbind, pipe]
      rw [h4, if_neg (by rw [o15]; exact k0)]
      simp only
      rw [if_neg (by omega), o10]
    · rw [fin2 140 (by omega) (by omega) (by omega) (by omega) (by omega) (by omega), fin2 145 (by omega) (by omega) (by omega) (by omega) (by omega) (by omega)]
      exact rI_mem (fun q _ _ => fin2 q (by omega) (by omega) (by omega) (by omega) (by omega) (by omega)) (fun q _ _ => fin2 q (by omega) (by omega) (by omega) (by omega) (by omega) (by omega)) (fun q _ _ => fin2 q (by omega) (by omega) (by omega) (by omega) (by omega) (by omega)) ri
    · rw [fin2 140 (by omega) (by omega) (by omega) (by omega) (by omega) (by omega)]
      exact rH_mem (fun q _ _ => fin2 q (by omega) (by omega) (by omega) (by omega) (by omega) (by omega)) (fin3 25 (by omega)) (fin2 143 (by omega) (by omega) (by omega) (by omega) (by omega) (by omega)) rh
    · refine rO_text ro (fun q hq => fin2 q (by omega) (by omega) (by omega) (by omega) (by omega) (by omega)) ?_ ?_ ?_ ?_ (fun i a _ => fin3 i a)
      · rw [fin 1 (by omega) (by omega) (by omega), ← h4, zup_off (by omega), zup_same, if_pos rfl]
      · rw [s3.2 2 (by omega), y5]
      · rw [s2.1, fin 0 (by omega) (by omega) (by omega), o15]
      · intro i hi
        rw [fin 0 (by omega) (by omega) (by omega), ← h4, zup_same, if_neg hi, zup_off (by omega), z3.1 0 (by omega) (by omega), fo 0 (by omega) (by omega)]
  · obtain ⟨m3, z1, z2, z3, z4⟩ := hc zN m2 (by omega) cu d2
    have w9 : zup m3 1 2 0 1 9 = 0 := by rw [zup_same, if_neg (by omega)]; exact z2
    generalize h4 : zup (zup m3 1 2 0) 0 15 (zup m3 1 2 0 1 9) = m4
    have g0 : ∀ q, q ≠ 0 → q ≠ 1 → m4 q = m3 q := fun q a b => by rw [← h4, zup_off a, zup_off b]
    have g1 : ∀ q, q ≠ 0 → q ≠ 1 → (q < 27 ∨ 39 < q) → m4 q = mem q := fun q a b c => by rw [g0 q a b, z4.1 q b c, fo q b c]
    have o15 : m4 0 15 = 0 := by rw [← h4, zup_same, if_pos rfl, w9]
    have di : rI m4 28 35 41 (rowA B') N' := by
      refine rI_mem (mem := m3) (fun q _ _ => g0 q (by omega) (by omega)) (fun q _ _ => g0 q (by omega) (by omega)) (fun q _ _ => g0 q (by omega) (by omega)) ⟨iv.1.1, oD_S iv.1, z3.1.1, z3.1.2.1, z3.1.2.2, Or.inl ⟨rowA_z B' (by omega), ?_⟩⟩
      rw [z4.1 41 (by omega) (by omega), fo 41 (by omega) (by omega)]
      exact kk.2.2
    obtain ⟨m6, c1, c2, c3, c4⟩ := cCopyI IT_20 IT_40 (by omega) di
    have d6 : ∀ q, (q < 4 ∨ 18 < q) → m6 q = m4 q := fun q hq => c4 q (by omega) (by omega) (by omega)
    have g7 : ∀ q, q ≠ 53 → zup m6 53 2 0 q = m6 q := fun q hq => zup_off hq
    have g8 : ∀ q, q ≠ 0 → q ≠ 1 → q ≠ 53 → (q < 4 ∨ 18 < q) → (q < 27 ∨ 39 < q) → zup m6 53 2 0 q = mem q := fun q a b c d e => by rw [g7 q c, d6 q d, g1 q a b e]
    obtain ⟨r2, y1, y2, y3, y4, y5, y6⟩ := rf (zup m6 53 2 0) (g8 138 (by omega) (by omega) (by omega) (by omega) (by omega)) (g8 139 (by omega) (by omega) (by omega) (by omega) (by omega)) (g8 141 (by omega) (by omega) (by omega) (by omega) (by omega)) (g8 146 (by omega) (by omega) (by omega) (by omega) (by omega))
    obtain ⟨r3, s1, s2, s3, s4⟩ := hr zN r2 (by omega) y2 y3
    obtain ⟨r4, u1, u2, u3, u4, u5⟩ := mIsl_1 v' r3
    rw [s3.1] at u3
    rw [s3.2.1] at u4
    have fin : ∀ q, q ≠ 138 → q ≠ 140 → q ≠ 141 → q ≠ 145 → q ≠ 146 → r4 q = zup m6 53 2 0 q := fun q a b c d e => by rw [u2 q a b d, s4.1 q a c e, y4 q a c]
    have fin2 : ∀ q, q ≠ 0 → q ≠ 1 → q ≠ 53 → (q < 4 ∨ 18 < q) → (q < 27 ∨ 39 < q) → q ≠ 138 → q ≠ 140 → q ≠ 141 → q ≠ 145 → q ≠ 146 → r4 q = mem q := fun q a b c d e f g h i j => by rw [fin q f g h i j, g8 q a b c d e]
    have fin3 : ∀ i, 24 < i → i ≠ 25 → r4 138 i = mem 138 i := fun i hi h2 => by rw [u5 i, up_ne h2, s4.2 i (by omega), y6 i hi]
    refine ⟨v', zup m6 53 2 0, r4, ?_, by rw [y1, s1, u1], ?_, ?_, ?_⟩
    · unfold f_X11_island f_X11_closeTape f_X2_clear
      rw [cl, z1]
      simp only [zbind, pipe]
      rw [h4, if_pos o15]
      simp only
      rw [if_pos trivial, c1]
    · refine rI_cg (fun i a b => u3 i a b) (fun i a b => u4 i a b) (rI_mem (mem := m6) (fun q _ _ => ?_) (fun q _ _ => ?_) (fun q _ _ => ?_) c2)
      · rw [fin q (by omega) (by omega) (by omega) (by omega) (by omega), g7 q (by omega)]
      · rw [fin q (by omega) (by omega) (by omega) (by omega) (by omega), g7 q (by omega)]
      · rw [fin q (by omega) (by omega) (by omega) (by omega) (by omega), g7 q (by omega)]
    · have h53 : ∀ i, r4 53 i = if i = 2 then 0 else mem 53 i := fun i => by rw [fin 53 (by omega) (by omega) (by omega) (by omega) (by omega), zup_same, d6 53 (by omega), g1 53 (by omega) (by omega) (by omega)]
      have b1 := rh.1
      refine ⟨⟨?_, ?_, ?_, ?_, ?_⟩, fun j j0 j1 => ?_⟩
      · rw [h53, if_neg (by omega)]; omega
      · rw [h53, if_neg (by omega)]; omega
      · rw [h53, if_pos rfl]; omega
      · rw [h53, if_pos rfl]; omega
      · rw [h53, if_pos rfl, u5 25, up_eq]
      · rw [h53, if_pos rfl] at j1
        omega
    · refine rO_text ro (fun q hq => fin2 q (by omega) (by omega) (by omega) (by omega) (by omega) (by omega) (by omega) (by omega) (by omega) (by omega)) ?_ ?_ ?_ ?_ fin3
      · rw [fin 1 (by omega) (by omega) (by omega) (by omega) (by omega), g7 1 (by omega), d6 1 (by omega), ← h4, zup_off (by omega), zup_same, if_pos rfl]
      · rw [u5 2, up_ne (by omega), s4.2 2 (by omega), y5]
      · rw [u5 10, up_ne (by omega), s2, fin 0 (by omega) (by omega) (by omega) (by omega) (by omega), g7 0 (by omega), d6 0 (by omega), o15]
      · intro i hi
        rw [fin 0 (by omega) (by omega) (by omega) (by omega) (by omega), g7 0 (by omega), d6 0 (by omega), ← h4, zup_same, if_neg hi, zup_off (by omega), z4.1 0 (by omega) (by omega), fo 0 (by omega) (by omega)]
