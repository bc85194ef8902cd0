/-! the call sentence -/
theorem mSent (r : zMem) : ∃ r', f_X12_sentence_0 zN 0 r = some (r 138 44, r') ∧ (∀ q, q ≠ 140 → r' q = r q) ∧ ∀ j, r' 140 j = if 194 ≤ j ∧ j < 434 then r 156 (j - 194) else r 140 j := by
  have L : sLen 156 = 240 := rfl
  obtain ⟨n', m', ⟨i1, i2⟩, e⟩ := lp_inv (F := fun n i m => f_X12_sentence_0 n i m) (N := 240) (m := r) (I := fun i y => (∀ q, q ≠ 140 → y q = r q) ∧ ∀ j, y 140 j = if 194 ≤ j ∧ j < 194 + i then r 156 (j - 194) else r 140 j) (by
    intro n i y a b ⟨c, d⟩
    show ∃ m', b_X12_sentence_0 (f_X12_sentence_0 n) i y = _ ∧ _
    unfold b_X12_sentence_0
    rw [if_neg (by omega), w32_id (x := i + 1) ⟨by omega, by omega⟩, w32_id (x := 194 + i) ⟨by omega, by omega⟩, if_pos (show ix 156 i from ⟨a, by omega⟩), ixl (by omega), pipe, c 156 (by omega)]
    refine ⟨_, rfl, fun q h1 => by rw [zup_off h1, c q h1], fun j => ?_⟩
    rw [zup_same, d j]
    by_cases hj : j = 194 + i
    · rw [if_pos hj, if_pos (by omega), hj]
      congr 1
      omega
    · by_cases hk : 194 ≤ j ∧ j < 194 + i
      · rw [if_neg hj, if_pos hk, if_pos (by omega)]
      · rw [if_neg hj, if_neg hk, if_neg (by omega)]) (by omega) (by omega) ⟨fun _ _ => rfl, fun j => by rw [if_neg (by omega)]⟩
  refine ⟨m', ?_, i1, i2⟩
  rw [e]
  have u : f_X12_sentence_0 (n' + 1) 240 m' = b_X12_sentence_0 (f_X12_sentence_0 n') 240 m' := rfl
  rw [u]
  unfold b_X12_sentence_0
  rw [if_pos (by omega), i1 138 (by omega)]
theorem rH_cg {mem : zMem} {A A' : Int → Int} (o : oP A) (h : ∀ i, 0 ≤ i → i < 192 → A' i = A i) (r : rH mem A) : rH mem A' := by
  have o1 := o.1
  have e : ∀ j i, 0 ≤ i → i < 192 → snA mem A' j i = snA mem A j i := by
    intro j i a b
    unfold snA
    by_cases hc : 106 ≤ i ∧ i < 192
    · rw [if_pos hc, if_pos hc]
    · rw [if_neg hc, if_neg hc, h i a b]
  have e2 : ∀ j, snA mem A j 2 = A 2 := fun j => by unfold snA; rw [if_neg (by omega)]
  have e3 : ∀ j, snA mem A j 3 = A 3 := fun j => by unfold snA; rw [if_neg (by omega)]
  refine ⟨r.1, fun j a b => ?_⟩
  obtain ⟨x, y⟩ := r.2 j a b
  exact ⟨vS_cg (e j 2 (by omega) (by omega)) (e j 3 (by omega) (by omega)) (by rw [e2 j]; omega) (by rw [e3 j]; omega) (fun i p q => e j i (by omega) q) x, oS_cg (e j 0 (by omega) (by omega)) (e j 1 (by omega) (by omega)) (e j 2 (by omega) (by omega)) (e j 3 (by omega) (by omega)) (by rw [e2 j]; omega) (by rw [e3 j]; omega) (fun i p q => e j i (by omega) q) y⟩
theorem top_cond {T : Int → Int} {n lim : Int} {A N : Int → Int} (ok : okTx T n) (hl : 0 ≤ lim) (oA : oP A) : hOne T n lim A N 0 (fun m => fg_cond 40 0 49 4 1 m) (fun r => fg_says 60 0 r) :=
  cond_all (dp := 1) (sc := fg_cond 39) (sr := fg_says 58) (sr' := fg_says 59) (fun r => rfl) ok hl (deep ok hl oA 8 0 (by omega) (by omega) 39 58 (by omega) (by omega))
theorem qSentence {mem : zMem} (R : Rel mem) : okC f_X11_sentence f_X12_sentence mem := by
  have hN := zN_ge
  have R0 := R
  obtain ⟨ri, rh, ro⟩ := R
  obtain ⟨o, os, v, w, nn, ss⟩ := ri
  have o1 := o.1
  obtain ⟨t1, t2, t3, t4⟩ := ro.1
  have kk := ro.2.2.2.2.2
  have rb0 := ro.2.2.2.1
  generalize hn : mem 1 2 = n at t1 t2 t3 t4
  have ok : okTx (mem 2) n := ⟨t2, t3, fun i a b => (t4 i a b).2⟩
  generalize hma : zup (zup mem 49 3 0) 49 4 0 = ma
  have ha : ∀ q, q ≠ 49 → ma q = mem q := fun q h => by rw [← hma, zup_off h, zup_off h]
  have ha4 : ma 49 4 = 0 := by rw [← hma, zup_same, if_pos rfl]
  have ha3 : ma 49 3 = 0 := by rw [← hma, zup_same, if_neg (by omega), zup_same, if_pos rfl]
  obtain ⟨m1, b1, b2, b3, b4⟩ := cBegin (m := ma) (T := mem 2) (n := n) 200 (by rw [ha 1 (by omega)]; exact hn) (fun _ _ _ => by rw [ha 2 (by omega)]) (by rw [ha 3 (by omega)]; exact kk.1)
  obtain ⟨m2, s1, s2, s3⟩ := cStepU ok (by omega) (by omega) b2
  have f2 : ∀ q, q ≠ 1 → m2 q = ma q := fun q h => by rw [s3.1 q h, b3 q h]
  have pm : PcT (mem 2) n 200 0 0 0 (mem 50) (mem 51) (mem 140) (mem 145) m2 := by
    refine ⟨s2, ⟨o, vP_mem (mem := mem) (fun q _ _ => by rw [f2 q (by omega), ha q (by omega)]) v, rN_mem (mem := mem) (fun q _ _ => by rw [f2 q (by omega), ha q (by omega)]) nn⟩, ?_, ?_, ?_, ?_⟩
    · rw [f2 49 (by omega), ha4]
    · rw [f2 49 (by omega), ha3]
    · rw [f2 50 (by omega), ha 50 (by omega)]
    · rw [f2 51 (by omega), ha 51 (by omega)]
  have cl : f_X8_readText 49 4 mem = (zbind (fg_cond 40 0 49 4 1 m2) fun y4 m5 => if y4 = 0 then (some (0, m5)) else (if (m5 1 6) = 0 then (some (0, m5)) else (zbind (f_X6_fail 1 m5) fun y9 m10 => some (0, m10)))) := by
    unfold f_X8_readText f_X8_clear f_X8_readCond
    simp only [pipe, zbind]
    rw [hma, b1]
    simp only
    rw [s1]
  have fm : ∀ m3, FS m2 m3 → ∀ q, q ≠ 1 → (q < 49 ∨ 51 < q) → m3 q = mem q := fun m3 h q h1 h2 => by rw [h.1 q h1 h2, f2 q h1, ha q (by omega)]
  have rf : ∀ m : zMem, m 138 = mem 138 → m 139 = mem 139 → m 140 = mem 140 → m 145 = mem 145 → m 156 = mem 156 → ∃ r2, f_X12_sentence m = (zbind (fg_says 60 0 r2) fun y5 m6 => if y5 = 0 then (some ((w32 ((-1) - (m6 138 11))), m6)) else (if (m6 138 7) = 0 then (if ix 140 192 then pipe (zup m6 140 192 1) fun m12 => if ix 140 193 then pipe (zup m12 140 193 (m12 138 46)) fun m15 => f_X12_sentence_0 zN 0 m15 else none else none) else (zbind (f_X12_bad 1 m6) fun y16 m17 => some ((w32 ((-1) - (m17 138 11))), m17)))) ∧ PrT (mem 2) n 200 0 0 0 0 (mem 156) (mem 140) (mem 145) r2 ∧ (∀ q, q ≠ 138 → r2 q = m q) ∧ r2 138 2 = 0 ∧ ∀ i, (12 < i ∧ (i < 43 ∨ 45 < i)) → r2 138 i = mem 138 i := by
    intro m e1 e2 e3 e4 e5
    obtain ⟨r1, x1, x2, x3, x4, x5⟩ := mBegin (r := m) (lim := 200) ok (by rw [e1]; exact t1) (fun i a b => by rw [e2]; exact (t4 i a b).1)
    have g : ∀ q, q ≠ 138 → zup (zup (zup r1 138 43 0) 138 44 0) 138 45 0 q = m q := fun q h => by rw [zup_off h, zup_off h, zup_off h, x3 q h]
    refine ⟨zup (zup (zup r1 138 43 0) 138 44 0) 138 45 0, ?_, ⟨RU_F (RU_F (RU_F x2 (by omega)) (by omega)) (by omega), by rw [g 140 (by omega), e3], by rw [g 145 (by omega), e4], ?_, ?_, ?_, by rw [g 156 (by omega), e5]⟩, g, ?_, fun i hi => ?_⟩
    · unfold f_X12_sentence f_X12_readOr
      rw [x1]
      rfl
    · rw [zup_same, if_neg (by omega), zup_same, if_neg (by omega), zup_same, if_pos rfl]
    · rw [zup_same, if_neg (by omega), zup_same, if_pos rfl]
    · rw [zup_same, if_pos rfl]
    · rw [zup_same, if_neg (by omega), zup_same, if_neg (by omega), zup_same, if_neg (by omega), x4]
    · rw [zup_same, if_neg (by omega), zup_same, if_neg (by omega), zup_same, if_neg (by omega), x5 i (by omega), e1]
  -- a fault, wherever it comes from
  have bad : ∀ (k pl : Int) (m3 : zMem), k ≠ 0 → f_X8_readText 49 4 mem = some (0, m3) → CF m3 k pl → FS m2 m3 → (∀ r2, PrT (mem 2) n 200 0 0 0 0 (mem 156) (mem 140) (mem 145) r2 → ∃ r3, (zbind (fg_says 60 0 r2) fun y5 m6 => if y5 = 0 then (some ((w32 ((-1) - (m6 138 11))), m6)) else (if (m6 138 7) = 0 then (if ix 140 192 then pipe (zup m6 140 192 1) fun m12 => if ix 140 193 then pipe (zup m12 140 193 (m12 138 46)) fun m15 => f_X12_sentence_0 zN 0 m15 else none else none) else (zbind (f_X12_bad 1 m6) fun y16 m17 => some ((w32 ((-1) - (m17 138 11))), m17)))) = some (w32 (-1 - pl), r3) ∧ RF r3 k pl ∧ GS r2 r3) → okC f_X11_sentence f_X12_sentence mem := by
    intro k pl m3 k0 z1 z2 z3 hr
    have w9 : zup m3 1 2 0 1 9 = k := by rw [zup_same, if_neg (by omega)]; exact z2.1
    generalize h4 : zup (zup m3 1 2 0) 0 15 (zup m3 1 2 0 1 9) = m4
    have g1 : ∀ q, q ≠ 0 → q ≠ 1 → (q < 49 ∨ 51 < q) → m4 q = mem q := fun q a b c => by rw [← h4, zup_off a, zup_off b, fm m3 z3 q b c]
    obtain ⟨r2, y1, y2, y3, y5, y6⟩ := rf m4 (g1 138 (by omega) (by omega) (by omega)) (g1 139 (by omega) (by omega) (by omega)) (g1 140 (by omega) (by omega) (by omega)) (g1 145 (by omega) (by omega) (by omega)) (g1 156 (by omega) (by omega) (by omega))
    obtain ⟨r3, u1, u2, u3⟩ := hr r2 y2
    have o15 : m4 0 15 = k := by rw [← h4, zup_same, if_pos rfl, w9]
    have o10 : m4 1 10 = pl := by rw [← h4, zup_off (by omega), zup_same, if_neg (by omega)]; exact z2.2
    have fin : ∀ q, q ≠ 138 → q ≠ 156 → r3 q = m4 q := fun q a b => by rw [u3.1 q a b, y3 q a]
    have fin2 : ∀ q, q ≠ 0 → q ≠ 1 → (q < 49 ∨ 51 < q) → q ≠ 138 → q ≠ 156 → r3 q = mem q := fun q a b c d e => by rw [fin q d e, g1 q a b c]
    have fin3 : ∀ i, 13 < i → (i < 43 ∨ 46 < i) → r3 138 i = mem 138 i := fun i hi hj => by rw [u3.2 i (by omega), y6 i (by omega)]
    refine ⟨w32 (-1 - pl), m4, r3, ?_, by rw [y1, u1], ?_, ?_, ?_⟩
    · unfold f_X11_sentence f_X11_closeTape
      rw [z1]
      simp only [zbind, pipe]
      rw [h4, if_neg (by rw [o15]; exact k0)]
      simp only
      rw [if_neg (by omega), o10]
    · rw [fin2 140 (by omega) (by omega) (by omega) (by omega) (by omega), fin2 145 (by omega) (by omega) (by omega) (by omega) (by omega)]
      exact rI_mem (fun q _ _ => fin2 q (by omega) (by omega) (by omega) (by omega) (by omega)) (fun q _ _ => fin2 q (by omega) (by omega) (by omega) (by omega) (by omega)) (fun q _ _ => fin2 q (by omega) (by omega) (by omega) (by omega) (by omega)) ⟨o, os, v, w, nn, ss⟩
    · rw [fin2 140 (by omega) (by omega) (by omega) (by omega) (by omega)]
      exact rH_mem (fun q _ _ => fin2 q (by omega) (by omega) (by omega) (by omega) (by omega)) (fin3 25 (by omega) (by omega)) (fin2 143 (by omega) (by omega) (by omega) (by omega) (by omega)) rh
    · refine rO_txt ro (fun q hq => fin2 q (by omega) (by omega) (by omega) (by omega) (by omega)) ?_ ?_ ?_ ?_ (fun i hi => fin3 i (by omega) (by omega)) ?_
      · rw [fin 1 (by omega) (by omega), ← h4, zup_off (by omega), zup_same, if_pos rfl]
      · rw [u3.2 2 (by omega), y5]
      · rw [u2.1, fin 0 (by omega) (by omega), o15]
      · intro i hi
        rw [fin 0 (by omega) (by omega), ← h4, zup_same, if_neg hi, zup_off (by omega), fm m3 z3 0 (by omega) (by omega)]
      · exact rB_mem (fun i hi => by rw [fin2 45 (by omega) (by omega) (by omega) (by omega) (by omega)]) (fin2 155 (by omega) (by omega) (by omega) (by omega) (by omega)) (fin3 41 (by omega) (by omega)) rb0
  rcases top_cond (N := mem 145) ok (by omega : (0 : Int) ≤ 200) o 0 0 0 (mem 50) (mem 51) (mem 156) (by omega) (by omega) (by omega) (by omega) (by omega) (by omega) with ⟨k, pl, k0, hc, hr⟩ | ⟨p', o', z', B', D', X', nl, hb, e1, e2, tr, hc, hr⟩
  · obtain ⟨m3, z1, z2, z3⟩ := hc m2 pm
    dsimp only at z1
    refine bad k pl m3 k0 ?_ z2.1 z3 (fun r2 pr => ?_)
    · rw [cl, z1]
      simp [zbind]
    · obtain ⟨r3, u1, u2, u3⟩ := hr r2 pr
      dsimp only at u1
      refine ⟨r3, ?_, u2, u3⟩
      rw [u1]
      simp only [zbind]
      rw [if_pos trivial, u2.2]
  · obtain ⟨m3, z1, ct, cs, z3⟩ := hc m2 pm
    dsimp only at z1
    have lr := lexT_r (T := mem 2) (n := n) (lim := 200) (p := p') (by omega) (by omega) hb.2.1
    have e6 : m3 1 6 = 0 ↔ (lexT (mem 2) n 200 p').2.2.1 = 0 := by
      rw [ct.2.1.2.2.1]
      by_cases x0 : (lexT (mem 2) n 200 p').2.2.1 = 0
      · rw [if_pos x0]; omega
      · rw [if_neg x0]
        by_cases x1 : (lexT (mem 2) n 200 p').2.2.1 = 1
        · rw [if_pos x1]; omega
        · rw [if_neg x1]; omega
    by_cases hz : (lexT (mem 2) n 200 p').2.2.1 = 0
    · have tb := Tr_b tr
      have c9 : m3 1 9 = 0 := ct.2.2
      have w9 : zup m3 1 2 0 1 9 = 0 := by rw [zup_same, if_neg (by omega)]; exact c9
      generalize h4 : zup (zup m3 1 2 0) 0 15 (zup m3 1 2 0 1 9) = m4
      have g0 : ∀ q, q ≠ 0 → q ≠ 1 → m4 q = m3 q := fun q a b => by rw [← h4, zup_off a, zup_off b]
      have g1 : ∀ q, q ≠ 0 → q ≠ 1 → (q < 49 ∨ 51 < q) → m4 q = mem q := fun q a b c => by rw [g0 q a b, fm m3 z3 q b c]
      have o15 : m4 0 15 = 0 := by rw [← h4, zup_same, if_pos rfl, w9]
      generalize hA : (fun j => if 194 ≤ j ∧ j < 434 then X' (j - 194) else if j = 193 then z' - 1 else if j = 192 then 1 else mem 140 j) = A'
      have hA1 : ∀ j, j < 192 → A' j = mem 140 j := fun j hj => by rw [← hA]; dsimp only; rw [if_neg (by omega), if_neg (by omega), if_neg (by omega)]
      have hA2 : A' 192 = 1 := by rw [← hA]; dsimp only; rw [if_neg (by omega), if_neg (by omega), if_pos rfl]
      have hA3 : A' 193 = z' - 1 := by rw [← hA]; dsimp only; rw [if_neg (by omega), if_pos rfl]
      have hA4 : ∀ q, 0 ≤ q → q < 240 → A' (194 + q) = X' q := fun q a b => by rw [← hA]; dsimp only; rw [if_pos (by omega)]; congr 1; omega
      have rs4 : rS m4 49 A' := by
        refine Or.inr ⟨hA2, ?_, ?_, (z' - 0).toNat, nl, by omega, by omega, ?_⟩
        · rw [g0 49 (by omega) (by omega), cs.1]; omega
        · rw [g0 49 (by omega) (by omega), cs.2.1]; omega
        · rw [g0 49 (by omega) (by omega), g0 (49 + 1) (by omega) (by omega), g0 (49 + 2) (by omega) (by omega), cs.2.1, cs.2.2.1, cs.2.2.2, hA3]
          refine Tr_Rep hA4 _ _ _ _ ?_
          rw [hA1 2 (by omega)]
          exact tr
      obtain ⟨m5, c1, c2, c3, c4, c5⟩ := cCopyE (to := 16) (fr := 49) ⟨rfl, rfl⟩ ⟨rfl, rfl⟩ (by omega) rs4
      have g5 : ∀ q, q ≠ 0 → q ≠ 1 → (q < 16 ∨ 18 < q) → (q < 49 ∨ 51 < q) → m5 q = mem q := fun q a b c d => by rw [c5 q (by omega), g1 q a b d]
      obtain ⟨r2, y1, y2, y3, y5, y6⟩ := rf m5 (g5 138 (by omega) (by omega) (by omega) (by omega)) (g5 139 (by omega) (by omega) (by omega) (by omega)) (g5 140 (by omega) (by omega) (by omega) (by omega)) (g5 145 (by omega) (by omega) (by omega) (by omega)) (g5 156 (by omega) (by omega) (by omega) (by omega))
      obtain ⟨r3, u1, u2, u3, u4, u5⟩ := hr r2 y2
      dsimp only at u1
      obtain ⟨r4, v1, v2, v3⟩ := mSent (zup (zup r3 140 192 1) 140 193 (z' - 1))
      have e140 : r3 140 = mem 140 := by rw [u5.1 140 (by omega) (by omega), y3 140 (by omega), g5 140 (by omega) (by omega) (by omega) (by omega)]
      have eA : r4 140 = A' := by
        funext j
        rw [v3 j, ← hA, zup_off (by omega), zup_off (by omega), u3.2.2.2]
        by_cases hj : 194 ≤ j ∧ j < 434
        · rw [if_pos hj]; dsimp only; rw [if_pos hj]
        · rw [if_neg hj, zup_same]
          dsimp only
          rw [if_neg hj]
          by_cases h3 : j = 193
          · rw [if_pos h3, if_pos h3]
          · rw [if_neg h3, if_neg h3, zup_same]
            by_cases h2 : j = 192
            · rw [if_pos h2, if_pos h2]
            · rw [if_neg h2, if_neg h2, e140]
      have fin : ∀ q, q ≠ 138 → q ≠ 140 → q ≠ 156 → r4 q = m5 q := fun q a b c => by rw [v2 q b, zup_off b, zup_off b, u5.1 q a c, y3 q a]
      have f138 : ∀ i, r4 138 i = r3 138 i := fun i => by rw [v2 138 (by omega), zup_off (by omega), zup_off (by omega)]
      have fin2 : ∀ q, q ≠ 0 → q ≠ 1 → (q < 16 ∨ 18 < q) → (q < 49 ∨ 51 < q) → q ≠ 138 → q ≠ 140 → q ≠ 156 → r4 q = mem q := fun q a b c d e f g => by rw [fin q e f g, g5 q a b c d]
      have fin3 : ∀ i, 13 < i → (i < 43 ∨ 46 < i) → r4 138 i = mem 138 i := fun i hi hj => by rw [f138 i, u5.2 i (by omega), y6 i (by omega)]
      refine ⟨o', m5, r4, ?_, ?_, ?_, ?_, ?_⟩
      · unfold f_X11_sentence f_X11_closeTape
        rw [cl, z1]
        simp only [zbind]
        rw [if_neg (by omega), if_pos (e6.2 hz)]
        simp only [pipe]
        rw [h4, if_pos o15]
        simp only
        rw [if_pos trivial, c1]
        simp only
        rw [c4, g0 49 (by omega) (by omega), cs.1]
      · rw [y1, u1]
        simp only [zbind]
        rw [if_neg (by omega), if_pos (by rw [u2.2.2.2.1]; exact hz), ixl (by omega)]
        simp only [pipe]
        rw [ixl (by omega), zup_off (mem := r3) (by omega : (138 : Nat) ≠ 140), u4, v1, zup_off (by omega), zup_off (by omega), u3.2.1]
      · rw [eA, fin2 145 (by omega) (by omega) (by omega) (by omega) (by omega) (by omega) (by omega)]
        exact ⟨oP_of (fun i _ b => hA1 i (by omega)) o, oS_cg (hA1 0 (by omega)) (hA1 1 (by omega)) (hA1 2 (by omega)) (hA1 3 (by omega)) (by omega) (by omega) (fun i _ b => hA1 i b) os, vP_of (fun i _ b => hA1 i (by omega)) o (vP_mem (fun q _ _ => fin2 q (by omega) (by omega) (by omega) (by omega) (by omega) (by omega) (by omega)) v), vS_cg (hA1 2 (by omega)) (hA1 3 (by omega)) (by omega) (by omega) (fun i _ b => hA1 i b) (vS_mem (fun q _ _ => fin2 q (by omega) (by omega) (by omega) (by omega) (by omega) (by omega) (by omega)) w), rN_cg o (hA1 2 (by omega)) (hA1 3 (by omega)) (fun _ _ _ => rfl) (rN_mem (fun q _ _ => fin2 q (by omega) (by omega) (by omega) (by omega) (by omega) (by omega) (by omega)) nn), rS_mem (fun q _ _ => fin q (by omega) (by omega) (by omega)) c2⟩
      · rw [eA]
        exact rH_cg o (fun i _ b => hA1 i b) (rH_mem (fun q _ _ => fin2 q (by omega) (by omega) (by omega) (by omega) (by omega) (by omega) (by omega)) (fin3 25 (by omega) (by omega)) (fin2 143 (by omega) (by omega) (by omega) (by omega) (by omega) (by omega) (by omega)) rh)
      · refine rO_txt ro (fun q hq => fin2 q (by omega) (by omega) (by omega) (by omega) (by omega) (by omega) (by omega)) ?_ ?_ ?_ ?_ (fun i hi => fin3 i (by omega) (by omega)) ?_
        · rw [fin 1 (by omega) (by omega) (by omega), c5 1 (by omega), ← h4, zup_off (by omega), zup_same, if_pos rfl]
        · rw [f138 2, u5.2 2 (by omega), y5]
        · rw [f138 10, u2.1.2, fin 0 (by omega) (by omega) (by omega), c5 0 (by omega), o15]
        · intro i hi
          rw [fin 0 (by omega) (by omega) (by omega), c5 0 (by omega), ← h4, zup_same, if_neg hi, zup_off (by omega), fm m3 z3 0 (by omega) (by omega)]
        · exact rB_mem (fun i hi => by rw [fin2 45 (by omega) (by omega) (by omega) (by omega) (by omega) (by omega) (by omega)]) (fin2 155 (by omega) (by omega) (by omega) (by omega) (by omega) (by omega) (by omega)) (fin3 41 (by omega) (by omega)) rb0
    · obtain ⟨m4, d1, d2, d3⟩ := cFail ct (k := 1) (by omega)
      refine bad 1 (lexT (mem 2) n 200 p').1 m4 (by omega) ?_ d2 (FS_t z3 (FXF_S d3)) (fun r2 pr => ?_)
      · rw [cl, z1]
        simp only [zbind]
        rw [if_neg (by omega), if_neg (fun h => hz (e6.1 h)), d1]
      · obtain ⟨r3, u1, u2, u3, u4, u5⟩ := hr r2 pr
        dsimp only at u1
        obtain ⟨r4, x1, x2, x3⟩ := mBad u2 1
        have e : (if (lexT (mem 2) n 200 p').2.2.1 = 1 then (1 : Int) else 1) = 1 := by split <;> rfl
        rw [e] at x2
        refine ⟨r4, ?_, x2, GS_t u5 (FYF_S x3)⟩
        rw [u1]
        simp only [zbind]
        rw [if_neg (by omega), if_neg (by rw [u2.2.2.2.1]; exact hz), x1]
        simp only
        rw [x2.2]
