/-! a leaf that compares -/
noncomputable def cmpC (v : Int) (m : zMem) : Option (Int × zMem) := pipe (w32 ((w32 (m 1 7)) - 60)) fun y14 => zbind (f_X6_wantNumber 0 999 m) fun y15 m16 => if y15 = 0 then (some (0, m16)) else (zbind (f_X8_add 49 (w32 ((w32 (100 * (w32 (y14 + 1)))) + v)) (w32 (m16 1 7)) m16) fun _ m19 => some (1, m19))
noncomputable def cmpR (v : Int) (m : zMem) : Option (Int × zMem) := pipe (m 138 9) fun y13 => zbind (f_X12_go m) fun _ m14 => zbind (f_X12_readNumber 0 999 m14) fun y15 m16 => if y15 = 0 then (some (0, m16)) else (zbind (f_X12_saysOne (w32 (50 + v)) 0 (m16 138 13) y13 m16) fun y19 m20 => pipe (zup m20 138 46 y19) fun m21 => some (1, m21))
def isCmp (t : Tok) : Prop := t.2.2.1 = 4 ∧ 60 ≤ t.2.2.2.1 ∧ t.2.2.2.1 ≤ 62
theorem cCmp_1 {T : Int → Int} {n lim q v : Int} {m m1 : zMem} (a : f_X6_step m = some (0, m1)) (c : CT T n lim m1 q) (h : isCmp (lexT T n lim q)) : f_X8_readCompared 49 v m = cmpC v m1 := by
  obtain ⟨h1, h2, h3⟩ := h
  unfold f_X8_readCompared cmpC
  rw [a]
  simp only [zbind, cIsSign c, bi0]
  by_cases e0 : (lexT T n lim q).2.2.2.1 = 60
  · rw [if_pos ⟨h1, e0⟩]
  · rw [if_neg (fun x => e0 x.2)]
    by_cases e1 : (lexT T n lim q).2.2.2.1 = 61
    · rw [if_pos ⟨h1, e1⟩]
    · rw [if_neg (fun x => e1 x.2), if_pos ⟨h1, by omega⟩]
theorem cCmp_0 {T : Int → Int} {n lim q v : Int} {m m1 : zMem} (a : f_X6_step m = some (0, m1)) (c : CT T n lim m1 q) (h : ¬ isCmp (lexT T n lim q)) : ∃ m', f_X8_readCompared 49 v m = some (0, m') ∧ CF m' 1 (lexT T n lim q).1 ∧ FXF m1 m' := by
  obtain ⟨m', d1, d2, d3⟩ := cFail c (k := 1) (by omega)
  refine ⟨m', ?_, d2, d3⟩
  unfold f_X8_readCompared
  rw [a]
  simp only [zbind, cIsSign c, bi0]
  rw [if_neg (fun x => h ⟨x.1, by omega, by omega⟩), if_neg (fun x => h ⟨x.1, by omega, by omega⟩), if_neg (fun x => h ⟨x.1, by omega, by omega⟩), d1]
  simp
theorem mCmp_1 {T : Int → Int} {n lim q v : Int} {r : zMem} (c : RU T n lim r q) (h : isCmp (lexT T n lim q)) : f_X12_readCompare v r = cmpR v r := by
  obtain ⟨h1, h2, h3⟩ := h
  unfold f_X12_readCompare cmpR
  simp only [zbind, mIsSign c, bi0]
  by_cases e0 : (lexT T n lim q).2.2.2.1 = 60
  · rw [if_pos ⟨h1, e0⟩]
  · rw [if_neg (fun x => e0 x.2)]
    by_cases e1 : (lexT T n lim q).2.2.2.1 = 61
    · rw [if_pos ⟨h1, e1⟩]
    · rw [if_neg (fun x => e1 x.2), if_pos ⟨h1, by omega⟩]
theorem mCmp_0 {T : Int → Int} {n lim q v : Int} {r : zMem} (c : RU T n lim r q) (h : ¬ isCmp (lexT T n lim q)) : ∃ r', f_X12_readCompare v r = some (0, r') ∧ RF r' 1 (lexT T n lim q).1 ∧ FYF r r' := by
  obtain ⟨r', d1, d2, d3⟩ := mBad c 1
  have e : (if (lexT T n lim q).2.2.1 = 1 then (1 : Int) else 1) = 1 := by split <;> rfl
  rw [e] at d2
  refine ⟨r', ?_, d2, d3⟩
  unfold f_X12_readCompare
  simp only [zbind, mIsSign c, bi0]
  rw [if_neg (fun x => h ⟨x.1, by omega, by omega⟩), if_neg (fun x => h ⟨x.1, by omega, by omega⟩), if_neg (fun x => h ⟨x.1, by omega, by omega⟩), d1]
  simp
theorem leaf_cmp {T : Int → Int} {n lim p o z w : Int} {B D X A N : Int → Int} (ok : okTx T n) (hl : 0 ≤ lim) (h0 : 0 ≤ p) (h1 : p ≤ n) (hp : p < (lexT T n lim p).2.1) (o0 : 0 ≤ o) (o1 : o < 20) (z0 : 0 ≤ z) (z1 : z < 40) {v : Int} (hv : 20 ≤ v ∧ v ≤ 23) : SO T n lim A p o z B D X (w + 1) (PcT T n lim p (o + 1) z B D A N) (PrT T n lim (lexT T n lim p).2.1 z (o + 1) (w + 1) X A N) (fun m => zbind (f_X8_readCompared 49 v m) fun y23 m24 => if y23 = 0 then (if y23 = 0 ∨ y23 = 1 then some (y23, m24) else none) else (zbind (f_X6_step m24) fun _ m26 => if y23 = 0 ∨ y23 = 1 then some (y23, m26) else none)) (fun r => f_X12_readCompare v r) := by
  have lr := lexT_r (T := T) (n := n) (lim := lim) hl h0 h1
  generalize hq : (lexT T n lim p).2.1 = q at hp lr ⊢
  have q0 : 0 ≤ q := by omega
  have q1 : q ≤ n := lr.2.1
  have lq := lexT_r (T := T) (n := n) (lim := lim) hl q0 q1
  by_cases g : isCmp (lexT T n lim q)
  · have g1 := g.1
    have lt : q < (lexT T n lim q).2.1 := lq.2.2.2.1 (by omega)
    generalize hs : (lexT T n lim q).2.1 = s at lt lq
    have s0 : 0 ≤ s := by omega
    have s1 : s ≤ n := lq.2.1
    have ls := lexT_r (T := T) (n := n) (lim := lim) hl s0 s1
    have cc : ∀ m, PcT T n lim p (o + 1) z B D A N m → ∃ m1, f_X8_readCompared 49 v m = cmpC v m1 ∧ CT T n lim m1 q ∧ CS m1 (o + 1) z B D ∧ m1 1 7 = (lexT T n lim q).2.2.2.1 ∧ FXF m m1 := by
      rintro m ⟨c, pc, st⟩
      have cu := CT_U c
      rw [hq] at cu
      obtain ⟨m1, a1, a2, a3⟩ := cStepU ok q0 q1 cu
      exact ⟨m1, cCmp_1 a1 a2 g, a2, CS_F st a3, a2.2.1.2.2.2.2.2 (Or.inr g1), a3⟩
    have rr : ∀ r, PrT T n lim q z (o + 1) (w + 1) X A N r → ∃ r1, f_X12_readCompare v r = (zbind (f_X12_readNumber 0 999 r1) fun y15 m16 => if y15 = 0 then (some (0, m16)) else (zbind (f_X12_saysOne (w32 (50 + v)) 0 (m16 138 13) (lexT T n lim q).2.2.2.1 m16) fun y19 m20 => pipe (zup m20 138 46 y19) fun m21 => some (1, m21))) ∧ RU T n lim r1 s ∧ RS r1 z (o + 1) (w + 1) X ∧ FYF r r1 := by
      rintro r ⟨u, eA, eN, st⟩
      obtain ⟨r1, a1, a2, a3⟩ := mGoU ok hl q0 q1 u
      rw [hs] at a2
      refine ⟨r1, ?_, a2, RS_F st (FY_F a3), FY_F a3⟩
      rw [mCmp_1 u g]
      unfold cmpR
      rw [a1, u.2.2.2.2.2.2 g1]
      rfl
    by_cases gn : (lexT T n lim s).2.2.1 = 3 ∧ 0 ≤ (lexT T n lim s).2.2.2.1 ∧ (lexT T n lim s).2.2.2.1 ≤ 999
    · obtain ⟨gA, gB, gC⟩ := g
      have lt2 : s < (lexT T n lim s).2.1 := ls.2.2.2.1 (by omega)
      generalize hx : (lexT T n lim s).2.2.2.1 = x at gn
      generalize hy : (lexT T n lim q).2.2.2.1 = y at gB gC cc rr
      refine Or.inr ⟨(lexT T n lim s).2.1, o + 1, z + 1, up B z (100 * (y - 60 + 1) + v), up D z x, up4 X (4 * z) (50 + v) 0 x y, 1, ⟨by omega, ls.2.1, by omega, by omega, by omega, by omega, by omega⟩, fun q hq => ⟨up_ne (by omega), up_ne (by omega)⟩, fun q hq => up4_off hq, ?_, ?_, ?_⟩
      · rw [show (z + 1 - z).toNat = 1 by omega]
        obtain ⟨u1, u2, u3, u4⟩ := up4_at X (4 * z) (50 + v) 0 x y
        refine ⟨⟨z0, by omega, by omega, by omega⟩, Or.inr (Or.inr ⟨rfl, rfl, Or.inr (Or.inr ⟨v, y - 60, hv.1, hv.2, by omega, by omega, u1, by rw [u4]; omega, up_eq _ _ _, by rw [u3, up_eq], by rw [up_eq]; omega, by rw [up_eq]; omega⟩)⟩)⟩
      · intro m pm
        obtain ⟨m1, c1, c2, c3, c4, c5⟩ := cc m pm
        have cu := CT_U c2
        rw [hs] at cu
        obtain ⟨m2, a1, a2, a3, a4⟩ := (cNumber (lo := 0) (hi := 999) ok s0 s1 cu).1 (by rw [hx]; exact gn)
        rw [hx] at a3
        obtain ⟨m3, m4, b1, b2, b3, b4, b5⟩ := cLast ok hl s0 s1 (100 * (y - 60 + 1) + v) x a2 (CS_F c3 a4) z0 z1
        refine ⟨m4, ?_, b3, b4, FS_t (FXF_S c5) (FS_t (FXF_S a4) b5)⟩
        dsimp only
        rw [c1]
        unfold cmpC
        simp only [pipe]
        rw [c4, a1, w32_id (x := y) ⟨by omega, by omega⟩, w32_id (x := y - 60) ⟨by omega, by omega⟩, w32_id (x := y - 60 + 1) ⟨by omega, by omega⟩, w32_id (x := 100 * (y - 60 + 1)) ⟨by omega, by omega⟩, w32_id (x := 100 * (y - 60 + 1) + v) ⟨by omega, by omega⟩]
        simp only [zbind]
        rw [if_neg (by omega), a3, w32_id (x := x) ⟨by omega, by omega⟩, b1]
        simp [b2]
      · intro r pr
        obtain ⟨r1, c1, c2, c3, c4⟩ := rr r pr
        obtain ⟨r2, a1, a2, a3, a4⟩ := (mNumber (lo := 0) (hi := 999) ok hl s0 s1 c2).1 (by rw [hx]; exact gn)
        rw [hx] at a3
        obtain ⟨r3, b1, b2, b3, b4, b5⟩ := mSays (50 + v) 0 x y a2 (RS_F c3 a4) z0 z1
        refine ⟨zup r3 138 46 z, ?_, RU_F b2 (by omega), ?_, by rw [zup_same, if_pos rfl]; omega, GS_t (FYF_S c4) (GS_t (FYF_S a4) (GS_t b5 (GS_up (by omega))))⟩
        · dsimp only
          rw [c1, a1]
          simp only [zbind]
          rw [if_neg (by omega), a3, w32_id (x := 50 + v) ⟨by omega, by omega⟩, b1]
          rfl
        · unfold RS
          rw [zup_same, if_neg (by omega), zup_same, if_neg (by omega), zup_same, if_neg (by omega), zup_off (by omega)]
          exact b3
    · refine Or.inl ⟨if (lexT T n lim s).2.2.1 = 3 then 2 else 1, (lexT T n lim s).1, by split <;> omega, ?_, ?_⟩
      · intro m pm
        obtain ⟨m1, c1, c2, c3, c4, c5⟩ := cc m pm
        have cu := CT_U c2
        rw [hs] at cu
        obtain ⟨m2, a1, a2, a3⟩ := (cNumber (lo := 0) (hi := 999) ok s0 s1 cu).2 gn
        refine ⟨m2, ?_, CG_F c3 a3 z0 a2, FS_t (FXF_S c5) (FXF_S a3)⟩
        dsimp only
        rw [c1]
        unfold cmpC
        simp only [pipe]
        rw [a1]
        simp [zbind]
      · intro r pr
        obtain ⟨r1, c1, c2, c3, c4⟩ := rr r pr
        obtain ⟨r2, a1, a2, a3⟩ := (mNumber (lo := 0) (hi := 999) ok hl s0 s1 c2).2 gn
        refine ⟨r2, ?_, a2, GS_t (FYF_S c4) (FYF_S a3)⟩
        dsimp only
        rw [c1, a1]
        simp [zbind]
  · refine Or.inl ⟨1, (lexT T n lim q).1, by omega, ?_, ?_⟩
    · rintro m ⟨c, pc, st⟩
      have cu := CT_U c
      rw [hq] at cu
      obtain ⟨m1, a1, a2, a3⟩ := cStepU ok q0 q1 cu
      obtain ⟨m2, b1, b2, b3⟩ := cCmp_0 (v := v) a1 a2 g
      refine ⟨m2, ?_, CG_F (CS_F st a3) b3 z0 b2, FS_t (FXF_S a3) (FXF_S b3)⟩
      dsimp only
      rw [b1]
      simp [zbind]
    · rintro r ⟨u, eA, eN, st⟩
      obtain ⟨r2, b1, b2, b3⟩ := mCmp_0 (v := v) u g
      exact ⟨r2, b1, b2, FYF_S b3⟩
