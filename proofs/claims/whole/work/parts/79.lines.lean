/-- 'stones' -/
theorem line_stones {T : Int → Int} {n lim p : Int} (ok : okTx T n) (hl : 0 ≤ lim) (h0 : 0 ≤ p) (h1 : p ≤ n) (hk : (lexT T n lim p).2.2.1 = 2) {B N : Int → Int} {g c : Int} (iv : InvL B g c) : LO f_X4_readStones f_X12_readStones T n lim p B N g c := by
  have lr := lexT_r (T := T) (n := n) (lim := lim) hl h0 h1
  have pp := lr.2.2.2.1 (by omega)
  have ob := oD_get iv.1
  have b0 := ob.1
  generalize hq1 : (lexT T n lim p).2.1 = q1 at *
  have toU : ∀ m, CT T n lim m p → CU T n lim m q1 := fun m ct => by
    have := CT_U ct
    rw [hq1] at this
    exact this
  have toR : ∀ r, RU T n lim r p → RSt r B N g c → ∃ r1, RU T n lim r1 q1 ∧ RSt r1 B N g c ∧ FJ r r1 ∧ f_X12_go r = some (0, r1) := by
    intro r ru rs
    obtain ⟨r1, a1, a2, a3⟩ := mGoU ok hl h0 h1 ru
    rw [hq1] at a2
    exact ⟨r1, a2, RSt_g rs (FY_F a3), FYF_J (FY_F a3), a1⟩
  rcases spot_o (T := T) (n := n) (lim := lim) (p := q1) ok hl (by omega) (by omega) (B := B) (N := N) iv.1 (w := 0) (Or.inl rfl) with ⟨k, pl, k0, sc, sr⟩ | ⟨cc, q2, hin, hf, qq, qn, sc, sr⟩
  · refine Or.inl ⟨k, pl, k0, fun m ct cs => ?_, fun r ru rs => ?_⟩
    · obtain ⟨m', a1, a2, a3⟩ := sc m (toU m ct) cs.1
      refine ⟨m', ?_, a2, a3⟩
      unfold f_X4_readStones
      rw [a1]
      simp [zbind]
    · obtain ⟨r1, u1, u2, u3, u4⟩ := toR r ru rs
      obtain ⟨r', a1, a2, a3⟩ := sr r1 u1 u2.1
      refine ⟨r', ?_, a2, FJ_t u3 a3⟩
      unfold f_X12_readStones
      rw [u4]
      simp only [zbind]
      rw [a1]
      simp
  · have lr2 := lexT_r (T := T) (n := n) (lim := lim) (p := q2) hl (by omega) qn
    have c0 := hin.1
    have c1 := hin.2.1
    by_cases g1 : (lexT T n lim q2).2.2.1 = 3 ∧ 1 ≤ (lexT T n lim q2).2.2.2.1 ∧ (lexT T n lim q2).2.2.2.1 ≤ 9
    · have pq := lr2.2.2.2.1 (by omega)
      generalize hv : (lexT T n lim q2).2.2.2.1 = v at *
      have wv : w32 v = v := w32_id ⟨by omega, by omega⟩
      refine Or.inr ⟨up B (42 + cc) v, N, g, 1, (lexT T n lim q2).2.1, ⟨?_, fun h => by omega, iv.2.2.1, Or.inr rfl⟩, by omega, lr2.2.1, fun m ct cs => ?_, fun r ru rs => ?_⟩
      · refine oD_mk ?_ (fun h a b => ?_) (fun p a b => ?_) (fun s a b => ?_) (fun d a b => ?_)
        · simp (disch := omega) only [up_ne, up_eq]
          omega
        · simp (disch := omega) only [up_ne, up_eq] at b
          simp (disch := omega) only [up_ne, up_eq]
          exact ob.2.1 h a b
        · simp (disch := omega) only [up_ne, up_eq] at b
          simp (disch := omega) only [up_ne, up_eq]
          exact ob.2.2.1 p a b
        · simp (disch := omega) only [up_ne, up_eq] at b
          simp (disch := omega) only [up_ne, up_eq]
          exact ob.2.2.2.1 s a b
        · by_cases hd : d = cc
          · rw [hd, up_eq]; omega
          · rw [up_ne (by omega)]
            exact ob.2.2.2.2 d a b
      · obtain ⟨m2, a1, a2, a3, a4, a5, a6, a7⟩ := sc m (toU m ct) cs.1
        obtain ⟨m5, b1, b2, b3, b4⟩ := (cNumber (lo := 1) (hi := 9) ok (by omega) qn a2).1 (by rw [hv]; exact g1)
        rw [hv] at b3
        obtain ⟨d1, d2, d3, d4, d5⟩ := DR_get cs.1 ⟨by omega, by omega, by omega⟩
        have eo : ∀ q, 28 ≤ q → q ≤ 39 → q ≠ 36 → zup m5 36 cc v q = m q := fun q x y z => by rw [zup_off z, b4.1 q (by omega), a6 q x y]
        have e36 : ∀ d, zup m5 36 cc v 36 d = if d = cc then v else m 36 d := fun d => by rw [zup_same, b4.1 36 (by omega), a6 36 (by omega) (by omega)]
        refine ⟨zup m5 36 cc v, ?_, CU_up (CT_U b2) (by omega), ⟨DR_mk cs.1 ?_ ?_ (fun h a b => ?_) (fun p a b => ?_) (fun s a b => ?_) (fun d a b => ?_) (eo 35 (by omega) (by omega) (by omega)) (eo 38 (by omega) (by omega) (by omega)), by rw [zup_off (by omega), b4.1 27 (by omega), a5]; exact cs.2.1, by rw [zup_off (by omega), b4.1 27 (by omega), a4]⟩, FI_t (FI_t a7 (FXF_I b4)) (FI_up (by omega))⟩
        · have e6 : m5 27 6 = cc := by rw [b4.1 27 (by omega), a3]
          unfold f_X4_readStones
          rw [a1]
          simp only [zbind]
          rw [if_neg (by omega), b1]
          simp only [pipe]
          rw [if_neg (by omega), if_pos (show ix 36 (m5 27 6) from by rw [e6]; exact ⟨c0, by rw [show sLen 36 = 64 from rfl]; omega⟩), e6, b3, wv]
        · simp (disch := omega) only [up_ne, up_eq]
          omega
        · simp (disch := omega) only [up_ne, up_eq]
          rw [eo 28 (by omega) (by omega) (by omega)]
          exact d1
        · simp (disch := omega) only [up_ne, up_eq] at b
          simp (disch := omega) only [up_ne, up_eq]
          rw [eo 29 (by omega) (by omega) (by omega), eo 30 (by omega) (by omega) (by omega), eo 39 (by omega) (by omega) (by omega), eo 31 (by omega) (by omega) (by omega)]
          exact d2 h a b
        · simp (disch := omega) only [up_ne, up_eq] at b
          simp (disch := omega) only [up_ne, up_eq]
          rw [eo 37 (by omega) (by omega) (by omega), eo 32 (by omega) (by omega) (by omega)]
          exact d3 p a b
        · simp (disch := omega) only [up_ne, up_eq] at b
          simp (disch := omega) only [up_ne, up_eq]
          rw [eo 33 (by omega) (by omega) (by omega), eo 34 (by omega) (by omega) (by omega)]
          exact d4 s a b
        · rw [e36 d]
          by_cases hd : d = cc
          · rw [if_pos hd, hd, up_eq]
          · rw [if_neg hd, up_ne (by omega)]
            exact d5 d a b
      · obtain ⟨r1, u1, u2, u3, u4⟩ := toR r ru rs
        obtain ⟨r3, a1, a2, a3, a4, a5, a6, a7, a8⟩ := sr r1 u1 u2.1
        obtain ⟨r8, b1, b2, b3, b4⟩ := (mNumber (lo := 1) (hi := 9) ok hl (by omega) qn a2).1 (by rw [hv]; exact g1)
        rw [hv] at b3
        refine ⟨zup r8 141 (42 + cc) v, ?_, RU_up b2 (by omega), ⟨by rw [zup_row, b4.1 141 (by omega), a6], by rw [zup_off (by omega), b4.1 146 (by omega), a7]; exact u2.2.1, by rw [zup_off (by omega), b4.2 23 (by omega), a5]; exact u2.2.2.1, by rw [zup_off (by omega), b4.2 24 (by omega), a4]⟩, FJ_t (FJ_t (FJ_t u3 a8) (FYF_J b4)) FJ_141⟩
        unfold f_X12_readStones
        rw [u4]
        simp only [zbind]
        rw [a1]
        simp only [pipe]
        rw [if_neg (by omega), a3, w32_id (x := 42 + cc) ⟨by omega, by omega⟩, b1]
        simp only
        rw [mPut_1 (by omega), b3]
        simp
    · refine Or.inl ⟨if (lexT T n lim q2).2.2.1 = 3 then 2 else 1, (lexT T n lim q2).1, by split <;> omega, fun m ct cs => ?_, fun r ru rs => ?_⟩
      · obtain ⟨m2, a1, a2, a3, a4, a5, a6, a7⟩ := sc m (toU m ct) cs.1
        obtain ⟨m5, b1, b2, b3⟩ := (cNumber (lo := 1) (hi := 9) ok (by omega) qn a2).2 g1
        refine ⟨m5, ?_, b2, FI_t a7 (FXF_I b3)⟩
        unfold f_X4_readStones
        rw [a1]
        simp only [zbind]
        rw [if_neg (by omega), b1]
        simp
      · obtain ⟨r1, u1, u2, u3, u4⟩ := toR r ru rs
        obtain ⟨r3, a1, a2, a3, a4, a5, a6, a7, a8⟩ := sr r1 u1 u2.1
        obtain ⟨r8, b1, b2, b3⟩ := (mNumber (lo := 1) (hi := 9) ok hl (by omega) qn a2).2 g1
        refine ⟨r8, ?_, b2, FJ_t (FJ_t u3 a8) (FYF_J b3)⟩
        unfold f_X12_readStones
        rw [u4]
        simp only [zbind]
        rw [a1]
        simp only [pipe]
        rw [if_neg (by omega), b1]
        simp only
        rw [mPut_0]
        simp
/-- 'sun' -/
theorem line_sun {T : Int → Int} {n lim p : Int} (ok : okTx T n) (hl : 0 ≤ lim) (h0 : 0 ≤ p) (h1 : p ≤ n) (hk : (lexT T n lim p).2.2.1 = 2) {B N : Int → Int} {g c : Int} (iv : InvL B g c) : LO f_X4_readSun f_X12_readSun T n lim p B N g c := by
  have lr := lexT_r (T := T) (n := n) (lim := lim) hl h0 h1
  have pp := lr.2.2.2.1 (by omega)
  have ob := oD_get iv.1
  have b0 := ob.1
  have e4 : ∀ m, CSt m B N g c → m 28 4 = B 4 := fun m cs => (DR_get cs.1 ⟨by omega, by omega, by omega⟩).1.2.2.2.2
  by_cases h8 : B 4 = 8
  · refine Or.inl ⟨4, (lexT T n lim p).1, by omega, fun m ct cs => ?_, fun r ru rs => ?_⟩
    · obtain ⟨m', b1, b2, b3⟩ := cFail ct (k := 4) (by omega)
      refine ⟨m', ?_, b2, FXF_I b3⟩
      unfold f_X4_readSun
      simp only [pipe]
      rw [if_neg (by rw [e4 m cs]; omega), b1]
      simp [zbind]
    · obtain ⟨r', b1, b2, b3⟩ := mBad ru 4
      rw [if_neg (by omega)] at b2
      refine ⟨r', ?_, b2, FYF_J b3⟩
      unfold f_X12_readSun f_X12_readFirst
      rw [ix1 (by omega), rs.1, if_pos h8, b1]
      simp [zbind]
  · generalize hq1 : (lexT T n lim p).2.1 = q1 at *
    have lr1 := lexT_r (T := T) (n := n) (lim := lim) (p := q1) hl (by omega) (by omega)
    have toU : ∀ m, CT T n lim m p → CU T n lim m q1 := fun m ct => by
      have := CT_U ct
      rw [hq1] at this
      exact this
    have toR : ∀ r, RU T n lim r p → RSt r B N g c → ∃ r1, RU T n lim r1 q1 ∧ RSt r1 B N g c ∧ FJ r r1 ∧ f_X12_readFirst 4 8 r = some (1, r1) := by
      intro r ru rs
      obtain ⟨r1, a1, a2, a3⟩ := mGoU ok hl h0 h1 ru
      rw [hq1] at a2
      refine ⟨r1, a2, RSt_g rs (FY_F a3), FYF_J (FY_F a3), ?_⟩
      unfold f_X12_readFirst
      rw [ix1 (by omega), rs.1, if_neg h8, a1]
      rfl
    have cs1 := fun m (cu : CU T n lim m q1) => cSide ok (by omega : 0 ≤ q1) (by omega : q1 ≤ n) cu
    have rs1 := fun r (ru : RU T n lim r q1) => mSide ok hl (by omega : 0 ≤ q1) (by omega : q1 ≤ n) ru
    by_cases g1 : (lexT T n lim q1).2.2.1 = 2 ∧ 5 ≤ kno (lexT T n lim q1).2.2.2.2 ∧ kno (lexT T n lim q1).2.2.2.2 ≤ 8
    · have pq1 := lr1.2.2.2.1 (by omega)
      generalize hq2 : (lexT T n lim q1).2.1 = q2 at *
      have lr2 := lexT_r (T := T) (n := n) (lim := lim) (p := q2) hl (by omega) (by omega)
      generalize hsd : kno (lexT T n lim q1).2.2.2.2 = sd at *
      by_cases g2 : (lexT T n lim q2).2.2.1 = 3 ∧ 1 ≤ (lexT T n lim q2).2.2.2.1 ∧ (lexT T n lim q2).2.2.2.1 ≤ 9
      · have pq2 := lr2.2.2.2.1 (by omega)
        generalize hv : (lexT T n lim q2).2.2.2.1 = v at *
        have wv : w32 v = v := w32_id ⟨by omega, by omega⟩
        have ws : w32 (sd - 5) = sd - 5 := w32_id ⟨by omega, by omega⟩
        refine Or.inr ⟨up (up (up B (26 + B 4) (sd - 5)) (34 + B 4) v) 4 (B 4 + 1), N, g, c, (lexT T n lim q2).2.1, ⟨?_, fun h => ?_, iv.2.2.1, iv.2.2.2⟩, by omega, lr2.2.1, fun m ct cs => ?_, fun r ru rs => ?_⟩
        · refine oD_mk ?_ (fun h a b => ?_) (fun p a b => ?_) (fun s a b => ?_) (fun d a b => ?_)
          · simp (disch := omega) only [up_ne, up_eq]
            omega
          · simp (disch := omega) only [up_ne, up_eq] at b
            simp (disch := omega) only [up_ne, up_eq]
            exact ob.2.1 h a b
          · simp (disch := omega) only [up_ne, up_eq] at b
            simp (disch := omega) only [up_ne, up_eq]
            exact ob.2.2.1 p a b
          · rw [up_eq] at b
            by_cases hs : s = B 4
            · subst hs
              simp (disch := omega) only [up_ne, up_eq]
              omega
            · simp (disch := omega) only [up_ne]
              exact ob.2.2.2.1 s a (by omega)
          · simp (disch := omega) only [up_ne, up_eq]
            exact ob.2.2.2.2 d a b
        · simp (disch := omega) only [up_ne, up_eq]
          exact iv.2.1 h
        · obtain ⟨m5, a1, a2, a3, a4⟩ := (cs1 m (toU m ct)).1 g1
          have cu5 := CT_U a2
          rw [hq2] at cu5
          obtain ⟨m11, b1, b2, b3, b4⟩ := (cNumber (lo := 1) (hi := 9) ok (by omega) (by omega) (CU_up (q := 33) (i := B 4) (v := sd - 5) cu5 (by omega))).1 (by rw [hv]; exact g2)
          rw [hv] at b3
          obtain ⟨d1, d2, d3, d4, d5⟩ := DR_get cs.1 ⟨by omega, by omega, by omega⟩
          have e28 : ∀ i, m11 28 i = m 28 i := fun i => by rw [b4.1 28 (by omega), zup_off (by omega), a4.1 28 (by omega)]
          generalize hmf : zup (zup m11 34 (B 4) v) 28 4 (B 4 + 1) = mf
          have eo : ∀ q, 28 ≤ q → q ≤ 39 → q ≠ 28 → q ≠ 33 → q ≠ 34 → mf q = m q := fun q x y z1 z2 z3 => by rw [← hmf, zup_off z1, zup_off z3, b4.1 q (by omega), zup_off z2, a4.1 q (by omega)]
          have f28 : ∀ i, mf 28 i = if i = 4 then B 4 + 1 else m 28 i := fun i => by rw [← hmf, zup_same, zup_off (by omega), e28]
          have f33 : ∀ i, mf 33 i = if i = B 4 then sd - 5 else m 33 i := fun i => by rw [← hmf, zup_off (by omega), zup_off (by omega), b4.1 33 (by omega), zup_same, a4.1 33 (by omega)]
          have f34 : ∀ i, mf 34 i = if i = B 4 then v else m 34 i := fun i => by rw [← hmf, zup_off (by omega), zup_same, b4.1 34 (by omega), zup_off (by omega), a4.1 34 (by omega)]
          have f27 : mf 27 = m 27 := by rw [← hmf, zup_off (by omega), zup_off (by omega), b4.1 27 (by omega), zup_off (by omega), a4.1 27 (by omega)]
          refine ⟨mf, ?_, by rw [← hmf]; exact CU_up (CU_up (CT_U b2) (by omega)) (by omega), ⟨DR_mk cs.1 ?_ ?_ (fun h a b => ?_) (fun p a b => ?_) (fun s a b => ?_) (fun d a b => ?_) (eo 35 (by omega) (by omega) (by omega) (by omega) (by omega)) (eo 38 (by omega) (by omega) (by omega) (by omega) (by omega)), by rw [f27]; exact cs.2.1, by rw [f27]; exact cs.2.2⟩, by rw [← hmf]; exact FI_t (FI_t (FI_t (FXF_I a4) (FI_t (FI_up (by omega)) (FXF_I b4))) (FI_up (by omega))) (FI_up (by omega))⟩
          · unfold f_X4_readSun
            simp only [pipe]
            rw [if_pos (by rw [e4 m cs]; omega), a1, e4 m cs]
            simp only [zbind]
            rw [if_neg (by omega), if_pos (show ix 33 (B 4) from ⟨by omega, by rw [show sLen 33 = 8 from rfl]; omega⟩), a3, ws, b1]
            simp only
            rw [if_neg (by omega), if_pos (show ix 34 (B 4) from ⟨by omega, by rw [show sLen 34 = 8 from rfl]; omega⟩), b3, wv, zup_off (by omega), e28, e4 m cs, w32_id (x := B 4 + 1) ⟨by omega, by omega⟩, hmf]
          · simp (disch := omega) only [up_ne, up_eq]
            omega
          · simp (disch := omega) only [up_ne, up_eq]
            rw [f28, f28, f28, f28, f28, if_neg (by omega), if_neg (by omega), if_neg (by omega), if_neg (by omega), if_pos rfl]
            exact ⟨d1.1, d1.2.1, d1.2.2.1, d1.2.2.2.1, rfl⟩
          · simp (disch := omega) only [up_ne, up_eq] at b
            simp (disch := omega) only [up_ne, up_eq]
            rw [eo 29 (by omega) (by omega) (by omega) (by omega) (by omega), eo 30 (by omega) (by omega) (by omega) (by omega) (by omega), eo 39 (by omega) (by omega) (by omega) (by omega) (by omega), eo 31 (by omega) (by omega) (by omega) (by omega) (by omega)]
            exact d2 h a b
          · simp (disch := omega) only [up_ne, up_eq] at b
            simp (disch := omega) only [up_ne, up_eq]
            rw [eo 37 (by omega) (by omega) (by omega) (by omega) (by omega), eo 32 (by omega) (by omega) (by omega) (by omega) (by omega)]
            exact d3 p a b
          · rw [up_eq] at b
            rw [f33, f34]
            by_cases hs : s = B 4
            · subst hs
              rw [if_pos rfl, if_pos rfl]
              simp (disch := omega) only [up_ne, up_eq]
              exact ⟨trivial, trivial⟩
            · rw [if_neg hs, if_neg hs]
              simp (disch := omega) only [up_ne]
              exact d4 s a (by omega)
          · simp (disch := omega) only [up_ne, up_eq]
            rw [eo 36 (by omega) (by omega) (by omega) (by omega) (by omega)]
            exact d5 d a b
        · obtain ⟨r1, u1, u2, u3, u4⟩ := toR r ru rs
          obtain ⟨r8, a1, a2, a3, a4⟩ := (rs1 r1 u1).1 g1
          have s8 := RSt_g u2 a4
          obtain ⟨r13, b1, b2, b3, b4⟩ := (mNumber (lo := 1) (hi := 9) ok hl (by omega) (by omega) (RU_up (q := 141) (i := 26 + B 4) (v := sd - 5) a2 (by omega))).1 (by rw [hv]; exact g2)
          rw [hv] at b3
          have e13 : r13 141 = up B (26 + B 4) (sd - 5) := by rw [b4.1 141 (by omega), zup_row, s8.1]
          have e13' : zup r13 141 (34 + B 4) v 141 = up (up B (26 + B 4) (sd - 5)) (34 + B 4) v := by rw [zup_row, e13]
          refine ⟨zup (zup r13 141 (34 + B 4) v) 141 4 (B 4 + 1), ?_, RU_up (RU_up b2 (by omega)) (by omega), ⟨by rw [zup_row, e13'], by rw [zup_off (by omega), zup_off (by omega), b4.1 146 (by omega), zup_off (by omega)]; exact s8.2.1, by rw [zup_off (by omega), zup_off (by omega), b4.2 23 (by omega), zup_off (by omega)]; exact s8.2.2.1, by rw [zup_off (by omega), zup_off (by omega), b4.2 24 (by omega), zup_off (by omega)]; exact s8.2.2.2⟩, FJ_t (FJ_t (FJ_t (FJ_t (FJ_t u3 (FYF_J a4)) FJ_141) (FYF_J b4)) FJ_141) FJ_141⟩
          have x4 : zup r13 141 (34 + B 4) v 141 4 = B 4 := by
            rw [e13']
            simp (disch := omega) only [up_ne]
          unfold f_X12_readSun
          rw [u4]
          simp only [zbind, pipe]
          rw [if_neg (by omega), ix1 (by omega), u2.1, a1]
          simp only
          rw [w32_id (x := 26 + B 4) ⟨by omega, by omega⟩, mPut_1 (by omega), a3]
          simp only
          rw [if_neg (by omega), b1]
          simp only
          rw [w32_id (x := 34 + B 4) ⟨by omega, by omega⟩, mPut_1 (by omega), b3]
          simp only
          rw [if_neg (by omega), ix1 (by omega), ix1 (by omega), x4, w32_id ⟨by omega, by omega⟩]
      · refine Or.inl ⟨if (lexT T n lim q2).2.2.1 = 3 then 2 else 1, (lexT T n lim q2).1, by split <;> omega, fun m ct cs => ?_, fun r ru rs => ?_⟩
        · obtain ⟨m5, a1, a2, a3, a4⟩ := (cs1 m (toU m ct)).1 g1
          have cu5 := CT_U a2
          rw [hq2] at cu5
          have ws : w32 (sd - 5) = sd - 5 := w32_id ⟨by omega, by omega⟩
          obtain ⟨m11, b1, b2, b3⟩ := (cNumber (lo := 1) (hi := 9) ok (by omega) (by omega) (CU_up (q := 33) (i := B 4) (v := sd - 5) cu5 (by omega))).2 g2
          refine ⟨m11, ?_, b2, FI_t (FXF_I a4) (FI_t (FI_up (by omega)) (FXF_I b3))⟩
          unfold f_X4_readSun
          simp only [pipe]
          rw [if_pos (by rw [e4 m cs]; omega), a1, e4 m cs]
          simp only [zbind]
          rw [if_neg (by omega), if_pos (show ix 33 (B 4) from ⟨by omega, by rw [show sLen 33 = 8 from rfl]; omega⟩), a3, ws, b1]
          simp
        · obtain ⟨r1, u1, u2, u3, u4⟩ := toR r ru rs
          obtain ⟨r8, a1, a2, a3, a4⟩ := (rs1 r1 u1).1 g1
          obtain ⟨r13, b1, b2, b3⟩ := (mNumber (lo := 1) (hi := 9) ok hl (by omega) (by omega) (RU_up (q := 141) (i := 26 + B 4) (v := sd - 5) a2 (by omega))).2 g2
          refine ⟨r13, ?_, b2, FJ_t (FJ_t (FJ_t u3 (FYF_J a4)) FJ_141) (FYF_J b3)⟩
          unfold f_X12_readSun
          rw [u4]
          simp only [zbind, pipe]
          rw [if_neg (by omega), ix1 (by omega), u2.1, a1]
          simp only
          rw [w32_id (x := 26 + B 4) ⟨by omega, by omega⟩, mPut_1 (by omega), a3]
          simp only
          rw [if_neg (by omega), b1]
          simp only
          rw [mPut_0]
          simp
    · refine Or.inl ⟨1, (lexT T n lim q1).1, by omega, fun m ct cs => ?_, fun r ru rs => ?_⟩
      · obtain ⟨m5, a1, a2, a3⟩ := (cs1 m (toU m ct)).2 g1
        refine ⟨m5, ?_, a2, FXF_I a3⟩
        unfold f_X4_readSun
        simp only [pipe]
        rw [if_pos (by rw [e4 m cs]; omega), a1]
        simp [zbind]
      · obtain ⟨r1, u1, u2, u3, u4⟩ := toR r ru rs
        obtain ⟨r8, a1, a2, a3⟩ := (rs1 r1 u1).2 g1
        refine ⟨r8, ?_, a2, FJ_t u3 (FYF_J a3)⟩
        unfold f_X12_readSun
        rw [u4]
        simp only [zbind, pipe]
        rw [if_neg (by omega), ix1 (by omega), a1]
        simp only
        rw [mPut_0]
        simp
