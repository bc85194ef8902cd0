theorem DR_nm {m : zMem} {B N : Int → Int} (d : DR m B N) (hb : B 2 ≤ 5 ∧ B 3 ≤ 6 ∧ B 4 ≤ 8) {q : Nat} {k v : Int} (h : (q = 31 ∧ B 2 ≤ k) ∨ (q = 32 ∧ B 3 ≤ k)) : DR (zup m q k v) B N := by
  obtain ⟨d1, d2, d3, d4, d5⟩ := DR_get d hb
  have eo : ∀ q', q' ≠ q → zup m q k v q' = m q' := fun q' hq => zup_off hq
  refine DR_mk d hb ?_ (fun h' a b => ?_) (fun p a b => ?_) (fun s a b => ?_) (fun c a b => ?_) (eo 35 (by omega)) (eo 38 (by omega))
  · rw [eo 28 (by omega)]; exact d1
  · rw [eo 29 (by omega), eo 30 (by omega), eo 39 (by omega)]
    have : zup m q k v 31 h' = m 31 h' := by
      unfold zup
      rw [if_neg (by omega)]
    rw [this]
    exact d2 h' a b
  · rw [eo 37 (by omega)]
    have : zup m q k v 32 p = m 32 p := by
      unfold zup
      rw [if_neg (by omega)]
    rw [this]
    exact d3 p a b
  · rw [eo 33 (by omega), eo 34 (by omega)]; exact d4 s a b
  · rw [eo 36 (by omega)]; exact d5 c a b
/-- 'person' -/
theorem line_person {T : Int → Int} {n lim p : Int} (ok : okTx T n) (hl : 0 ≤ lim) (h0 : 0 ≤ p) (h1 : p ≤ n) (hk : (lexT T n lim p).2.2.1 = 2) {B N : Int → Int} {g c : Int} (iv : InvL B g c) : LO f_X4_readPerson f_X12_readPerson T n lim p B N g c := by
  have lr := lexT_r (T := T) (n := n) (lim := lim) hl h0 h1
  have pp := lr.2.2.2.1 (by omega)
  have ob := oD_get iv.1
  have b0 := ob.1
  have hbb : B 2 ≤ 5 ∧ B 3 ≤ 6 ∧ B 4 ≤ 8 := ⟨by omega, by omega, by omega⟩
  have e3 : ∀ m, CSt m B N g c → m 28 3 = B 3 := fun m cs => (DR_get cs.1 hbb).1.2.2.2.1
  by_cases h6 : B 3 = 6
  · refine Or.inl ⟨4, (lexT T n lim p).1, by omega, fun m ct cs => ?_, fun r ru rs => ?_⟩
    · obtain ⟨m', b1, b2, b3⟩ := cFail ct (k := 4) (by omega)
      refine ⟨m', ?_, b2, FXF_I b3⟩
      unfold f_X4_readPerson
      simp only [pipe]
      rw [if_neg (by rw [e3 m cs]; omega), b1]
      simp [zbind]
    · obtain ⟨r', b1, b2, b3⟩ := mBad ru 4
      rw [if_neg (by omega)] at b2
      refine ⟨r', ?_, b2, FYF_J b3⟩
      unfold f_X12_readPerson f_X12_readFirst
      rw [ix1 (by omega), rs.1, if_pos h6, b1]
      simp [zbind]
  · generalize hq1 : (lexT T n lim p).2.1 = q1 at *
    have toU : ∀ m, CT T n lim m p → CU T n lim m q1 := fun m ct => by
      have := CT_U ct
      rw [hq1] at this
      exact this
    have toR : ∀ r, RU T n lim r p → RSt r B N g c → ∃ r1, RU T n lim r1 q1 ∧ RSt r1 B N g c ∧ FJ r r1 ∧ f_X12_readFirst 3 6 r = some (1, r1) := by
      intro r ru rs
      obtain ⟨r1, a1, a2, a3⟩ := mGoU ok hl h0 h1 ru
      rw [hq1] at a2
      refine ⟨r1, a2, RSt_g rs (FY_F a3), FYF_J (FY_F a3), ?_⟩
      unfold f_X12_readFirst
      rw [ix1 (by omega), rs.1, if_neg h6, a1]
      rfl
    have i32 : ∀ {α : Type} {a b : α}, (if ix 32 (B 3) then a else b) = a := fun {α a b} => if_pos ⟨by omega, by rw [show sLen 32 = 6 from rfl]; omega⟩
    have i37 : ∀ {α : Type} {a b : α}, (if ix 37 (B 3) then a else b) = a := fun {α a b} => if_pos ⟨by omega, by rw [show sLen 37 = 6 from rfl]; omega⟩
    have w5 : w32 (5 + B 3) = 5 + B 3 := w32_id ⟨by omega, by omega⟩
    have w20 : w32 (20 + B 3) = 20 + B 3 := w32_id ⟨by omega, by omega⟩
    rcases name_o (T := T) (n := n) (lim := lim) (p := q1) ok hl (by omega) (by omega) (B := B) (N := N) iv.1 (s := 5 + B 3) (by omega) with ⟨k, pl, k0, nc, nr⟩ | ⟨w, q2, okw, qq, qn, nc, nr⟩
    · refine Or.inl ⟨k, pl, k0, fun m ct cs => ?_, fun r ru rs => ?_⟩
      · obtain ⟨m', a1, a2, a3⟩ := nc m (toU m ct) cs.1
        refine ⟨m', ?_, a2, a3⟩
        unfold f_X4_readPerson
        simp only [pipe]
        rw [if_pos (by rw [e3 m cs]; omega), a1]
        simp [zbind]
      · obtain ⟨r1, u1, u2, u3, u4⟩ := toR r ru rs
        obtain ⟨r', a1, a2, a3⟩ := nr r1 u1 u2.1 u2.2.1
        refine ⟨r', ?_, a2, FJ_t u3 a3⟩
        unfold f_X12_readPerson
        rw [u4]
        simp only [zbind, pipe]
        rw [if_neg (by omega), ix1 (by omega), u2.1, w5, a1]
        simp
    · rcases spot_o (T := T) (n := n) (lim := lim) (p := q2) ok hl (by omega) qn (B := B) (N := N) iv.1 (w := 1) (Or.inr rfl) with ⟨k, pl, k0, sc, sr⟩ | ⟨cc, q3, hin, hf, qq2, qn2, sc, sr⟩
      · refine Or.inl ⟨k, pl, k0, fun m ct cs => ?_, fun r ru rs => ?_⟩
        · obtain ⟨m5, a1, a2, a3, a4⟩ := nc m (toU m ct) cs.1
          have d5 : DR (zup m5 32 (B 3) (pk 32 w)) B N := DR_nm (DR_f cs.1 (fun q x y => a4.1 q (by omega))) hbb (Or.inr ⟨rfl, Int.le_refl _⟩)
          obtain ⟨m', b1, b2, b3⟩ := sc _ (CU_up (q := 32) (i := B 3) (v := pk 32 w) a2 (by omega)) d5
          refine ⟨m', ?_, b2, FI_t (FI_t (FXF_I a4) (FI_up (by omega))) b3⟩
          unfold f_X4_readPerson
          simp only [pipe]
          rw [if_pos (by rw [e3 m cs]; omega), e3 m cs, a1]
          simp only [zbind]
          rw [if_neg (by omega), i32, a3, b1]
          simp
        · obtain ⟨r1, u1, u2, u3, u4⟩ := toR r ru rs
          obtain ⟨r8, a1, a2, a3, a4, a5, a6, a7⟩ := nr r1 u1 u2.1 u2.2.1
          obtain ⟨r', b1, b2, b3⟩ := sr r8 a2 a3
          refine ⟨r', ?_, b2, FJ_t (FJ_t u3 a7) b3⟩
          unfold f_X12_readPerson
          rw [u4]
          simp only [zbind, pipe]
          rw [if_neg (by omega), ix1 (by omega), u2.1, w5, a1]
          simp only
          rw [if_neg (by omega), b1]
          simp only
          rw [mPut_0]
          simp
      · have c0 := hin.1
        have c1 := hin.2.1
        have hin' : 0 ≤ cc ∧ cc < 64 ∧ cc % 8 < B 0 ∧ cc / 8 < B 1 := by
          unfold inC at hin
          rw [rowA_lo B (i := 0) (by omega), rowA_lo B (i := 1) (by omega)] at hin
          exact hin
        refine Or.inr ⟨up (up B (20 + B 3) cc) 3 (B 3 + 1), up N (5 + B 3) (pk 27 w), g, 1, q3, ⟨?_, fun h => by omega, iv.2.2.1, Or.inr rfl⟩, by omega, qn2, fun m ct cs => ?_, fun r ru rs => ?_⟩
        · refine oD_mk ?_ (fun h a b => ?_) (fun p a b => ?_) (fun s a b => ?_) (fun d a b => ?_)
          · simp (disch := omega) only [up_ne, up_eq]
            omega
          · simp (disch := omega) only [up_ne, up_eq] at b
            simp (disch := omega) only [up_ne, up_eq]
            exact ob.2.1 h a b
          · rw [up_eq] at b
            by_cases hp : p = B 3
            · subst hp
              simp (disch := omega) only [up_ne, up_eq]
              exact hin'
            · simp (disch := omega) only [up_ne]
              exact ob.2.2.1 p a (by omega)
          · simp (disch := omega) only [up_ne, up_eq] at b
            simp (disch := omega) only [up_ne, up_eq]
            exact ob.2.2.2.1 s a b
          · simp (disch := omega) only [up_ne, up_eq]
            exact ob.2.2.2.2 d a b
        · obtain ⟨m5, a1, a2, a3, a4⟩ := nc m (toU m ct) cs.1
          have d5 : DR (zup m5 32 (B 3) (pk 32 w)) B N := DR_nm (DR_f cs.1 (fun q x y => a4.1 q (by omega))) hbb (Or.inr ⟨rfl, Int.le_refl _⟩)
          obtain ⟨m11, b1, b2, b3, b4, b5, b6, b7⟩ := sc _ (CU_up (q := 32) (i := B 3) (v := pk 32 w) a2 (by omega)) d5
          obtain ⟨d1, d2, d3, d4, d5'⟩ := DR_get cs.1 hbb
          generalize hmf : zup (zup m11 37 (B 3) cc) 28 3 (B 3 + 1) = mf
          have eo : ∀ q, 28 ≤ q → q ≤ 39 → q ≠ 28 → q ≠ 32 → q ≠ 37 → mf q = m q := fun q x y z1 z2 z3 => by rw [← hmf, zup_off z1, zup_off z3, b6 q x y, zup_off z2, a4.1 q (by omega)]
          have e28 : ∀ i, m11 28 i = m 28 i := fun i => by rw [b6 28 (by omega) (by omega), zup_off (by omega), a4.1 28 (by omega)]
          have f28 : ∀ i, mf 28 i = if i = 3 then B 3 + 1 else m 28 i := fun i => by rw [← hmf, zup_same, zup_off (by omega), e28]
          have f32 : ∀ i, mf 32 i = if i = B 3 then pk 32 w else m 32 i := fun i => by rw [← hmf, zup_off (by omega), zup_off (by omega), b6 32 (by omega) (by omega), zup_same, a4.1 32 (by omega)]
          have f37 : ∀ i, mf 37 i = if i = B 3 then cc else m 37 i := fun i => by rw [← hmf, zup_off (by omega), zup_same, b6 37 (by omega) (by omega), zup_off (by omega), a4.1 37 (by omega)]
          have f27 : mf 27 = m11 27 := by rw [← hmf, zup_off (by omega), zup_off (by omega)]
          refine ⟨mf, ?_, by rw [← hmf]; exact CU_up (CU_up b2 (by omega)) (by omega), ⟨DR_mk cs.1 ?_ ?_ (fun h a b => ?_) (fun p a b => ?_) (fun s a b => ?_) (fun d a b => ?_) (eo 35 (by omega) (by omega) (by omega) (by omega) (by omega)) (eo 38 (by omega) (by omega) (by omega) (by omega) (by omega)), by rw [f27, b5, zup_off (by omega), a4.1 27 (by omega)]; exact cs.2.1, by rw [f27, b4]⟩, by rw [← hmf]; exact FI_t (FI_t (FI_t (FI_t (FXF_I a4) (FI_up (by omega))) b7) (FI_up (by omega))) (FI_up (by omega))⟩
          · unfold f_X4_readPerson
            simp only [pipe]
            rw [if_pos (by rw [e3 m cs]; omega), e3 m cs, a1]
            simp only [zbind]
            rw [if_neg (by omega), i32, a3, b1]
            simp only
            rw [if_neg (by omega), i37, b3, zup_off (by omega), e28, e3 m cs, w32_id (x := B 3 + 1) ⟨by omega, by omega⟩, hmf]
          · simp (disch := omega) only [up_ne, up_eq]
            omega
          · simp (disch := omega) only [up_ne, up_eq]
            rw [f28, f28, f28, f28, f28, if_neg (by omega), if_neg (by omega), if_neg (by omega), if_pos rfl, if_neg (by omega)]
            exact ⟨d1.1, d1.2.1, d1.2.2.1, rfl, d1.2.2.2.2⟩
          · simp (disch := omega) only [up_ne, up_eq] at b
            simp (disch := omega) only [up_ne, up_eq]
            rw [eo 29 (by omega) (by omega) (by omega) (by omega) (by omega), eo 30 (by omega) (by omega) (by omega) (by omega) (by omega), eo 39 (by omega) (by omega) (by omega) (by omega) (by omega), eo 31 (by omega) (by omega) (by omega) (by omega) (by omega)]
            exact d2 h a b
          · rw [up_eq] at b
            rw [f37, f32]
            by_cases hp : p = B 3
            · subst hp
              rw [if_pos rfl, if_pos rfl]
              simp (disch := omega) only [up_ne, up_eq]
              exact ⟨trivial, w, okw, rfl, rfl⟩
            · rw [if_neg hp, if_neg hp]
              simp (disch := omega) only [up_ne]
              exact d3 p a (by omega)
          · simp (disch := omega) only [up_ne, up_eq] at b
            simp (disch := omega) only [up_ne, up_eq]
            rw [eo 33 (by omega) (by omega) (by omega) (by omega) (by omega), eo 34 (by omega) (by omega) (by omega) (by omega) (by omega)]
            exact d4 s a b
          · simp (disch := omega) only [up_ne, up_eq]
            rw [eo 36 (by omega) (by omega) (by omega) (by omega) (by omega)]
            exact d5' d a b
        · obtain ⟨r1, u1, u2, u3, u4⟩ := toR r ru rs
          obtain ⟨r8, a1, a2, a3, a4, a5, a6, a7⟩ := nr r1 u1 u2.1 u2.2.1
          obtain ⟨r11, b1, b2, b3, b4, b5, b6, b7, b8⟩ := sr r8 a2 a3
          have e13 : zup r11 141 (20 + B 3) cc 141 = up B (20 + B 3) cc := by rw [zup_row, b6]
          refine ⟨zup (zup r11 141 (20 + B 3) cc) 141 3 (B 3 + 1), ?_, RU_up (RU_up b2 (by omega)) (by omega), ⟨by rw [zup_row, e13], by rw [zup_off (by omega), zup_off (by omega), b7, a4], by rw [zup_off (by omega), zup_off (by omega), b5, a5]; exact u2.2.2.1, by rw [zup_off (by omega), zup_off (by omega), b4]⟩, FJ_t (FJ_t (FJ_t (FJ_t u3 a7) b8) FJ_141) FJ_141⟩
          have x3 : zup r11 141 (20 + B 3) cc 141 3 = B 3 := by
            rw [e13]
            simp (disch := omega) only [up_ne]
          unfold f_X12_readPerson
          rw [u4]
          simp only [zbind, pipe]
          rw [if_neg (by omega), ix1 (by omega), u2.1, w5, a1]
          simp only
          rw [if_neg (by omega), b1]
          simp only
          rw [w20, mPut_1 (by omega), b3]
          simp only
          rw [if_neg (by omega), ix1 (by omega), ix1 (by omega), x3, w32_id ⟨by omega, by omega⟩]
/-- 'house' -/
theorem line_house {T : Int → Int} {n lim p : Int} (ok : okTx T n) (hl : 0 ≤ lim) (h0 : 0 ≤ p) (h1 : p ≤ n) (hk : (lexT T n lim p).2.2.1 = 2) {B N : Int → Int} {g c : Int} (iv : InvL B g c) : LO f_X4_readHouse f_X12_readHouse T n lim p B N g c := by
  have lr := lexT_r (T := T) (n := n) (lim := lim) hl h0 h1
  have pp := lr.2.2.2.1 (by omega)
  have ob := oD_get iv.1
  have b0 := ob.1
  have hbb : B 2 ≤ 5 ∧ B 3 ≤ 6 ∧ B 4 ≤ 8 := ⟨by omega, by omega, by omega⟩
  have e2 : ∀ m, CSt m B N g c → m 28 2 = B 2 := fun m cs => (DR_get cs.1 hbb).1.2.2.1
  by_cases h5 : B 2 = 5
  · refine Or.inl ⟨4, (lexT T n lim p).1, by omega, fun m ct cs => ?_, fun r ru rs => ?_⟩
    · obtain ⟨m', b1, b2, b3⟩ := cFail ct (k := 4) (by omega)
      refine ⟨m', ?_, b2, FXF_I b3⟩
      unfold f_X4_readHouse
      simp only [pipe]
      rw [if_neg (by rw [e2 m cs]; omega), b1]
      simp [zbind]
    · obtain ⟨r', b1, b2, b3⟩ := mBad ru 4
      rw [if_neg (by omega)] at b2
      refine ⟨r', ?_, b2, FYF_J b3⟩
      unfold f_X12_readHouse f_X12_readFirst
      rw [ix1 (by omega), rs.1, if_pos h5, b1]
      simp [zbind]
  · generalize hq1 : (lexT T n lim p).2.1 = q1 at *
    have toU : ∀ m, CT T n lim m p → CU T n lim m q1 := fun m ct => by
      have := CT_U ct
      rw [hq1] at this
      exact this
    have toR : ∀ r, RU T n lim r p → RSt r B N g c → ∃ r1, RU T n lim r1 q1 ∧ RSt r1 B N g c ∧ FJ r r1 ∧ f_X12_readFirst 2 5 r = some (1, r1) := by
      intro r ru rs
      obtain ⟨r1, a1, a2, a3⟩ := mGoU ok hl h0 h1 ru
      rw [hq1] at a2
      refine ⟨r1, a2, RSt_g rs (FY_F a3), FYF_J (FY_F a3), ?_⟩
      unfold f_X12_readFirst
      rw [ix1 (by omega), rs.1, if_neg h5, a1]
      rfl
    have i31 : ∀ {α : Type} {a b : α}, (if ix 31 (B 2) then a else b) = a := fun {α a b} => if_pos ⟨by omega, by rw [show sLen 31 = 5 from rfl]; omega⟩
    have i29 : ∀ {α : Type} {a b : α}, (if ix 29 (B 2) then a else b) = a := fun {α a b} => if_pos ⟨by omega, by rw [show sLen 29 = 5 from rfl]; omega⟩
    have i30 : ∀ {α : Type} {a b : α}, (if ix 30 (B 2) then a else b) = a := fun {α a b} => if_pos ⟨by omega, by rw [show sLen 30 = 5 from rfl]; omega⟩
    have i39 : ∀ {α : Type} {a b : α}, (if ix 39 (B 2) then a else b) = a := fun {α a b} => if_pos ⟨by omega, by rw [show sLen 39 = 5 from rfl]; omega⟩
    have w5 : w32 (5 + B 2) = 5 + B 2 := w32_id ⟨by omega, by omega⟩
    have w10 : w32 (10 + B 2) = 10 + B 2 := w32_id ⟨by omega, by omega⟩
    have w15 : w32 (15 + B 2) = 15 + B 2 := w32_id ⟨by omega, by omega⟩
    rcases name_o (T := T) (n := n) (lim := lim) (p := q1) ok hl (by omega) (by omega) (B := B) (N := N) iv.1 (s := B 2) (by omega) with ⟨k, pl, k0, nc, nr⟩ | ⟨w, q2, okw, qq, qn, nc, nr⟩
    · refine Or.inl ⟨k, pl, k0, fun m ct cs => ?_, fun r ru rs => ?_⟩
      · obtain ⟨m', a1, a2, a3⟩ := nc m (toU m ct) cs.1
        refine ⟨m', ?_, a2, a3⟩
        unfold f_X4_readHouse
        simp only [pipe]
        rw [if_pos (by rw [e2 m cs]; omega), a1]
        simp [zbind]
      · obtain ⟨r1, u1, u2, u3, u4⟩ := toR r ru rs
        obtain ⟨r', a1, a2, a3⟩ := nr r1 u1 u2.1 u2.2.1
        refine ⟨r', ?_, a2, FJ_t u3 a3⟩
        unfold f_X12_readHouse
        rw [u4]
        simp only [zbind, pipe]
        rw [if_neg (by omega), ix1 (by omega), u2.1, a1]
        simp
    · rcases spot_o (T := T) (n := n) (lim := lim) (p := q2) ok hl (by omega) qn (B := B) (N := N) iv.1 (w := 0) (Or.inl rfl) with ⟨k, pl, k0, sc, sr⟩ | ⟨cc, q3, hin, hf, qq2, qn2, sc, sr⟩
      · refine Or.inl ⟨k, pl, k0, fun m ct cs => ?_, fun r ru rs => ?_⟩
        · obtain ⟨m5, a1, a2, a3, a4⟩ := nc m (toU m ct) cs.1
          have d5 : DR (zup m5 31 (B 2) (pk 32 w)) B N := DR_nm (DR_f cs.1 (fun q x y => a4.1 q (by omega))) hbb (Or.inl ⟨rfl, Int.le_refl _⟩)
          obtain ⟨m', b1, b2, b3⟩ := sc _ (CU_up (q := 31) (i := B 2) (v := pk 32 w) a2 (by omega)) d5
          refine ⟨m', ?_, b2, FI_t (FI_t (FXF_I a4) (FI_up (by omega))) b3⟩
          unfold f_X4_readHouse
          simp only [pipe]
          rw [if_pos (by rw [e2 m cs]; omega), e2 m cs, a1]
          simp only [zbind]
          rw [if_neg (by omega), i31, a3, b1]
          simp
        · obtain ⟨r1, u1, u2, u3, u4⟩ := toR r ru rs
          obtain ⟨r8, a1, a2, a3, a4, a5, a6, a7⟩ := nr r1 u1 u2.1 u2.2.1
          obtain ⟨r', b1, b2, b3⟩ := sr r8 a2 a3
          refine ⟨r', ?_, b2, FJ_t (FJ_t u3 a7) b3⟩
          unfold f_X12_readHouse
          rw [u4]
          simp only [zbind, pipe]
          rw [if_neg (by omega), ix1 (by omega), u2.1, a1]
          simp only
          rw [if_neg (by omega), b1]
          simp only
          rw [mPut_0]
          simp
      · have c0 := hin.1
        have c1 := hin.2.1
        have hin' : 0 ≤ cc ∧ cc < 64 ∧ cc % 8 < B 0 ∧ cc / 8 < B 1 := by
          unfold inC at hin
          rw [rowA_lo B (i := 0) (by omega), rowA_lo B (i := 1) (by omega)] at hin
          exact hin
        -- up to the height
        have cls3 : ∀ m, CT T n lim m p → CSt m B N g c → ∃ m11, CU T n lim m11 q3 ∧ m11 27 6 = cc ∧ m11 27 5 = 1 ∧ m11 27 4 = g ∧ (∀ q, 28 ≤ q → q ≤ 39 → q ≠ 31 → m11 q = m q) ∧ (∀ i, m11 31 i = if i = B 2 then pk 32 w else m 31 i) ∧ FI m m11 ∧ f_X4_readHouse m = (zbind (f_X6_wantNumber 1 9 m11) fun y13 m14 => if y13 = 0 then (some (0, m14)) else (if ix 29 (B 2) then pipe (zup m14 29 (B 2) (m14 27 6)) fun m18 => if ix 30 (B 2) then pipe (zup m18 30 (B 2) (w32 (m18 1 7))) fun m21 => zbind (f_X6_wantNumber 0 99 m21) fun y22 m23 => if y22 = 0 then (some (0, m23)) else (if ix 39 (B 2) then pipe (zup m23 39 (B 2) (w32 (m23 1 7))) fun m27 => pipe (zup m27 28 2 (w32 ((m27 28 2) + 1))) fun m29 => some (1, m29) else none) else none else none)) := by
          intro m ct cs
          obtain ⟨m5, a1, a2, a3, a4⟩ := nc m (toU m ct) cs.1
          have d5 : DR (zup m5 31 (B 2) (pk 32 w)) B N := DR_nm (DR_f cs.1 (fun q x y => a4.1 q (by omega))) hbb (Or.inl ⟨rfl, Int.le_refl _⟩)
          obtain ⟨m11, b1, b2, b3, b4, b5, b6, b7⟩ := sc _ (CU_up (q := 31) (i := B 2) (v := pk 32 w) a2 (by omega)) d5
          refine ⟨m11, b2, b3, b4, by rw [b5, zup_off (by omega), a4.1 27 (by omega)]; exact cs.2.1, fun q x y z => by rw [b6 q x y, zup_off z, a4.1 q (by omega)], fun i => by rw [b6 31 (by omega) (by omega), zup_same, a4.1 31 (by omega)], FI_t (FI_t (FXF_I a4) (FI_up (by omega))) b7, ?_⟩
          unfold f_X4_readHouse
          rw [pipe, if_pos (by rw [e2 m cs]; omega), e2 m cs, a1, zbind]
          simp only
          rw [if_neg (by omega), i31, pipe, a3, b1, zbind]
          simp only
          rw [if_neg (by omega)]
        have ref3 : ∀ r, RU T n lim r p → RSt r B N g c → ∃ r13, RU T n lim r13 q3 ∧ RSt r13 (up B (5 + B 2) cc) (up N (B 2) (pk 27 w)) g 1 ∧ FJ r r13 ∧ f_X12_readHouse r = (zbind (f_X12_readNumber 1 9 r13) fun y15 m16 => zbind (f_X12_put (10 + B 2) y15 m16) fun y17 m18 => if y17 = 0 then (some (0, m18)) else (zbind (f_X12_readNumber 0 99 m18) fun y20 m21 => zbind (f_X12_put (15 + B 2) y20 m21) fun y22 m23 => if y22 = 0 then (some (0, m23)) else (if ix 141 2 then if ix 141 2 then pipe (zup m23 141 2 (w32 ((m23 141 2) + 1))) fun m28 => some (1, m28) else none else none))) := by
          intro r ru rs
          obtain ⟨r1, u1, u2, u3, u4⟩ := toR r ru rs
          obtain ⟨r8, a1, a2, a3, a4, a5, a6, a7⟩ := nr r1 u1 u2.1 u2.2.1
          obtain ⟨r11, b1, b2, b3, b4, b5, b6, b7, b8⟩ := sr r8 a2 a3
          refine ⟨zup r11 141 (5 + B 2) cc, RU_up b2 (by omega), ⟨by rw [zup_row, b6], by rw [zup_off (by omega), b7, a4], by rw [zup_off (by omega), b5, a5]; exact u2.2.2.1, by rw [zup_off (by omega), b4]⟩, FJ_t (FJ_t (FJ_t u3 a7) b8) FJ_141, ?_⟩
          unfold f_X12_readHouse
          rw [u4, zbind]
          simp only
          rw [if_neg (by omega), ix1 (by omega), u2.1, pipe, a1, zbind]
          simp only
          rw [if_neg (by omega), b1, zbind]
          simp only
          rw [w5, mPut_1 (by omega), b3, zbind]
          simp only
          rw [if_neg (by omega), w10, w15]
        have lr3 := lexT_r (T := T) (n := n) (lim := lim) (p := q3) hl (by omega) qn2
        by_cases g1 : (lexT T n lim q3).2.2.1 = 3 ∧ 1 ≤ (lexT T n lim q3).2.2.2.1 ∧ (lexT T n lim q3).2.2.2.1 ≤ 9
        · have pq3 := lr3.2.2.2.1 (by omega)
          generalize hq4 : (lexT T n lim q3).2.1 = q4 at *
          have lr4 := lexT_r (T := T) (n := n) (lim := lim) (p := q4) hl (by omega) (by omega)
          generalize hv : (lexT T n lim q3).2.2.2.1 = v at *
          have wv : w32 v = v := w32_id ⟨by omega, by omega⟩
          have cls4 : ∀ m, CT T n lim m p → CSt m B N g c → ∃ m21, CU T n lim m21 q4 ∧ m21 27 5 = 1 ∧ m21 27 4 = g ∧ (∀ q, 28 ≤ q → q ≤ 39 → q ≠ 29 → q ≠ 30 → q ≠ 31 → m21 q = m q) ∧ (∀ i, m21 31 i = if i = B 2 then pk 32 w else m 31 i) ∧ (∀ i, m21 29 i = if i = B 2 then cc else m 29 i) ∧ (∀ i, m21 30 i = if i = B 2 then v else m 30 i) ∧ FI m m21 ∧ f_X4_readHouse m = (zbind (f_X6_wantNumber 0 99 m21) fun y22 m23 => if y22 = 0 then (some (0, m23)) else (if ix 39 (B 2) then pipe (zup m23 39 (B 2) (w32 (m23 1 7))) fun m27 => pipe (zup m27 28 2 (w32 ((m27 28 2) + 1))) fun m29 => some (1, m29) else none)) := by
            intro m ct cs
            obtain ⟨m11, a1, a2, a3, a4, a5, a6, a7, a8⟩ := cls3 m ct cs
            obtain ⟨m14, b1, b2, b3, b4⟩ := (cNumber (lo := 1) (hi := 9) ok (by omega) qn2 a1).1 (by rw [hv]; exact g1)
            rw [hv] at b3
            have cu := CT_U b2
            rw [hq4] at cu
            have e6 : m14 27 6 = cc := by rw [b4.1 27 (by omega), a2]
            have e7 : zup m14 29 (B 2) cc 1 7 = v := by rw [zup_off (by omega), b3]
            refine ⟨zup (zup m14 29 (B 2) cc) 30 (B 2) v, CU_up (CU_up cu (by omega)) (by omega), by rw [zup_off (by omega), zup_off (by omega), b4.1 27 (by omega), a3], by rw [zup_off (by omega), zup_off (by omega), b4.1 27 (by omega), a4], fun q x y z1 z2 z3 => by rw [zup_off z2, zup_off z1, b4.1 q (by omega), a5 q x y z3], fun i => by rw [zup_off (by omega), zup_off (by omega), b4.1 31 (by omega), a6], fun i => by rw [zup_off (by omega), zup_same, b4.1 29 (by omega), a5 29 (by omega) (by omega) (by omega)], fun i => by rw [zup_same, zup_off (by omega), b4.1 30 (by omega), a5 30 (by omega) (by omega) (by omega)], FI_t (FI_t (FI_t a7 (FXF_I b4)) (FI_up (by omega))) (FI_up (by omega)), ?_⟩
            rw [a8, b1, zbind]
            simp only
            rw [if_neg (by omega), i29, pipe, e6, i30, pipe, e7, wv]
          have ref4 : ∀ r, RU T n lim r p → RSt r B N g c → ∃ r18, RU T n lim r18 q4 ∧ RSt r18 (up (up B (5 + B 2) cc) (10 + B 2) v) (up N (B 2) (pk 27 w)) g 1 ∧ FJ r r18 ∧ f_X12_readHouse r = (zbind (f_X12_readNumber 0 99 r18) fun y20 m21 => zbind (f_X12_put (15 + B 2) y20 m21) fun y22 m23 => if y22 = 0 then (some (0, m23)) else (if ix 141 2 then if ix 141 2 then pipe (zup m23 141 2 (w32 ((m23 141 2) + 1))) fun m28 => some (1, m28) else none else none)) := by
            intro r ru rs
            obtain ⟨r13, a1, a2, a3, a4⟩ := ref3 r ru rs
            obtain ⟨r16, b1, b2, b3, b4⟩ := (mNumber (lo := 1) (hi := 9) ok hl (by omega) qn2 a1).1 (by rw [hv]; exact g1)
            rw [hv] at b3
            rw [hq4] at b2
            have s16 := RSt_g a2 b4
            refine ⟨zup r16 141 (10 + B 2) v, RU_up b2 (by omega), ⟨by rw [zup_row, s16.1], by rw [zup_off (by omega)]; exact s16.2.1, by rw [zup_off (by omega)]; exact s16.2.2.1, by rw [zup_off (by omega)]; exact s16.2.2.2⟩, FJ_t (FJ_t a3 (FYF_J b4)) FJ_141, ?_⟩
            rw [a4, b1, zbind]
            simp only
            rw [mPut_1 (by omega), b3, zbind]
            simp only
            rw [if_neg (by omega)]
          by_cases g2 : (lexT T n lim q4).2.2.1 = 3 ∧ 0 ≤ (lexT T n lim q4).2.2.2.1 ∧ (lexT T n lim q4).2.2.2.1 ≤ 99
          · have pq4 := lr4.2.2.2.1 (by omega)
            generalize hu : (lexT T n lim q4).2.2.2.1 = u at *
            have wu : w32 u = u := w32_id ⟨by omega, by omega⟩
            refine Or.inr ⟨up (up (up (up B (5 + B 2) cc) (10 + B 2) v) (15 + B 2) u) 2 (B 2 + 1), up N (B 2) (pk 27 w), g, 1, (lexT T n lim q4).2.1, ⟨?_, fun h => by omega, iv.2.2.1, Or.inr rfl⟩, by omega, lr4.2.1, fun m ct cs => ?_, fun r ru rs => ?_⟩
            · refine oD_mk ?_ (fun h a b => ?_) (fun p a b => ?_) (fun s a b => ?_) (fun d a b => ?_)
              · simp (disch := omega) only [up_ne, up_eq]
                omega
              · rw [up_eq] at b
                by_cases hh : h = B 2
                · subst hh
                  simp (disch := omega) only [up_ne, up_eq]
                  exact ⟨hin', by omega, by omega, by omega, by omega⟩
                · simp (disch := omega) only [up_ne]
                  exact ob.2.1 h a (by omega)
              · simp (disch := omega) only [up_ne, up_eq] at b
                simp (disch := omega) only [up_ne, up_eq]
                exact ob.2.2.1 p a b
              · simp (disch := omega) only [up_ne, up_eq] at b
                simp (disch := omega) only [up_ne, up_eq]
                exact ob.2.2.2.1 s a b
              · simp (disch := omega) only [up_ne, up_eq]
                exact ob.2.2.2.2 d a b
            · obtain ⟨m21, a1, a2, a3, a4, a5, a6, a7, a8, a9⟩ := cls4 m ct cs
              obtain ⟨m23, b1, b2, b3, b4⟩ := (cNumber (lo := 0) (hi := 99) ok (by omega) (by omega) a1).1 (by rw [hu]; exact g2)
              rw [hu] at b3
              obtain ⟨d1, d2, d3, d4, d5'⟩ := DR_get cs.1 hbb
              have e28 : ∀ i, m23 28 i = m 28 i := fun i => by rw [b4.1 28 (by omega), a4 28 (by omega) (by omega) (by omega) (by omega) (by omega)]
              generalize hmf : zup (zup m23 39 (B 2) u) 28 2 (B 2 + 1) = mf
              have eo : ∀ q, 28 ≤ q → q ≤ 39 → q ≠ 28 → q ≠ 29 → q ≠ 30 → q ≠ 31 → q ≠ 39 → mf q = m q := fun q x y z1 z2 z3 z4 z5 => by rw [← hmf, zup_off z1, zup_off z5, b4.1 q (by omega), a4 q x y z2 z3 z4]
              have f28 : ∀ i, mf 28 i = if i = 2 then B 2 + 1 else m 28 i := fun i => by rw [← hmf, zup_same, zup_off (by omega), e28]
              have f29 : ∀ i, mf 29 i = if i = B 2 then cc else m 29 i := fun i => by rw [← hmf, zup_off (by omega), zup_off (by omega), b4.1 29 (by omega), a6]
              have f30 : ∀ i, mf 30 i = if i = B 2 then v else m 30 i := fun i => by rw [← hmf, zup_off (by omega), zup_off (by omega), b4.1 30 (by omega), a7]
              have f31 : ∀ i, mf 31 i = if i = B 2 then pk 32 w else m 31 i := fun i => by rw [← hmf, zup_off (by omega), zup_off (by omega), b4.1 31 (by omega), a5]
              have f39 : ∀ i, mf 39 i = if i = B 2 then u else m 39 i := fun i => by rw [← hmf, zup_off (by omega), zup_same, b4.1 39 (by omega), a4 39 (by omega) (by omega) (by omega) (by omega) (by omega)]
              have f27 : mf 27 = m21 27 := by rw [← hmf, zup_off (by omega), zup_off (by omega), b4.1 27 (by omega)]
              refine ⟨mf, ?_, by rw [← hmf]; exact CU_up (CU_up (CT_U b2) (by omega)) (by omega), ⟨DR_mk cs.1 ?_ ?_ (fun h a b => ?_) (fun p a b => ?_) (fun s a b => ?_) (fun d a b => ?_) (eo 35 (by omega) (by omega) (by omega) (by omega) (by omega) (by omega) (by omega)) (eo 38 (by omega) (by omega) (by omega) (by omega) (by omega) (by omega) (by omega)), by rw [f27, a3], by rw [f27, a2]⟩, by rw [← hmf]; exact FI_t (FI_t (FI_t a8 (FXF_I b4)) (FI_up (by omega))) (FI_up (by omega))⟩
              · rw [a9, b1, zbind]
                simp only
                rw [if_neg (by omega), i39, pipe, b3, wu, pipe, zup_off (by omega), e28, e2 m cs, w32_id (x := B 2 + 1) ⟨by omega, by omega⟩, hmf]
              · simp (disch := omega) only [up_ne, up_eq]
                omega
              · simp (disch := omega) only [up_ne, up_eq]
                rw [f28, f28, f28, f28, f28, if_neg (by omega), if_neg (by omega), if_pos rfl, if_neg (by omega), if_neg (by omega)]
                exact ⟨d1.1, d1.2.1, rfl, d1.2.2.2.1, d1.2.2.2.2⟩
              · rw [up_eq] at b
                rw [f29, f30, f31, f39]
                by_cases hh : h = B 2
                · subst hh
                  rw [if_pos rfl, if_pos rfl, if_pos rfl, if_pos rfl]
                  simp (disch := omega) only [up_ne, up_eq]
                  exact ⟨trivial, trivial, trivial, w, okw, rfl, rfl⟩
                · rw [if_neg hh, if_neg hh, if_neg hh, if_neg hh]
                  simp (disch := omega) only [up_ne]
                  exact d2 h a (by omega)
              · simp (disch := omega) only [up_ne, up_eq] at b
                simp (disch := omega) only [up_ne, up_eq]
                rw [eo 37 (by omega) (by omega) (by omega) (by omega) (by omega) (by omega) (by omega), eo 32 (by omega) (by omega) (by omega) (by omega) (by omega) (by omega) (by omega)]
                exact d3 p a b
              · simp (disch := omega) only [up_ne, up_eq] at b
                simp (disch := omega) only [up_ne, up_eq]
                rw [eo 33 (by omega) (by omega) (by omega) (by omega) (by omega) (by omega) (by omega), eo 34 (by omega) (by omega) (by omega) (by omega) (by omega) (by omega) (by omega)]
                exact d4 s a b
              · simp (disch := omega) only [up_ne, up_eq]
                rw [eo 36 (by omega) (by omega) (by omega) (by omega) (by omega) (by omega) (by omega)]
                exact d5' d a b
            · obtain ⟨r18, a1, a2, a3, a4⟩ := ref4 r ru rs
              obtain ⟨r21, b1, b2, b3, b4⟩ := (mNumber (lo := 0) (hi := 99) ok hl (by omega) (by omega) a1).1 (by rw [hu]; exact g2)
              rw [hu] at b3
              have s21 := RSt_g a2 b4
              have e13 : zup r21 141 (15 + B 2) u 141 = up (up (up B (5 + B 2) cc) (10 + B 2) v) (15 + B 2) u := by rw [zup_row, s21.1]
              have x2 : zup r21 141 (15 + B 2) u 141 2 = B 2 := by
                rw [e13]
                simp (disch := omega) only [up_ne]
              refine ⟨zup (zup r21 141 (15 + B 2) u) 141 2 (B 2 + 1), ?_, RU_up (RU_up b2 (by omega)) (by omega), ⟨by rw [zup_row, e13], by rw [zup_off (by omega), zup_off (by omega)]; exact s21.2.1, by rw [zup_off (by omega), zup_off (by omega)]; exact s21.2.2.1, by rw [zup_off (by omega), zup_off (by omega)]; exact s21.2.2.2⟩, FJ_t (FJ_t (FJ_t a3 (FYF_J b4)) FJ_141) FJ_141⟩
              rw [a4, b1, zbind]
              simp only
              rw [mPut_1 (by omega), b3, zbind]
              simp only
              rw [if_neg (by omega), ix1 (by omega), ix1 (by omega), x2, pipe, w32_id ⟨by omega, by omega⟩]
          · refine Or.inl ⟨if (lexT T n lim q4).2.2.1 = 3 then 2 else 1, (lexT T n lim q4).1, by split <;> omega, fun m ct cs => ?_, fun r ru rs => ?_⟩
            · obtain ⟨m21, a1, a2, a3, a4, a5, a6, a7, a8, a9⟩ := cls4 m ct cs
              obtain ⟨m23, b1, b2, b3⟩ := (cNumber (lo := 0) (hi := 99) ok (by omega) (by omega) a1).2 g2
              refine ⟨m23, ?_, b2, FI_t a8 (FXF_I b3)⟩
              rw [a9, b1]
              simp [zbind]
            · obtain ⟨r18, a1, a2, a3, a4⟩ := ref4 r ru rs
              obtain ⟨r21, b1, b2, b3⟩ := (mNumber (lo := 0) (hi := 99) ok hl (by omega) (by omega) a1).2 g2
              refine ⟨r21, ?_, b2, FJ_t a3 (FYF_J b3)⟩
              rw [a4, b1, zbind]
              simp only
              rw [mPut_0, zbind]
              simp
        · refine Or.inl ⟨if (lexT T n lim q3).2.2.1 = 3 then 2 else 1, (lexT T n lim q3).1, by split <;> omega, fun m ct cs => ?_, fun r ru rs => ?_⟩
          · obtain ⟨m11, a1, a2, a3, a4, a5, a6, a7, a8⟩ := cls3 m ct cs
            obtain ⟨m14, b1, b2, b3⟩ := (cNumber (lo := 1) (hi := 9) ok (by omega) qn2 a1).2 g1
            refine ⟨m14, ?_, b2, FI_t a7 (FXF_I b3)⟩
            rw [a8, b1]
            simp [zbind]
          · obtain ⟨r13, a1, a2, a3, a4⟩ := ref3 r ru rs
            obtain ⟨r16, b1, b2, b3⟩ := (mNumber (lo := 1) (hi := 9) ok hl (by omega) qn2 a1).2 g1
            refine ⟨r16, ?_, b2, FJ_t a3 (FYF_J b3)⟩
            rw [a4, b1, zbind]
            simp only
            rw [mPut_0, zbind]
            simp
