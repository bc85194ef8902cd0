/-! the draft written -/
theorem DR_mk {m m' : zMem} {B B' N N' : Int → Int} (d : DR m B N) (hb : B' 2 ≤ 5 ∧ B' 3 ≤ 6 ∧ B' 4 ≤ 8)
    (f : m' 28 0 = B' 0 ∧ m' 28 1 = B' 1 ∧ m' 28 2 = B' 2 ∧ m' 28 3 = B' 3 ∧ m' 28 4 = B' 4)
    (hh : ∀ h, 0 ≤ h → h < B' 2 → m' 29 h = B' (5 + h) ∧ m' 30 h = B' (10 + h) ∧ m' 39 h = B' (15 + h) ∧ wd (m' 31 h) (N' h))
    (hp : ∀ p, 0 ≤ p → p < B' 3 → m' 37 p = B' (20 + p) ∧ wd (m' 32 p) (N' (5 + p)))
    (hs : ∀ s, 0 ≤ s → s < B' 4 → m' 33 s = B' (26 + s) ∧ m' 34 s = B' (34 + s))
    (hc : ∀ c, 0 ≤ c → c < 64 → m' 36 c = B' (42 + c))
    (e35 : m' 35 = m 35) (e38 : m' 38 = m 38) : DR m' B' N' := by
  obtain ⟨_, w, _⟩ := d
  have r2 := rowA_lo B' (i := 2) (by omega)
  have r3 := rowA_lo B' (i := 3) (by omega)
  have r4 := rowA_lo B' (i := 4) (by omega)
  have z : ∀ (C : Int → Int) i, (106 ≤ i ∧ i ≤ 110) ∨ (122 ≤ i ∧ i ≤ 127) → rowA C i = 0 := by
    intro C i hi
    unfold rowA
    rw [if_neg (by omega), if_neg (by omega), if_neg (by omega), if_neg (by omega)]
  refine ⟨⟨?_, fun h a b => ?_, fun s a b => ?_⟩, ⟨?_, fun c a b => ?_, fun p a b => ?_, fun p a b => ?_, fun h a b => ?_⟩, ⟨fun h a b => ?_, fun p a b => ?_⟩⟩
  · rw [rowA_lo B' (i := 0) (by omega), rowA_lo B' (i := 1) (by omega), r2, r3, r4]
    exact f
  · rw [r2] at b
    rw [rowA_lo B' (by omega), rowA_lo B' (by omega)]
    exact ⟨(hh h a b).1, (hh h a b).2.1⟩
  · rw [r4] at b
    rw [rowA_lo B' (by omega), rowA_lo B' (by omega)]
    exact hs s a b
  · have := w.1
    rw [z B 106 (by omega), z B 107 (by omega), z B 108 (by omega), z B 109 (by omega), z B 110 (by omega)] at this
    rw [e35, z B' 106 (by omega), z B' 107 (by omega), z B' 108 (by omega), z B' 109 (by omega), z B' 110 (by omega)]
    exact this
  · rw [rowA_c B' a b]
    exact hc c a b
  · rw [r3] at b
    rw [rowA_p B' a (by omega)]
    exact (hp p a b).1
  · have := w.2.2.2.1 p a b
    rw [z B (122 + p) (by omega)] at this
    rw [z B' (122 + p) (by omega)]
    show m' 38 p = 0
    rw [e38]
    exact this
  · rw [r2] at b
    rw [rowA_g B' a (by omega)]
    exact (hh h a b).2.2.1
  · rw [r2] at b
    exact (hh h a b).2.2.2
  · rw [r3] at b
    exact (hp p a b).2
theorem DR_get {m : zMem} {B N : Int → Int} (d : DR m B N) (hb : B 2 ≤ 5 ∧ B 3 ≤ 6 ∧ B 4 ≤ 8) : (m 28 0 = B 0 ∧ m 28 1 = B 1 ∧ m 28 2 = B 2 ∧ m 28 3 = B 3 ∧ m 28 4 = B 4) ∧ (∀ h, 0 ≤ h → h < B 2 → m 29 h = B (5 + h) ∧ m 30 h = B (10 + h) ∧ m 39 h = B (15 + h) ∧ wd (m 31 h) (N h)) ∧ (∀ p, 0 ≤ p → p < B 3 → m 37 p = B (20 + p) ∧ wd (m 32 p) (N (5 + p))) ∧ (∀ s, 0 ≤ s → s < B 4 → m 33 s = B (26 + s) ∧ m 34 s = B (34 + s)) ∧ ∀ c, 0 ≤ c → c < 64 → m 36 c = B (42 + c) := by
  obtain ⟨v, w, nn⟩ := d
  have r2 := rowA_lo B (i := 2) (by omega)
  have r3 := rowA_lo B (i := 3) (by omega)
  have r4 := rowA_lo B (i := 4) (by omega)
  refine ⟨?_, fun h a b => ⟨?_, ?_, ?_, ?_⟩, fun p a b => ⟨?_, ?_⟩, fun s a b => ⟨?_, ?_⟩, fun c a b => ?_⟩
  · have := v.1
    rw [rowA_lo B (i := 0) (by omega), rowA_lo B (i := 1) (by omega), r2, r3, r4] at this
    exact this
  · have := (v.2.1 h a (by omega)).1
    rw [rowA_lo B (by omega)] at this
    exact this
  · have := (v.2.1 h a (by omega)).2
    rw [rowA_lo B (by omega)] at this
    exact this
  · have := w.2.2.2.2 h a (by omega)
    rw [rowA_g B a (by omega)] at this
    exact this
  · exact nn.1 h a (by omega)
  · have := w.2.2.1 p a (by omega)
    rw [rowA_p B a (by omega)] at this
    exact this
  · exact nn.2 p a (by omega)
  · have := (v.2.2 s a (by omega)).1
    rw [rowA_lo B (by omega)] at this
    exact this
  · have := (v.2.2 s a (by omega)).2
    rw [rowA_lo B (by omega)] at this
    exact this
  · have := w.2.1 c a b
    rw [rowA_c B a b] at this
    exact this
/-- the row's own bounds, in plain words -/
theorem oD_mk {B : Int → Int} (h0 : 2 ≤ B 0 ∧ B 0 ≤ 8 ∧ 2 ≤ B 1 ∧ B 1 ≤ 8 ∧ 0 ≤ B 2 ∧ B 2 ≤ 5 ∧ 0 ≤ B 3 ∧ B 3 ≤ 6 ∧ 0 ≤ B 4 ∧ B 4 ≤ 8) (hh : ∀ h, 0 ≤ h → h < B 2 → (0 ≤ B (5 + h) ∧ B (5 + h) < 64 ∧ B (5 + h) % 8 < B 0 ∧ B (5 + h) / 8 < B 1) ∧ 1 ≤ B (10 + h) ∧ B (10 + h) ≤ 9 ∧ 0 ≤ B (15 + h) ∧ B (15 + h) ≤ 99) (hp : ∀ p, 0 ≤ p → p < B 3 → 0 ≤ B (20 + p) ∧ B (20 + p) < 64 ∧ B (20 + p) % 8 < B 0 ∧ B (20 + p) / 8 < B 1) (hs : ∀ s, 0 ≤ s → s < B 4 → 0 ≤ B (26 + s) ∧ B (26 + s) ≤ 3 ∧ 1 ≤ B (34 + s) ∧ B (34 + s) ≤ 9) (hc : ∀ c, 0 ≤ c → c < 64 → 0 ≤ B (42 + c) ∧ B (42 + c) ≤ 9) : oD B := by
  have r0 := rowA_lo B (i := 0) (by omega)
  have r1 := rowA_lo B (i := 1) (by omega)
  have r2 := rowA_lo B (i := 2) (by omega)
  have r3 := rowA_lo B (i := 3) (by omega)
  have r4 := rowA_lo B (i := 4) (by omega)
  refine ⟨⟨by rw [r0, r1, r2, r3, r4]; exact h0, fun h a b => ?_, fun s a b => ?_⟩, fun p a b => ?_, hc, fun h a b => ⟨(hh h a b).2.2.2.1, (hh h a b).2.2.2.2⟩⟩
  · rw [r2] at b
    rw [rowA_lo B (i := 5 + h) (by omega), rowA_lo B (i := 10 + h) (by omega)]
    unfold inC
    rw [r0, r1]
    exact ⟨(hh h a b).1, (hh h a b).2.1, (hh h a b).2.2.1⟩
  · rw [r4] at b
    rw [rowA_lo B (i := 26 + s) (by omega), rowA_lo B (i := 34 + s) (by omega)]
    exact hs s a b
  · unfold inC
    rw [r0, r1]
    exact hp p a b
theorem oD_get {B : Int → Int} (o : oD B) : (2 ≤ B 0 ∧ B 0 ≤ 8 ∧ 2 ≤ B 1 ∧ B 1 ≤ 8 ∧ 0 ≤ B 2 ∧ B 2 ≤ 5 ∧ 0 ≤ B 3 ∧ B 3 ≤ 6 ∧ 0 ≤ B 4 ∧ B 4 ≤ 8) ∧ (∀ h, 0 ≤ h → h < B 2 → (0 ≤ B (5 + h) ∧ B (5 + h) < 64 ∧ B (5 + h) % 8 < B 0 ∧ B (5 + h) / 8 < B 1) ∧ 1 ≤ B (10 + h) ∧ B (10 + h) ≤ 9 ∧ 0 ≤ B (15 + h) ∧ B (15 + h) ≤ 99) ∧ (∀ p, 0 ≤ p → p < B 3 → 0 ≤ B (20 + p) ∧ B (20 + p) < 64 ∧ B (20 + p) % 8 < B 0 ∧ B (20 + p) / 8 < B 1) ∧ (∀ s, 0 ≤ s → s < B 4 → 0 ≤ B (26 + s) ∧ B (26 + s) ≤ 3 ∧ 1 ≤ B (34 + s) ∧ B (34 + s) ≤ 9) ∧ ∀ c, 0 ≤ c → c < 64 → 0 ≤ B (42 + c) ∧ B (42 + c) ≤ 9 := by
  obtain ⟨o1, o2, o3, o4⟩ := o
  have r0 := rowA_lo B (i := 0) (by omega)
  have r1 := rowA_lo B (i := 1) (by omega)
  have r2 := rowA_lo B (i := 2) (by omega)
  have r3 := rowA_lo B (i := 3) (by omega)
  have r4 := rowA_lo B (i := 4) (by omega)
  have b0 := o1.1
  rw [r0, r1, r2, r3, r4] at b0
  refine ⟨b0, fun h a b => ?_, fun p a b => ?_, fun s a b => ?_, o3⟩
  · have := o1.2.1 h a (by omega)
    rw [rowA_lo B (i := 5 + h) (by omega), rowA_lo B (i := 10 + h) (by omega)] at this
    unfold inC at this
    rw [r0, r1] at this
    exact ⟨this.1, this.2.1, this.2.2, (o4 h a b).1, (o4 h a b).2⟩
  · have := o2 p a b
    unfold inC at this
    rw [r0, r1] at this
    exact this
  · have := o1.2.2 s a (by omega)
    rw [rowA_lo B (i := 26 + s) (by omega), rowA_lo B (i := 34 + s) (by omega)] at this
    exact this
def CSt (m : zMem) (B N : Int → Int) (g c : Int) : Prop := DR m B N ∧ m 27 4 = g ∧ m 27 5 = c
def RSt (r : zMem) (B N : Int → Int) (g c : Int) : Prop := r 141 = B ∧ r 146 = N ∧ r 138 23 = g ∧ r 138 24 = c
def InvL (B : Int → Int) (g c : Int) : Prop := oD B ∧ (c = 0 → B 2 = 0 ∧ B 3 = 0) ∧ (g = 0 ∨ g = 1) ∧ (c = 0 ∨ c = 1)
def LO (fc fr : zMem → Option (Int × zMem)) (T : Int → Int) (n lim p : Int) (B N : Int → Int) (g c : Int) : Prop :=
  (∃ k pl, k ≠ 0 ∧ (∀ m, CT T n lim m p → CSt m B N g c → ∃ m', fc m = some (0, m') ∧ CF m' k pl ∧ FI m m') ∧ (∀ r, RU T n lim r p → RSt r B N g c → ∃ r', fr r = some (0, r') ∧ RF r' k pl ∧ FJ r r')) ∨
  (∃ B' N' g' c' p', InvL B' g' c' ∧ p < p' ∧ p' ≤ n ∧ (∀ m, CT T n lim m p → CSt m B N g c → ∃ m', fc m = some (1, m') ∧ CU T n lim m' p' ∧ CSt m' B' N' g' c' ∧ FI m m') ∧ (∀ r, RU T n lim r p → RSt r B N g c → ∃ r', fr r = some (1, r') ∧ RU T n lim r' p' ∧ RSt r' B' N' g' c' ∧ FJ r r'))
theorem mPut_1 {i : Int} (h : 0 ≤ i ∧ i < 106) (r : zMem) : f_X12_put i 1 r = some (1, zup r 141 i (r 138 13)) := by
  unfold f_X12_put
  rw [if_neg (by omega), ix1 h]
  simp [pipe]
theorem mPut_0 (i : Int) (r : zMem) : f_X12_put i 0 r = some (0, r) := by
  unfold f_X12_put
  simp
theorem RSt_g {r r' : zMem} {B N : Int → Int} {g c : Int} (h : RSt r B N g c) (f : FYF r r') : RSt r' B N g c := ⟨by rw [f.1 141 (by omega)]; exact h.1, by rw [f.1 146 (by omega)]; exact h.2.1, by rw [f.2 23 (by omega)]; exact h.2.2.1, by rw [f.2 24 (by omega)]; exact h.2.2.2⟩
theorem CSt_f {m m' : zMem} {B N : Int → Int} {g c : Int} (h : CSt m B N g c) (f : FXF m m') : CSt m' B N g c := ⟨DR_f h.1 (fun q x y => f.1 q (by omega)), by rw [f.1 27 (by omega)]; exact h.2.1, by rw [f.1 27 (by omega)]; exact h.2.2⟩
/-- 'ground' -/
theorem line_ground {T : Int → Int} {n lim p : Int} (ok : okTx T n) (hl : 0 ≤ lim) (h0 : 0 ≤ p) (h1 : p ≤ n) (hk : (lexT T n lim p).2.2.1 = 2) {B N : Int → Int} {g c : Int} (iv : InvL B g c) : LO f_X4_readGround f_X12_readGround T n lim p B N g c := by
  have lr := lexT_r (T := T) (n := n) (lim := lim) hl h0 h1
  have pp := lr.2.2.2.1 (by omega)
  have ob := oD_get iv.1
  have b0 := ob.1
  by_cases hz : g = 0 ∧ c = 0
  · obtain ⟨rfl, rfl⟩ := hz
    have hc0 := iv.2.1 rfl
    have lr1 := lexT_r (T := T) (n := n) (lim := lim) (p := (lexT T n lim p).2.1) hl (by omega) lr.2.1
    generalize hq1 : (lexT T n lim p).2.1 = q1 at *
    have q10 : 0 ≤ q1 := by omega
    have lr2 := lexT_r (T := T) (n := n) (lim := lim) (p := (lexT T n lim q1).2.1) hl (by omega) lr1.2.1
    have cls1 : ∀ m, CT T n lim m p → CSt m B N 0 0 → f_X4_readGround m = (zbind (f_X6_wantNumber 2 8 (zup m 27 4 1)) fun y6 m7 => if y6 = 0 then (some (0, m7)) else (pipe (zup m7 28 0 (w32 (m7 1 7))) fun m10 => zbind (f_X6_wantNumber 2 8 m10) fun y11 m12 => if y11 = 0 then (some (0, m12)) else (pipe (zup m12 28 1 (w32 (m12 1 7))) fun m15 => some (1, m15)))) ∧ CU T n lim (zup m 27 4 1) q1 := by
      intro m ct cs
      have cu := CT_U ct
      rw [hq1] at cu
      refine ⟨?_, CU_up cu (by omega)⟩
      unfold f_X4_readGround
      rw [if_pos cs.2.1, if_pos cs.2.2]
      rfl
    have ref1 : ∀ r, RU T n lim r p → RSt r B N 0 0 → ∃ r6, RU T n lim r6 q1 ∧ RSt r6 B N 1 0 ∧ FJ r r6 ∧ f_X12_readGround r = (zbind (f_X12_readNumber 2 8 r6) fun y7 m8 => zbind (f_X12_put 0 y7 m8) fun y9 m10 => if y9 = 0 then (some (0, m10)) else (zbind (f_X12_readNumber 2 8 m10) fun y12 m13 => zbind (f_X12_put 1 y12 m13) fun y14 m15 => if y14 = 0 then (some (0, m15)) else (some (1, m15)))) := by
      intro r ru rs
      obtain ⟨r6, a1, a2, a3⟩ := mGoU ok hl h0 h1 (RU_up (q := 138) (i := 23) (v := 1) ru (by omega))
      rw [hq1] at a2
      refine ⟨r6, a2, ⟨by rw [a3.1 141 (by omega), zup_off (by omega)]; exact rs.1, by rw [a3.1 146 (by omega), zup_off (by omega)]; exact rs.2.1, by rw [a3.2 23 (by omega), zup_same, if_pos rfl], by rw [a3.2 24 (by omega), zup_same, if_neg (by omega)]; exact rs.2.2.2⟩, FJ_t (FJ_up (by omega)) (FYF_J (FY_F a3)), ?_⟩
      unfold f_X12_readGround
      rw [if_pos rs.2.2.1, if_pos rs.2.2.2]
      simp only [pipe]
      rw [a1]
      rfl
    have cn1 := fun m (cu : CU T n lim m q1) => cNumber (lo := 2) (hi := 8) ok q10 (by omega) cu
    have rn1 := fun r (ru : RU T n lim r q1) => mNumber (lo := 2) (hi := 8) ok hl q10 (by omega) ru
    by_cases g1 : (lexT T n lim q1).2.2.1 = 3 ∧ 2 ≤ (lexT T n lim q1).2.2.2.1 ∧ (lexT T n lim q1).2.2.2.1 ≤ 8
    · generalize hv1 : (lexT T n lim q1).2.2.2.1 = v1 at *
      have wv1 : w32 v1 = v1 := w32_id ⟨by omega, by omega⟩
      generalize hq2 : (lexT T n lim q1).2.1 = q2 at *
      have pq2 := lr1.2.2.2.1 (by omega)
      have cn2 := fun m (cu : CU T n lim m q2) => cNumber (lo := 2) (hi := 8) ok (by omega) lr1.2.1 cu
      have rn2 := fun r (ru : RU T n lim r q2) => mNumber (lo := 2) (hi := 8) ok hl (by omega) lr1.2.1 ru
      have cls2 : ∀ m, CT T n lim m p → CSt m B N 0 0 → ∃ m10, CU T n lim m10 q2 ∧ FI m m10 ∧ (∀ q, 29 ≤ q → q ≤ 39 → m10 q = m q) ∧ (∀ i, m10 28 i = if i = 0 then v1 else m 28 i) ∧ m10 27 4 = 1 ∧ m10 27 5 = 0 ∧ f_X4_readGround m = (zbind (f_X6_wantNumber 2 8 m10) fun y11 m12 => if y11 = 0 then (some (0, m12)) else (pipe (zup m12 28 1 (w32 (m12 1 7))) fun m15 => some (1, m15))) := by
        intro m ct cs
        obtain ⟨e, cu⟩ := cls1 m ct cs
        obtain ⟨m7, a1, a2, a3, a4⟩ := (cn1 _ cu).1 g1
        have cu7 := CT_U a2
        rw [hq2] at cu7
        refine ⟨zup m7 28 0 v1, CU_up cu7 (by omega), FI_t (FI_t (FI_up (by omega)) (FXF_I a4)) (FI_up (by omega)), fun q x y => by rw [zup_off (by omega), a4.1 q (by omega), zup_off (by omega)], fun i => by rw [zup_same, a4.1 28 (by omega), zup_off (by omega)], by rw [zup_off (by omega), a4.1 27 (by omega), zup_same, if_pos rfl], by rw [zup_off (by omega), a4.1 27 (by omega), zup_same, if_neg (by omega)]; exact cs.2.2, ?_⟩
        rw [e, a1]
        simp only [zbind, pipe]
        rw [if_neg (by omega), a3, wv1]
      have ref2 : ∀ r, RU T n lim r p → RSt r B N 0 0 → ∃ r10, RU T n lim r10 q2 ∧ RSt r10 (up B 0 v1) N 1 0 ∧ FJ r r10 ∧ f_X12_readGround r = (zbind (f_X12_readNumber 2 8 r10) fun y12 m13 => zbind (f_X12_put 1 y12 m13) fun y14 m15 => if y14 = 0 then (some (0, m15)) else (some (1, m15))) := by
        intro r ru rs
        obtain ⟨r6, a1, a2, a3, a4⟩ := ref1 r ru rs
        obtain ⟨r8, b1, b2, b3, b4⟩ := (rn1 r6 a1).1 g1
        have s8 := RSt_g a2 b4
        refine ⟨zup r8 141 0 v1, RU_up b2 (by omega), ⟨by rw [zup_row, s8.1], by rw [zup_off (by omega)]; exact s8.2.1, by rw [zup_off (by omega)]; exact s8.2.2.1, by rw [zup_off (by omega)]; exact s8.2.2.2⟩, FJ_t (FJ_t a3 (FYF_J b4)) FJ_141, ?_⟩
        rw [a4, b1]
        simp only [zbind]
        rw [mPut_1 (by omega), b3]
        simp only
        rw [if_neg (by omega)]
      by_cases g2 : (lexT T n lim q2).2.2.1 = 3 ∧ 2 ≤ (lexT T n lim q2).2.2.2.1 ∧ (lexT T n lim q2).2.2.2.1 ≤ 8
      · generalize hv2 : (lexT T n lim q2).2.2.2.1 = v2 at *
        have wv2 : w32 v2 = v2 := w32_id ⟨by omega, by omega⟩
        have pq3 := lr2.2.2.2.1 (by omega)
        refine Or.inr ⟨up (up B 0 v1) 1 v2, N, 1, 0, (lexT T n lim q2).2.1, ⟨?_, fun _ => ?_, Or.inr rfl, Or.inl rfl⟩, by omega, lr2.2.1, fun m ct cs => ?_, fun r ru rs => ?_⟩
        · refine oD_mk ?_ (fun h a b => ?_) (fun p a b => ?_) (fun s a b => ?_) (fun c a b => ?_)
          · simp (disch := omega) only [up_ne, up_eq]
            omega
          · simp (disch := omega) only [up_ne, up_eq] at b
            omega
          · simp (disch := omega) only [up_ne, up_eq] at b
            omega
          · simp (disch := omega) only [up_ne, up_eq] at b ⊢
            exact ob.2.2.2.1 s a b
          · simp (disch := omega) only [up_ne, up_eq]
            exact ob.2.2.2.2 c a b
        · simp (disch := omega) only [up_ne, up_eq]
          exact hc0
        · obtain ⟨m10, a1, a2, a3, a4, a5, a6, a7⟩ := cls2 m ct cs
          obtain ⟨m12, b1, b2, b3, b4⟩ := (cn2 m10 a1).1 g2
          obtain ⟨d1, d2, d3, d4, d5⟩ := DR_get cs.1 ⟨by omega, by omega, by omega⟩
          have e28 : ∀ i, zup m12 28 1 v2 28 i = if i = 1 then v2 else if i = 0 then v1 else m 28 i := fun i => by rw [zup_same, b4.1 28 (by omega), a4]
          have eo : ∀ q, 29 ≤ q → q ≤ 39 → zup m12 28 1 v2 q = m q := fun q x y => by rw [zup_off (by omega), b4.1 q (by omega), a3 q x y]
          refine ⟨zup m12 28 1 v2, ?_, CU_up (CT_U b2) (by omega), ⟨DR_mk cs.1 ?_ ?_ (fun h a b => ?_) (fun p a b => ?_) (fun s a b => ?_) (fun c a b => ?_) (eo 35 (by omega) (by omega)) (eo 38 (by omega) (by omega)), by rw [zup_off (by omega), b4.1 27 (by omega), a5], by rw [zup_off (by omega), b4.1 27 (by omega), a6]⟩, FI_t (FI_t a2 (FXF_I b4)) (FI_up (by omega))⟩
          · rw [a7, b1]
            simp only [zbind, pipe]
            rw [if_neg (by omega), b3, wv2]
          · simp (disch := omega) only [up_ne, up_eq]
            omega
          · simp (disch := omega) only [up_ne, up_eq]
            rw [e28, e28, e28, e28, e28, if_neg (by omega), if_pos rfl, if_pos rfl, if_neg (by omega), if_neg (by omega), if_neg (by omega), if_neg (by omega), if_neg (by omega), if_neg (by omega)]
            exact ⟨rfl, rfl, d1.2.2.1, d1.2.2.2.1, d1.2.2.2.2⟩
          · simp (disch := omega) only [up_ne, up_eq] at b
            omega
          · simp (disch := omega) only [up_ne, up_eq] at b
            omega
          · simp (disch := omega) only [up_ne, up_eq] at b ⊢
            rw [eo 33 (by omega) (by omega), eo 34 (by omega) (by omega)]
            exact d4 s a b
          · simp (disch := omega) only [up_ne, up_eq]
            rw [eo 36 (by omega) (by omega)]
            exact d5 c a b
        · obtain ⟨r10, a1, a2, a3, a4⟩ := ref2 r ru rs
          obtain ⟨r13, b1, b2, b3, b4⟩ := (rn2 r10 a1).1 g2
          have s13 := RSt_g a2 b4
          refine ⟨zup r13 141 1 v2, ?_, RU_up b2 (by omega), ⟨by rw [zup_row, s13.1], by rw [zup_off (by omega)]; exact s13.2.1, by rw [zup_off (by omega)]; exact s13.2.2.1, by rw [zup_off (by omega)]; exact s13.2.2.2⟩, FJ_t (FJ_t a3 (FYF_J b4)) FJ_141⟩
          rw [a4, b1]
          simp only [zbind]
          rw [mPut_1 (by omega), b3]
          simp
      · refine Or.inl ⟨if (lexT T n lim q2).2.2.1 = 3 then 2 else 1, (lexT T n lim q2).1, ?_, fun m ct cs => ?_, fun r ru rs => ?_⟩
        · split <;> omega
        · obtain ⟨m10, a1, a2, a3, a4, a5, a6, a7⟩ := cls2 m ct cs
          obtain ⟨m12, b1, b2, b3⟩ := (cn2 m10 a1).2 g2
          refine ⟨m12, ?_, b2, FI_t a2 (FXF_I b3)⟩
          rw [a7, b1]
          simp [zbind]
        · obtain ⟨r10, a1, a2, a3, a4⟩ := ref2 r ru rs
          obtain ⟨r13, b1, b2, b3⟩ := (rn2 r10 a1).2 g2
          refine ⟨r13, ?_, b2, FJ_t a3 (FYF_J b3)⟩
          rw [a4, b1]
          simp only [zbind]
          rw [mPut_0]
          simp
    · refine Or.inl ⟨if (lexT T n lim q1).2.2.1 = 3 then 2 else 1, (lexT T n lim q1).1, ?_, fun m ct cs => ?_, fun r ru rs => ?_⟩
      · split <;> omega
      · obtain ⟨e, cu⟩ := cls1 m ct cs
        obtain ⟨m7, a1, a2, a3⟩ := (cn1 _ cu).2 g1
        refine ⟨m7, ?_, a2, FI_t (FI_up (by omega)) (FXF_I a3)⟩
        rw [e, a1]
        simp [zbind]
      · obtain ⟨r6, a1, a2, a3, a4⟩ := ref1 r ru rs
        obtain ⟨r8, b1, b2, b3⟩ := (rn1 r6 a1).2 g1
        refine ⟨r8, ?_, b2, FJ_t a3 (FYF_J b3)⟩
        rw [a4, b1]
        simp only [zbind]
        rw [mPut_0]
        simp
  · refine Or.inl ⟨3, (lexT T n lim p).1, by omega, fun m ct cs => ?_, fun r ru rs => ?_⟩
    · obtain ⟨m', b1, b2, b3⟩ := cFail ct (k := 3) (by omega)
      refine ⟨m', ?_, b2, FXF_I b3⟩
      unfold f_X4_readGround
      rw [cs.2.1, cs.2.2, b1]
      by_cases hg : g = 0
      · rw [if_pos hg, if_neg (fun x => hz ⟨hg, x⟩)]
        simp [zbind]
      · rw [if_neg hg]
        simp [zbind]
    · obtain ⟨r', b1, b2, b3⟩ := mBad ru 3
      rw [if_neg (by omega)] at b2
      refine ⟨r', ?_, b2, FYF_J b3⟩
      unfold f_X12_readGround
      rw [rs.2.2.1, rs.2.2.2, b1]
      by_cases hg : g = 0
      · rw [if_pos hg, if_neg (fun x => hz ⟨hg, x⟩)]
        simp [zbind]
      · rw [if_neg hg]
        simp [zbind]
