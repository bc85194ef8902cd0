/-! what a line's reading leaves: the class's reader and draft, the reference's reader and row -/
def FI (m m' : zMem) : Prop := (∀ q, q ≠ 1 → (q < 27 ∨ 39 < q) → m' q = m q) ∧ ∀ i, (i < 4 ∨ 10 < i) → m' 1 i = m 1 i
def FJ (r r' : zMem) : Prop := (∀ q, q ≠ 138 → q ≠ 141 → q ≠ 146 → r' q = r q) ∧ ∀ i, (i < 5 ∨ (13 < i ∧ i ≠ 23 ∧ i ≠ 24)) → r' 138 i = r 138 i
theorem FI_r (m : zMem) : FI m m := ⟨fun _ _ _ => rfl, fun _ _ => rfl⟩
theorem FJ_r (m : zMem) : FJ m m := ⟨fun _ _ _ _ => rfl, fun _ _ => rfl⟩
theorem FI_t {a b c : zMem} (h1 : FI a b) (h2 : FI b c) : FI a c := ⟨fun q x y => (h2.1 q x y).trans (h1.1 q x y), fun i x => (h2.2 i x).trans (h1.2 i x)⟩
theorem FJ_t {a b c : zMem} (h1 : FJ a b) (h2 : FJ b c) : FJ a c := ⟨fun q x y z => (h2.1 q x y z).trans (h1.1 q x y z), fun i x => (h2.2 i x).trans (h1.2 i x)⟩
theorem FXF_I {m m' : zMem} (h : FXF m m') : FI m m' := ⟨fun q x _ => h.1 q x, h.2⟩
theorem FYF_J {m m' : zMem} (h : FYF m m') : FJ m m' := ⟨fun q x _ _ => h.1 q x, fun i x => h.2 i (by omega)⟩
theorem FI_up {m : zMem} {q : Nat} {i v : Int} (h : 27 ≤ q ∧ q ≤ 39) : FI m (zup m q i v) := ⟨fun q' _ x => zup_off (by omega), fun j _ => by rw [zup_off (by omega)]⟩
theorem FJ_up {m : zMem} {i v : Int} (h : i = 23 ∨ i = 24) : FJ m (zup m 138 i v) := ⟨fun q x _ _ => zup_off x, fun j hj => by rw [zup_same, if_neg (by omega)]⟩
theorem FJ_141 {m : zMem} {i v : Int} : FJ m (zup m 141 i v) := ⟨fun q _ x _ => zup_off x, fun j _ => by rw [zup_off (by omega)]⟩
theorem FJ_146 {m : zMem} {i v : Int} : FJ m (zup m 146 i v) := ⟨fun q _ _ x => zup_off x, fun j _ => by rw [zup_off (by omega)]⟩
theorem DR_f {m m' : zMem} {B N : Int → Int} (d : DR m B N) (h : ∀ q, 28 ≤ q → q ≤ 39 → m' q = m q) : DR m' B N := ⟨vP_mem (fun q a b => h q a (by omega)) d.1, vS_mem (fun q a b => h q (by omega) (by omega)) d.2.1, rN_mem (fun q a b => h q a (by omega)) d.2.2⟩
theorem CU_up {T : Int → Int} {n lim p : Int} {m : zMem} {q : Nat} {i v : Int} (c : CU T n lim m p) (h : 27 ≤ q) : CU T n lim (zup m q i v) p := by
  have e : ∀ q', q' < 27 → zup m q i v q' = m q' := fun q' h' => zup_off (by omega)
  obtain ⟨⟨a, b, d, f⟩, g, k⟩ := c
  refine ⟨⟨?_, ?_, ?_, ?_⟩, ?_, ?_⟩
  · rw [e 1 (by omega)]; exact a
  · rw [e 1 (by omega)]; exact b
  · rw [e 2 (by omega)]; exact d
  · rw [e 3 (by omega)]; exact f
  · rw [e 1 (by omega)]; exact g
  · rw [e 1 (by omega)]; exact k
theorem CT_up {T : Int → Int} {n lim p : Int} {m : zMem} {q : Nat} {i v : Int} (c : CT T n lim m p) (h : 27 ≤ q) : CT T n lim (zup m q i v) p := by
  have e : ∀ q', q' < 27 → zup m q i v q' = m q' := fun q' h' => zup_off (by omega)
  obtain ⟨⟨a, b, d, f⟩, g, k⟩ := c
  refine ⟨⟨?_, ?_, ?_, ?_⟩, ?_, ?_⟩
  · rw [e 1 (by omega)]; exact a
  · rw [e 1 (by omega)]; exact b
  · rw [e 2 (by omega)]; exact d
  · rw [e 3 (by omega)]; exact f
  · unfold CH; rw [e 1 (by omega)]; exact g
  · rw [e 1 (by omega)]; exact k
theorem RU_up {T : Int → Int} {n lim p : Int} {r : zMem} {q : Nat} {i v : Int} (c : RU T n lim r p) (h : (q ≠ 138 ∧ q ≠ 139) ∨ (q = 138 ∧ (i < 3 ∨ i = 11 ∨ 12 < i))) : RU T n lim (zup r q i v) p := by
  have e : ∀ j, (3 ≤ j ∧ j ≤ 10) ∨ j = 12 → zup r q i v 138 j = r 138 j := by
    intro j hj
    unfold zup
    rw [if_neg (by omega)]
  have e2 : zup r q i v 139 = r 139 := zup_off (by omega)
  obtain ⟨⟨⟨a, b, d⟩, z0⟩, h5, h6, h7, h12, h8, h9⟩ := c
  refine ⟨⟨⟨by rw [e 3 (by omega)]; exact a, by rw [e 4 (by omega)]; exact b, by rw [e2]; exact d⟩, by rw [e 10 (by omega)]; exact z0⟩, by rw [e 5 (by omega)]; exact h5, by rw [e 6 (by omega)]; exact h6, by rw [e 7 (by omega)]; exact h7, fun h => by rw [e 12 (by omega)]; exact h12 h, fun h => by rw [e 8 (by omega)]; exact h8 h, fun h => by rw [e 9 (by omega)]; exact h9 h⟩
/-- a cell is read, by both -/
theorem spot_o {T : Int → Int} {n lim p : Int} (ok : okTx T n) (hl : 0 ≤ lim) (h0 : 0 ≤ p) (h1 : p ≤ n) {B N : Int → Int} (o : oD B) {w : Int} (hw : w = 0 ∨ w = 1) :
    (∃ k pl, k ≠ 0 ∧ (∀ m, CU T n lim m p → DR m B N → ∃ m', f_X4_readSpot w m = some (0, m') ∧ CF m' k pl ∧ FI m m') ∧ (∀ r, RU T n lim r p → r 141 = B → ∃ r', f_X12_readCell w r = some (0, r') ∧ RF r' k pl ∧ FJ r r')) ∨
    (∃ c p', inC (rowA B) c ∧ ¬ fil B c w ∧ p < p' ∧ p' ≤ n ∧ (∀ m, CU T n lim m p → DR m B N → ∃ m', f_X4_readSpot w m = some (1, m') ∧ CU T n lim m' p' ∧ m' 27 6 = c ∧ m' 27 5 = 1 ∧ m' 27 4 = m 27 4 ∧ (∀ q, 28 ≤ q → q ≤ 39 → m' q = m q) ∧ FI m m') ∧ (∀ r, RU T n lim r p → r 141 = B → ∃ r', f_X12_readCell w r = some (1, r') ∧ RU T n lim r' p' ∧ r' 138 13 = c ∧ r' 138 24 = 1 ∧ r' 138 23 = r 138 23 ∧ r' 141 = B ∧ r' 146 = r 146 ∧ FJ r r')) := by
  have o1 := o.1.1
  rw [rowA_lo B (i := 0) (by omega), rowA_lo B (i := 1) (by omega), rowA_lo B (i := 2) (by omega), rowA_lo B (i := 3) (by omega), rowA_lo B (i := 4) (by omega)] at o1
  have lr := lexT_r (T := T) (n := n) (lim := lim) hl h0 h1
  have lr2 := lexT_r (T := T) (n := n) (lim := lim) (p := (lexT T n lim p).2.1) hl (by omega) lr.2.1
  -- the class's two numbers
  have cn1 := fun m (c : CU T n lim m p) => cNumber (lo := 0) (hi := B 0 - 1) ok h0 h1 c
  have cn2 := fun m (c : CU T n lim m (lexT T n lim p).2.1) => cNumber (lo := 0) (hi := B 1 - 1) ok (by omega) lr.2.1 c
  have e0 : ∀ m, DR m B N → m 28 0 = B 0 ∧ m 28 1 = B 1 := fun m d => ⟨by rw [← rowA_lo B (i := 0) (by omega)]; exact d.1.1.1, by rw [← rowA_lo B (i := 1) (by omega)]; exact d.1.1.2.1⟩
  have wB : w32 (B 0 - 1) = B 0 - 1 ∧ w32 (B 1 - 1) = B 1 - 1 := ⟨w32_id ⟨by omega, by omega⟩, w32_id ⟨by omega, by omega⟩⟩
  have z5 : ∀ m, DR m B N → zup m 27 5 1 28 0 = B 0 := fun m d => by rw [zup_off (by omega)]; exact (e0 m d).1
  have r24 : ∀ r : zMem, r 141 = B → zup r 138 24 1 141 0 = B 0 := fun r h => by rw [zup_off (by omega), h]
  by_cases g1 : (lexT T n lim p).2.2.1 = 3 ∧ 0 ≤ (lexT T n lim p).2.2.2.1 ∧ (lexT T n lim p).2.2.2.1 ≤ B 0 - 1
  · -- the first is good
    have class1 : ∀ m, CU T n lim m p → DR m B N → ∃ m4, f_X6_wantNumber 0 (B 0 - 1) (zup m 27 5 1) = some (1, m4) ∧ CT T n lim m4 p ∧ m4 1 7 = (lexT T n lim p).2.2.2.1 ∧ FXF (zup m 27 5 1) m4 ∧ m4 28 1 = B 1 := by
      intro m c d
      obtain ⟨m4, a1, a2, a3, a4⟩ := (cn1 (zup m 27 5 1) (CU_up c (by omega))).1 g1
      exact ⟨m4, a1, a2, a3, a4, by rw [a4.1 28 (by omega), zup_off (by omega)]; exact (e0 m d).2⟩
    have ref1 : ∀ r, RU T n lim r p → r 141 = B → ∃ r5, f_X12_readNumber 0 (B 0 - 1) (zup r 138 24 1) = some (1, r5) ∧ RU T n lim r5 (lexT T n lim p).2.1 ∧ r5 138 13 = (lexT T n lim p).2.2.2.1 ∧ FYF (zup r 138 24 1) r5 ∧ r5 141 = B := by
      intro r c hB
      obtain ⟨r5, a1, a2, a3, a4⟩ := (mNumber (lo := 0) (hi := B 0 - 1) ok hl h0 h1 (RU_up (q := 138) (i := 24) (v := 1) c (by omega))).1 g1
      exact ⟨r5, a1, a2, a3, a4, by rw [a4.1 141 (by omega), zup_off (by omega), hB]⟩
    have wx : w32 (lexT T n lim p).2.2.2.1 = (lexT T n lim p).2.2.2.1 := w32_id ⟨by omega, by omega⟩
    by_cases g2 : (lexT T n lim (lexT T n lim p).2.1).2.2.1 = 3 ∧ 0 ≤ (lexT T n lim (lexT T n lim p).2.1).2.2.2.1 ∧ (lexT T n lim (lexT T n lim p).2.1).2.2.2.1 ≤ B 1 - 1
    · -- the second too
      have wy : w32 (lexT T n lim (lexT T n lim p).2.1).2.2.2.1 = (lexT T n lim (lexT T n lim p).2.1).2.2.2.1 := w32_id ⟨by omega, by omega⟩
      have wc : w32 (w32 (8 * (lexT T n lim (lexT T n lim p).2.1).2.2.2.1) + (lexT T n lim p).2.2.2.1) = 8 * (lexT T n lim (lexT T n lim p).2.1).2.2.2.1 + (lexT T n lim p).2.2.2.1 := by
        rw [w32_id (x := 8 * (lexT T n lim (lexT T n lim p).2.1).2.2.2.1) ⟨by omega, by omega⟩, w32_id ⟨by omega, by omega⟩]
      have hin : inC (rowA B) (8 * (lexT T n lim (lexT T n lim p).2.1).2.2.2.1 + (lexT T n lim p).2.2.2.1) := by
        unfold inC
        rw [rowA_lo B (i := 0) (by omega), rowA_lo B (i := 1) (by omega)]
        exact ⟨by omega, by omega, by omega, by omega⟩
      generalize hcc : 8 * (lexT T n lim (lexT T n lim p).2.1).2.2.2.1 + (lexT T n lim p).2.2.2.1 = cc at *
      have class2 : ∀ m, CU T n lim m p → DR m B N → ∃ m13, CT T n lim m13 (lexT T n lim p).2.1 ∧ m13 27 6 = cc ∧ m13 27 5 = 1 ∧ m13 27 4 = m 27 4 ∧ (∀ q, 28 ≤ q → q ≤ 39 → m13 q = m q) ∧ FI m m13 ∧ f_X4_readSpot w m = if htA (rowA B) cc > 0 then (zbind (f_X6_fail 3 m13) fun y18 m19 => if y18 = 0 ∨ y18 = 1 then some (y18, m19) else none) else (if w = 0 then (if pAt (rowA B) cc = 0 then some (1, m13) else (zbind (f_X6_fail 3 m13) fun y25 m26 => if y25 = 0 ∨ y25 = 1 then some (y25, m26) else none)) else some (1, m13)) := by
        intro m c d
        obtain ⟨m4, a1, a2, a3, a4, a5⟩ := class1 m c d
        obtain ⟨m10, b1, b2, b3, b4⟩ := (cn2 m4 (CT_U a2)).1 g2
        have ff : ∀ q, 28 ≤ q → q ≤ 39 → zup m10 27 6 cc q = m q := fun q x y => by rw [zup_off (by omega), b4.1 q (by omega), a4.1 q (by omega), zup_off (by omega)]
        have d13 : DR (zup m10 27 6 cc) B N := DR_f d ff
        have f27 : ∀ i, m10 27 i = if i = 5 then 1 else m 27 i := fun i => by rw [b4.1 27 (by omega), a4.1 27 (by omega), zup_same]
        refine ⟨zup m10 27 6 cc, CT_up b2 (by omega), by rw [zup_same, if_pos rfl], by rw [zup_same, if_neg (by omega), f27, if_pos rfl], by rw [zup_same, if_neg (by omega), f27, if_neg (by omega)], ff, FI_t (FI_t (FI_t (FI_up (by omega)) (FXF_I a4)) (FXF_I b4)) (FI_up (by omega)), ?_⟩
        have e6 : zup m10 27 6 cc 27 6 = cc := by rw [zup_same, if_pos rfl]
        have hA := cHeightAt (mem := zup m10 27 6 cc) IL_40 d13.1 d13.2.1 o.1 hin.1 hin.2.1
        have hP := cPersonsOn (mem := zup m10 27 6 cc) IL_40 d13.1 d13.2.1 o.1 cc
        unfold f_X4_readSpot
        simp only [pipe]
        rw [z5 m d, wB.1, a1]
        simp only [zbind]
        rw [if_neg (by omega), a5, wB.2, b1]
        simp only
        rw [if_neg (by omega), a3, b3, wx, wy, wc, e6, hA]
        simp only
        rw [e6, hP]
      have ref2 : ∀ r, RU T n lim r p → r 141 = B → ∃ r20, RU T n lim r20 (lexT T n lim p).2.1 ∧ r20 138 13 = cc ∧ r20 138 24 = 1 ∧ r20 138 23 = r 138 23 ∧ r20 141 = B ∧ r20 146 = r 146 ∧ FJ r r20 ∧ f_X12_readCell w r = (zbind (f_X12_isFilled cc w r20) fun y22 m23 => if y22 = 0 then (zbind (f_X12_go m23) fun _ m25 => some (1, m25)) else (zbind (f_X12_bad 3 m23) fun y26 m27 => if y26 = 0 ∨ y26 = 1 then some (y26, m27) else none)) := by
        intro r c hB
        obtain ⟨r5, a1, a2, a3, a4, a5⟩ := ref1 r c hB
        have h7 := a2.2.2.2.1
        have h8 := a2.2.2.2.2.2.1 g2.1
        refine ⟨zup r5 138 13 cc, RU_up a2 (by omega), by rw [zup_same, if_pos rfl], by rw [zup_same, if_neg (by omega), a4.2 24 (by omega), zup_same, if_pos rfl], by rw [zup_same, if_neg (by omega), a4.2 23 (by omega), zup_same, if_neg (by omega)], by rw [zup_off (by omega), a5], by rw [zup_off (by omega), a4.1 146 (by omega), zup_off (by omega)], FJ_t (FJ_t (FJ_up (by omega)) (FYF_J a4)) (FYF_J (FYF_up (by omega))), ?_⟩
        have e13 : zup r5 138 13 cc 138 13 = cc := by rw [zup_same, if_pos rfl]
        unfold f_X12_readCell
        simp only [pipe]
        rw [ix1 (by omega), r24 r hB, wB.1, a1]
        simp only [zbind]
        rw [if_neg (by omega), if_pos (by rw [h7]; exact g2.1), ix1 (by omega), a5, wB.2, mIsIn]
        simp only [bi0]
        rw [if_pos (by omega), h8, a3, wc, e13]
      by_cases hf : fil B cc w
      · refine Or.inl ⟨3, (lexT T n lim (lexT T n lim p).2.1).1, by omega, fun m c d => ?_, fun r c hB => ?_⟩
        · obtain ⟨m13, a1, a2, a3, a4, a5, a6, a7⟩ := class2 m c d
          obtain ⟨m', b1, b2, b3⟩ := cFail a1 (k := 3) (by omega)
          refine ⟨m', ?_, b2, FI_t a6 (FXF_I b3)⟩
          rw [a7, b1]
          simp only [zbind]
          unfold fil at hf
          by_cases hh : htA (rowA B) cc > 0
          · rw [if_pos hh]; simp
          · have := hf.resolve_left hh
            rw [if_neg hh, if_pos this.1, if_neg this.2]
            simp
        · obtain ⟨r20, a1, a2, a3, a4, a5, a6, a7, a8⟩ := ref2 r c hB
          obtain ⟨r', b1, b2, b3⟩ := mBad a1 3
          rw [if_neg (by omega)] at b2
          rcases mFilled a5 o (w := w) hin.1 hin.2.1 with ⟨_, y⟩ | ⟨x, _⟩
          · refine ⟨r', ?_, b2, FJ_t a7 (FYF_J b3)⟩
            rw [a8, y]
            simp only [zbind]
            rw [if_neg (by omega), b1]
            simp
          · exact absurd hf x
      · refine Or.inr ⟨cc, (lexT T n lim (lexT T n lim p).2.1).2.1, hin, hf, by omega, lr2.2.1, fun m c d => ?_, fun r c hB => ?_⟩
        · obtain ⟨m13, a1, a2, a3, a4, a5, a6, a7⟩ := class2 m c d
          refine ⟨m13, ?_, CT_U a1, a2, a3, a4, a5, a6⟩
          rw [a7]
          unfold fil at hf
          rw [if_neg (fun x => hf (Or.inl x))]
          by_cases h0 : w = 0
          · rw [if_pos h0]
            by_cases hp : pAt (rowA B) cc = 0
            · rw [if_pos hp]
            · exact absurd (Or.inr ⟨h0, hp⟩) hf
          · rw [if_neg h0]
        · obtain ⟨r20, a1, a2, a3, a4, a5, a6, a7, a8⟩ := ref2 r c hB
          obtain ⟨r', b1, b2, b3⟩ := mGoU ok hl (by omega) lr.2.1 a1
          rcases mFilled a5 o (w := w) hin.1 hin.2.1 with ⟨x, _⟩ | ⟨_, y⟩
          · exact absurd x hf
          · refine ⟨r', ?_, b2, by rw [b3.2 13 (by omega), a2], by rw [b3.2 24 (by omega), a3], by rw [b3.2 23 (by omega), a4], by rw [b3.1 141 (by omega), a5], by rw [b3.1 146 (by omega), a6], FJ_t a7 (FYF_J (FY_F b3))⟩
            rw [a8, y]
            simp only [zbind, ↓reduceIte]
            rw [b1]
    · refine Or.inl ⟨if (lexT T n lim (lexT T n lim p).2.1).2.2.1 = 3 then 2 else 1, (lexT T n lim (lexT T n lim p).2.1).1, by split <;> omega, fun m c d => ?_, fun r c hB => ?_⟩
      · obtain ⟨m4, a1, a2, a3, a4, a5⟩ := class1 m c d
        obtain ⟨m10, b1, b2, b3⟩ := (cn2 m4 (CT_U a2)).2 g2
        refine ⟨m10, ?_, b2, FI_t (FI_t (FI_up (by omega)) (FXF_I a4)) (FXF_I b3)⟩
        unfold f_X4_readSpot
        simp only [pipe]
        rw [z5 m d, wB.1, a1]
        simp only [zbind]
        rw [if_neg (by omega), a5, wB.2, b1]
        simp
      · obtain ⟨r5, a1, a2, a3, a4, a5⟩ := ref1 r c hB
        have h7 := a2.2.2.2.1
        have pre : f_X12_readCell w r = if (r5 138 7) = 3 then (if ix 141 1 then zbind (f_X12_isIn (r5 138 8) 0 (w32 ((r5 141 1) - 1)) r5) fun y14 m15 => if y14 = 0 then (zbind (f_X12_bad 2 m15) fun y17 m18 => if y17 = 0 ∨ y17 = 1 then some (y17, m18) else none) else (pipe (zup m15 138 13 (w32 ((w32 (8 * (m15 138 8))) + (r5 138 13)))) fun m20 => zbind (f_X12_isFilled (m20 138 13) w m20) fun y22 m23 => if y22 = 0 then (zbind (f_X12_go m23) fun _ m25 => some (1, m25)) else (zbind (f_X12_bad 3 m23) fun y26 m27 => if y26 = 0 ∨ y26 = 1 then some (y26, m27) else none)) else none) else (zbind (f_X12_bad 1 r5) fun y28 m29 => if y28 = 0 ∨ y28 = 1 then some (y28, m29) else none) := by
          unfold f_X12_readCell
          rw [pipe, ix1 (by omega), r24 r hB, wB.1, a1, zbind]
          simp only
          rw [if_neg (by omega), pipe]
        by_cases g3 : (lexT T n lim (lexT T n lim p).2.1).2.2.1 = 3
        · have h8 := a2.2.2.2.2.2.1 g3
          obtain ⟨r', b1, b2, b3⟩ := mBad a2 2
          rw [if_neg (by omega)] at b2
          refine ⟨r', ?_, by rw [if_pos g3]; exact b2, FJ_t (FJ_t (FJ_up (by omega)) (FYF_J a4)) (FYF_J b3)⟩
          rw [pre, if_pos (by rw [h7]; exact g3), ix1 (by omega), a5, wB.2, mIsIn]
          simp only [zbind, bi0]
          rw [if_neg (by rw [h8]; omega), b1]
          simp
        · obtain ⟨r', b1, b2, b3⟩ := mBad a2 1
          have e1 : (if (lexT T n lim (lexT T n lim p).2.1).2.2.1 = 1 then (1 : Int) else 1) = 1 := by split <;> rfl
          rw [e1] at b2
          refine ⟨r', ?_, by rw [if_neg g3]; exact b2, FJ_t (FJ_t (FJ_up (by omega)) (FYF_J a4)) (FYF_J b3)⟩
          rw [pre, if_neg (by rw [h7]; exact g3), b1]
          simp [zbind]
  · refine Or.inl ⟨if (lexT T n lim p).2.2.1 = 3 then 2 else 1, (lexT T n lim p).1, by split <;> omega, fun m c d => ?_, fun r c hB => ?_⟩
    · obtain ⟨m4, a1, a2, a3⟩ := (cn1 (zup m 27 5 1) (CU_up c (by omega))).2 g1
      refine ⟨m4, ?_, a2, FI_t (FI_up (by omega)) (FXF_I a3)⟩
      unfold f_X4_readSpot
      simp only [pipe]
      rw [z5 m d, wB.1, a1]
      simp [zbind]
    · obtain ⟨r5, a1, a2, a3⟩ := (mNumber (lo := 0) (hi := B 0 - 1) ok hl h0 h1 (RU_up (q := 138) (i := 24) (v := 1) c (by omega))).2 g1
      refine ⟨r5, ?_, a2, FJ_t (FJ_up (by omega)) (FYF_J a3)⟩
      unfold f_X12_readCell
      simp only [pipe]
      rw [ix1 (by omega), r24 r hB, wB.1, a1]
      simp [zbind]
