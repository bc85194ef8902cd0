theorem zup_row (m : zMem) (q : Nat) (i v : Int) : zup m q i v q = up (m q) i v := by
  funext j
  rw [zup_same]
  rfl
/-! who is called so -/
def nmH (A N : Int → Int) (w : List Int) : Int := fst1 (fun h => decide (N h = pk 27 w)) (A 2).toNat 0
def nmP (A N : Int → Int) (w : List Int) : Int := fst1 (fun p => decide (N (5 + p) = pk 27 w)) (A 3).toNat 0
theorem nmH_r {A N : Int → Int} {w : List Int} (h0 : 0 ≤ A 2) : nmH A N w = -1 ∨ (0 ≤ nmH A N w ∧ nmH A N w < A 2) := by
  rcases fst1_spec (fun h => decide (N h = pk 27 w)) (A 2).toNat 0 with ⟨h, _⟩ | ⟨h1, h2, _⟩
  · exact Or.inl h
  · exact Or.inr ⟨h1, by unfold nmH; omega⟩
theorem nmP_r {A N : Int → Int} {w : List Int} (h0 : 0 ≤ A 3) : nmP A N w = -1 ∨ (0 ≤ nmP A N w ∧ nmP A N w < A 3) := by
  rcases fst1_spec (fun p => decide (N (5 + p) = pk 27 w)) (A 3).toNat 0 with ⟨h, _⟩ | ⟨h1, h2, _⟩
  · exact Or.inl h
  · exact Or.inr ⟨h1, by unfold nmP; omega⟩
theorem cHouseNamed {mem : zMem} {pl : Nat} {A N : Int → Int} {w : List Int} (l : lP pl) (v : vP mem pl A) (rn : rN mem pl A N) (o : oP A) (ok : okW w) : f_X5_houseNamed pl (pk 32 w) mem = some (nmH A N w, mem) := by
  have o1 := o.1
  have L := l.2.2.1
  have e2 := v.1.2.2.1
  have hw : wd (pk 32 w) (pk 27 w) := ⟨w, ok, rfl, rfl⟩
  have e : f_X5_houseNamed pl (pk 32 w) mem = some (fst1 (fun h => decide (mem (pl + 3) h = pk 32 w)) (A 2).toNat 0, mem) := by
    refine lp_fst (F := fun n i => f_X5_houseNamed_0 n pl (pk 32 w) i mem) (fun n i a b => ?_) (fun n => ?_) (by omega) (by omega)
    · show b_X5_houseNamed_0 (f_X5_houseNamed_0 n) pl (pk 32 w) i mem = _
      unfold b_X5_houseNamed_0
      rw [e2, if_neg (by omega), if_neg (by omega), if_pos (show ix (pl + 3) i from ⟨a, by omega⟩), w32_id ⟨by omega, by omega⟩]
      by_cases h : mem (pl + 3) i = pk 32 w
      · rw [if_pos ((zcmp_0 _ _).2 h), if_pos (by simpa using h)]
      · rw [if_neg (fun c => h ((zcmp_0 _ _).1 c)), if_neg (by simpa using h)]
    · show b_X5_houseNamed_0 (f_X5_houseNamed_0 n) pl (pk 32 w) (A 2) mem = _
      unfold b_X5_houseNamed_0
      rw [e2, if_pos (by omega)]
  rw [e]
  unfold nmH
  congr 2
  refine fst1_congr (fun k a b => ?_)
  have := wd_iff (rn.1 k a (by omega)) hw
  rw [Bool.eq_iff_iff, decide_eq_true_eq, decide_eq_true_eq, this]
theorem cPersonNamed {mem : zMem} {pl : Nat} {A N : Int → Int} {w : List Int} (l : lP pl) (v : vP mem pl A) (rn : rN mem pl A N) (o : oP A) (ok : okW w) : f_X5_personNamed pl (pk 32 w) mem = some (nmP A N w, mem) := by
  have o1 := o.1
  have L := l.2.2.2.1
  have e2 := v.1.2.2.2.1
  have hw : wd (pk 32 w) (pk 27 w) := ⟨w, ok, rfl, rfl⟩
  have e : f_X5_personNamed pl (pk 32 w) mem = some (fst1 (fun h => decide (mem (pl + 4) h = pk 32 w)) (A 3).toNat 0, mem) := by
    refine lp_fst (F := fun n i => f_X5_personNamed_0 n pl (pk 32 w) i mem) (fun n i a b => ?_) (fun n => ?_) (by omega) (by omega)
    · show b_X5_personNamed_0 (f_X5_personNamed_0 n) pl (pk 32 w) i mem = _
      unfold b_X5_personNamed_0
      rw [e2, if_neg (by omega), if_neg (by omega), if_pos (show ix (pl + 4) i from ⟨a, by omega⟩), w32_id ⟨by omega, by omega⟩]
      by_cases h : mem (pl + 4) i = pk 32 w
      · rw [if_pos ((zcmp_0 _ _).2 h), if_pos (by simpa using h)]
      · rw [if_neg (fun c => h ((zcmp_0 _ _).1 c)), if_neg (by simpa using h)]
    · show b_X5_personNamed_0 (f_X5_personNamed_0 n) pl (pk 32 w) (A 3) mem = _
      unfold b_X5_personNamed_0
      rw [e2, if_pos (by omega)]
  rw [e]
  unfold nmP
  congr 2
  refine fst1_congr (fun k a b => ?_)
  have := wd_iff (rn.2 k a (by omega)) hw
  rw [Bool.eq_iff_iff, decide_eq_true_eq, decide_eq_true_eq, this]
theorem mFindIn {r : zMem} {q : Nat} {b many x : Int} (lq : sLen q = 11) (h0 : 0 ≤ b) (h1 : 0 ≤ many) (h2 : b + many ≤ 11) : f_X12_findIn q b many x r = some (fst1 (fun k => decide (r q (b + k) = x)) many.toNat 0, r) := by
  refine lp_fst (F := fun n i => f_X12_findIn_0 n q b many x i r) (fun n i a c => ?_) (fun n => ?_) (by omega) (by omega)
  · show b_X12_findIn_0 (f_X12_findIn_0 n) q b many x i r = _
    unfold b_X12_findIn_0
    rw [if_neg (by omega), w32_id (x := b + i) ⟨by omega, by omega⟩, if_pos (show ix q (b + i) from ⟨by omega, by omega⟩), w32_id ⟨by omega, by omega⟩]
    by_cases h : r q (b + i) = x
    · rw [if_pos ((zcmp_0 _ _).2 h), if_pos (by simpa using h)]
    · rw [if_neg (fun c => h ((zcmp_0 _ _).1 c)), if_neg (by simpa using h)]
  · show b_X12_findIn_0 (f_X12_findIn_0 n) q b many x many r = _
    unfold b_X12_findIn_0
    rw [if_pos (by omega)]
/-- a new name is read, by both -/
theorem name_o {T : Int → Int} {n lim p : Int} (ok : okTx T n) (hl : 0 ≤ lim) (h0 : 0 ≤ p) (h1 : p ≤ n) {B N : Int → Int} (o : oD B) {s : Int} (hs : 0 ≤ s ∧ s < 11) :
    (∃ k pl, k ≠ 0 ∧ (∀ m, CU T n lim m p → DR m B N → ∃ m', f_X4_readNewName m = some (0, m') ∧ CF m' k pl ∧ FI m m') ∧ (∀ r, RU T n lim r p → r 141 = B → r 146 = N → ∃ r', f_X12_readNew s r = some (0, r') ∧ RF r' k pl ∧ FJ r r')) ∨
    (∃ w p', okW w ∧ p < p' ∧ p' ≤ n ∧ (∀ m, CU T n lim m p → DR m B N → ∃ m', f_X4_readNewName m = some (1, m') ∧ CU T n lim m' p' ∧ m' 1 7 = pk 32 w ∧ FXF m m') ∧ (∀ r, RU T n lim r p → r 141 = B → r 146 = N → ∃ r', f_X12_readNew s r = some (1, r') ∧ RU T n lim r' p' ∧ r' 141 = B ∧ r' 146 = up N s (pk 27 w) ∧ r' 138 23 = r 138 23 ∧ r' 138 24 = r 138 24 ∧ FJ r r')) := by
  have o1 := o.1.1
  rw [rowA_lo B (i := 0) (by omega), rowA_lo B (i := 1) (by omega), rowA_lo B (i := 2) (by omega), rowA_lo B (i := 3) (by omega), rowA_lo B (i := 4) (by omega)] at o1
  have lr := lexT_r (T := T) (n := n) (lim := lim) hl h0 h1
  have l146 : sLen 146 = 11 := rfl
  have r2 := rowA_lo B (i := 2) (by omega)
  have r3 := rowA_lo B (i := 3) (by omega)
  by_cases g : (lexT T n lim p).2.2.1 = 2 ∧ kno (lexT T n lim p).2.2.2.2 = -1
  · have okw := lr.2.2.2.2.1 g.1
    have pp := lr.2.2.2.1 (by omega)
    have cls : ∀ m, CU T n lim m p → DR m B N → ∃ m2, CT T n lim m2 p ∧ m2 1 7 = pk 32 (lexT T n lim p).2.2.2.2 ∧ FXF m m2 ∧ f_X4_readNewName m = if nmH (rowA B) N (lexT T n lim p).2.2.2.2 = -1 ∧ nmP (rowA B) N (lexT T n lim p).2.2.2.2 = -1 then some (1, m2) else (zbind (f_X6_fail 3 m2) fun y14 m15 => if y14 = 0 then (some (0, m15)) else (some (1, m15))) := by
      intro m c d
      obtain ⟨m2, a1, a2, a3, a4⟩ := (cName1 ok h0 h1 c).1 g
      have d2 : DR m2 B N := DR_f d (fun q x y => a4.1 q (by omega))
      refine ⟨m2, a2, a3, a4, ?_⟩
      have e1 := cHouseNamed (mem := m2) (pl := 28) IL_40.2.2.1 d2.1 d2.2.2 o.1 okw
      have e2 := cPersonNamed (mem := m2) (pl := 28) IL_40.2.2.1 d2.1 d2.2.2 o.1 okw
      unfold f_X4_readNewName
      rw [a1]
      simp only [zbind]
      rw [if_neg (by omega), a3, e1]
      simp only
      rw [a3, e2]
      simp only
      by_cases x1 : nmH (rowA B) N (lexT T n lim p).2.2.2.2 = -1
      · rw [if_pos x1]
        by_cases x2 : nmP (rowA B) N (lexT T n lim p).2.2.2.2 = -1
        · rw [if_pos x2, if_pos ⟨x1, x2⟩]
        · rw [if_neg x2, if_neg (fun c => x2 c.2)]
      · rw [if_neg x1, if_neg (fun c => x1 c.1)]
    have rf : ∀ r, RU T n lim r p → r 141 = B → r 146 = N → f_X12_readNew s r = if nmH (rowA B) N (lexT T n lim p).2.2.2.2 = -1 ∧ nmP (rowA B) N (lexT T n lim p).2.2.2.2 = -1 then (zbind (f_X12_go (zup r 146 s (pk 27 (lexT T n lim p).2.2.2.2))) fun _ m21 => some (1, m21)) else (zbind (f_X12_bad 3 r) fun y22 m23 => if y22 = 0 ∨ y22 = 1 then some (y22, m23) else none) := by
      intro r c hB hN
      have h12 := c.2.2.2.2.1 g.1
      have f1 := mFindIn (r := r) (q := 146) (b := 0) (many := B 2) (x := pk 27 (lexT T n lim p).2.2.2.2) l146 (by omega) (by omega) (by omega)
      have f2 := mFindIn (r := r) (q := 146) (b := 5) (many := B 3) (x := pk 27 (lexT T n lim p).2.2.2.2) l146 (by omega) (by omega) (by omega)
      have g1 : fst1 (fun k => decide (r 146 (0 + k) = pk 27 (lexT T n lim p).2.2.2.2)) (B 2).toNat 0 = nmH (rowA B) N (lexT T n lim p).2.2.2.2 := by
        unfold nmH
        rw [r2, hN]
        refine fst1_congr (fun k _ _ => by rw [Int.zero_add])
      have g2 : fst1 (fun k => decide (r 146 (5 + k) = pk 27 (lexT T n lim p).2.2.2.2)) (B 3).toNat 0 = nmP (rowA B) N (lexT T n lim p).2.2.2.2 := by
        unfold nmP
        rw [r3, hN]
      rw [g1] at f1
      rw [g2] at f2
      unfold f_X12_readNew
      rw [mIsName hl h0 h1 c]
      simp only [zbind, bi0, pipe]
      rw [if_pos g, ix1 (by omega), hB, h12, f1]
      simp only
      rw [ix1 (by omega), hB, h12, f2]
      simp only
      rw [if_pos (show ix 146 s from ⟨hs.1, by omega⟩), h12]
      by_cases x1 : nmH (rowA B) N (lexT T n lim p).2.2.2.2 = -1
      · rw [if_pos x1]
        by_cases x2 : nmP (rowA B) N (lexT T n lim p).2.2.2.2 = -1
        · rw [if_pos x2, if_pos ⟨x1, x2⟩]
        · rw [if_neg x2, if_neg (fun c => x2 c.2)]
      · rw [if_neg x1, if_neg (fun c => x1 c.1)]
    by_cases x : nmH (rowA B) N (lexT T n lim p).2.2.2.2 = -1 ∧ nmP (rowA B) N (lexT T n lim p).2.2.2.2 = -1
    · refine Or.inr ⟨(lexT T n lim p).2.2.2.2, (lexT T n lim p).2.1, okw, pp, lr.2.1, fun m c d => ?_, fun r c hB hN => ?_⟩
      · obtain ⟨m2, a1, a2, a3, a4⟩ := cls m c d
        rw [if_pos x] at a4
        exact ⟨m2, a4, CT_U a1, a2, a3⟩
      · have e := rf r c hB hN
        rw [if_pos x] at e
        obtain ⟨r', b1, b2, b3⟩ := mGoU ok hl h0 h1 (RU_up (q := 146) (i := s) (v := pk 27 (lexT T n lim p).2.2.2.2) c (by omega))
        refine ⟨r', by rw [e, b1]; rfl, b2, by rw [b3.1 141 (by omega), zup_off (by omega), hB], by rw [b3.1 146 (by omega), zup_row, hN], by rw [b3.2 23 (by omega), zup_off (by omega)], by rw [b3.2 24 (by omega), zup_off (by omega)], FJ_t FJ_146 (FYF_J (FY_F b3))⟩
    · refine Or.inl ⟨3, (lexT T n lim p).1, by omega, fun m c d => ?_, fun r c hB hN => ?_⟩
      · obtain ⟨m2, a1, a2, a3, a4⟩ := cls m c d
        obtain ⟨m', b1, b2, b3⟩ := cFail a1 (k := 3) (by omega)
        rw [if_neg x, b1] at a4
        exact ⟨m', by rw [a4]; rfl, b2, FI_t (FXF_I a3) (FXF_I b3)⟩
      · have e := rf r c hB hN
        obtain ⟨r', b1, b2, b3⟩ := mBad c 3
        rw [if_neg (by omega)] at b2
        rw [if_neg x, b1] at e
        exact ⟨r', by rw [e]; simp [zbind], b2, FYF_J b3⟩
  · refine Or.inl ⟨1, (lexT T n lim p).1, by omega, fun m c d => ?_, fun r c hB hN => ?_⟩
    · obtain ⟨m2, a1, a2, a3⟩ := (cName1 ok h0 h1 c).2 g
      refine ⟨m2, ?_, a2, FXF_I a3⟩
      unfold f_X4_readNewName
      rw [a1]
      simp [zbind]
    · obtain ⟨r', b1, b2, b3⟩ := mBad c 1
      have e1 : (if (lexT T n lim p).2.2.1 = 1 then (1 : Int) else 1) = 1 := by split <;> rfl
      rw [e1] at b2
      refine ⟨r', ?_, b2, FYF_J b3⟩
      unfold f_X12_readNew
      rw [mIsName hl h0 h1 c]
      simp only [zbind, bi0]
      rw [if_neg g, b1]
      simp
