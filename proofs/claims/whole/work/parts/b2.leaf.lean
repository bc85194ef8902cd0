/-! what comes of reading a piece of a sentence, by both -/
def SO (T : Int → Int) (n lim : Int) (A : Int → Int) (p o z : Int) (B D X : Int → Int) (w : Int) (Pc Pr : zMem → Prop) (fc fr : zMem → Option (Int × zMem)) : Prop :=
  (∃ kk pl, kk ≠ 0 ∧ (∀ m, Pc m → ∃ m', fc m = some (0, m') ∧ CG m' kk pl ∧ FS m m') ∧ (∀ r, Pr r → ∃ r', fr r = some (0, r') ∧ RF r' kk pl ∧ GS r r')) ∨
  (∃ (p' o' z' : Int) (B' D' X' : Int → Int) (nl : Nat), (p < p' ∧ p' ≤ n ∧ o < o' ∧ o' ≤ 20 ∧ z < z' ∧ z' - z ≤ 2 * (o' - o) - 1 ∧ (nl : Int) ≤ o' - o) ∧ (∀ q, q < z → B' q = B q ∧ D' q = D q) ∧ (∀ q, q < 4 * z → X' q = X q) ∧ Tr B' D' X' (A 2) (z' - z).toNat z z' nl ∧ (∀ m, Pc m → ∃ m', fc m = some (1, m') ∧ CT T n lim m' p' ∧ CS m' o' z' B' D' ∧ FS m m') ∧ (∀ r, Pr r → ∃ r', fr r = some (1, r') ∧ RU T n lim r' p' ∧ RS r' z' o' w X' ∧ r' 138 46 = z' - 1 ∧ GS r r'))
def PcT (T : Int → Int) (n lim p o z : Int) (B D A N : Int → Int) (m : zMem) : Prop := CT T n lim m p ∧ PC m A N ∧ CS m o z B D
def PrT (T : Int → Int) (n lim p z o w : Int) (X A N : Int → Int) (r : zMem) : Prop := RU T n lim r p ∧ r 140 = A ∧ r 145 = N ∧ RS r z o w X
/-- the class behind the last word of a leaf: one part more, one step -/
theorem cLast {T : Int → Int} {n lim p o z : Int} {m : zMem} {B D : Int → Int} (ok : okTx T n) (hl : 0 ≤ lim) (h0 : 0 ≤ p) (h1 : p ≤ n) (x y : Int) (c : CT T n lim m p) (s : CS m o z B D) (z0 : 0 ≤ z) (z1 : z < 40) : ∃ m1 m2, f_X8_add 49 x y m = some (0, m1) ∧ f_X6_step m1 = some (0, m2) ∧ CT T n lim m2 (lexT T n lim p).2.1 ∧ CS m2 o (z + 1) (up B z x) (up D z y) ∧ FS m m2 := by
  have lr := lexT_r (T := T) (n := n) (lim := lim) hl h0 h1
  obtain ⟨m1, a1, a2, a3, a4⟩ := cAddE x y c s z0 z1
  obtain ⟨m2, b1, b2, b3⟩ := cStepU ok (by omega) lr.2.1 (CT_U a2)
  exact ⟨m1, m2, a1, b1, b2, CS_F a3 b3, FS_t a4 (FXF_S b3)⟩
theorem leaf_word {T : Int → Int} {n lim p o z w : Int} {B D X A N : Int → Int} (ok : okTx T n) (hl : 0 ≤ lim) (h0 : 0 ≤ p) (h1 : p ≤ n) (hp : p < (lexT T n lim p).2.1) (o0 : 0 ≤ o) (o1 : o < 20) (z0 : 0 ≤ z) (z1 : z < 40) {v : Int} (hv : 16 ≤ v ∧ v ≤ 18) : SO T n lim A p o z B D X (w + 1) (PcT T n lim p (o + 1) z B D A N) (PrT T n lim (lexT T n lim p).2.1 z (o + 1) (w + 1) X A N) (fun m => zbind (f_X8_add 49 v 0 m) fun _ m20 => zbind (f_X6_step m20) fun _ m22 => some (1, m22)) (fun r => zbind (f_X12_saysOne (w32 (50 + v)) 0 0 0 r) fun y30 m31 => pipe (zup m31 138 46 y30) fun m32 => some (1, m32)) := by
  have lr := lexT_r (T := T) (n := n) (lim := lim) hl h0 h1
  refine Or.inr ⟨(lexT T n lim p).2.1, o + 1, z + 1, up B z v, up D z 0, up4 X (4 * z) (50 + v) 0 0 0, 1, ⟨hp, lr.2.1, by omega, by omega, by omega, by omega, by omega⟩, fun q hq => ⟨up_ne (by omega), up_ne (by omega)⟩, fun q hq => up4_off hq, ?_, ?_, ?_⟩
  · rw [show (z + 1 - z).toNat = 1 by omega]
    refine ⟨⟨z0, by omega, by omega, by omega⟩, Or.inr (Or.inr ⟨rfl, rfl, Or.inl ⟨v, hv.1, hv.2, (up4_at _ _ _ _ _ _).1, up_eq _ _ _⟩⟩)⟩
  · rintro m ⟨c, pc, s⟩
    obtain ⟨m1, m2, a1, a2, a3, a4, a5⟩ := cLast ok hl h0 h1 v 0 c s z0 z1
    refine ⟨m2, ?_, a3, a4, a5⟩
    simp only [a1, zbind, a2]
  · rintro r ⟨u, eA, eN, s⟩
    obtain ⟨r1, a1, a2, a3, a4, a5⟩ := mSays (w32 (50 + v)) 0 0 0 u s z0 z1
    rw [w32_id (x := 50 + v) ⟨by omega, by omega⟩] at a1 a3
    refine ⟨zup r1 138 46 z, ?_, RU_F a2 (by omega), ?_, by rw [zup_same, if_pos rfl]; omega, GS_t a5 (GS_up (by omega))⟩
    · dsimp only
      rw [w32_id (x := 50 + v) ⟨by omega, by omega⟩, a1]
      rfl
    · unfold RS
      rw [zup_same, if_neg (by omega), zup_same, if_neg (by omega), zup_same, if_neg (by omega), zup_off (by omega)]
      exact a3
theorem leaf_of {T : Int → Int} {n lim p o z w : Int} {B D X A N : Int → Int} (ok : okTx T n) (hl : 0 ≤ lim) (h0 : 0 ≤ p) (h1 : p ≤ n) (hp : p < (lexT T n lim p).2.1) (oA : oP A) (o0 : 0 ≤ o) (o1 : o < 20) (z0 : 0 ≤ z) (z1 : z < 40) : SO T n lim A p o z B D X (w + 1) (PcT T n lim p (o + 1) z B D A N) (PrT T n lim (lexT T n lim p).2.1 z (o + 1) (w + 1) X A N) (fun m => zbind (f_X8_readHouse 49 4 m) fun y15 m16 => if y15 = 0 then (if y15 = 0 ∨ y15 = 1 then some (y15, m16) else none) else (zbind (f_X6_step m16) fun _ m18 => if y15 = 0 ∨ y15 = 1 then some (y15, m18) else none)) (fun r => f_X12_readOf 19 r) := by
  have lr := lexT_r (T := T) (n := n) (lim := lim) hl h0 h1
  generalize hq : (lexT T n lim p).2.1 = q at hp lr ⊢
  have q0 : 0 ≤ q := by omega
  have q1 : q ≤ n := lr.2.1
  have lq := lexT_r (T := T) (n := n) (lim := lim) hl q0 q1
  have ho1 := oA.1
  have rH : ∀ r, r 140 = A → f_X12_readOf 19 r = zbind (zbind (f_X12_readNamed 0 (A 2) r) fun y3 m4 => if y3 = 0 ∨ y3 = 1 then some (y3, m4) else none) fun y1 m2 => if y1 = 0 then (some (0, m2)) else (zbind (f_X12_saysOne (w32 (50 + 19)) (m2 138 13) 0 0 m2) fun y5 m6 => pipe (zup m6 138 46 y5) fun m7 => some (1, m7)) := by
    intro r e
    unfold f_X12_readOf f_X12_readHouseName
    rw [ixl (by omega), e]
  by_cases g : (lexT T n lim q).2.2.1 = 2 ∧ kno (lexT T n lim q).2.2.2.2 = -1
  · have hw := lq.2.2.2.2.1 g.1
    by_cases hh : nmH A N (lexT T n lim q).2.2.2.2 = -1
    · refine Or.inl ⟨3, (lexT T n lim q).1, by omega, ?_, ?_⟩
      · rintro m ⟨c, pc, s⟩
        have cu := CT_U c
        rw [hq] at cu
        obtain ⟨m2, a1, a2, a3, a4⟩ := (cName1 ok q0 q1 cu).1 g
        have pc2 : PC m2 A N := PC_f pc (fun q a b => a4.1 q (by omega))
        obtain ⟨m3, b1, b2, b3, b4⟩ := cAddE 19 (-1) a2 (CS_F s a4) z0 z1
        obtain ⟨m4, d1, d2, d3⟩ := cFail b2 (k := 3) (by omega)
        refine ⟨m4, ?_, CG_F b3 d3 (by omega) d2, FS_t (FXF_S a4) (FS_t b4 (FXF_S d3))⟩
        dsimp only
        unfold f_X8_readHouse
        rw [a1]
        simp only [zbind]
        rw [if_neg (by omega), a3, cHouseNamed lP_4 pc2.2.1 pc2.2.2 pc2.1 hw, hh]
        simp only [b1]
        rw [if_pos trivial, d1]
        simp
      · rintro r ⟨u, eA, eN, s⟩
        obtain ⟨r', a1, a2, a3⟩ := (mNamed ok hl q0 q1 u eN oA).2 (fun h => h.2.2 hh)
        rw [if_pos g] at a2
        refine ⟨r', ?_, a2, FYF_S a3⟩
        dsimp only
        rw [rH r eA, a1]
        simp [zbind]
    · have hr := nmH_r (A := A) (N := N) (w := (lexT T n lim q).2.2.2.2) (by omega)
      generalize hx : nmH A N (lexT T n lim q).2.2.2.2 = x at hh hr
      refine Or.inr ⟨(lexT T n lim q).2.1, o + 1, z + 1, up B z 19, up D z x, up4 X (4 * z) 69 x 0 0, 1, ⟨by omega, lq.2.1, by omega, by omega, by omega, by omega, by omega⟩, fun q hq => ⟨up_ne (by omega), up_ne (by omega)⟩, fun q hq => up4_off hq, ?_, ?_, ?_⟩
      · rw [show (z + 1 - z).toNat = 1 by omega]
        obtain ⟨u1, u2, u3, u4⟩ := up4_at X (4 * z) 69 x 0 0
        refine ⟨⟨z0, by omega, by omega, by omega⟩, Or.inr (Or.inr ⟨rfl, rfl, Or.inr (Or.inl ⟨u1, up_eq _ _ _, by rw [u2, up_eq], by rw [up_eq]; omega, by rw [up_eq]; omega⟩)⟩)⟩
      · rintro m ⟨c, pc, s⟩
        have cu := CT_U c
        rw [hq] at cu
        obtain ⟨m2, a1, a2, a3, a4⟩ := (cName1 ok q0 q1 cu).1 g
        have pc2 : PC m2 A N := PC_f pc (fun q a b => a4.1 q (by omega))
        obtain ⟨m3, m4, b1, b2, b3, b4, b5⟩ := cLast ok hl q0 q1 19 x a2 (CS_F s a4) z0 z1
        refine ⟨m4, ?_, b3, b4, FS_t (FXF_S a4) b5⟩
        dsimp only
        unfold f_X8_readHouse
        rw [a1]
        simp only [zbind]
        rw [if_neg (by omega), a3, cHouseNamed lP_4 pc2.2.1 pc2.2.2 pc2.1 hw, hx]
        simp only [b1]
        rw [if_neg hh]
        simp [b2]
      · rintro r ⟨u, eA, eN, s⟩
        obtain ⟨r', a1, a2, a3, a4⟩ := (mNamed ok hl q0 q1 u eN oA).1 ⟨g.1, g.2, by rw [hx]; exact hh⟩
        obtain ⟨r1, b1, b2, b3, b4, b5⟩ := mSays (w32 (50 + 19)) x 0 0 a2 (RS_F s a4) z0 z1
        have e69 : w32 (50 + 19) = 69 := w32_id ⟨by omega, by omega⟩
        rw [e69] at b1 b3
        refine ⟨zup r1 138 46 z, ?_, RU_F b2 (by omega), ?_, by rw [zup_same, if_pos rfl]; omega, GS_t (FYF_S a4) (GS_t b5 (GS_up (by omega)))⟩
        · dsimp only
          rw [rH r eA, a1]
          simp only [zbind, or_true, ↓reduceIte]
          rw [if_neg (by omega), a3, hx, e69, b1]
          rfl
        · unfold RS
          rw [zup_same, if_neg (by omega), zup_same, if_neg (by omega), zup_same, if_neg (by omega), zup_off (by omega)]
          exact b3
  · refine Or.inl ⟨1, (lexT T n lim q).1, by omega, ?_, ?_⟩
    · rintro m ⟨c, pc, s⟩
      have cu := CT_U c
      rw [hq] at cu
      obtain ⟨m2, a1, a2, a3⟩ := (cName1 ok q0 q1 cu).2 g
      refine ⟨m2, ?_, CG_F s a3 z0 a2, FXF_S a3⟩
      dsimp only
      unfold f_X8_readHouse
      rw [a1]
      simp [zbind]
    · rintro r ⟨u, eA, eN, s⟩
      obtain ⟨r', a1, a2, a3⟩ := (mNamed ok hl q0 q1 u eN oA).2 (fun h => g ⟨h.1, h.2.1⟩)
      rw [if_neg g] at a2
      refine ⟨r', ?_, a2, FYF_S a3⟩
      dsimp only
      rw [rH r eA, a1]
      simp [zbind]
