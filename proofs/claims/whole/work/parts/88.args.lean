/-! a line of the book: its arguments, by both -/
def vL (A : Int → Int) (a f s : Int) : Prop := (a = 0 ∧ 0 ≤ f ∧ f < A 3 ∧ 0 ≤ s ∧ s ≤ 3) ∨ ((a = 1 ∨ a = 2) ∧ 0 ≤ f ∧ f ≤ 7 ∧ 0 ≤ s ∧ s ≤ 7) ∨ (a = 3 ∧ 0 ≤ f ∧ f < A 2) ∨ (a = 4 ∧ 1 ≤ f ∧ f ≤ 60)
def FE (m m' : zMem) (k : Int) : Prop := (∀ q, q ≠ 1 → q ≠ 47 → q ≠ 48 → m' q = m q) ∧ (∀ i, (i < 4 ∨ 10 < i) → m' 1 i = m 1 i) ∧ ∀ j, j ≠ k → m' 47 j = m 47 j ∧ m' 48 j = m 48 j
def GE (r r' : zMem) (k : Int) : Prop := (∀ q, q ≠ 138 → q ≠ 154 → r' q = r q) ∧ (∀ i, (i < 5 ∨ 13 < i) → r' 138 i = r 138 i) ∧ ∀ i, (i < 3 * k + 1 ∨ 3 * k + 2 < i) → r' 154 i = r 154 i
theorem FE_F {m m' : zMem} {k : Int} (h : FXF m m') : FE m m' k := ⟨fun q a _ _ => h.1 q a, h.2, fun j _ => by rw [h.1 47 (by omega), h.1 48 (by omega)]; exact ⟨rfl, rfl⟩⟩
theorem FE_t {a b c : zMem} {k : Int} (h1 : FE a b k) (h2 : FE b c k) : FE a c k := ⟨fun q x y z => (h2.1 q x y z).trans (h1.1 q x y z), fun i x => (h2.2.1 i x).trans (h1.2.1 i x), fun j x => ⟨(h2.2.2 j x).1.trans (h1.2.2 j x).1, (h2.2.2 j x).2.trans (h1.2.2 j x).2⟩⟩
theorem FE_up {m : zMem} {q : Nat} {k v : Int} (h : q = 47 ∨ q = 48) : FE m (zup m q k v) k := by
  refine ⟨fun q' _ b c => zup_off (by omega), fun i _ => by rw [zup_off (by omega)], fun j hj => ?_⟩
  rcases h with rfl | rfl
  · exact ⟨by rw [zup_same, if_neg hj], by rw [zup_off (by omega)]⟩
  · exact ⟨by rw [zup_off (by omega)], by rw [zup_same, if_neg hj]⟩
theorem GE_F {m m' : zMem} {k : Int} (h : FYF m m') : GE m m' k := ⟨fun q a _ => h.1 q a, h.2, fun j _ => by rw [h.1 154 (by omega)]⟩
theorem GE_t {a b c : zMem} {k : Int} (h1 : GE a b k) (h2 : GE b c k) : GE a c k := ⟨fun q x y => (h2.1 q x y).trans (h1.1 q x y), fun i x => (h2.2.1 i x).trans (h1.2.1 i x), fun j x => (h2.2.2 j x).trans (h1.2.2 j x)⟩
theorem GE_up {m : zMem} {k i v : Int} (h : i = 3 * k + 1 ∨ i = 3 * k + 2) : GE m (zup m 154 i v) k := ⟨fun q' _ b => zup_off b, fun i _ => by rw [zup_off (by omega)], fun j hj => by rw [zup_same, if_neg (by omega)]⟩
def AO (T : Int → Int) (n lim q k a f0 : Int) (A N : Int → Int) (gc gr : zMem → Option (Int × zMem)) : Prop :=
  (∃ kk pl, kk ≠ 0 ∧ (∀ m, CU T n lim m q → PC m A N → m 45 4 = k → ∃ m', gc m = some (0, m') ∧ CF m' kk pl ∧ FE m m' k) ∧ (∀ r, RU T n lim r q → r 140 = A → r 145 = N → ∃ r', gr r = some (0, r') ∧ RF r' kk pl ∧ GE r r' k)) ∨
  (∃ q' f s, q ≤ q' ∧ q' ≤ n ∧ vL A a f s ∧ (∀ m, CU T n lim m q → PC m A N → m 45 4 = k → (a = 0 → m 47 k = f0) → ∃ m', gc m = some (1, m') ∧ CU T n lim m' q' ∧ m' 47 k = f ∧ (a ≤ 2 → m' 48 k = s) ∧ FE m m' k) ∧ (∀ r, RU T n lim r q → r 140 = A → r 145 = N → (a = 0 → r 154 (3 * k + 1) = f0) → r 154 (3 * k + 2) = 0 → ∃ r', gr r = some (1, r') ∧ RU T n lim r' q' ∧ r' 154 (3 * k + 1) = f ∧ r' 154 (3 * k + 2) = s ∧ GE r r' k))
theorem ao_side {T : Int → Int} {n lim q k f0 : Int} {A N : Int → Int} (ok : okTx T n) (hl : 0 ≤ lim) (h0 : 0 ≤ q) (h1 : q ≤ n) (k0 : 0 ≤ k) (k1 : k < 40) (hf : 0 ≤ f0 ∧ f0 < A 3) : AO T n lim q k 0 f0 A N (fun m => zbind (f_X0_readSide m) fun y m' => if y = 0 ∨ y = 1 then some (y, m') else none) (fun r => zbind (f_X12_readSide r) fun y m => f_X12_keep (3 * k + 2) y m) := by
  have lr := lexT_r (T := T) (n := n) (lim := lim) hl h0 h1
  by_cases g : (lexT T n lim q).2.2.1 = 2 ∧ 5 ≤ kno (lexT T n lim q).2.2.2.2 ∧ kno (lexT T n lim q).2.2.2.2 ≤ 8
  · refine Or.inr ⟨(lexT T n lim q).2.1, f0, kno (lexT T n lim q).2.2.2.2 - 5, lr.1, lr.2.1, Or.inl ⟨rfl, hf.1, hf.2, by omega, by omega⟩, fun m a b c d => ?_, fun r a b c d e => ?_⟩
    · obtain ⟨m', x1, x2, x3⟩ := (cSideB ok h0 h1 a c k0 k1).1 g
      refine ⟨zup m' 48 k (kno (lexT T n lim q).2.2.2.2 - 5), ?_, CT_U (CT_up x2 (by omega)), ?_, fun _ => by rw [zup_same, if_pos rfl], FE_t (FE_F x3) (FE_up (Or.inr rfl))⟩
      · show zbind _ _ = _
        rw [x1]
        simp [zbind]
      · rw [zup_off (by omega), x3.1 47 (by omega)]
        exact d rfl
    · obtain ⟨r', x1, x2, x3, x4⟩ := (mSide ok hl h0 h1 a).1 g
      refine ⟨zup r' 154 (3 * k + 2) (kno (lexT T n lim q).2.2.2.2 - 5), ?_, RU_up x2 (by omega), ?_, by rw [zup_same, if_pos rfl], GE_t (GE_F x4) (GE_up (Or.inr rfl))⟩
      · show zbind _ _ = _
        rw [x1]
        simp only [zbind]
        rw [mKeep_1 (by omega), x3]
      · rw [zup_same, if_neg (by omega), x4.1 154 (by omega)]
        exact d rfl
  · refine Or.inl ⟨1, (lexT T n lim q).1, by omega, fun m a b c => ?_, fun r a b c => ?_⟩
    · obtain ⟨m', x1, x2, x3⟩ := (cSideB ok h0 h1 a c k0 k1).2 g
      refine ⟨m', ?_, x2, FE_F x3⟩
      show zbind _ _ = _
      rw [x1]
      simp [zbind]
    · obtain ⟨r', x1, x2, x3⟩ := (mSide ok hl h0 h1 a).2 g
      refine ⟨r', ?_, x2, GE_F x3⟩
      show zbind _ _ = _
      rw [x1]
      simp only [zbind]
      rw [mKeep_0]
theorem ao_number {T : Int → Int} {n lim q k f0 : Int} {A N : Int → Int} (ok : okTx T n) (hl : 0 ≤ lim) (h0 : 0 ≤ q) (h1 : q ≤ n) (k0 : 0 ≤ k) (k1 : k < 40) : AO T n lim q k 4 f0 A N (fun m => zbind (f_X0_readNumber 47 1 60 m) fun y m' => if y = 0 ∨ y = 1 then some (y, m') else none) (fun r => zbind (f_X12_readNumber 1 60 r) fun y m => f_X12_keep (3 * k + 1) y m) := by
  have lr := lexT_r (T := T) (n := n) (lim := lim) hl h0 h1
  by_cases g : (lexT T n lim q).2.2.1 = 3 ∧ 1 ≤ (lexT T n lim q).2.2.2.1 ∧ (lexT T n lim q).2.2.2.1 ≤ 60
  · refine Or.inr ⟨(lexT T n lim q).2.1, (lexT T n lim q).2.2.2.1, 0, lr.1, lr.2.1, Or.inr (Or.inr (Or.inr ⟨rfl, g.2.1, g.2.2⟩)), fun m a b c d => ?_, fun r a b c d e => ?_⟩
    · obtain ⟨m', x1, x2, x3⟩ := (cNumB (lo := 1) (hi := 60) (q := 47) ok hl h0 h1 (by omega) a c k0 k1).1 g
      refine ⟨zup m' 47 k (lexT T n lim q).2.2.2.1, ?_, CT_U (CT_up x2 (by omega)), by rw [zup_same, if_pos rfl], fun h => by omega, FE_t (FE_F x3) (FE_up (Or.inl rfl))⟩
      show zbind _ _ = _
      rw [x1]
      simp [zbind]
    · obtain ⟨r', x1, x2, x3, x4⟩ := (mNumber (lo := 1) (hi := 60) ok hl h0 h1 a).1 g
      refine ⟨zup r' 154 (3 * k + 1) (lexT T n lim q).2.2.2.1, ?_, RU_up x2 (by omega), by rw [zup_same, if_pos rfl], ?_, GE_t (GE_F x4) (GE_up (Or.inl rfl))⟩
      · show zbind _ _ = _
        rw [x1]
        simp only [zbind]
        rw [mKeep_1 (by omega), x3]
      · rw [zup_same, if_neg (by omega), x4.1 154 (by omega)]
        exact e
  · refine Or.inl ⟨if (lexT T n lim q).2.2.1 = 3 then 2 else 1, (lexT T n lim q).1, by split <;> omega, fun m a b c => ?_, fun r a b c => ?_⟩
    · obtain ⟨m', x1, x2, x3⟩ := (cNumB (lo := 1) (hi := 60) (q := 47) ok hl h0 h1 (by omega) a c k0 k1).2 g
      refine ⟨m', ?_, x2, FE_F x3⟩
      show zbind _ _ = _
      rw [x1]
      simp [zbind]
    · obtain ⟨r', x1, x2, x3⟩ := (mNumber (lo := 1) (hi := 60) ok hl h0 h1 a).2 g
      refine ⟨r', ?_, x2, GE_F x3⟩
      show zbind _ _ = _
      rw [x1]
      simp only [zbind]
      rw [mKeep_0]
theorem ao_house {T : Int → Int} {n lim q k f0 : Int} {A N : Int → Int} (ok : okTx T n) (hl : 0 ≤ lim) (h0 : 0 ≤ q) (h1 : q ≤ n) (k0 : 0 ≤ k) (k1 : k < 40) (o : oP A) : AO T n lim q k 3 f0 A N (fun m => zbind (f_X0_readHouse 4 m) fun y m' => if y = 0 ∨ y = 1 then some (y, m') else none) (fun r => zbind (f_X12_readNamed 0 (r 140 2) r) fun y m => f_X12_keep (3 * k + 1) y m) := by
  have lr := lexT_r (T := T) (n := n) (lim := lim) hl h0 h1
  have o1 := o.1
  by_cases g : (lexT T n lim q).2.2.1 = 2 ∧ kno (lexT T n lim q).2.2.2.2 = -1 ∧ nmH A N (lexT T n lim q).2.2.2.2 ≠ -1
  · have hr := nmH_r (A := A) (N := N) (w := (lexT T n lim q).2.2.2.2) (by omega)
    refine Or.inr ⟨(lexT T n lim q).2.1, nmH A N (lexT T n lim q).2.2.2.2, 0, lr.1, lr.2.1, Or.inr (Or.inr (Or.inl ⟨rfl, by omega, by omega⟩)), fun m a b c d => ?_, fun r a b c d e => ?_⟩
    · obtain ⟨m', x1, x2, x3⟩ := (cHouseB ok hl h0 h1 a b c k0 k1).1 g
      refine ⟨zup m' 47 k (nmH A N (lexT T n lim q).2.2.2.2), ?_, CT_U (CT_up x2 (by omega)), by rw [zup_same, if_pos rfl], fun h => by omega, FE_t (FE_F x3) (FE_up (Or.inl rfl))⟩
      show zbind _ _ = _
      rw [x1]
      simp [zbind]
    · obtain ⟨r', x1, x2, x3, x4⟩ := (mNamed ok hl h0 h1 a c o).1 g
      refine ⟨zup r' 154 (3 * k + 1) (nmH A N (lexT T n lim q).2.2.2.2), ?_, RU_up x2 (by omega), by rw [zup_same, if_pos rfl], ?_, GE_t (GE_F x4) (GE_up (Or.inl rfl))⟩
      · show zbind (f_X12_readNamed 0 (r 140 2) r) _ = _
        rw [b, x1]
        simp only [zbind]
        rw [mKeep_1 (by omega), x3]
      · rw [zup_same, if_neg (by omega), x4.1 154 (by omega)]
        exact e
  · refine Or.inl ⟨if (lexT T n lim q).2.2.1 = 2 ∧ kno (lexT T n lim q).2.2.2.2 = -1 then 3 else 1, (lexT T n lim q).1, by split <;> omega, fun m a b c => ?_, fun r a b c => ?_⟩
    · obtain ⟨m', m2, x1, x2, x3, x4⟩ := (cHouseB ok hl h0 h1 a b c k0 k1).2 g
      refine ⟨m', ?_, x2, ?_⟩
      · show zbind _ _ = _
        rw [x1]
        simp [zbind]
      · rcases x3 with rfl | ⟨m3, v, rfl, x5⟩
        · exact FE_F x4
        · exact FE_t (FE_F x5) (FE_t (FE_up (Or.inl rfl)) (FE_F x4))
    · obtain ⟨r', x1, x2, x3⟩ := (mNamed ok hl h0 h1 a c o).2 g
      refine ⟨r', ?_, x2, GE_F x3⟩
      show zbind (f_X12_readNamed 0 (r 140 2) r) _ = _
      rw [b, x1]
      simp only [zbind]
      rw [mKeep_0]
