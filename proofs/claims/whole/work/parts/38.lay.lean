/-! laying, tearing -/
def wLay (A : Int → Int) (c : Int) : Int := if hAt A c = -1 then (if pAt A c = 0 then (if A (128 + c) = 9 then 3 else 0) else 2) else 1
def layA (A : Int → Int) (c : Int) : Int → Int := up (up A (128 + c) (A (128 + c) + 1)) 110 (w32 (A 110 + 1))
def wTear (A : Int → Int) (c : Int) : Int := if A (128 + c) = 0 then 1 else 0
def tearA (A : Int → Int) (c : Int) : Int → Int := up A (128 + c) (A (128 + c) - 1)
theorem mWhyLay {mem : zMem} (o : oP (mem 140)) {c : Int} (h0 : 0 ≤ c) (h1 : c < 64) : f_X12_whyLay c mem = some (wLay (mem 140) c, mem) := by
  have o1 := o.1
  have L := l140
  unfold f_X12_whyLay wLay
  rw [mHouseAt o]
  simp only [zbind, mPersonsAt o]
  simp (disch := omega) only [↓reduceIte, if_pos, w32_id]
  by_cases a : hAt (mem 140) c = -1
  · by_cases b : pAt (mem 140) c = 0
    · simp only [a, b, ↓reduceIte]
      split <;> rfl
    · simp only [a, b, ↓reduceIte]
  · simp only [a, ↓reduceIte]
theorem cWhyNotLay {mem : zMem} {t pl sc : Nat} {A : Int → Int} (I : IL t pl sc) (v : vP mem pl A) (w : vS mem sc A) (o : oP A) (os : oS A) {c : Int} (h0 : 0 ≤ c) (h1 : c < 64) : f_X3_whyNotLay t c mem = some (wLay A c, mem) := by
  have o1 := o.1
  have I' := I
  obtain ⟨I1, I2, lp, ls⟩ := I
  unfold f_X3_whyNotLay wLay
  rw [I1, cHouseOn lp v o]
  simp only [zbind, cPersonsOn I' v w o, cHeightAt I' v w o h0 h1]
  have hs := os.2.2.1 c h0 h1
  by_cases a : hAt A c = -1
  · by_cases b : pAt A c = 0
    · simp only [a, b, ↓reduceIte]
      have e : htA A c = A (128 + c) := by unfold htA; rw [if_pos a]
      rw [e]
      by_cases d : A (128 + c) = 9
      · simp (disch := omega) only [↓reduceIte, if_pos, if_neg]
      · simp (disch := omega) only [↓reduceIte, if_pos, if_neg]
    · simp only [a, b, ↓reduceIte]
  · simp only [a, ↓reduceIte]
theorem mLay {mem : zMem} (os : oS (mem 140)) {c : Int} (y : Int) (h0 : 0 ≤ c) (h1 : c < 64) : f_X12_live 1 c y mem = some (0, set140 mem (layA (mem 140) c)) := by
  have L := l140
  have hs := os.2.2.1 c h0 h1
  unfold f_X12_live layA
  simp (disch := omega) only [↓reduceIte, if_pos, if_neg, w32_id, zbind, pipe, zup_140, set140_at, set140_2, up_ne, Int.reduceEq]
theorem mTear {mem : zMem} (os : oS (mem 140)) {c : Int} (y : Int) (h0 : 0 ≤ c) (h1 : c < 64) : f_X12_live 2 c y mem = some (0, set140 mem (tearA (mem 140) c)) := by
  have L := l140
  have hs := os.2.2.1 c h0 h1
  unfold f_X12_live tearA
  simp (disch := omega) only [↓reduceIte, if_pos, if_neg, w32_id, zbind, pipe, zup_140, Int.reduceEq]
theorem cWhyNotTear {mem : zMem} {t pl sc : Nat} {A : Int → Int} (I : IL t pl sc) (w : vS mem sc A) (os : oS A) {c : Int} (h0 : 0 ≤ c) (h1 : c < 64) : f_X3_whyNotTear t c mem = some (wTear A c, mem) := by
  obtain ⟨I1, I2, lp, ls⟩ := I
  have L := ls.1
  have hs := os.2.2.1 c h0 h1
  unfold f_X3_whyNotTear wTear
  rw [I2, w.2.1 c h0 h1]
  by_cases d : A (128 + c) = 0
  · simp (disch := omega) only [↓reduceIte, if_pos, if_neg]
  · simp (disch := omega) only [↓reduceIte, if_pos, if_neg]
theorem cLayStone {mem : zMem} {t pl sc : Nat} {A : Int → Int} (I : IL t pl sc) (w : vS mem sc A) (o : oP A) (os : oS A) {c : Int} (h0 : 0 ≤ c) (h1 : c < 64) : ∃ m', f_X3_layStone t c mem = some (0, m') ∧ vS m' sc (layA A c) ∧ onlyS mem m' sc := by
  have o1 := o.1
  obtain ⟨I1, I2, lp, ls⟩ := I
  have L := ls.1
  have hs := os.2.2.1 c h0 h1
  unfold f_X3_layStone
  rw [I2, w.2.1 c h0 h1]
  simp (disch := omega) only [↓reduceIte, if_pos, if_neg, pipe, w32_id (x := A (128 + c) + 1)]
  refine ⟨_, rfl, ?_, onlyS_t (onlyS_up (by omega)) (onlyS_up (by omega))⟩
  have w1 := w.1
  have e2 : layA A c 2 = A 2 := by unfold layA; simp (disch := omega) only [up_ne]
  have e3 : layA A c 3 = A 3 := by unfold layA; simp (disch := omega) only [up_ne]
  refine ⟨?_, ?_, ?_, ?_, ?_⟩
  · unfold layA
    simp (disch := omega) only [zup_same, zup_off, up_eq, up_ne, ↓reduceIte, Int.reduceEq, w1, and_self]
  · intro q h0 h1
    unfold layA
    rw [zup_off (by omega), zup_same, up_ne (by omega), w.2.1 q h0 h1]
    unfold up
    by_cases hq : q = c
    · simp [hq]
    · rw [if_neg hq, if_neg (by omega)]
  · intro q h0 h1
    rw [e3] at h1
    unfold layA
    simp (disch := omega) only [zup_off, up_ne]
    exact w.2.2.1 q h0 h1
  · intro q h0 h1
    unfold layA
    simp (disch := omega) only [zup_off, up_ne]
    exact w.2.2.2.1 q h0 h1
  · intro q h0 h1
    rw [e2] at h1
    unfold layA
    simp (disch := omega) only [zup_off, up_ne]
    exact w.2.2.2.2 q h0 h1
theorem cTearStone {mem : zMem} {t pl sc : Nat} {A : Int → Int} (I : IL t pl sc) (w : vS mem sc A) (o : oP A) (os : oS A) {c : Int} (h0 : 0 ≤ c) (h1 : c < 64) : ∃ m', f_X3_tearStone t c mem = some (0, m') ∧ vS m' sc (tearA A c) ∧ onlyS mem m' sc := by
  have o1 := o.1
  obtain ⟨I1, I2, lp, ls⟩ := I
  have L := ls.1
  have hs := os.2.2.1 c h0 h1
  unfold f_X3_tearStone
  rw [I2, w.2.1 c h0 h1]
  simp (disch := omega) only [↓reduceIte, if_pos, if_neg, pipe, w32_id (x := A (128 + c) - 1)]
  refine ⟨_, rfl, ?_, onlyS_up (by omega)⟩
  have w1 := w.1
  have e2 : tearA A c 2 = A 2 := by unfold tearA; simp (disch := omega) only [up_ne]
  have e3 : tearA A c 3 = A 3 := by unfold tearA; simp (disch := omega) only [up_ne]
  refine ⟨?_, ?_, ?_, ?_, ?_⟩
  · unfold tearA
    simp (disch := omega) only [zup_off, up_ne, w1, and_self]
  · intro q h0 h1
    unfold tearA
    rw [zup_same, w.2.1 q h0 h1]
    unfold up
    by_cases hq : q = c
    · simp [hq]
    · rw [if_neg hq, if_neg (by omega)]
  · intro q h0 h1
    rw [e3] at h1
    unfold tearA
    simp (disch := omega) only [zup_off, up_ne]
    exact w.2.2.1 q h0 h1
  · intro q h0 h1
    unfold tearA
    simp (disch := omega) only [zup_off, up_ne]
    exact w.2.2.2.1 q h0 h1
  · intro q h0 h1
    rw [e2] at h1
    unfold tearA
    simp (disch := omega) only [zup_off, up_ne]
    exact w.2.2.2.2 q h0 h1
/-! burying -/
def wBury (A : Int → Int) (h : Int) : Int := if zand (zshr (A 107) h) 1 = 1 then 1 else 0
theorem cWhyNotBury {mem : zMem} {t pl sc : Nat} {A : Int → Int} (I : IL t pl sc) (w : vS mem sc A) (h : Int) : f_X3_whyNotBury t h mem = some (wBury A h, mem) := by
  obtain ⟨I1, I2, lp, ls⟩ := I
  unfold f_X3_whyNotBury f_X7_isBuried wBury
  rw [I2, w.1.1]
  by_cases e : zand (zshr (A 107) h) 1 = 1
  · simp [zbind, e]
  · simp [zbind, e]
theorem mIsBuried (mem : zMem) (h : Int) : f_X12_isBuried h mem = some (wBury (mem 140) h, mem) := by
  have L := l140
  unfold f_X12_isBuried f_X12_has wBury
  simp (disch := omega) only [↓reduceIte, if_pos]
  by_cases e : zand (zshr (mem 140 107) h) 1 = 1
  · simp [zbind, e]
  · simp [zbind, e]
/-- each heir of a set has so much more -/
def addW (A : Int → Int) (S e : Int) : Nat → Int → Int → Int
  | 0, _ => A
  | r + 1, i => addW (if zand (zshr S i) 1 = 1 then up A (122 + i) (w32 (A (122 + i) + e)) else A) S e r (i + 1)
theorem addW_s (A : Int → Int) (S e : Int) (r : Nat) (i : Int) : addW A S e (r + 1) i = addW (if zand (zshr S i) 1 = 1 then up A (122 + i) (w32 (A (122 + i) + e)) else A) S e r (i + 1) := rfl
theorem addW_off {A : Int → Int} {S e : Int} {r : Nat} {i j : Int} (h0 : 0 ≤ i) (h1 : i + r ≤ 6) (h : j < 122 ∨ 127 < j) : addW A S e r i j = A j := by
  induction r generalizing A i with
  | zero => rfl
  | succ r ih =>
    rw [addW_s, ih (by omega) (by omega)]
    split
    · rw [up_ne (by omega)]
    · rfl
def finB (B : Int → Int) (h k e : Int) : Int → Int := up (up (up B 108 (w32 (B 108 + w32 (B (111 + h) - w32 (e * k))))) (111 + h) 0) 107 (zor (B 107) (zshl 1 h))
theorem vS_w {mem : zMem} {sc : Nat} {A : Int → Int} (w : vS mem sc A) (h5 : A 2 ≤ 5) (h6 : A 3 ≤ 6) {i : Int} (v : Int) (h0 : 0 ≤ i) (h1 : i < 6) : vS (zup mem (sc + 3) i v) sc (up A (122 + i) v) := by
  have w1 := w.1
  have e2 : up A (122 + i) v 2 = A 2 := up_ne (by omega)
  have e3 : up A (122 + i) v 3 = A 3 := up_ne (by omega)
  refine ⟨?_, ?_, ?_, ?_, ?_⟩
  · simp (disch := omega) only [zup_off, up_ne, w1, and_self]
  · intro q a b
    simp (disch := omega) only [zup_off, up_ne]
    exact w.2.1 q a b
  · intro q a b
    rw [e3] at b
    simp (disch := omega) only [zup_off, up_ne]
    exact w.2.2.1 q a b
  · intro q a b
    rw [zup_same, w.2.2.2.1 q a b]
    unfold up
    by_cases hq : q = i
    · simp [hq]
    · rw [if_neg hq, if_neg (by omega)]
  · intro q a b
    rw [e2] at b
    simp (disch := omega) only [zup_off, up_ne]
    exact w.2.2.2.2 q a b
theorem vS_g {mem : zMem} {sc : Nat} {A : Int → Int} (w : vS mem sc A) (h5 : A 2 ≤ 5) (h6 : A 3 ≤ 6) {i : Int} (v : Int) (h0 : 0 ≤ i) (h1 : i < 5) : vS (zup mem (sc + 4) i v) sc (up A (111 + i) v) := by
  have w1 := w.1
  have e2 : up A (111 + i) v 2 = A 2 := up_ne (by omega)
  have e3 : up A (111 + i) v 3 = A 3 := up_ne (by omega)
  refine ⟨?_, ?_, ?_, ?_, ?_⟩
  · simp (disch := omega) only [zup_off, up_ne, w1, and_self]
  · intro q a b
    simp (disch := omega) only [zup_off, up_ne]
    exact w.2.1 q a b
  · intro q a b
    rw [e3] at b
    simp (disch := omega) only [zup_off, up_ne]
    exact w.2.2.1 q a b
  · intro q a b
    simp (disch := omega) only [zup_off, up_ne]
    exact w.2.2.2.1 q a b
  · intro q a b
    rw [e2] at b
    rw [zup_same, w.2.2.2.2 q a b]
    unfold up
    by_cases hq : q = i
    · simp [hq]
    · rw [if_neg hq, if_neg (by omega)]
theorem vS_f {mem : zMem} {sc : Nat} {A : Int → Int} (w : vS mem sc A) (h5 : A 2 ≤ 5) (h6 : A 3 ≤ 6) {i j : Int} (v : Int) (hij : (i = 4 ∧ j = 107) ∨ (i = 5 ∧ j = 106) ∨ (i = 6 ∧ j = 108) ∨ (i = 7 ∧ j = 109) ∨ (i = 8 ∧ j = 110)) : vS (zup mem sc i v) sc (up A j v) := by
  have w1 := w.1
  have e2 : up A j v 2 = A 2 := up_ne (by omega)
  have e3 : up A j v 3 = A 3 := up_ne (by omega)
  refine ⟨?_, ?_, ?_, ?_, ?_⟩
  · rcases hij with ⟨rfl, rfl⟩ | ⟨rfl, rfl⟩ | ⟨rfl, rfl⟩ | ⟨rfl, rfl⟩ | ⟨rfl, rfl⟩ <;> simp (disch := omega) only [zup_same, up_eq, up_ne, ↓reduceIte, Int.reduceEq, w1, and_self]
  · intro q a b
    simp (disch := omega) only [zup_off, up_ne]
    exact w.2.1 q a b
  · intro q a b
    rw [e3] at b
    simp (disch := omega) only [zup_off, up_ne]
    exact w.2.2.1 q a b
  · intro q a b
    simp (disch := omega) only [zup_off, up_ne]
    exact w.2.2.2.1 q a b
  · intro q a b
    rw [e2] at b
    simp (disch := omega) only [zup_off, up_ne]
    exact w.2.2.2.2 q a b
theorem cBury_l {t pl sc : Nat} (I : IL t pl sc) {h S k e : Int} (hh : 0 ≤ h ∧ h < 5) : ∀ (r : Nat) (i : Int) (n : Nat) (mem : zMem) (A : Int → Int), vS mem sc A → A 2 ≤ 5 → A 3 ≤ 6 → h < A 2 → 0 ≤ i → i + r = 6 → r < n → ∃ m', f_X3_buryHouse_0 n t h S k e i mem = some (0, m') ∧ vS m' sc (finB (addW A S e r i) h k e) ∧ onlyS mem m' sc := by
  obtain ⟨I1, I2, lp, ls⟩ := I
  have L3 := ls.2.2.1
  have L4 := ls.2.2.2
  intro r
  induction r with
  | zero =>
    intro i n mem A w h5 h6 h2 h0 h1 hn
    obtain ⟨n, rfl⟩ : ∃ k, n = k + 1 := ⟨n - 1, by omega⟩
    have u : f_X3_buryHouse_0 (n + 1) t h S k e i mem = b_X3_buryHouse_0 (f_X3_buryHouse_0 n) t h S k e i mem := rfl
    rw [u]
    unfold b_X3_buryHouse_0
    rw [I2, w.1.2.2.1, w.2.2.2.2 h hh.1 h2]
    simp (disch := omega) only [↓reduceIte, if_pos, pipe]
    refine ⟨_, rfl, ?_, onlyS_t (onlyS_t (onlyS_up (by omega)) (onlyS_up (by omega))) (onlyS_up (by omega))⟩
    have w1 := vS_f w h5 h6 (i := 6) (j := 108) (w32 (A 108 + w32 (A (111 + h) - w32 (e * k)))) (by omega)
    have w2 := vS_g w1 (by rw [up_ne (by omega)]; exact h5) (by rw [up_ne (by omega)]; exact h6) (i := h) 0 hh.1 hh.2
    have w3 := vS_f w2 (by rw [up_ne (by omega), up_ne (by omega)]; exact h5) (by rw [up_ne (by omega), up_ne (by omega)]; exact h6) (i := 4) (j := 107) (zor (A 107) (zshl 1 h)) (by omega)
    have e1 : zup (zup mem sc 6 (w32 (A 108 + w32 (A (111 + h) - w32 (e * k))))) (sc + 4) h 0 sc 4 = A 107 := by
      rw [zup_off (by omega), zup_same, if_neg (by omega)]
      exact w.1.1
    rw [e1]
    exact w3
  | succ r ih =>
    intro i n mem A w h5 h6 h2 h0 h1 hn
    obtain ⟨n, rfl⟩ : ∃ k, n = k + 1 := ⟨n - 1, by omega⟩
    have u : f_X3_buryHouse_0 (n + 1) t h S k e i mem = b_X3_buryHouse_0 (f_X3_buryHouse_0 n) t h S k e i mem := rfl
    rw [u]
    unfold b_X3_buryHouse_0
    rw [I2, w.2.2.2.1 i h0 (by omega)]
    simp (disch := omega) only [↓reduceIte, if_pos, if_neg, pipe, w32_id (x := i + 1)]
    rw [addW_s]
    by_cases hb : zand (zshr S i) 1 = 1
    · rw [if_pos hb, if_pos hb]
      obtain ⟨m', a, b, c⟩ := ih (i + 1) n _ _ (vS_w w h5 h6 (w32 (A (122 + i) + e)) h0 (by omega)) (by rw [up_ne (by omega)]; exact h5) (by rw [up_ne (by omega)]; exact h6) (by rw [up_ne (by omega)]; exact h2) (by omega) (by omega) (by omega)
      exact ⟨m', a, b, onlyS_t (onlyS_up (by omega)) c⟩
    · rw [if_neg hb, if_neg hb]
      exact ih (i + 1) n mem A w h5 h6 h2 (by omega) (by omega) (by omega)
theorem mBury_00 {h S e k : Int} (hh : 0 ≤ h ∧ h < 5) (i : Int) (rec : Int → Int → Int → Int → zMem → Option (Int × zMem)) (mem : zMem) (h1 : i = 6) (hb : f_X12_bits S mem = some (k, mem)) : b_X12_doBury_0 rec h S e i mem = some (0, set140 mem (finB (mem 140) h k e)) := by
  have L := l140
  unfold b_X12_doBury_0
  rw [if_pos (by omega), if_pos (by omega), w32_id (x := 111 + h) (by omega), if_pos (by omega), hb]
  simp only [zbind, pipe]
  rw [if_pos (by omega), if_pos (by omega), if_pos (by omega), if_pos (by omega)]
  simp only [zup_140, set140_at, set140_2]
  have e1 : up (up (mem 140) 108 (w32 (mem 140 108 + w32 (mem 140 (111 + h) - w32 (e * k))))) (111 + h) 0 107 = mem 140 107 := by
    rw [up_ne (by omega), up_ne (by omega)]
  rw [e1]
  unfold finB
  rfl
theorem mBury_0 {h S e : Int} (hh : 0 ≤ h ∧ h < 5) (hS : 0 ≤ S ∧ S < 256) (i : Int) (n : Nat) (mem : zMem) (h1 : i = 6) : f_X12_doBury_0 (n + 1) h S e i mem = some (0, set140 mem (finB (mem 140) h (popT S.toNat) e)) := by
  have u : f_X12_doBury_0 (n + 1) h S e i mem = b_X12_doBury_0 (f_X12_doBury_0 n) h S e i mem := rfl
  rw [u]
  have hb := bits_eq (x := S.toNat) (by omega) mem
  rw [Int.toNat_of_nonneg hS.1] at hb
  exact mBury_00 hh i _ mem h1 hb
theorem mBury_1 {h S e : Int} (i : Int) (n : Nat) (mem : zMem) (h0 : 0 ≤ i) (h1 : i < 6) : f_X12_doBury_0 (n + 1) h S e i mem = f_X12_doBury_0 n h S e (i + 1) (set140 mem (if zand (zshr S i) 1 = 1 then up (mem 140) (122 + i) (w32 (mem 140 (122 + i) + e)) else mem 140)) := by
  have L := l140
  have u : f_X12_doBury_0 (n + 1) h S e i mem = b_X12_doBury_0 (f_X12_doBury_0 n) h S e i mem := rfl
  rw [u]
  unfold b_X12_doBury_0 f_X12_has
  by_cases hb : zand (zshr S i) 1 = 1
  · simp (disch := omega) only [↓reduceIte, if_pos, if_neg, hb, zbind, pipe, w32_id (x := 122 + i), w32_id (x := i + 1), Int.reduceEq, zup_140]
  · simp (disch := omega) only [↓reduceIte, if_pos, if_neg, hb, zbind, pipe, w32_id (x := i + 1), set140_id]
theorem mBury_l {h S e : Int} (hh : 0 ≤ h ∧ h < 5) (hS : 0 ≤ S ∧ S < 256) : ∀ (r : Nat) (i : Int) (n : Nat) (mem : zMem), 0 ≤ i → i + r = 6 → r < n → f_X12_doBury_0 n h S e i mem = some (0, set140 mem (finB (addW (mem 140) S e r i) h (popT S.toNat) e)) := by
  intro r
  induction r with
  | zero =>
    intro i n mem h0 h1 hn
    obtain ⟨n, rfl⟩ : ∃ k, n = k + 1 := ⟨n - 1, by omega⟩
    exact mBury_0 hh hS i n mem (by omega)
  | succ r ih =>
    intro i n mem h0 h1 hn
    obtain ⟨n, rfl⟩ : ∃ k, n = k + 1 := ⟨n - 1, by omega⟩
    rw [mBury_1 i n mem h0 (by omega), ih (i + 1) n _ (by omega) (by omega) (by omega), addW_s, set140_at, set140_2]
def buryA (A : Int → Int) (h : Int) : Int → Int := finB (addW A (tcd A h (sunA A)) (if tcd A h (sunA A) = 0 then 0 else A (111 + h) / (popT (tcd A h (sunA A)).toNat : Int)) 6 0) h (popT (tcd A h (sunA A)).toNat) (if tcd A h (sunA A) = 0 then 0 else A (111 + h) / (popT (tcd A h (sunA A)).toNat : Int))
theorem popT_pos : ∀ x : Nat, x < 256 → (popT x = 0 ↔ x = 0) := by decide +kernel
theorem gsum_le {A : Int → Int} (o : oP A) (os : oS A) {h : Int} (hh : 0 ≤ h ∧ h < A 2) : A (111 + h) ≤ 495 := by
  have o1 := o.1
  have g := os.2.2.2.1
  have p := os.2.2.2.2.1
  have s := os.2.2.2.2.2
  unfold wsum gsum at s
  have p0 := p 0 (by omega) (by omega)
  have p1 := p 1 (by omega) (by omega)
  have p2 := p 2 (by omega) (by omega)
  have p3 := p 3 (by omega) (by omega)
  have p4 := p 4 (by omega) (by omega)
  have p5 := p 5 (by omega) (by omega)
  simp only [Int.reduceAdd] at p0 p1 p2 p3 p4 p5
  have g0 : 0 < A 2 → 0 ≤ A 111 := fun h => by simpa using g 0 (by omega) h
  have g1 : 1 < A 2 → 0 ≤ A 112 := fun h => by simpa using g 1 (by omega) h
  have g2 : 2 < A 2 → 0 ≤ A 113 := fun h => by simpa using g 2 (by omega) h
  have g3 : 3 < A 2 → 0 ≤ A 114 := fun h => by simpa using g 3 (by omega) h
  have g4 : 4 < A 2 → 0 ≤ A 115 := fun h => by simpa using g 4 (by omega) h
  have hc : h = 0 ∨ h = 1 ∨ h = 2 ∨ h = 3 ∨ h = 4 := by omega
  rcases hc with rfl | rfl | rfl | rfl | rfl <;> simp only [Int.reduceAdd] <;> omega
theorem cBuryHouse {mem : zMem} {t pl sc : Nat} {A : Int → Int} (I : IL t pl sc) (v : vP mem pl A) (w : vS mem sc A) (o : oP A) (os : oS A) {h : Int} (hh : 0 ≤ h ∧ h < A 2) : ∃ m', f_X3_buryHouse t h mem = some (0, m') ∧ vS m' sc (buryA A h) ∧ onlyS mem m' sc := by
  have o1 := o.1
  have hr := sunA_r o ⟨os.1.1, os.1.2.1⟩
  have hT := tcd_r o h (sunA A)
  have hg := gsum_le o os hh
  have hg0 := os.2.2.2.1 h hh.1 hh.2
  have hp := popT_le (tcd A h (sunA A)).toNat
  have hz := popT_pos (tcd A h (sunA A)).toNat (by omega)
  have hb := bitCount_eq (x := (tcd A h (sunA A)).toNat) (by omega) mem
  rw [Int.toNat_of_nonneg hT.1] at hb
  unfold f_X3_buryHouse
  rw [I.1, I.2.1, cHasHouse v o]
  simp only [zbind, bi0, cTableHour I v w o ⟨os.1.1, os.1.2.1⟩]
  rw [cPersonsTouched I v w o os hh (by omega)]
  simp only [hb]
  have L4 := I.2.2.2.2.2.2
  rw [w.2.2.2.2 h hh.1 hh.2]
  unfold buryA
  by_cases hs : tcd A h (sunA A) = 0
  · rw [if_pos hs]
    simp (disch := omega) only [↓reduceIte, if_pos]
    exact cBury_l I ⟨hh.1, by omega⟩ 6 0 zN mem A w (by omega) (by omega) hh.2 (by omega) (by omega) (by have := zN_ge; omega)
  · rw [if_neg hs]
    simp (disch := omega) only [↓reduceIte, if_pos, if_neg, pipe, zdiv_nn]
    exact cBury_l I ⟨hh.1, by omega⟩ 6 0 zN mem A w (by omega) (by omega) hh.2 (by omega) (by omega) (by have := zN_ge; omega)
theorem mDoBury {mem : zMem} (o : oP (mem 140)) (os : oS (mem 140)) {h : Int} (hh : 0 ≤ h ∧ h < mem 140 2) : f_X12_doBury h mem = some (0, set140 mem (buryA (mem 140) h)) := by
  have L := l140
  have o1 := o.1
  have hr := sunA_r o ⟨os.1.1, os.1.2.1⟩
  have hT := tcd_r o h (sunA (mem 140))
  have hg := gsum_le o os hh
  have hg0 := os.2.2.2.1 h hh.1 hh.2
  have hp := popT_le (tcd (mem 140) h (sunA (mem 140))).toNat
  have hz := popT_pos (tcd (mem 140) h (sunA (mem 140))).toNat (by omega)
  have hb := bits_eq (x := (tcd (mem 140) h (sunA (mem 140))).toNat) (by omega) mem
  rw [Int.toNat_of_nonneg hT.1] at hb
  unfold f_X12_doBury
  rw [mSunNow o ⟨os.1.1, os.1.2.1⟩]
  simp only [zbind]
  rw [mTouchedBy o os hh (by omega)]
  simp only [hb]
  unfold buryA
  by_cases hs : tcd (mem 140) h (sunA (mem 140)) = 0
  · rw [if_pos hs, if_pos hs]
    rw [mBury_l ⟨hh.1, by omega⟩ hT 6 0 zN mem (by omega) (by omega) (by have := zN_ge; omega)]
  · rw [if_neg hs, if_neg hs]
    simp (disch := omega) only [↓reduceIte, if_pos, if_neg, pipe, zdiv_nn, w32_id]
    rw [mBury_l ⟨hh.1, by omega⟩ hT 6 0 zN mem (by omega) (by omega) (by have := zN_ge; omega)]
