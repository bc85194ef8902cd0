/-! a row changed at a place -/
def up (A : Int → Int) (i v : Int) : Int → Int := fun j => if j = i then v else A j
theorem up_eq (A : Int → Int) (i v : Int) : up A i v i = v := if_pos rfl
theorem up_ne {A : Int → Int} {i v j : Int} (h : j ≠ i) : up A i v j = A j := if_neg h
def set140 (mem : zMem) (A : Int → Int) : zMem := fun q => if q = 140 then A else mem q
theorem set140_at (mem : zMem) (A : Int → Int) : set140 mem A 140 = A := if_pos rfl
theorem set140_off {mem : zMem} {A : Int → Int} {q : Nat} (h : q ≠ 140) : set140 mem A q = mem q := if_neg h
theorem set140_id (mem : zMem) : set140 mem (mem 140) = mem := by
  funext q
  unfold set140
  by_cases h : q = 140
  · rw [if_pos h, h]
  · rw [if_neg h]
theorem set140_2 (mem : zMem) (A B : Int → Int) : set140 (set140 mem A) B = set140 mem B := by
  funext q
  unfold set140
  by_cases h : q = 140
  · rw [if_pos h, if_pos h]
  · rw [if_neg h, if_neg h, if_neg h]
theorem zup_140 (mem : zMem) (i v : Int) : zup mem 140 i v = set140 mem (up (mem 140) i v) := by
  funext q j
  unfold zup set140 up
  by_cases h : q = 140
  · subst h
    by_cases hj : j = i
    · simp [hj]
    · simp [hj]
  · simp [h]
theorem zup_off' {mem : zMem} {a : Nat} {i v : Int} {p : Nat} (h : p ≠ a) : zup mem a i v p = mem p := zup_off h
theorem zup_same (mem : zMem) (a : Nat) (i v j : Int) : zup mem a i v a j = if j = i then v else mem a j := by
  unfold zup
  by_cases h : j = i
  · simp [h]
  · simp [h]
def onlyS (mem m' : zMem) (sc : Nat) : Prop := ∀ q, (q < sc ∨ sc + 4 < q) → m' q = mem q
theorem onlyS_t {a b c : zMem} {sc : Nat} (h1 : onlyS a b sc) (h2 : onlyS b c sc) : onlyS a c sc := fun q hq => (h2 q hq).trans (h1 q hq)
theorem onlyS_r (a : zMem) (sc : Nat) : onlyS a a sc := fun _ _ => rfl
theorem onlyS_up {mem : zMem} {sc a : Nat} {i v : Int} (h : sc ≤ a ∧ a ≤ sc + 4) : onlyS mem (zup mem a i v) sc := fun q hq => zup_off (by omega)
theorem htA_r {A : Int → Int} (o : oP A) (os : oS A) {c : Int} (h0 : 0 ≤ c) (h1 : c < 64) : 0 ≤ htA A c ∧ htA A c ≤ 9 := by
  unfold htA
  have hr := hAt_r o c
  by_cases h : hAt A c = -1
  · rw [if_pos h]; exact os.2.2.1 c h0 h1
  · rw [if_neg h]
    have := o.2.1 (hAt A c) (by omega) (by omega)
    omega
/-! going -/
def wGo (A : Int → Int) (p s : Int) : Int := if stp A (A (116 + p)) s 1 = -1 then 1 else if htA A (stp A (A (116 + p)) s 1) = 0 then 0 else 2
def goA (A : Int → Int) (p s : Int) : Int → Int := up (up A (116 + p) (stp A (A (116 + p)) s 1)) 109 (w32 (A 109 + 1))
theorem mWhyGo {mem : zMem} (o : oP (mem 140)) (os : oS (mem 140)) {p s : Int} (hp : 0 ≤ p ∧ p < mem 140 3) (hs : 0 ≤ s ∧ s ≤ 3) : f_X12_whyGo p s mem = some (wGo (mem 140) p s, mem) := by
  have o1 := o.1
  have L := l140
  have hc := os.2.1 p hp.1 hp.2
  unfold inC at hc
  unfold f_X12_whyGo wGo
  simp (disch := omega) only [↓reduceIte, if_pos, w32_id]
  rw [mNextTo o ⟨hc.1, hc.2.1⟩ hs]
  simp only [zbind]
  by_cases h1 : stp (mem 140) (mem 140 (116 + p)) s 1 = -1
  · rw [if_pos h1, if_pos h1]
  · rw [if_neg h1, if_neg h1]
    have hi := (stp_val o h1).2.2
    unfold inC at hi
    unfold f_X12_isOpen
    rw [mHeightOf o hi.1 hi.2.1]
    simp only [zbind]
    by_cases h2 : htA (mem 140) (stp (mem 140) (mem 140 (116 + p)) s 1) = 0
    · simp [h2]
    · simp [h2]
theorem cWhyNotStep {mem : zMem} {t pl sc : Nat} {A : Int → Int} (I : IL t pl sc) (v : vP mem pl A) (w : vS mem sc A) (o : oP A) (os : oS A) {p s : Int} (hp : 0 ≤ p ∧ p < A 3) (hs : 0 ≤ s ∧ s ≤ 3) : f_X3_whyNotStep t p s mem = some (wGo A p s, mem) := by
  have o1 := o.1
  have hv := v.1
  have I' := I
  obtain ⟨I1, I2, lp, ls⟩ := I
  have L := ls.2.1
  have hc := os.2.1 p hp.1 hp.2
  unfold inC at hc
  unfold f_X3_whyNotStep wGo
  rw [I1, I2, cHasPerson v o]
  simp only [zbind, bi0]
  simp (disch := omega) only [↓reduceIte, if_pos]
  rw [w.2.2.1 p hp.1 hp.2, cSpotFrom v o ⟨hc.1, hc.2.1⟩ hs ⟨by omega, by omega⟩]
  simp only []
  by_cases h1 : stp A (A (116 + p)) s 1 = -1
  · rw [if_pos h1, if_pos h1]
  · rw [if_neg h1, if_neg h1]
    have hi := (stp_val o h1).2.2
    unfold inC at hi
    rw [cHeightAt I' v w o hi.1 hi.2.1]
    have hr := htA_r o os hi.1 hi.2.1
    simp only []
    by_cases h2 : htA A (stp A (A (116 + p)) s 1) = 0
    · simp (disch := omega) only [↓reduceIte, if_pos]
    · simp (disch := omega) only [↓reduceIte, if_neg]
theorem mGo {mem : zMem} (o : oP (mem 140)) (os : oS (mem 140)) {p s : Int} (hp : 0 ≤ p ∧ p < mem 140 3) (hs : 0 ≤ s ∧ s ≤ 3) : f_X12_live 0 p s mem = some (0, set140 mem (goA (mem 140) p s)) := by
  have o1 := o.1
  have L := l140
  have hc := os.2.1 p hp.1 hp.2
  unfold inC at hc
  unfold f_X12_live
  simp (disch := omega) only [↓reduceIte, if_pos, w32_id]
  rw [mNextTo o ⟨hc.1, hc.2.1⟩ hs]
  simp (disch := omega) only [zbind, pipe, ↓reduceIte, if_pos, zup_140, set140_at, set140_2]
  rw [up_ne (show (109 : Int) ≠ 116 + p by omega)]
  rfl
theorem cMakeStep {mem : zMem} {t pl sc : Nat} {A : Int → Int} (I : IL t pl sc) (v : vP mem pl A) (w : vS mem sc A) (o : oP A) (os : oS A) {p s : Int} (hp : 0 ≤ p ∧ p < A 3) (hs : 0 ≤ s ∧ s ≤ 3) (hw : wGo A p s = 0) : ∃ m', f_X3_makeStep t p s mem = some (0, m') ∧ vS m' sc (goA A p s) ∧ onlyS mem m' sc := by
  have o1 := o.1
  have hv := v.1
  obtain ⟨I1, I2, lp, ls⟩ := I
  have L := ls.2.1
  have hc := os.2.1 p hp.1 hp.2
  unfold inC at hc
  have h1 : stp A (A (116 + p)) s 1 ≠ -1 := by
    intro h; unfold wGo at hw; rw [if_pos h] at hw; omega
  unfold f_X3_makeStep
  rw [I1, I2, cHasPerson v o]
  simp only [zbind, bi0]
  simp (disch := omega) only [↓reduceIte, if_pos]
  rw [w.2.2.1 p hp.1 hp.2, cSpotFrom v o ⟨hc.1, hc.2.1⟩ hs ⟨by omega, by omega⟩]
  simp (disch := omega) only [↓reduceIte, if_pos, if_neg h1, pipe]
  refine ⟨_, rfl, ?_, onlyS_t (onlyS_up (by omega)) (onlyS_up (by omega))⟩
  have w1 := w.1
  refine ⟨?_, ?_, ?_, ?_, ?_⟩
  · unfold goA
    simp (disch := omega) only [zup_same, zup_off, up_eq, up_ne, ↓reduceIte, Int.reduceEq, w1, and_self]
  · intro c h0 h1
    unfold goA
    simp (disch := omega) only [zup_off, up_ne]
    exact w.2.1 c h0 h1
  · intro q h0 h1
    have h3 : goA A p s 3 = A 3 := by unfold goA; simp (disch := omega) only [up_ne]
    rw [h3] at h1
    unfold goA
    rw [zup_off (by omega), zup_same, up_ne (by omega), w.2.2.1 q h0 h1]
    unfold up
    by_cases hq : q = p
    · simp [hq]
    · rw [if_neg hq, if_neg (by omega)]
  · intro q h0 h1
    unfold goA
    simp (disch := omega) only [zup_off, up_ne]
    exact w.2.2.2.1 q h0 h1
  · intro q h0 h1
    have h3 : goA A p s 2 = A 2 := by unfold goA; simp (disch := omega) only [up_ne]
    rw [h3] at h1
    unfold goA
    simp (disch := omega) only [zup_off, up_ne]
    exact w.2.2.2.2 q h0 h1
