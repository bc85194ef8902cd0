/-! a sentence: what it says -/
def leafR (A : Int → Int) (k p : Int) : Bool :=
  if A (194 + 4 * k) = 66 then decide (zand (shOn A (A (116 + p))) (zxor (A 107) (-1)) ≠ 0)
  else if A (194 + 4 * k) = 67 then decide (A (122 + p) = 0)
  else if A (194 + 4 * k) = 68 then decide (A (122 + p) > 0)
  else if A (194 + 4 * k) = 69 then decide (zand (zshr (shOn A (A (116 + p))) (A (195 + 4 * k))) 1 = 1)
  else if A (197 + 4 * k) = 60 then decide ((if A (194 + 4 * k) = 70 then A (122 + p) else if A (194 + 4 * k) = 71 then zrem (A (116 + p)) 8 else if A (194 + 4 * k) = 72 then zdiv (A (116 + p)) 8 else p) < A (196 + 4 * k))
  else if A (197 + 4 * k) = 61 then decide ((if A (194 + 4 * k) = 70 then A (122 + p) else if A (194 + 4 * k) = 71 then zrem (A (116 + p)) 8 else if A (194 + 4 * k) = 72 then zdiv (A (116 + p)) 8 else p) = A (196 + 4 * k))
  else decide ((if A (194 + 4 * k) = 70 then A (122 + p) else if A (194 + 4 * k) = 71 then zrem (A (116 + p)) 8 else if A (194 + 4 * k) = 72 then zdiv (A (116 + p)) 8 else p) > A (196 + 4 * k))
def hold (A : Int → Int) : Nat → Int → Int → Bool
  | 0, _, _ => false
  | d + 1, k, p => if A (194 + 4 * k) = 1 then !hold A d (A (195 + 4 * k)) p else if A (194 + 4 * k) = 2 then hold A d (A (195 + 4 * k)) p && hold A d (A (196 + 4 * k)) p else if A (194 + 4 * k) = 3 then hold A d (A (195 + 4 * k)) p || hold A d (A (196 + 4 * k)) p else leafR A k p
theorem hold_s (A : Int → Int) (d : Nat) (k p : Int) : hold A (d + 1) k p = if A (194 + 4 * k) = 1 then !hold A d (A (195 + 4 * k)) p else if A (194 + 4 * k) = 2 then hold A d (A (195 + 4 * k)) p && hold A d (A (196 + 4 * k)) p else if A (194 + 4 * k) = 3 then hold A d (A (195 + 4 * k)) p || hold A d (A (196 + 4 * k)) p else leafR A k p := rfl
theorem mHolds {mem : zMem} (o : oP (mem 140)) (os : oS (mem 140)) {B D : Int → Int} {p : Int} (hp : 0 ≤ p ∧ p < mem 140 3) : ∀ (d : Nat) (k i j : Int) (n : Nat), Rep B D (mem 140) d k i j n → ∀ f : Nat, d ≤ f → fg_holds f k p mem = some (bi (hold (mem 140) d k p = true), mem) := by
  have o1 := o.1
  intro d
  induction d with
  | zero => intro k i j n r; exact absurd r (by unfold Rep; exact id)
  | succ d ih =>
    intro k i j n r f hf
    obtain ⟨f, rfl⟩ : ∃ g, f = g + 1 := ⟨f - 1, by omega⟩
    unfold Rep at r
    obtain ⟨hk, r⟩ := r
    have e1 : w32 (194 + w32 (4 * k)) = 194 + 4 * k := by rw [w32_id (x := 4 * k) ⟨by omega, by omega⟩, w32_id ⟨by omega, by omega⟩]
    have e2 : w32 (194 + 4 * k + 1) = 195 + 4 * k := by rw [w32_id ⟨by omega, by omega⟩]; omega
    have e3 : w32 (194 + 4 * k + 2) = 196 + 4 * k := by rw [w32_id ⟨by omega, by omega⟩]; omega
    have e4 : w32 (194 + 4 * k + 3) = 197 + 4 * k := by rw [w32_id ⟨by omega, by omega⟩]; omega
    have e5 : w32 (116 + p) = 116 + p := w32_id ⟨by omega, by omega⟩
    have e6 : w32 (122 + p) = 122 + p := w32_id ⟨by omega, by omega⟩
    have x1 : ∀ {α : Type} {a b : α}, (if ix 140 (194 + 4 * k) then a else b) = a := fun {α a b} => ixl (by omega)
    have x2 : ∀ {α : Type} {a b : α}, (if ix 140 (195 + 4 * k) then a else b) = a := fun {α a b} => ixl (by omega)
    have x3 : ∀ {α : Type} {a b : α}, (if ix 140 (196 + 4 * k) then a else b) = a := fun {α a b} => ixl (by omega)
    have x4 : ∀ {α : Type} {a b : α}, (if ix 140 (197 + 4 * k) then a else b) = a := fun {α a b} => ixl (by omega)
    have x5 : ∀ {α : Type} {a b : α}, (if ix 140 (116 + p) then a else b) = a := fun {α a b} => ixl (by omega)
    have x6 : ∀ {α : Type} {a b : α}, (if ix 140 (122 + p) then a else b) = a := fun {α a b} => ixl (by omega)
    have x7 : ∀ {α : Type} {a b : α}, (if ix 140 107 then a else b) = a := fun {α a b} => ixl (by omega)
    have hsh := mShadowsOn o os (os.2.1 p hp.1 hp.2)
    show fb_X12_holds (fg_holds f) k p mem = _
    unfold fb_X12_holds
    rw [hold_s]
    rcases r with ⟨a, b, c⟩ | ⟨m, n1, n2, a, b, c, e⟩ | ⟨_, _, r⟩
    · have h1 := ih _ _ _ _ c f (by omega)
      simp only [pipe, e1, e2, e3, x1, x2, x3, a, ↓reduceIte, h1, zbind, bi0]
      cases hold (mem 140) d (mem 140 (195 + 4 * k)) p <;> simp
    · have h1 := ih _ _ _ _ c f (by omega)
      have h2 := ih _ _ _ _ e f (by omega)
      rcases b with ⟨b, _⟩ | ⟨b, _⟩
      · simp only [pipe, e1, e2, e3, x1, x2, x3, b, ↓reduceIte, h1, h2, zbind, bi0, Int.reduceEq]
        cases hold (mem 140) d (mem 140 (195 + 4 * k)) p <;> cases hold (mem 140) d (mem 140 (196 + 4 * k)) p <;> simp
      · simp only [pipe, e1, e2, e3, x1, x2, x3, b, ↓reduceIte, h1, h2, zbind, bi0, Int.reduceEq]
        cases hold (mem 140) d (mem 140 (195 + 4 * k)) p <;> cases hold (mem 140) d (mem 140 (196 + 4 * k)) p <;> simp
    · rcases r with ⟨w, w0, w1, a, b⟩ | ⟨a, b, c, c0, c1⟩ | ⟨w, s, w0, w1, s0, s1, a, b, c, c1, c2, c3⟩
      · rcases (by omega : w = 16 ∨ w = 17 ∨ w = 18) with h | h | h <;> subst h
        · simp only [pipe, e1, e2, e3, e5, x1, x2, x3, x5, x7, a, ↓reduceIte, zbind, Int.reduceEq, Int.reduceAdd, hsh, leafR, decide_eq_true_eq]
          by_cases hc : zand (shOn (mem 140) (mem 140 (116 + p))) (zxor (mem 140 107) (-1)) = 0 <;> simp [hc]
        · simp only [pipe, e1, e2, e3, e6, x1, x2, x3, x6, a, ↓reduceIte, zbind, Int.reduceEq, Int.reduceAdd, leafR, decide_eq_true_eq]
          by_cases hc : mem 140 (122 + p) = 0 <;> simp [hc]
        · simp only [pipe, e1, e2, e3, e6, x1, x2, x3, x6, a, ↓reduceIte, zbind, Int.reduceEq, Int.reduceAdd, leafR, decide_eq_true_eq]
          by_cases hc : mem 140 (122 + p) ≤ 0
          · rw [if_pos hc, bi_f (by omega)]
          · rw [if_neg hc, bi_t (by omega)]
      · simp only [pipe, e1, e2, e3, e5, x1, x2, x3, x5, a, ↓reduceIte, zbind, Int.reduceEq, hsh, leafR, decide_eq_true_eq, mHas, bi01]
      · have q0 : w32 20 = 20 := w32_id ⟨by omega, by omega⟩
        have q1 : w32 21 = 21 := w32_id ⟨by omega, by omega⟩
        have q2 : w32 22 = 22 := w32_id ⟨by omega, by omega⟩
        have q3 : w32 23 = 23 := w32_id ⟨by omega, by omega⟩
        rcases (by omega : s = 0 ∨ s = 1 ∨ s = 2) with h | h | h <;> subst h <;> rcases (by omega : w = 20 ∨ w = 21 ∨ w = 22 ∨ w = 23) with h | h | h | h <;> subst h <;> simp only [pipe, e1, e2, e3, e4, e5, e6, x1, x2, x3, x4, x5, x6, a, b, q0, q1, q2, q3, ↓reduceIte, zbind, Int.reduceEq, Int.reduceAdd, Int.reduceSub, leafR, decide_eq_true_eq] <;> split <;> first | rfl | rw [bi_t (by omega)] | rw [bi_f (by omega)]
