/-! the row of parts run over a stack -/
theorem cRun {A B D : Int → Int} (o : oP A) (os : oS A) {z : Int} : ∀ (d : Nat) (k i j : Int) (n : Nat), Rep B D A d k i j n → j ≤ z → ∀ (e : Int) (m : zMem) (f : Nat), 0 ≤ e → e + n ≤ 20 → m 16 3 = z → m 17 = B → m 18 = D → vP m 4 A → vS m 11 A → 2 * (j - i) < f →
    ∃ (f' : Nat) (m' : zMem), (f : Int) ≤ f' + 2 * (j - i) ∧ f_X8_personsMeant_0 f 0 16 20 e i 0 m = f_X8_personsMeant_0 f' 0 16 20 (e + 1) j 0 m' ∧ (∀ q, q ≠ 19 → m' q = m q) ∧ (∀ x, x < e → m' 19 x = m 19 x) ∧ ∀ p : Nat, (p : Int) < A 3 → b32 (m' 19 e) p = hold A d k p := by
  have o1 := o.1
  have L1 : sLen (16 + 1) = 40 := rfl
  have L2 : sLen (16 + 2) = 40 := rfl
  have L3 : sLen (16 + 3) = 20 := rfl
  have i1 : ∀ {x : Int} {α : Type} {a b : α}, 0 ≤ x → x < 40 → (if ix (16 + 1) x then a else b) = a := fun {x α a b} h0 h1 => if_pos ⟨h0, by omega⟩
  have i2 : ∀ {x : Int} {α : Type} {a b : α}, 0 ≤ x → x < 40 → (if ix (16 + 2) x then a else b) = a := fun {x α a b} h0 h1 => if_pos ⟨h0, by omega⟩
  have i3 : ∀ {x : Int} {α : Type} {a b : α}, 0 ≤ x → x < 20 → (if ix (16 + 3) x then a else b) = a := fun {x α a b} h0 h1 => if_pos ⟨h0, by omega⟩
  intro d
  induction d with
  | zero => intro k i j n r; exact absurd r (by unfold Rep; exact id)
  | succ d ih =>
    intro k i j n r hj e m f e0 e1 mz mB mD v w hf
    unfold Rep at r
    obtain ⟨hk, r⟩ := r
    rcases r with ⟨a, b, c⟩ | ⟨x, n1, n2, a, b, c, c'⟩ | ⟨ha, hb, r⟩
    · have hi : i < j - 1 := by
        cases d with
        | zero => exact absurd c (by unfold Rep; exact id)
        | succ d => unfold Rep at c; omega
      obtain ⟨f1, m1, g1, g2, g3, g4, g5⟩ := ih _ _ _ _ c (by omega) e m f e0 e1 mz mB mD v w (by omega)
      obtain ⟨f1, rfl⟩ : ∃ g, f1 = g + 1 := ⟨f1 - 1, by omega⟩
      have h15 : m1 (16 + 1) (j - 1) = 15 := by rw [g3 (16 + 1) (by omega)]; exact (congrFun mB (j - 1)).trans b
      refine ⟨f1, zup m1 19 e (zxor (m1 19 e) (-1)), by omega, ?_, fun q hq => by rw [zup_off hq, g3 q hq], fun y hy => by rw [zup_same, if_neg (by omega), g4 y hy], fun p hp => ?_⟩
      · rw [g2]
        show b_X8_personsMeant_0 (f_X8_personsMeant_0 f1) 0 16 20 (e + 1) (j - 1) 0 m1 = _
        simp only [b_X8_personsMeant_0]
        rw [g3 16 (by omega), mz, if_neg (by omega), if_neg (by omega), i1 (by omega) (by omega), h15]
        simp only [pipe, ↓reduceIte]
        rw [if_neg (by omega), w32_id (x := e + 1 - 1) ⟨by omega, by omega⟩, Int.add_sub_cancel, i3 (by omega) (by omega), i3 (by omega) (by omega), w32_id (x := j - 1 + 1) ⟨by omega, by omega⟩, Int.sub_add_cancel]
      · rw [zup_same, if_pos rfl, b32_not _ (by omega), g5 p hp, hold_s, if_pos a]
    · have hi : i < x := by
        cases d with
        | zero => exact absurd c (by unfold Rep; exact id)
        | succ d => unfold Rep at c; omega
      have hn1 : 1 ≤ n1 := by
        cases d with
        | zero => exact absurd c (by unfold Rep; exact id)
        | succ d => unfold Rep at c; omega
      have hn2 : 1 ≤ n2 := by
        cases d with
        | zero => exact absurd c (by unfold Rep; exact id)
        | succ d => unfold Rep at c'; omega
      have hi2 : x < j - 1 := by
        cases d with
        | zero => exact absurd c (by unfold Rep; exact id)
        | succ d => unfold Rep at c'; omega
      obtain ⟨f1, m1, g1, g2, g3, g4, g5⟩ := ih _ _ _ _ c (by omega) e m f e0 (by omega) mz mB mD v w (by omega)
      have v1 : vP m1 4 A := vP_mem (fun q _ _ => g3 q (by omega)) v
      have w1 : vS m1 11 A := vS_mem (fun q _ _ => g3 q (by omega)) w
      obtain ⟨f2, m2, k1, k2, k3, k4, k5⟩ := ih _ _ _ _ c' (by omega) (e + 1) m1 f1 (by omega) (by omega) (by rw [g3 16 (by omega)]; exact mz) (by rw [g3 17 (by omega)]; exact mB) (by rw [g3 18 (by omega)]; exact mD) v1 w1 (by omega)
      have hB : ∀ y, m2 (16 + 1) y = B y := fun y => by rw [k3 (16 + 1) (by omega), g3 (16 + 1) (by omega)]; exact congrFun mB y
      have hz : m2 16 3 = z := by rw [k3 16 (by omega), g3 16 (by omega), mz]
      have he : m2 19 e = m1 19 e := k4 e (by omega)
      have ee : w32 (e + 1 + 1 + -1) = e + 1 := by rw [w32_id ⟨by omega, by omega⟩]; omega
      have e3 : w32 (e + 1 - 1) = e := by rw [w32_id ⟨by omega, by omega⟩]; omega
      have ej : w32 (j - 1 + 1) = j := by rw [w32_id ⟨by omega, by omega⟩]; omega
      rcases b with ⟨b1, b2⟩ | ⟨b1, b2⟩
      · obtain ⟨f2, rfl⟩ : ∃ g, f2 = g + 1 := ⟨f2 - 1, by omega⟩
        refine ⟨f2, zup m2 19 e (zand (m2 19 e) (m2 19 (e + 1))), by omega, ?_, fun q hq => by rw [zup_off hq, k3 q hq, g3 q hq], fun y hy => by rw [zup_same, if_neg (by omega), k4 y (by omega), g4 y hy], fun p hp => ?_⟩
        · rw [g2, k2]
          show b_X8_personsMeant_0 (f_X8_personsMeant_0 f2) 0 16 20 (e + 1 + 1) (j - 1) 0 m2 = _
          simp only [b_X8_personsMeant_0]
          rw [hz, if_neg (by omega), if_neg (by omega), i1 (by omega) (by omega), hB, b2]
          simp only [pipe, ↓reduceIte, Int.reduceEq]
          rw [if_neg (by omega), ee, e3, i3 (by omega) (by omega), i3 (by omega) (by omega), i3 (by omega) (by omega), ej]
        · rw [zup_same, if_pos rfl, b32_and, he, g5 p hp, k5 p hp, hold_s, if_neg (by omega), if_pos b1]
      · obtain ⟨f2, rfl⟩ : ∃ g, f2 = g + 2 := ⟨f2 - 2, by omega⟩
        refine ⟨f2, zup m2 19 e (zor (m2 19 e) (m2 19 (e + 1))), by omega, ?_, fun q hq => by rw [zup_off hq, k3 q hq, g3 q hq], fun y hy => by rw [zup_same, if_neg (by omega), k4 y (by omega), g4 y hy], fun p hp => ?_⟩
        · rw [g2, k2]
          show b_X8_personsMeant_0 (f_X8_personsMeant_0 (f2 + 1)) 0 16 20 (e + 1 + 1) (j - 1) 0 m2 = _
          simp only [b_X8_personsMeant_0]
          rw [hz, if_neg (by omega), if_neg (by omega), i1 (by omega) (by omega), hB, b2]
          simp only [pipe, ↓reduceIte, Int.reduceEq]
          show b_X8_personsMeant_0 (f_X8_personsMeant_0 f2) 1 16 20 (e + 1 + 1) (j - 1) 13 m2 = _
          simp only [b_X8_personsMeant_0, ↓reduceIte, pipe]
          rw [if_neg (by omega), ee, e3, i3 (by omega) (by omega), i3 (by omega) (by omega), i3 (by omega) (by omega), ej]
        · rw [zup_same, if_pos rfl, b32_or, he, g5 p hp, k5 p hp, hold_s, if_neg (by omega), if_neg (by omega), if_pos b1]
    · subst ha
      obtain ⟨f, rfl⟩ : ∃ g, f = g + 2 := ⟨f - 2, by omega⟩
      have hr := cLeaf (mem := m) v w o os (k := k) (w := B i) (x := D i) (by
        rcases r with ⟨w, w0, w1, a, b⟩ | ⟨a, b, c, c0, c1⟩ | ⟨w, s, w0, w1, s0, s1, a, b, c, c1, c2, c3⟩
        · exact Or.inl ⟨w, w0, w1, a, b⟩
        · exact Or.inr (Or.inl ⟨a, b, c, c0, c1⟩)
        · exact Or.inr (Or.inr ⟨w, s, w0, w1, s0, s1, a, b, c, c1, c2, c3⟩))
      have hB : ∀ y, m (16 + 1) y = B y := fun y => congrFun mB y
      have hD : ∀ y, m (16 + 2) y = D y := fun y => congrFun mD y
      have nB : B i ≠ 13 ∧ B i ≠ 14 ∧ B i ≠ 15 := by
        rcases r with ⟨w, w0, w1, a, b⟩ | ⟨a, b, c, c0, c1⟩ | ⟨w, s, w0, w1, s0, s1, a, b, c, c1, c2, c3⟩ <;> omega
      have nA : A (194 + 4 * k) ≠ 1 ∧ A (194 + 4 * k) ≠ 2 ∧ A (194 + 4 * k) ≠ 3 := by
        rcases r with ⟨w, w0, w1, a, b⟩ | ⟨a, b, c, c0, c1⟩ | ⟨w, s, w0, w1, s0, s1, a, b, c, c1, c2, c3⟩ <;> omega
      refine ⟨f, zup m 19 e (set0 (fun p => leafR A k p) (A 3)), by omega, ?_, fun q hq => zup_off hq, fun y hy => by rw [zup_same, if_neg (by omega)], fun p hp => ?_⟩
      · show b_X8_personsMeant_0 (f_X8_personsMeant_0 (f + 1)) 0 16 20 e i 0 m = _
        simp only [b_X8_personsMeant_0]
        rw [mz, if_neg (by omega), if_neg (by omega), i1 (by omega) (by omega), hB]
        simp only [pipe]
        rw [if_neg nB.2.2, if_neg nB.2.1]
        show b_X8_personsMeant_0 (f_X8_personsMeant_0 f) 1 16 20 e i (B i) m = _
        simp only [b_X8_personsMeant_0]
        rw [if_neg nB.1, if_neg (by omega), i2 (by omega) (by omega), hD, hr]
        simp only [zbind, pipe]
        rw [i3 (by omega) (by omega), w32_id (x := e + 1) ⟨by omega, by omega⟩, w32_id (x := i + 1) ⟨by omega, by omega⟩, hb]
      · rw [zup_same, if_pos rfl, has_set0 _ (by omega) (by omega) hp, hold_s, if_neg nA.1, if_neg nA.2.1, if_neg nA.2.2]
theorem cMeant {mem : zMem} {A : Int → Int} (o : oP A) (os : oS A) (v : vP mem 4 A) (w : vS mem 11 A) {d n : Nat} (hn : n ≤ 20) (hz : mem 16 3 ≤ 40) (r : Rep (mem 17) (mem 18) A d (A 193) 0 (mem 16 3) n) : ∃ m', f_X8_personsMeant 16 20 mem = some (set0 (fun p => hold A d (A 193) p) (A 3), m') ∧ ∀ q, q ≠ 19 → m' q = mem q := by
  have o1 := o.1
  have hN := zN_ge
  have L3 : sLen (16 + 3) = 20 := rfl
  have h0 : 0 < mem 16 3 := by
    cases d with
    | zero => exact absurd r (by unfold Rep; exact id)
    | succ d => unfold Rep at r; omega
  obtain ⟨f', m', g1, g2, g3, g4, g5⟩ := cRun o os d _ _ _ _ r (Int.le_refl _) 0 mem zN (by omega) (by omega) rfl rfl rfl v w (by omega)
  obtain ⟨f', rfl⟩ : ∃ g, f' = g + 1 := ⟨f' - 1, by omega⟩
  refine ⟨m', ?_, g3⟩
  unfold f_X8_personsMeant
  rw [g2]
  show b_X8_personsMeant_0 (f_X8_personsMeant_0 f') 0 16 20 (0 + 1) (mem 16 3) 0 m' = _
  simp only [b_X8_personsMeant_0]
  have r0 : sRf 20 0 = 4 := rfl
  have v4 := v.1.2.2.2.1
  rw [g3 16 (by omega), if_pos (by omega), if_pos (by omega), if_pos ⟨by omega, by omega⟩, r0, g3 4 (by omega), v4, cut_bits _ (by omega) (by omega)]
  congr 2
  refine set0_congr (fun p p0 p1 => ?_)
  have := g5 p.toNat (by omega)
  rw [Int.toNat_of_nonneg p0] at this
  exact this
/-! said -/
theorem placeOfBit_l {mem : zMem} {x k : Int} {P : Int → Bool} {N : Int} (hN : 0 ≤ N ∧ N ≤ 6) (hx : ∀ i, 0 ≤ i → i < 6 → ((zand (zshr x i) 1 = 1) ↔ (i < N ∧ P i = true))) {F : Nat → Int → Int → Option (Int × zMem)} {mr : zMem} (hs : ∀ n a i, 0 ≤ i → i < N → 0 ≤ a → a ≤ i → F (n + 1) a i = if P i = true then (if a = k then some (i, mr) else F n (a + 1) (i + 1)) else F n a (i + 1)) (he : ∀ n a, F (n + 1) a N = some (if k = -1 then a else -1, mr)) : ∀ (r : Nat) (i a : Int) (n n' : Nat), 0 ≤ i → 0 ≤ a → a ≤ i → i + r = 6 → i ≤ N → r < n → r < n' → k ≠ -1 → ∃ y, f_X11_placeOfBit_0 n x k a i mem = some (y, mem) ∧ F n' a i = some (y, mr) := by
  intro r
  have tail : ∀ (r : Nat) (i a : Int) (n : Nat), N ≤ i → 0 ≤ i → i + r = 6 → r < n → f_X11_placeOfBit_0 n x k a i mem = some (-1, mem) := by
    intro r
    induction r with
    | zero =>
      intro i a n h0 h1 h2 h3
      obtain ⟨n, rfl⟩ : ∃ g, n = g + 1 := ⟨n - 1, by omega⟩
      show b_X11_placeOfBit_0 (f_X11_placeOfBit_0 n) x k a i mem = _
      unfold b_X11_placeOfBit_0
      rw [if_pos (by omega)]
    | succ r ih =>
      intro i a n h0 h1 h2 h3
      obtain ⟨n, rfl⟩ : ∃ g, n = g + 1 := ⟨n - 1, by omega⟩
      show b_X11_placeOfBit_0 (f_X11_placeOfBit_0 n) x k a i mem = _
      unfold b_X11_placeOfBit_0
      rw [if_neg (by omega), if_neg (fun c => by have := (hx i h1 (by omega)).1 c; omega), w32_id ⟨by omega, by omega⟩, ih (i + 1) a n (by omega) (by omega) (by omega) (by omega)]
  induction r with
  | zero =>
    intro i a n n' h0 h1 h2 h3 h4 h5 h6 hk
    refine ⟨-1, tail 0 i a n (by omega) h0 h3 h5, ?_⟩
    obtain ⟨n', rfl⟩ : ∃ g, n' = g + 1 := ⟨n' - 1, by omega⟩
    have : i = N := by omega
    rw [this, he, if_neg hk]
  | succ r ih =>
    intro i a n n' h0 h1 h2 h3 h4 h5 h6 hk
    obtain ⟨n', rfl⟩ : ∃ g, n' = g + 1 := ⟨n' - 1, by omega⟩
    by_cases hi : i = N
    · refine ⟨-1, tail (r + 1) i a n (by omega) h0 h3 h5, ?_⟩
      rw [hi, he, if_neg hk]
    · obtain ⟨n, rfl⟩ : ∃ g, n = g + 1 := ⟨n - 1, by omega⟩
      have hb := hx i h0 (by omega)
      rw [hs n' a i h0 (by omega) h1 h2]
      have u : f_X11_placeOfBit_0 (n + 1) x k a i mem = b_X11_placeOfBit_0 (f_X11_placeOfBit_0 n) x k a i mem := rfl
      rw [u]
      unfold b_X11_placeOfBit_0
      rw [if_neg (by omega), w32_id (x := a + 1) ⟨by omega, by omega⟩, w32_id (x := i + 1) ⟨by omega, by omega⟩]
      by_cases hp : P i = true
      · rw [if_pos hp, if_pos (hb.2 ⟨by omega, hp⟩)]
        by_cases ha : a = k
        · rw [if_pos ha, if_pos ha]
          exact ⟨i, rfl, rfl⟩
        · rw [if_neg ha, if_neg ha]
          exact ih (i + 1) (a + 1) n n' (by omega) (by omega) (by omega) (by omega) (by omega) (by omega) (by omega) hk
      · rw [if_neg hp, if_neg (fun c => hp (hb.1 c).2)]
        exact ih (i + 1) a n n' (by omega) (by omega) (by omega) (by omega) (by omega) (by omega) (by omega) hk
theorem popT_cnt : ∀ x : Nat, x < 64 → (popT x : Int) = cnt (fun i => decide (zand (zshr (x : Int) i) 1 = 1)) 6 := by decide +kernel
theorem cnt_tail {P : Int → Bool} {n m : Nat} (h : n ≤ m) (hf : ∀ k : Nat, n ≤ k → k < m → P k = false) : cnt P m = cnt P n := by
  induction m with
  | zero =>
    have : n = 0 := by omega
    rw [this]
  | succ m ih =>
    by_cases hn : n = m + 1
    · rw [hn]
    · rw [cnt_s, hf m (by omega) (by omega), ih (by omega) fun k a b => hf k a (by omega)]
      simp
theorem qSaid {mem : zMem} (R : Rel mem) (k : Int) : okC (f_X11_said k) (f_X12_said k) mem := by
  obtain ⟨o, os, v, w, _, s⟩ := R.1
  have o1 := o.1
  have hN := zN_ge
  have e : m00 mem 140 = mem 140 := m00_off (by omega)
  rcases s with ⟨a, b⟩ | ⟨a, b, c, d, n, hd, hn, r⟩
  · refine okQ R (-1) ?_ ?_
    · unfold f_X11_said
      rw [if_pos b]
    · unfold f_X12_said
      simp only [pipe, m00_eq]
      rw [e, ixl (by omega), if_pos a]
  · obtain ⟨m', g1, g2⟩ := cMeant o os v w hn c r
    have e' : m00 m' 140 = mem 140 := by rw [m00_off (by omega), g2 140 (by omega)]
    have oo : oP (m00 m' 140) := by rw [e']; exact o
    have oos : oS (m00 m' 140) := by rw [e']; exact os
    have hr := set0_range (fun p => hold (mem 140) d (mem 140 193) p) (n := mem 140 3) (by omega) (by omega)
    have hb : ∀ i, 0 ≤ i → i < 6 → ((zand (zshr (set0 (fun p => hold (mem 140) d (mem 140 193) p) (mem 140 3)) i) 1 = 1) ↔ (i < mem 140 3 ∧ hold (mem 140) d (mem 140 193) i = true)) := by
      intro i i0 i1
      obtain ⟨q, rfl⟩ : ∃ q : Nat, i = (q : Int) := ⟨i.toNat, by omega⟩
      have hl := bset_lt (fun k => hold (mem 140) d (mem 140 193) (k : Int)) (mem 140 3).toNat
      have h2 : 2 ^ (mem 140 3).toNat ≤ 2 ^ 8 := Nat.pow_le_pow_right (by omega) (by omega)
      rw [set0_bset _ (by omega) (by omega), has_bit q (by omega) _ (by omega), bset_bit]
      simp
    have hs : ∀ n a i, 0 ≤ i → i < mem 140 3 → 0 ≤ a → a ≤ i → f_X12_said_0 (n + 1) k a i (m00 m') = if hold (mem 140) d (mem 140 193) i = true then (if a = k then some (i, m00 m') else f_X12_said_0 n k (a + 1) (i + 1) (m00 m')) else f_X12_said_0 n k a (i + 1) (m00 m') := by
      intro n' a i i0 i1 a0 a1
      show b_X12_said_0 (f_X12_said_0 n') k a i (m00 m') = _
      unfold b_X12_said_0
      have hh := mHolds oo oos (p := i) (by rw [e']; exact ⟨i0, i1⟩) d _ _ _ _ (by rw [e']; exact r) 80 (by omega)
      rw [e'] at hh
      have hh' : f_X12_holds (mem 140 193) i (m00 m') = some (bi (hold (mem 140) d (mem 140 193) i = true), m00 m') := hh
      rw [ixl (by omega), e', if_neg (by omega), ixl (by omega), hh']
      simp only [zbind, bi0]
      rw [w32_id (x := i + 1) ⟨by omega, by omega⟩, w32_id (x := a + 1) ⟨by omega, by omega⟩]
    have he : ∀ n a, f_X12_said_0 (n + 1) k a (mem 140 3) (m00 m') = some (if k = -1 then a else -1, m00 m') := by
      intro n' a
      show b_X12_said_0 (f_X12_said_0 n') k a (mem 140 3) (m00 m') = _
      unfold b_X12_said_0
      rw [ixl (by omega), e', if_pos (by omega)]
      split <;> rfl
    have ur : f_X12_said k m' = f_X12_said_0 zN k 0 0 (m00 m') := by
      unfold f_X12_said
      simp only [pipe, m00_eq]
      rw [e', ixl (by omega), if_neg (by omega)]
    have RR : Rel (m00 m') := Rel_m00 (Rel_mem ⟨fun q hq => g2 q (by omega), by rw [g2 1 (by omega)], fun i _ => by rw [g2 45 (by omega)], fun i _ => by rw [g2 138 (by omega)]⟩ (fun q hq => g2 q (by omega)) (by rw [g2 138 (by omega)]) R)
    by_cases hk : k = -1
    · have hcnt : f_X12_said_0 zN k 0 0 (m00 m') = some (cnt (hold (mem 140) d (mem 140 193)) (mem 140 3).toNat, m00 m') := by
        obtain ⟨n', a', ia, ee⟩ := lp_gen (F := fun n a i => f_X12_said_0 n k a i (m00 m')) (I := fun i a => a = cnt (hold (mem 140) d (mem 140 193)) i.toNat) (M := 0) (N := mem 140 3) (n := zN) (a := 0) (by
          intro n i a h0 h1 ha
          have hr := cnt_r (hold (mem 140) d (mem 140 193)) i.toNat
          have ei : (i + 1).toNat = i.toNat + 1 := by omega
          rw [hs n a i h0 h1 (by omega) (by omega), ei, cnt_s, Int.toNat_of_nonneg h0]
          by_cases hp : hold (mem 140) d (mem 140 193) i = true
          · rw [if_pos hp, if_pos hp, if_neg (by omega)]
            exact ⟨a + 1, rfl, by rw [ha]⟩
          · rw [if_neg hp, if_neg hp]
            exact ⟨a, rfl, by omega⟩) (by omega) rfl (by omega)
        rw [show f_X12_said_0 zN k 0 0 (m00 m') = f_X12_said_0 (n' + 1) k a' (mem 140 3) (m00 m') from ee, he, if_pos hk, ia]
      refine ⟨_, m', m00 m', ?_, ur.trans hcnt, RR⟩
      unfold f_X11_said
      rw [if_neg (by omega), g1]
      simp only [zbind]
      rw [if_pos hk, pop_castJ hr.1 hr.2]
      simp only
      congr 2
      have hlt : set0 (fun p => hold (mem 140) d (mem 140 193) p) (mem 140 3) < 64 := by
        have hl := bset_lt (fun k => hold (mem 140) d (mem 140 193) (k : Int)) (mem 140 3).toNat
        have h2 : 2 ^ (mem 140 3).toNat ≤ 2 ^ 6 := Nat.pow_le_pow_right (by omega) (by omega)
        rw [set0_bset _ (by omega) (by omega)]
        omega
      rw [popT_cnt _ (by omega), Int.toNat_of_nonneg hr.1, cnt_tail (n := (mem 140 3).toNat) (m := 6) (by omega)]
      · refine cnt_congr (fun q hq => ?_)
        have := hb q (by omega) (by omega)
        rw [Bool.eq_iff_iff, decide_eq_true_eq, this]
        constructor
        · intro h; exact h.2
        · intro h; exact ⟨by omega, h⟩
      · intro q q0 q1
        have := hb q (by omega) (by omega)
        rw [decide_eq_false_iff_not, this]
        omega
    · obtain ⟨y, y1, y2⟩ := placeOfBit_l (mem := m') (k := k) (P := hold (mem 140) d (mem 140 193)) (N := mem 140 3) (by omega) hb (F := fun n a i => f_X12_said_0 n k a i (m00 m')) hs he 6 0 0 zN zN (by omega) (by omega) (by omega) (by omega) (by omega) (by omega) (by omega) hk
      refine ⟨y, m', m00 m', ?_, ur.trans y2, RR⟩
      unfold f_X11_said
      rw [if_neg (by omega), g1]
      simp only [zbind]
      rw [if_neg hk]
      unfold f_X11_placeOfBit
      rw [y1]
