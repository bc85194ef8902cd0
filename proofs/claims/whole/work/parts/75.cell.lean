/-! an island being read: B is the reference's row, N its names -/
def rowA (B : Int → Int) : Int → Int := fun i => if i < 106 then B i else if 111 ≤ i ∧ i ≤ 115 then B (i - 96) else if 116 ≤ i ∧ i ≤ 121 then B (i - 96) else if 128 ≤ i ∧ i ≤ 191 then B (i - 86) else 0
theorem rowA_lo (B : Int → Int) {i : Int} (h : i < 106) : rowA B i = B i := if_pos h
theorem rowA_g (B : Int → Int) {h : Int} (h0 : 0 ≤ h) (h1 : h < 5) : rowA B (111 + h) = B (15 + h) := by
  unfold rowA
  rw [if_neg (by omega), if_pos (by omega)]
  congr 1
  omega
theorem rowA_p (B : Int → Int) {h : Int} (h0 : 0 ≤ h) (h1 : h < 6) : rowA B (116 + h) = B (20 + h) := by
  unfold rowA
  rw [if_neg (by omega), if_neg (by omega), if_pos (by omega)]
  congr 1
  omega
theorem rowA_c (B : Int → Int) {h : Int} (h0 : 0 ≤ h) (h1 : h < 64) : rowA B (128 + h) = B (42 + h) := by
  unfold rowA
  rw [if_neg (by omega), if_neg (by omega), if_neg (by omega), if_pos (by omega)]
  congr 1
  omega
def DR (m : zMem) (B N : Int → Int) : Prop := vP m 28 (rowA B) ∧ vS m 35 (rowA B) ∧ rN m 28 (rowA B) N
def oD (B : Int → Int) : Prop := oP (rowA B) ∧ (∀ p, 0 ≤ p → p < B 3 → inC (rowA B) (B (20 + p))) ∧ (∀ c, 0 ≤ c → c < 64 → 0 ≤ B (42 + c) ∧ B (42 + c) ≤ 9) ∧ ∀ h, 0 ≤ h → h < B 2 → 0 ≤ B (15 + h) ∧ B (15 + h) ≤ 99
theorem oD_S {B : Int → Int} (o : oD B) : oS (rowA B) := by
  obtain ⟨o1, o2, o3, o4⟩ := o
  have r := o1.1
  rw [rowA_lo B (i := 0) (by omega), rowA_lo B (i := 1) (by omega), rowA_lo B (i := 2) (by omega), rowA_lo B (i := 3) (by omega), rowA_lo B (i := 4) (by omega)] at r
  have z : ∀ i, (106 ≤ i ∧ i ≤ 110) ∨ (122 ≤ i ∧ i ≤ 127) → rowA B i = 0 := by
    intro i hi
    unfold rowA
    rw [if_neg (by omega), if_neg (by omega), if_neg (by omega), if_neg (by omega)]
  refine ⟨⟨by rw [z 106 (by omega)]; omega, by rw [z 106 (by omega)]; omega, by rw [z 107 (by omega)]; omega, by rw [z 107 (by omega)]; omega⟩, fun p p0 p1 => ?_, fun c c0 c1 => ?_, fun h h0 h1 => ?_, fun p p0 p1 => by rw [z (122 + p) (by omega)]; omega, ?_⟩
  · rw [rowA_lo B (by omega)] at p1
    rw [rowA_p B p0 (by omega)]
    exact o2 p p0 p1
  · rw [rowA_c B c0 c1]
    exact o3 c c0 c1
  · rw [rowA_lo B (by omega)] at h1
    rw [rowA_g B h0 (by omega)]
    exact (o4 h h0 h1).1
  · unfold wsum gsum
    rw [z 122 (by omega), z 123 (by omega), z 124 (by omega), z 125 (by omega), z 126 (by omega), z 127 (by omega), rowA_lo B (i := 2) (by omega)]
    have g := fun (k : Int) (k0 : 0 ≤ k) (k1 : k < 5) => rowA_g B k0 k1
    have g0 := g 0 (by omega) (by omega)
    have g1 := g 1 (by omega) (by omega)
    have g2 := g 2 (by omega) (by omega)
    have g3 := g 3 (by omega) (by omega)
    have g4 := g 4 (by omega) (by omega)
    have b0 := o4 0 (by omega)
    have b1 := o4 1 (by omega)
    have b2 := o4 2 (by omega)
    have b3 := o4 3 (by omega)
    have b4 := o4 4 (by omega)
    simp only [Int.reduceAdd] at g0 g1 g2 g3 g4 b0 b1 b2 b3 b4
    rw [g0, g1, g2, g3, g4]
    repeat' split
    all_goals omega
/-- is something in a cell? -/
def fil (B : Int → Int) (c w : Int) : Prop := htA (rowA B) c > 0 ∨ (w = 0 ∧ pAt (rowA B) c ≠ 0)
theorem set0_ne {P : Int → Bool} {n : Int} (h0 : 0 ≤ n) (h1 : n ≤ 8) : set0 P n ≠ 0 ↔ ∃ k, 0 ≤ k ∧ k < n ∧ P k = true := by
  constructor
  · intro h
    refine Classical.byContradiction (fun hn => h ?_)
    refine set0_false (fun k a b => ?_)
    cases hp : P k with
    | false => rfl
    | true => exact absurd ⟨k, a, b, hp⟩ hn
  · rintro ⟨k, a, b, c⟩ hz
    have := has_set0 P (p := k.toNat) h0 h1 (by omega)
    rw [hz, Int.toNat_of_nonneg a, c] at this
    have h2 : ∀ j : Nat, j < 8 → b32 0 j = false := by decide +kernel
    rw [h2 k.toNat (by omega)] at this
    exact absurd this (by simp)
theorem fil_iff {B : Int → Int} (o : oD B) {c w : Int} (c0 : 0 ≤ c) (c1 : c < 64) : fil B c w ↔ (B (42 + c) > 0 ∨ (∃ h, 0 ≤ h ∧ h < B 2 ∧ B (5 + h) = c) ∨ (w = 0 ∧ ∃ p, 0 ≤ p ∧ p < B 3 ∧ B (20 + p) = c)) := by
  obtain ⟨o1, o2, o3, o4⟩ := o
  have r := o1.1
  have r2 := rowA_lo B (i := 2) (by omega)
  have r3 := rowA_lo B (i := 3) (by omega)
  have hp : pAt (rowA B) c ≠ 0 ↔ ∃ p, 0 ≤ p ∧ p < B 3 ∧ B (20 + p) = c := by
    unfold pAt
    rw [set0_ne (by omega) (by omega), r3]
    constructor
    · rintro ⟨k, a, b, d⟩
      rw [rowA_p B a (by omega)] at d
      exact ⟨k, a, b, by simpa using d⟩
    · rintro ⟨k, a, b, d⟩
      refine ⟨k, a, b, ?_⟩
      rw [rowA_p B a (by omega)]
      simpa using d
  have hh : htA (rowA B) c > 0 ↔ (B (42 + c) > 0 ∨ ∃ h, 0 ≤ h ∧ h < B 2 ∧ B (5 + h) = c) := by
    unfold htA
    rcases fst1_spec (fun h => decide (rowA B (5 + h) = c)) (rowA B 2).toNat 0 with ⟨h1, h2⟩ | ⟨h1, h2, h3, h4⟩
    · have e : hAt (rowA B) c = -1 := h1
      rw [if_pos e, rowA_c B c0 c1]
      constructor
      · intro x; exact Or.inl x
      · rintro (x | ⟨h, a, b, d⟩)
        · exact x
        · have := h2 h a (by omega)
          rw [rowA_lo B (by omega)] at this
          simp [d] at this
    · have e : 0 ≤ hAt (rowA B) c ∧ hAt (rowA B) c < rowA B 2 ∧ rowA B (5 + hAt (rowA B) c) = c := ⟨h1, by show fst1 _ _ _ < _; omega, of_decide_eq_true h3⟩
      have ht := (o1.2.1 _ e.1 e.2.1).2.1
      rw [if_neg (by omega)]
      constructor
      · intro _
        refine Or.inr ⟨hAt (rowA B) c, e.1, by omega, ?_⟩
        have := e.2.2
        rw [rowA_lo B (by omega)] at this
        exact this
      · intro _; omega
  unfold fil
  rw [hp, hh]
  constructor
  · rintro ((x | x) | x)
    · exact Or.inl x
    · exact Or.inr (Or.inl x)
    · exact Or.inr (Or.inr x)
  · rintro (x | x | x)
    · exact Or.inl (Or.inl x)
    · exact Or.inl (Or.inr x)
    · exact Or.inr x
theorem l141 : sLen 141 = 106 := rfl
theorem ix1 {α : Type} {k : Int} {a b : α} (h : 0 ≤ k ∧ k < 106) : (if ix 141 k then a else b) = a := if_pos ⟨h.1, by rw [l141]; exact h.2⟩
theorem or_loop {F : Nat → Int → Int → Option (Int × zMem)} {G : Int → Option (Int × zMem)} {P : Int → Bool} {N : Int} (hs : ∀ n a i, 0 ≤ i → i < N → (a = 0 ∨ a = 1) → F (n + 1) a i = F n (if a = 1 ∨ P i = true then 1 else 0) (i + 1)) (he : ∀ n a, (a = 0 ∨ a = 1) → F (n + 1) a N = G a) (h0 : 0 ≤ N) (h1 : N ≤ 1000) {a : Int} (ha : a = 0 ∨ a = 1) : (a = 1 ∨ ∃ i, 0 ≤ i ∧ i < N ∧ P i = true) ∧ F zN a 0 = G 1 ∨ (¬ (a = 1 ∨ ∃ i, 0 ≤ i ∧ i < N ∧ P i = true)) ∧ F zN a 0 = G 0 := by
  have hN := zN_ge
  have key : ∀ (r : Nat) (a i : Int) (n : Nat), 0 ≤ i → i + r = N → r < n → (a = 0 ∨ a = 1) → (a = 1 ∨ ∃ k, i ≤ k ∧ k < N ∧ P k = true) ∧ F n a i = G 1 ∨ (¬ (a = 1 ∨ ∃ k, i ≤ k ∧ k < N ∧ P k = true)) ∧ F n a i = G 0 := by
    intro r
    induction r with
    | zero =>
      intro a i n i0 i1 hn ha
      obtain ⟨n, rfl⟩ : ∃ q, n = q + 1 := ⟨n - 1, by omega⟩
      have : i = N := by omega
      subst this
      rw [he n a ha]
      rcases ha with h | h
      · refine Or.inr ⟨?_, by rw [h]⟩
        rintro (x | ⟨k, x, y, _⟩) <;> omega
      · exact Or.inl ⟨Or.inl h, by rw [h]⟩
    | succ r ih =>
      intro a i n i0 i1 hn ha
      obtain ⟨n, rfl⟩ : ∃ q, n = q + 1 := ⟨n - 1, by omega⟩
      rw [hs n a i i0 (by omega) ha]
      have hb : (if a = 1 ∨ P i = true then (1 : Int) else 0) = 0 ∨ (if a = 1 ∨ P i = true then (1 : Int) else 0) = 1 := by
        split
        · exact Or.inr rfl
        · exact Or.inl rfl
      rcases ih _ (i + 1) n (by omega) (by omega) (by omega) hb with ⟨x, y⟩ | ⟨x, y⟩
      · refine Or.inl ⟨?_, y⟩
        rcases x with x | ⟨k, x1, x2, x3⟩
        · by_cases hc : a = 1 ∨ P i = true
          · rcases hc with h | h
            · exact Or.inl h
            · exact Or.inr ⟨i, by omega, by omega, h⟩
          · rw [if_neg hc] at x; omega
        · exact Or.inr ⟨k, by omega, x2, x3⟩
      · refine Or.inr ⟨fun c => x ?_, y⟩
        rcases c with c | ⟨k, x1, x2, x3⟩
        · exact Or.inl (if_pos (Or.inl c))
        · by_cases hk : k = i
          · subst hk; exact Or.inl (if_pos (Or.inr x3))
          · exact Or.inr ⟨k, by omega, x2, x3⟩
  exact key N.toNat a 0 zN (by omega) (by omega) (by omega) ha
theorem mFilled {r : zMem} {B : Int → Int} (hB : r 141 = B) (o : oD B) {c w : Int} (c0 : 0 ≤ c) (c1 : c < 64) : (fil B c w ∧ f_X12_isFilled c w r = some (1, r)) ∨ (¬ fil B c w ∧ f_X12_isFilled c w r = some (0, r)) := by
  have o1 := o.1.1
  rw [rowA_lo B (i := 0) (by omega), rowA_lo B (i := 1) (by omega), rowA_lo B (i := 2) (by omega), rowA_lo B (i := 3) (by omega), rowA_lo B (i := 4) (by omega)] at o1
  rw [fil_iff o c0 c1]
  have second : ∀ a : Int, (a = 0 ∨ a = 1) → ((a = 1 ∨ ∃ i, 0 ≤ i ∧ i < B 3 ∧ (decide (w = 0) && decide (B (20 + i) = c)) = true) ∧ f_X12_isFilled_0 zN c w a 0 r = some (1, r)) ∨ ((¬ (a = 1 ∨ ∃ i, 0 ≤ i ∧ i < B 3 ∧ (decide (w = 0) && decide (B (20 + i) = c)) = true)) ∧ f_X12_isFilled_0 zN c w a 0 r = some (0, r)) := by
    intro a ha
    refine or_loop (F := fun n a i => f_X12_isFilled_0 n c w a i r) (G := fun a => some (a, r)) (P := fun i => decide (w = 0) && decide (B (20 + i) = c)) (N := B 3) (fun n a i i0 i1 ha => ?_) (fun n a ha => ?_) (by omega) (by omega) ha
    · show b_X12_isFilled_0 (f_X12_isFilled_0 n) c w a i r = _
      unfold b_X12_isFilled_0
      rw [ix1 (by omega), hB, if_neg (by omega), w32_id (x := 20 + i) ⟨by omega, by omega⟩, ix1 (by omega), w32_id ⟨by omega, by omega⟩]
      rcases ha with h | h
      · rw [if_pos h]
        by_cases hw : w = 0
        · rw [if_pos hw]
          by_cases hp : B (20 + i) = c
          · rw [if_pos hp, if_pos (Or.inr (by simp [hw, hp]))]
          · rw [if_neg hp, if_neg (by simp [h, hp])]
        · rw [if_neg hw, if_neg (by simp [h, hw])]
      · rw [if_neg (by omega), if_pos (Or.inl h)]
    · show b_X12_isFilled_0 (f_X12_isFilled_0 n) c w a (B 3) r = _
      unfold b_X12_isFilled_0
      rw [ix1 (by omega), hB, if_pos (by omega), if_pos ha]
  have first : ∀ a : Int, (a = 0 ∨ a = 1) → ((a = 1 ∨ ∃ i, 0 ≤ i ∧ i < B 2 ∧ decide (B (5 + i) = c) = true) ∧ f_X12_isFilled_1 zN c w a 0 r = f_X12_isFilled_0 zN c w 1 0 r) ∨ ((¬ (a = 1 ∨ ∃ i, 0 ≤ i ∧ i < B 2 ∧ decide (B (5 + i) = c) = true)) ∧ f_X12_isFilled_1 zN c w a 0 r = f_X12_isFilled_0 zN c w 0 0 r) := by
    intro a ha
    refine or_loop (F := fun n a i => f_X12_isFilled_1 n c w a i r) (G := fun a => f_X12_isFilled_0 zN c w a 0 r) (P := fun i => decide (B (5 + i) = c)) (N := B 2) (fun n a i i0 i1 ha => ?_) (fun n a ha => ?_) (by omega) (by omega) ha
    · show b_X12_isFilled_1 (f_X12_isFilled_1 n) c w a i r = _
      unfold b_X12_isFilled_1
      rw [ix1 (by omega), hB, if_neg (by omega), w32_id (x := 5 + i) ⟨by omega, by omega⟩, ix1 (by omega), w32_id ⟨by omega, by omega⟩]
      rcases ha with h | h
      · rw [if_pos h]
        by_cases hp : B (5 + i) = c
        · rw [if_pos hp, if_pos (Or.inr (by simp [hp]))]
        · rw [if_neg hp, if_neg (by simp [h, hp])]
      · rw [if_neg (by omega), if_pos (Or.inl h)]
    · show b_X12_isFilled_1 (f_X12_isFilled_1 n) c w a (B 2) r = _
      unfold b_X12_isFilled_1
      rw [ix1 (by omega), hB, if_pos (by omega)]
  have top : f_X12_isFilled c w r = f_X12_isFilled_1 zN c w (if B (42 + c) > 0 then 1 else 0) 0 r := by
    unfold f_X12_isFilled
    rw [w32_id (x := 42 + c) ⟨by omega, by omega⟩, ix1 (by omega), hB]
    by_cases h : B (42 + c) > 0
    · rw [if_neg (by omega), if_pos h]
    · rw [if_pos (by omega), if_neg h]
  rw [top]
  have ha : (if B (42 + c) > 0 then (1 : Int) else 0) = 0 ∨ (if B (42 + c) > 0 then (1 : Int) else 0) = 1 := by
    split
    · exact Or.inr rfl
    · exact Or.inl rfl
  have ha1 : (if B (42 + c) > 0 then (1 : Int) else 0) = 1 ↔ B (42 + c) > 0 := by
    split
    · rename_i h; exact ⟨fun _ => h, fun _ => rfl⟩
    · rename_i h; exact ⟨fun x => by omega, fun x => absurd x h⟩
  rcases first _ ha with ⟨x, y⟩ | ⟨x, y⟩
  · rw [y]
    rcases second 1 (Or.inr rfl) with ⟨_, v⟩ | ⟨u, _⟩
    · refine Or.inl ⟨?_, v⟩
      rcases x with x | ⟨i, x1, x2, x3⟩
      · exact Or.inl (ha1.1 x)
      · exact Or.inr (Or.inl ⟨i, x1, x2, by simpa using x3⟩)
    · exact absurd (Or.inl rfl) u
  · rw [y]
    rcases second 0 (Or.inl rfl) with ⟨u, v⟩ | ⟨u, v⟩
    · refine Or.inl ⟨?_, v⟩
      rcases u with u | ⟨i, x1, x2, x3⟩
      · omega
      · simp only [Bool.and_eq_true, decide_eq_true_eq] at x3
        exact Or.inr (Or.inr ⟨x3.1, i, x1, x2, x3.2⟩)
    · refine Or.inr ⟨?_, v⟩
      rintro (z | ⟨h, z1, z2, z3⟩ | ⟨z0, p, z1, z2, z3⟩)
      · exact x (Or.inl (ha1.2 z))
      · exact x (Or.inr ⟨h, z1, z2, by simpa using z3⟩)
      · exact u (Or.inr ⟨p, z1, z2, by simp [z0, z3]⟩)
