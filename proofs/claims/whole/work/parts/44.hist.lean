/-! the history -/
theorem sc54 {n : Int} (h0 : 0 ≤ n) (h1 : n < 8) : sRf 54 n.toNat = 55 + 5 * n.toNat ∧ lS (55 + 5 * n.toNat) := by
  have : n = 0 ∨ n = 1 ∨ n = 2 ∨ n = 3 ∨ n = 4 ∨ n = 5 ∨ n = 6 ∨ n = 7 := by omega
  rcases this with rfl | rfl | rfl | rfl | rfl | rfl | rfl | rfl <;> exact ⟨rfl, rfl, rfl, rfl, rfl⟩
theorem l54 : sLen 54 = 8 := rfl
theorem cKeep {mem : zMem} {A : Int → Int} (w : vS mem 11 A) (h2 : A 2 ≤ 5) (h3 : A 3 ≤ 6) (n0 : 0 ≤ mem 53 1) (n1 : mem 53 1 < 8) (z0 : 0 ≤ mem 53 2) (z1 : mem 53 2 ≤ 8) : ∃ m', f_X2_keep 11 mem = some (0, m') ∧ m' 53 1 = (mem 53 1 + 1) % 8 ∧ m' 53 2 = (if mem 53 2 = 8 then 8 else mem 53 2 + 1) ∧ vS m' (55 + 5 * (mem 53 1).toNat) A ∧ ∀ q, q ≠ 53 → (q < 55 + 5 * (mem 53 1).toNat ∨ 55 + 5 * (mem 53 1).toNat + 4 < q) → m' q = mem q := by
  have L := l54
  obtain ⟨s1, s2⟩ := sc54 n0 n1
  obtain ⟨m1, e, a, b⟩ := cCopyS (mem := mem) (to := 55 + 5 * (mem 53 1).toNat) (fr := 11) s2 ⟨rfl, rfl, rfl, rfl⟩ (by omega) w h2 h3
  have b53 : m1 53 = mem 53 := b 53 (by omega)
  unfold f_X2_keep
  rw [s1, e]
  simp (disch := omega) only [↓reduceIte, if_pos, zbind, pipe, b53, zup_same, w32_id, rem8, Int.reduceEq]
  refine ⟨_, rfl, ?_, ?_, ?_, ?_⟩
  · rw [zup_same, if_neg (by omega), zup_same, if_pos rfl]
  · rw [zup_same, if_pos rfl]
    unfold zmin
    by_cases h : mem 53 2 = 8
    · rw [if_pos h, if_pos (by omega)]
    · rw [if_neg h, if_neg (by omega)]
  · exact vS_mem (fun q h1 h2 => by rw [zup_off (by omega), zup_off (by omega)]) a
  · intro q h1 h2
    rw [zup_off h1, zup_off h1]
    exact b q h2
/-- the history and the snaps tell the same -/
def rH (mem : zMem) (A : Int → Int) : Prop := (0 ≤ mem 53 1 ∧ mem 53 1 < 8 ∧ 0 ≤ mem 53 2 ∧ mem 53 2 ≤ 8 ∧ mem 138 25 = mem 53 2) ∧ ∀ j, 0 ≤ j → j < mem 53 2 → vS mem (55 + 5 * ((mem 53 1 - mem 53 2 + j + 8) % 8).toNat) (snA mem A j) ∧ oS (snA mem A j)
theorem vS_cg {mem : zMem} {sc : Nat} {A B : Int → Int} (e2 : B 2 = A 2) (e3 : B 3 = A 3) (h2 : A 2 ≤ 5) (h3 : A 3 ≤ 6) (h : ∀ i, 106 ≤ i → i < 192 → B i = A i) (v : vS mem sc A) : vS mem sc B := by
  obtain ⟨v1, v2, v3, v4, v5⟩ := v
  refine ⟨?_, ?_, ?_, ?_, ?_⟩
  · rw [h 107 (by omega) (by omega), h 106 (by omega) (by omega), h 108 (by omega) (by omega), h 109 (by omega) (by omega), h 110 (by omega) (by omega)]
    exact v1
  · intro q a b
    rw [h (128 + q) (by omega) (by omega)]; exact v2 q a b
  · intro q a b
    rw [e3] at b
    rw [h (116 + q) (by omega) (by omega)]; exact v3 q a b
  · intro q a b
    rw [h (122 + q) (by omega) (by omega)]; exact v4 q a b
  · intro q a b
    rw [e2] at b
    rw [h (111 + q) (by omega) (by omega)]; exact v5 q a b
theorem oS_cg {A B : Int → Int} (e0 : B 0 = A 0) (e1 : B 1 = A 1) (e2 : B 2 = A 2) (e3 : B 3 = A 3) (h2 : A 2 ≤ 5) (h3 : A 3 ≤ 6) (h : ∀ i, 106 ≤ i → i < 192 → B i = A i) (o : oS A) : oS B := by
  obtain ⟨v1, v2, v3, v4, v5, v6⟩ := o
  refine ⟨?_, ?_, ?_, ?_, ?_, ?_⟩
  · rw [h 107 (by omega) (by omega), h 106 (by omega) (by omega)]
    exact v1
  · intro q a b
    rw [e3] at b
    unfold inC
    rw [h (116 + q) (by omega) (by omega), e0, e1]; exact v2 q a b
  · intro q a b
    rw [h (128 + q) (by omega) (by omega)]; exact v3 q a b
  · intro q a b
    rw [e2] at b
    rw [h (111 + q) (by omega) (by omega)]; exact v4 q a b
  · intro q a b
    rw [h (122 + q) (by omega) (by omega)]; exact v5 q a b
  · unfold wsum gsum at v6 ⊢
    rw [e2]
    simp (disch := omega) only [h]
    exact v6
