/-! the history -/
theorem sc54 {n : Int} (h0 : 0 ≤ n) (h1 : n < 8) : sRf 54 n.toNat = 55 + 5 * n.toNat ∧ lS (55 + 5 * n.toNat) := by
  have : n = 0 ∨ n = 1 ∨ n = 2 ∨ n = 3 ∨ n = 4 ∨ n = 5 ∨ n = 6 ∨ n = 7 := by omega
  rcases this with rfl | rfl | rfl | rfl | rfl | rfl | rfl | rfl <;> exact ⟨rfl, rfl, rfl, rfl, rfl⟩
theorem l54 : sLen 54 = 8 := rfl
theorem cKeep {mem : zMem} {A : Int → Int} (w : vS mem 11 A) (h2 : A 2 ≤ 5) (h3 : A 3 ≤ 6) (n0 : 0 ≤ mem 53 1) (n1 : mem 53 1 < 8) (z0 : 0 ≤ mem 53 2) (z1 : mem 53 2 ≤ 8) : ∃ m', f_X2_keep 11 mem = some (0, m') ∧ m' 53 1 = (mem 53 1 + 1) % 8 ∧ m' 53 2 = (if mem 53 2 = 8 then 8 else mem 53 2 + 1) ∧ vS m' (55 + 5 * (mem 53 1).toNat) A ∧ ∀ q, q ≠ 53 → (q < 55 + 5 * (mem 53 1).toNat ∨ 55 + 5 * (mem 53 1).toNat + 4 < q) → m' q = mem q := by
  have L := l54
  obtain ⟨s1, s2⟩ := sc54 n0 n1
  obtain ⟨m1, e, a, b⟩ := cCopyS (mem := mem) (to := 55 + 5 * (mem 53 1).toNat) (fr := 11) s2 ⟨rfl, rfl, rfl, rfl⟩ (by omega) w h2 h3
  have b53 : m1 53 = mem 53 := b 53 (by omega)
  unfold f_X2_keep
  rw [s1, e]
  simp (disch := omega) only [↓reduceIte, if_pos, zbind, pipe, b53, zup_same, w32_id, rem8, Int.reduceEq]
  refine ⟨_, rfl, ?_, ?_, ?_, ?_⟩
  · rw [zup_same, if_neg (by omega), zup_same, if_pos rfl]
  · rw [zup_same, if_pos rfl]
    unfold zmin
    by_cases h : mem 53 2 = 8
    · rw [if_pos h, if_pos (by omega)]
    · rw [if_neg h, if_neg (by omega)]
  · exact vS_mem (fun q h1 h2 => by rw [zup_off (by omega), zup_off (by omega)]) a
  · intro q h1 h2
    rw [zup_off h1, zup_off h1]
    exact b q h2
/-- the history and the snaps tell the same -/
def rH (mem : zMem) (A : Int → Int) : Prop := (0 ≤ mem 53 1 ∧ mem 53 1 < 8 ∧ 0 ≤ mem 53 2 ∧ mem 53 2 ≤ 8 ∧ mem 138 25 = mem 53 2) ∧ ∀ j, 0 ≤ j → j < mem 53 2 → vS mem (55 + 5 * ((mem 53 1 - mem 53 2 + j + 8) % 8).toNat) (snA mem A j) ∧ oS (snA mem A j)
theorem vS_cg {mem : zMem} {sc : Nat} {A B : Int → Int} (e2 : B 2 = A 2) (e3 : B 3 = A 3) (h2 : A 2 ≤ 5) (h3 : A 3 ≤ 6) (h : ∀ i, 106 ≤ i → i < 192 → B i = A i) (v : vS mem sc A) : vS mem sc B := by
  obtain ⟨v1, v2, v3, v4, v5⟩ := v
  refine ⟨?_, ?_, ?_, ?_, ?_⟩
  · rw [h 107 (by omega) (by omega), h 106 (by omega) (by omega), h 108 (by omega) (by omega), h 109 (by omega) (by omega), h 110 (by omega) (by omega)]
    exact v1
  · intro q a b
    rw [h (128 + q) (by omega) (by omega)]; exact v2 q a b
  · intro q a b
    rw [e3] at b
    rw [h (116 + q) (by omega) (by omega)]; exact v3 q a b
  · intro q a b
    rw [h (122 + q) (by omega) (by omega)]; exact v4 q a b
  · intro q a b
    rw [e2] at b
    rw [h (111 + q) (by omega) (by omega)]; exact v5 q a b
theorem oS_cg {A B : Int → Int} (e0 : B 0 = A 0) (e1 : B 1 = A 1) (e2 : B 2 = A 2) (e3 : B 3 = A 3) (h2 : A 2 ≤ 5) (h3 : A 3 ≤ 6) (h : ∀ i, 106 ≤ i → i < 192 → B i = A i) (o : oS A) : oS B := by
  obtain ⟨v1, v2, v3, v4, v5, v6⟩ := o
  refine ⟨?_, ?_, ?_, ?_, ?_, ?_⟩
  · rw [h 107 (by omega) (by omega), h 106 (by omega) (by omega)]
    exact v1
  · intro q a b
    rw [e3] at b
    unfold inC
    rw [h (116 + q) (by omega) (by omega), e0, e1]; exact v2 q a b
  · intro q a b
    rw [h (128 + q) (by omega) (by omega)]; exact v3 q a b
  · intro q a b
    rw [e2] at b
    rw [h (111 + q) (by omega) (by omega)]; exact v4 q a b
  · intro q a b
    rw [h (122 + q) (by omega) (by omega)]; exact v5 q a b
  · unfold wsum gsum at v6 ⊢
    rw [e2]
    simp (disch := omega) only [h]
    exact v6
theorem rH_snap {mem m' : zMem} {A A' : Int → Int} (r : rH mem A) (o : oP A) (os : oS A) (hA : A = mem 140) (pA : ∀ i, 0 ≤ i → i < 106 → A' i = A i)
    (k1 : m' 53 1 = (mem 53 1 + 1) % 8) (k2 : m' 53 2 = (if mem 53 2 = 8 then 8 else mem 53 2 + 1)) (k3 : vS m' (55 + 5 * (mem 53 1).toNat) A) (k4 : ∀ q, 55 ≤ q → q ≤ 94 → (q < 55 + 5 * (mem 53 1).toNat ∨ 55 + 5 * (mem 53 1).toNat + 4 < q) → m' q = mem q)
    (s1 : m' 138 25 = (if mem 53 2 = 8 then 8 else mem 53 2 + 1)) (s2 : ∀ i, 0 ≤ i → i < 688 → m' 143 i = if mem 53 2 = 8 then (if 602 ≤ i then mem 140 (106 + (i - 602)) else mem 143 (i + 86)) else (if 86 * mem 53 2 ≤ i ∧ i < 86 * mem 53 2 + 86 then mem 140 (106 + (i - 86 * mem 53 2)) else mem 143 i)) : rH m' A' := by
  have o1 := o.1
  obtain ⟨⟨r1, r2, r3, r4, r5⟩, rj⟩ := r
  have p0 := pA 0 (by omega) (by omega)
  have p1 := pA 1 (by omega) (by omega)
  have p2 := pA 2 (by omega) (by omega)
  have p3 := pA 3 (by omega) (by omega)
  have off : ∀ (B : Int → Int) (m : zMem) (j i : Int), i < 106 → snA m B j i = B i := by
    intro B m j i h
    unfold snA
    rw [if_neg (by omega)]
  have on : ∀ (B : Int → Int) (m : zMem) (j i : Int), 106 ≤ i → i < 192 → snA m B j i = m 143 (86 * j + (i - 106)) := by
    intro B m j i h h'
    unfold snA
    rw [if_pos (by omega)]
  refine ⟨⟨by omega, by omega, ?_, ?_, by rw [s1, k2]⟩, ?_⟩
  · rw [k2]; split <;> omega
  · rw [k2]; split <;> omega
  · intro j j0 j1
    -- the newest
    have newest : j = (if mem 53 2 = 8 then 7 else mem 53 2) → vS m' (55 + 5 * ((m' 53 1 - m' 53 2 + j + 8) % 8).toNat) (snA m' A' j) ∧ oS (snA m' A' j) := by
      intro hj
      have hs : (m' 53 1 - m' 53 2 + j + 8) % 8 = mem 53 1 := by
        rw [k1, k2, hj]
        split <;> omega
      have hv : ∀ i, 106 ≤ i → i < 192 → snA m' A' j i = A i := by
        intro i a b
        rw [on _ _ _ _ a b, s2 _ (by split at hj <;> omega) (by split at hj <;> omega), hA]
        by_cases h8 : mem 53 2 = 8
        · rw [if_pos h8] at hj ⊢
          rw [if_pos (by omega)]
          congr 1
          omega
        · rw [if_neg h8] at hj ⊢
          rw [if_pos (by omega)]
          congr 1
          omega
      rw [hs]
      exact ⟨vS_cg (by rw [off _ _ _ _ (by omega), p2]) (by rw [off _ _ _ _ (by omega), p3]) (by omega) (by omega) hv k3, oS_cg (by rw [off _ _ _ _ (by omega), p0]) (by rw [off _ _ _ _ (by omega), p1]) (by rw [off _ _ _ _ (by omega), p2]) (by rw [off _ _ _ _ (by omega), p3]) (by omega) (by omega) hv os⟩
    by_cases hj : j = (if mem 53 2 = 8 then 7 else mem 53 2)
    · exact newest hj
    · -- an older one
      have j8 : j + (if mem 53 2 = 8 then 1 else 0) < mem 53 2 := by
        rw [k2] at j1
        split at hj <;> split at j1 <;> simp only [*, ↓reduceIte] <;> omega
      obtain ⟨a1, a2⟩ := rj (j + (if mem 53 2 = 8 then 1 else 0)) (by split <;> omega) j8
      have hs : (m' 53 1 - m' 53 2 + j + 8) % 8 = (mem 53 1 - mem 53 2 + (j + (if mem 53 2 = 8 then 1 else 0)) + 8) % 8 := by
        rw [k1, k2]
        split <;> omega
      have hne : (mem 53 1 - mem 53 2 + (j + (if mem 53 2 = 8 then 1 else 0)) + 8) % 8 ≠ mem 53 1 := by
        split at j8 <;> simp only [*, ↓reduceIte] <;> omega
      have hr : 0 ≤ (mem 53 1 - mem 53 2 + (j + (if mem 53 2 = 8 then 1 else 0)) + 8) % 8 ∧ (mem 53 1 - mem 53 2 + (j + (if mem 53 2 = 8 then 1 else 0)) + 8) % 8 < 8 := ⟨Int.emod_nonneg _ (by omega), Int.emod_lt_of_pos _ (by omega)⟩
      have hv : ∀ i, 106 ≤ i → i < 192 → snA m' A' j i = snA mem A (j + (if mem 53 2 = 8 then 1 else 0)) i := by
        intro i a b
        rw [on _ _ _ _ a b, on _ _ _ _ a b, s2 _ (by omega) (by split at j8 <;> omega)]
        by_cases h8 : mem 53 2 = 8
        · simp only [h8, ↓reduceIte] at j8 ⊢
          rw [if_neg (by omega)]
          congr 1
          omega
        · simp only [h8, ↓reduceIte] at j8 ⊢
          rw [if_neg (by omega)]
          congr 1
          omega
      rw [hs]
      generalize (mem 53 1 - mem 53 2 + (j + (if mem 53 2 = 8 then 1 else 0)) + 8) % 8 = u at *
      refine ⟨?_, oS_cg (by rw [off _ _ _ _ (by omega), off _ _ _ _ (by omega), p0]) (by rw [off _ _ _ _ (by omega), off _ _ _ _ (by omega), p1]) (by rw [off _ _ _ _ (by omega), off _ _ _ _ (by omega), p2]) (by rw [off _ _ _ _ (by omega), off _ _ _ _ (by omega), p3]) (by rw [off _ _ _ _ (by omega)]; omega) (by rw [off _ _ _ _ (by omega)]; omega) hv a2⟩
      exact vS_cg (by rw [off _ _ _ _ (by omega), off _ _ _ _ (by omega), p2]) (by rw [off _ _ _ _ (by omega), off _ _ _ _ (by omega), p3]) (by rw [off _ _ _ _ (by omega)]; omega) (by rw [off _ _ _ _ (by omega)]; omega) hv (vS_mem (fun q h1 h2 => k4 q (by omega) (by omega) (by omega)) a1)
