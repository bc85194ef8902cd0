theorem cBringBack {mem : zMem} {A : Int → Int} (r : rH mem A) (o : oP A) (hz : mem 53 2 ≠ 0) : ∃ m', f_X2_bringBack 11 mem = some (1, m') ∧ m' 53 1 = (mem 53 1 + 7) % 8 ∧ m' 53 2 = mem 53 2 - 1 ∧ vS m' 11 (snA mem A (mem 53 2 - 1)) ∧ ∀ q, q ≠ 53 → (q < 11 ∨ 15 < q) → m' q = mem q := by
  have o1 := o.1
  have L := l54
  obtain ⟨⟨r1, r2, r3, r4, r5⟩, rj⟩ := r
  obtain ⟨a1, a2⟩ := rj (mem 53 2 - 1) (by omega) (by omega)
  have hn : (mem 53 1 - mem 53 2 + (mem 53 2 - 1) + 8) % 8 = (mem 53 1 + 7) % 8 := by omega
  rw [hn] at a1
  have n0 : 0 ≤ (mem 53 1 + 7) % 8 := Int.emod_nonneg _ (by omega)
  have n1 : (mem 53 1 + 7) % 8 < 8 := Int.emod_lt_of_pos _ (by omega)
  obtain ⟨s1, s2⟩ := sc54 n0 n1
  have e2 : snA mem A (mem 53 2 - 1) 2 = A 2 := by unfold snA; rw [if_neg (by omega)]
  have e3 : snA mem A (mem 53 2 - 1) 3 = A 3 := by unfold snA; rw [if_neg (by omega)]
  have a1' : vS (zup (zup mem 53 1 ((mem 53 1 + 7) % 8)) 53 2 (mem 53 2 - 1)) (55 + 5 * ((mem 53 1 + 7) % 8).toNat) (snA mem A (mem 53 2 - 1)) := vS_mem (fun q h1 h2 => by rw [zup_off (by omega), zup_off (by omega)]) a1
  obtain ⟨m1, e, a, b⟩ := cCopyS (to := 11) (fr := 55 + 5 * ((mem 53 1 + 7) % 8).toNat) ⟨rfl, rfl, rfl, rfl⟩ s2 (by omega) a1' (by omega) (by omega)
  have f1 : zrem (w32 (w32 (mem 53 1 + 8) - 1)) 8 = (mem 53 1 + 7) % 8 := by
    rw [w32_id (x := mem 53 1 + 8) (by omega), w32_id (by omega), rem8 (by omega) (by omega)]
    congr 1
    omega
  have f2 : w32 (zup mem 53 1 ((mem 53 1 + 7) % 8) 53 2 - 1) = mem 53 2 - 1 := by
    rw [zup_same, if_neg (by omega), w32_id (by omega)]
  have f3 : zup (zup mem 53 1 ((mem 53 1 + 7) % 8)) 53 2 (mem 53 2 - 1) 53 1 = (mem 53 1 + 7) % 8 := by
    rw [zup_same, if_neg (by omega), zup_same, if_pos rfl]
  unfold f_X2_bringBack
  simp only [pipe, hz, ↓reduceIte, f1, f2, f3]
  rw [if_pos (by omega), s1, e]
  refine ⟨m1, rfl, ?_, ?_, a, ?_⟩
  · rw [b 53 (by omega), f3]
  · rw [b 53 (by omega), zup_same, if_pos rfl]
  · intro q h1 h2
    rw [b q (by omega), zup_off h1, zup_off h1]
theorem rH_undo {mem m' : zMem} {A A' : Int → Int} (r : rH mem A) (o : oP A) (hz : mem 53 2 ≠ 0) (pA : ∀ i, 0 ≤ i → i < 106 → A' i = A i) (k1 : m' 53 1 = (mem 53 1 + 7) % 8) (k2 : m' 53 2 = mem 53 2 - 1) (k4 : ∀ q, 55 ≤ q → q ≤ 94 → m' q = mem q) (s1 : m' 138 25 = mem 53 2 - 1) (s2 : m' 143 = mem 143) : rH m' A' := by
  have o1 := o.1
  obtain ⟨⟨r1, r2, r3, r4, r5⟩, rj⟩ := r
  refine ⟨⟨by omega, by omega, by omega, by omega, by omega⟩, ?_⟩
  intro j j0 j1
  obtain ⟨a1, a2⟩ := rj j j0 (by omega)
  have hs : (m' 53 1 - m' 53 2 + j + 8) % 8 = (mem 53 1 - mem 53 2 + j + 8) % 8 := by
    rw [k1, k2]; omega
  have hr : 0 ≤ (mem 53 1 - mem 53 2 + j + 8) % 8 ∧ (mem 53 1 - mem 53 2 + j + 8) % 8 < 8 := ⟨Int.emod_nonneg _ (by omega), Int.emod_lt_of_pos _ (by omega)⟩
  have hv : ∀ i, 106 ≤ i → i < 192 → snA m' A' j i = snA mem A j i := by
    intro i a b
    unfold snA
    rw [if_pos ⟨a, b⟩, if_pos ⟨a, b⟩, s2]
  have hp : ∀ i, 0 ≤ i → i < 106 → snA m' A' j i = snA mem A j i := by
    intro i a b
    unfold snA
    rw [if_neg (by omega), if_neg (by omega), pA i a b]
  have e2 : snA mem A j 2 = A 2 := by unfold snA; rw [if_neg (by omega)]
  have e3 : snA mem A j 3 = A 3 := by unfold snA; rw [if_neg (by omega)]
  rw [hs]
  exact ⟨vS_cg (hp 2 (by omega) (by omega)) (hp 3 (by omega) (by omega)) (by omega) (by omega) hv (vS_mem (fun q h1 h2 => k4 q (by omega) (by omega)) a1), oS_cg (hp 0 (by omega) (by omega)) (hp 1 (by omega) (by omega)) (hp 2 (by omega) (by omega)) (hp 3 (by omega) (by omega)) (by omega) (by omega) hv a2⟩
