/-! the kept words, as packWords lays them -/
def wr3 : List Int → Int → zMem → zMem
  | [], _, m => m
  | v :: r, k, m => wr3 r (k + 1) (zup m 3 k v)
def pwS : List Int → Int → List Int
  | [], _ => []
  | c :: r, w => if c = 32 then w :: pwS r 0 else pwS r (w * 32 + (c - 96))
def pwO : List Int → Int → Bool
  | [], _ => true
  | c :: r, w => if c = 32 then (decide (0 ≤ w ∧ w ≤ 4000000000000) && pwO r 0) else (decide (0 ≤ w ∧ w ≤ 40000000000 ∧ 97 ≤ c ∧ c ≤ 122) && (pwO r (w * 32 + (c - 96)) && decide (1 ≤ (pwS r (w * 32 + (c - 96))).length)))
def pwC (s : Nat) (a : Nat) : List Int := (List.range a).map (fun (j : Nat) => zSc s (j : Int))
theorem pack_l {s : Nat} : ∀ (cs : List Int) (v6 v3 w : Int) (mem : zMem) (n : Nat), 0 ≤ v6 → v6 + cs.length = zSl s → zSl s ≤ 1000 → (∀ j : Nat, j < cs.length → zSc s (v6 + j) = cs.getD j 0) → cs.length < n → 0 ≤ v3 → v3 + (pwS cs w).length ≤ 24 → pwO cs w = true → f_X6_packWords_0 n s v3 w v6 mem = some (v3 + (pwS cs w).length, wr3 (pwS cs w) v3 mem) := by
  intro cs
  have L3 : sLen 3 = 24 := by decide +kernel
  induction cs with
  | nil =>
    intro v6 v3 w mem n h0 h1 h1' h2 h3 h4 h5 h6
    obtain ⟨n, rfl⟩ : ∃ k, n = k + 1 := ⟨n - 1, by simp at h3; omega⟩
    show b_X6_packWords_0 (f_X6_packWords_0 n) s v3 w v6 mem = _
    unfold b_X6_packWords_0 f_J0_length_8abf5
    simp only [zbind]
    simp at h1
    rw [if_pos (by omega)]
    simp [pwS, wr3]
  | cons c r ih =>
    intro v6 v3 w mem n h0 h1 h1' h2 h3 h4 h5 h6
    simp only [List.length_cons] at h1 h2 h3
    obtain ⟨n, rfl⟩ : ∃ k, n = k + 1 := ⟨n - 1, by omega⟩
    have ec : zSc s v6 = c := by
      have := h2 0 (by omega)
      simpa using this
    have hr : ∀ j : Nat, j < r.length → zSc s (v6 + 1 + j) = r.getD j 0 := by
      intro j hj
      have := h2 (j + 1) (by omega)
      rw [show v6 + 1 + (j : Int) = v6 + ((j + 1 : Nat) : Int) by omega, this]
      simp
    have hp : 1 ≤ (pwS (c :: r) w).length := by
      unfold pwS
      unfold pwO at h6
      by_cases hc : c = 32
      · rw [if_pos hc]
        simp
      · rw [if_neg hc]
        rw [if_neg hc] at h6
        simp at h6
        omega
    show b_X6_packWords_0 (f_X6_packWords_0 n) s v3 w v6 mem = _
    unfold b_X6_packWords_0 f_J0_length_8abf5 f_J0_charAt_5068e
    simp only [zbind]
    rw [if_neg (by omega), if_neg (by omega), if_pos (by omega)]
    simp only
    rw [ec]
    unfold pwO at h6
    by_cases hc : c = 32
    · rw [if_pos hc] at h6 ⊢
      simp only [Bool.and_eq_true, decide_eq_true_eq] at h6
      have e5 : pwS (c :: r) w = w :: pwS r 0 := by rw [pwS, if_pos hc]
      rw [e5] at h5 ⊢
      simp only [List.length_cons] at h5
      rw [if_pos (show ix 3 v3 from ⟨by omega, by omega⟩)]
      simp only [pipe]
      rw [w32_id (x := v3 + 1) ⟨by omega, by omega⟩, w32_id (x := v6 + 1) ⟨by omega, by omega⟩, ih (v6 + 1) (v3 + 1) 0 _ n (by omega) (by omega) h1' hr (by omega) (by omega) (by omega) h6.2]
      simp only [List.length_cons, wr3]
      congr 2
      omega
    · rw [if_neg hc] at h6 ⊢
      simp only [Bool.and_eq_true, decide_eq_true_eq] at h6
      have e5 : pwS (c :: r) w = pwS r (w * 32 + (c - 96)) := by rw [pwS, if_neg hc]
      rw [e5] at h5 ⊢
      rw [if_pos (by omega)]
      simp only [pipe]
      have ew : w64 (w64 (w * 32) + w32 (w32 (c - 97) + 1)) = w * 32 + (c - 96) := by
        rw [w64_id (x := w * 32) ⟨by omega, by omega⟩, w32_id (x := c - 97) ⟨by omega, by omega⟩, w32_id (x := c - 97 + 1) ⟨by omega, by omega⟩, w64_id ⟨by omega, by omega⟩]
        omega
      rw [ew, w32_id (x := v6 + 1) ⟨by omega, by omega⟩, ih (v6 + 1) v3 _ _ n (by omega) (by omega) h1' hr (by omega) h4 h5 h6.2.1]
theorem pack_s {s : Nat} {a : Nat} {x : Int} {ws : List Int} (hs : zSl s = a) (ha : a ≤ 1000) (hw : pwS (pwC s a) 0 = ws) (ho : pwO (pwC s a) 0 = true) (h0 : 0 ≤ x) (h1 : x + ws.length ≤ 24) (mem : zMem) : f_X6_packWords s x mem = some (x + ws.length, wr3 ws x mem) := by
  have hN := zN_ge
  have hl : (pwC s a).length = a := by simp [pwC]
  unfold f_X6_packWords
  subst hw
  refine pack_l (pwC s a) 0 x 0 mem zN (by omega) (by omega) (by omega) (fun j hj => ?_) (by omega) h0 h1 ho
  unfold pwC
  rw [List.getD_eq_getElem?_getD, List.getElem?_map, List.getElem?_range (by omega)]
  simp
theorem pack_0 (mem : zMem) : f_X6_packWords 0 0 mem = some (9, wr3 (kw32.take 9) 0 mem) := pack_s (a := 53) (ws := kw32.take 9) (by decide +kernel) (by decide) (by decide +kernel) (by decide +kernel) (by decide) (by decide) mem
theorem pack_1 (mem : zMem) : f_X6_packWords 1 9 mem = some (13, wr3 ((kw32.drop 9).take 4) 9 mem) := pack_s (a := 19) (ws := (kw32.drop 9).take 4) (by decide +kernel) (by decide) (by decide +kernel) (by decide +kernel) (by decide) (by decide) mem
theorem pack_2 (mem : zMem) : f_X6_packWords 2 13 mem = some (24, wr3 (kw32.drop 13) 13 mem) := pack_s (a := 49) (ws := kw32.drop 13) (by decide +kernel) (by decide) (by decide +kernel) (by decide +kernel) (by decide) (by decide) mem
theorem wr3_off {p : Nat} (hp : p ≠ 3) : ∀ (ws : List Int) (k : Int) (m : zMem), wr3 ws k m p = m p := by
  intro ws
  induction ws with
  | nil => intros; rfl
  | cons v r ih =>
    intro k m
    rw [wr3, ih, zup_off hp]
