/-! a text and its tokens -/
def run (P : Int → Bool) : Nat → Int → Nat
  | 0, _ => 0
  | k + 1, i => if P i then run P k (i + 1) + 1 else 0
theorem run_s (P : Int → Bool) (k : Nat) (i : Int) : run P (k + 1) i = if P i then run P k (i + 1) + 1 else 0 := rfl
theorem run_ok (P : Int → Bool) (k : Nat) (i : Int) : run P k i ≤ k ∧ (∀ j : Nat, j < run P k i → P (i + j) = true) ∧ (run P k i < k → P (i + run P k i) = false) := by
  induction k generalizing i with
  | zero => exact ⟨Nat.le_refl _, fun j h => absurd h (by unfold run; omega), fun h => absurd h (by unfold run; omega)⟩
  | succ k ih =>
    rw [run_s]
    by_cases hp : P i = true
    · rw [if_pos hp]
      obtain ⟨a, b, c⟩ := ih (i + 1)
      refine ⟨by omega, fun j hj => ?_, fun h => ?_⟩
      · cases j with
        | zero => simpa using hp
        | succ j =>
          have := b j (by omega)
          rw [show i + ((j + 1 : Nat) : Int) = i + 1 + (j : Int) by omega]
          exact this
      · have := c (by omega)
        rw [show i + ((run P k (i + 1) + 1 : Nat) : Int) = i + 1 + (run P k (i + 1) : Int) by omega]
        exact this
    · rw [if_neg hp]
      exact ⟨by omega, fun j hj => by omega, fun _ => by simpa using hp⟩
def isL (c : Int) : Bool := decide (97 ≤ c ∧ c ≤ 122)
def isD (c : Int) : Bool := decide (48 ≤ c ∧ c ≤ 57)
def isB (c : Int) : Bool := decide (c = 32 ∨ c = 10)
def isS (c : Int) : Bool := decide (c = 59 ∨ c = 60 ∨ c = 61 ∨ c = 62 ∨ c = 40 ∨ c = 41)
def wlF (T : Int → Int) (b : Int) (k : Nat) : List Int := (List.range k).map fun (j : Nat) => T (b + j) - 96
def decF (T : Int → Int) (b : Int) : Nat → Int
  | 0 => 0
  | k + 1 => 10 * decF T b k + T (b + k) - 48
abbrev Tok : Type := Int × Int × Int × Int × List Int
def lexB (T : Int → Int) (n p : Int) : Int := p + run (fun i => isB (T i)) (n - p).toNat p
def lexK (T : Int → Int) (n b : Int) : Nat := run (fun i => isL (T i) || isD (T i)) (n - b).toNat b
def allP (P : Int → Bool) (T : Int → Int) (b : Int) : Nat → Bool
  | 0 => true
  | k + 1 => allP P T b k && P (T (b + k))
theorem allP_s (P : Int → Bool) (T : Int → Int) (b : Int) (k : Nat) : allP P T b (k + 1) = (allP P T b k && P (T (b + k))) := rfl
theorem allP_iff (P : Int → Bool) (T : Int → Int) (b : Int) (k : Nat) : allP P T b k = true ↔ ∀ j : Nat, j < k → P (T (b + j)) = true := by
  induction k with
  | zero => exact ⟨fun _ j h => by omega, fun _ => rfl⟩
  | succ k ih =>
    rw [allP_s, Bool.and_eq_true, ih]
    constructor
    · rintro ⟨h1, h2⟩ j hj
      by_cases h : j = k
      · rw [h]; exact h2
      · exact h1 j (by omega)
    · intro h
      exact ⟨fun j hj => h j (by omega), h k (by omega)⟩
/-- place, where the next begins, kind (0 end, 1 wrong, 2 word, 3 number, 4 sign), number or sign, letters -/
def lexT (T : Int → Int) (n lim p : Int) : Tok :=
  if lim < n ∧ lim ≤ lexB T n p then (lim, lexB T n p, 1, 0, [])
  else if n ≤ lexB T n p then (lexB T n p, lexB T n p, 0, 0, [])
  else if (isL (T (lexB T n p)) || isD (T (lexB T n p))) = true then
    (if allP isL T (lexB T n p) (lexK T n (lexB T n p)) = true ∧ lexK T n (lexB T n p) ≤ 7 then (lexB T n p, lexB T n p + lexK T n (lexB T n p), 2, 0, wlF T (lexB T n p) (lexK T n (lexB T n p)))
    else if allP isD T (lexB T n p) (lexK T n (lexB T n p)) = true ∧ lexK T n (lexB T n p) ≤ 3 then (lexB T n p, lexB T n p + lexK T n (lexB T n p), 3, decF T (lexB T n p) (lexK T n (lexB T n p)), [])
    else (lexB T n p, lexB T n p + lexK T n (lexB T n p), 1, 0, []))
  else (lexB T n p, lexB T n p + 1, if isS (T (lexB T n p)) = true then 4 else 1, T (lexB T n p), [])
theorem lexB_r {T : Int → Int} {n p : Int} (h : p ≤ n) : p ≤ lexB T n p ∧ lexB T n p ≤ n ∧ (lexB T n p < n → isB (T (lexB T n p)) = false) ∧ ∀ j, p ≤ j → j < lexB T n p → isB (T j) = true := by
  obtain ⟨a, b, c⟩ := run_ok (fun i => isB (T i)) (n - p).toNat p
  unfold lexB
  refine ⟨by omega, by omega, fun h => c (by omega), fun j j0 j1 => ?_⟩
  have := b (j - p).toNat (by omega)
  rw [show p + ((j - p).toNat : Int) = j by omega] at this
  exact this
theorem lexK_r {T : Int → Int} {n b : Int} (h : b < n) (hc : (isL (T b) || isD (T b)) = true) : 1 ≤ lexK T n b ∧ b + lexK T n b ≤ n ∧ (∀ j : Nat, j < lexK T n b → (isL (T (b + j)) || isD (T (b + j))) = true) ∧ (b + lexK T n b < n → (isL (T (b + lexK T n b)) || isD (T (b + lexK T n b))) = false) := by
  obtain ⟨a, bb, c⟩ := run_ok (fun i => isL (T i) || isD (T i)) (n - b).toNat b
  unfold lexK
  refine ⟨?_, by omega, bb, fun h => c (by omega)⟩
  obtain ⟨k, hk⟩ : ∃ k, (n - b).toNat = k + 1 := ⟨(n - b).toNat - 1, by omega⟩
  rw [hk, run_s, if_pos hc]
  omega
/-! words by both packings -/
theorem pk_inj {b : Int} (hb : 2 ≤ b) : ∀ (k : Nat) (l l' : List Int), l.length ≤ k → (∀ x ∈ l, 1 ≤ x ∧ x < b) → (∀ x ∈ l', 1 ≤ x ∧ x < b) → pk b l = pk b l' → l = l' := by
  have pos : ∀ (l : List Int) (x : Int), (∀ y ∈ l ++ [x], 1 ≤ y ∧ y < b) → 1 ≤ pk b (l ++ [x]) := by
    intro l x h
    have := (pk_bound hb l (fun y hy => by have := h y (by simp [hy]); omega)).1
    have hx := h x (by simp)
    have h1 : 0 ≤ b * pk b l := Int.mul_nonneg (by omega) this
    rw [pk_cat]
    omega
  intro k
  induction k with
  | zero =>
    intro l l' hl h h' e
    have : l = [] := List.eq_nil_of_length_eq_zero (by omega)
    subst this
    rcases List.eq_nil_or_concat l' with h0 | ⟨l2, x, h0⟩
    · exact h0.symm
    · rw [List.concat_eq_append] at h0
      subst h0
      have := pos l2 x h'
      rw [pk_nil] at e
      omega
  | succ k ih =>
    intro l l' hl h h' e
    rcases List.eq_nil_or_concat l with h0 | ⟨l1, x, h0⟩
    · subst h0
      rcases List.eq_nil_or_concat l' with h0 | ⟨l2, x, h0⟩
      · exact h0.symm
      · rw [List.concat_eq_append] at h0
        subst h0
        have := pos l2 x h'
        rw [pk_nil] at e
        omega
    · rw [List.concat_eq_append] at h0
      subst h0
      rcases List.eq_nil_or_concat l' with h0 | ⟨l2, y, h0⟩
      · subst h0
        have := pos l1 x h
        rw [pk_nil] at e
        omega
      · rw [List.concat_eq_append] at h0
        subst h0
        have hx := h x (by simp)
        have hy := h' y (by simp)
        rw [pk_cat, pk_cat] at e
        have e1 : (b * pk b l1 + x) % b = (b * pk b l2 + y) % b := by rw [e]
        rw [Int.mul_add_emod_self_left, Int.mul_add_emod_self_left, Int.emod_eq_of_lt (by omega) (by omega), Int.emod_eq_of_lt (by omega) (by omega)] at e1
        have e2 : b * pk b l1 = b * pk b l2 := by omega
        have e3 : pk b l1 = pk b l2 := Int.eq_of_mul_eq_mul_left (by omega) e2
        rw [ih l1 l2 (by simp at hl; omega) (fun z hz => h z (by simp [hz])) (fun z hz => h' z (by simp [hz])) e3, e1]
theorem pk_iff {l l' : List Int} (h : ∀ x ∈ l, 1 ≤ x ∧ x ≤ 26) (h' : ∀ x ∈ l', 1 ≤ x ∧ x ≤ 26) : pk 32 l = pk 32 l' ↔ pk 27 l = pk 27 l' := by
  constructor
  · intro e
    rw [pk_inj (by omega) l.length l l' (Nat.le_refl _) (fun x hx => by have := h x hx; omega) (fun x hx => by have := h' x hx; omega) e]
  · intro e
    rw [pk_inj (by omega) l.length l l' (Nat.le_refl _) (fun x hx => by have := h x hx; omega) (fun x hx => by have := h' x hx; omega) e]
theorem wd_iff {a b a' b' : Int} (h : wd a b) (h' : wd a' b') : a = a' ↔ b = b' := by
  obtain ⟨l, o, e1, e2⟩ := h
  obtain ⟨l', o', e1', e2'⟩ := h'
  rw [e1, e2, e1', e2']
  exact pk_iff o.2.2 o'.2.2
def kwL : List (List Int) := [[7, 18, 15, 21, 14, 4], [19, 20, 15, 14, 5, 19], [8, 15, 21, 19, 5], [16, 5, 18, 19, 15, 14], [19, 21, 14], [5, 1, 19, 20], [19, 15, 21, 20, 8], [23, 5, 19, 20], [14, 15, 18, 20, 8], [12, 1, 25], [20, 5, 1, 18], [2, 21, 18, 25], [8, 15, 21, 18], [15, 18], [1, 14, 4], [14, 15, 20], [19, 8, 1, 4, 5, 4], [16, 15, 15, 18], [8, 5, 9, 18], [15, 6], [23, 5, 1, 12, 20, 8], [24], [25], [14, 21, 13, 2, 5, 18]]
theorem kwL_32 : ∀ k : Nat, k < 24 → kw32.getD k 0 = pk 32 (kwL.getD k []) := by decide +kernel
theorem kwL_ok : ∀ k : Nat, k < 24 → ∀ x ∈ kwL.getD k [], 1 ≤ x ∧ x ≤ 26 := by decide +kernel
theorem kwL_ne : ∀ k : Nat, k < 24 → ∀ j : Nat, j < 24 → pk 32 (kwL.getD k []) = pk 32 (kwL.getD j []) → k = j := by decide +kernel
def kno (l : List Int) : Int := fst1 (fun k => decide (pk 32 (kwL.getD k.toNat []) = pk 32 l)) 24 0
theorem kno_r (l : List Int) : kno l = -1 ∨ (0 ≤ kno l ∧ kno l < 24) := by
  rcases fst1_spec (fun k => decide (pk 32 (kwL.getD k.toNat []) = pk 32 l)) 24 0 with ⟨h, _⟩ | ⟨h1, h2, _⟩
  · exact Or.inl h
  · exact Or.inr ⟨h1, h2⟩
theorem kno_iff {l : List Int} (h : ∀ x ∈ l, 1 ≤ x ∧ x ≤ 26) {k : Nat} (hk : k < 24) : kno l = k ↔ pk 27 l = pk 27 (kwL.getD k []) := by
  rw [← pk_iff h (kwL_ok k hk)]
  rcases fst1_spec (fun k => decide (pk 32 (kwL.getD k.toNat []) = pk 32 l)) 24 0 with ⟨h1, h2⟩ | ⟨h1, h2, h3, h4⟩
  · have e : kno l = -1 := h1
    rw [e]
    constructor
    · intro h; omega
    · intro h5
      have := h2 k (by omega) (by omega)
      simp only [Int.toNat_natCast, decide_eq_false_iff_not] at this
      exact absurd h5.symm this
  · simp only [decide_eq_true_eq] at h3
    have hlt : (fst1 (fun k => decide (pk 32 (kwL.getD k.toNat []) = pk 32 l)) 24 0).toNat < 24 := by omega
    constructor
    · intro h5
      have h6 : fst1 (fun k => decide (pk 32 (kwL.getD k.toNat []) = pk 32 l)) 24 0 = (k : Int) := h5
      rw [h6] at h3
      simpa using h3.symm
    · intro h5
      have := kwL_ne _ hlt k hk (by rw [h3, h5])
      show fst1 (fun k => decide (pk 32 (kwL.getD k.toNat []) = pk 32 l)) 24 0 = (k : Int)
      omega
theorem wlF_s (T : Int → Int) (b : Int) (k : Nat) : wlF T b (k + 1) = wlF T b k ++ [T (b + k) - 96] := by
  unfold wlF
  rw [List.range_succ, List.map_append]
  rfl
theorem wlF_ok {T : Int → Int} {b : Int} {k : Nat} (h : allP isL T b k = true) : (wlF T b k).length = k ∧ ∀ x ∈ wlF T b k, 1 ≤ x ∧ x ≤ 26 := by
  rw [allP_iff] at h
  refine ⟨by unfold wlF; simp, fun x hx => ?_⟩
  unfold wlF at hx
  simp only [List.mem_map, List.mem_range] at hx
  obtain ⟨j, j0, j1⟩ := hx
  have := h j j0
  unfold isL at this
  simp only [decide_eq_true_eq] at this
  omega
/-! what a token looks like for either -/
def CH (m : zMem) (t : Tok) : Prop := m 1 4 = t.2.1 ∧ m 1 5 = t.1 ∧ m 1 6 = (if t.2.2.1 = 0 then 0 else if t.2.2.1 = 1 then 4 else t.2.2.1 - 1) ∧ (t.2.2.1 = 2 → m 1 7 = pk 32 t.2.2.2.2) ∧ m 1 8 = (if t.2.2.1 = 2 then kno t.2.2.2.2 else -1) ∧ ((t.2.2.1 = 3 ∨ t.2.2.1 = 4) → m 1 7 = t.2.2.2.1)
def RH (r : zMem) (t : Tok) : Prop := r 138 5 = t.2.1 ∧ r 138 6 = t.1 ∧ r 138 7 = t.2.2.1 ∧ (t.2.2.1 = 2 → r 138 12 = pk 27 t.2.2.2.2) ∧ (t.2.2.1 = 3 → r 138 8 = t.2.2.2.1) ∧ (t.2.2.1 = 4 → r 138 9 = t.2.2.2.1)
def CX (m : zMem) (T : Int → Int) (n lim : Int) : Prop := m 1 2 = n ∧ m 1 3 = lim ∧ (∀ i, 0 ≤ i → i < n → m 2 i = T i) ∧ ∀ k : Nat, k < 24 → m 3 k = kw32.getD k 0
def RX (r : zMem) (T : Int → Int) (n lim : Int) : Prop := r 138 3 = n ∧ r 138 4 = lim ∧ ∀ i, 0 ≤ i → i < n → r 139 i = T i
def okTx (T : Int → Int) (n : Int) : Prop := 0 ≤ n ∧ n ≤ 940 ∧ ∀ i, 0 ≤ i → i < n → 0 ≤ T i ∧ T i ≤ 255
