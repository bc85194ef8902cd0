/-! words: the class packs by 32, the reference by 27 -/
def pk (b : Int) (l : List Int) : Int := l.foldl (fun a x => b * a + x) 0
def okW (l : List Int) : Prop := 1 ≤ l.length ∧ l.length ≤ 7 ∧ ∀ x ∈ l, 1 ≤ x ∧ x ≤ 26
def wd (a b : Int) : Prop := ∃ l, okW l ∧ a = pk 32 l ∧ b = pk 27 l
def rN (mem : zMem) (pl : Nat) (A N : Int → Int) : Prop := (∀ h, 0 ≤ h → h < A 2 → wd (mem (pl + 3) h) (N h)) ∧ ∀ p, 0 ≤ p → p < A 3 → wd (mem (pl + 4) p) (N (5 + p))
/-! a sentence: the class's row of parts (B, with D) and the reference's tree (in A) of n leaves -/
def Rep (B D A : Int → Int) : Nat → Int → Int → Int → Nat → Prop
  | 0, _, _, _, _ => False
  | d + 1, k, i, j, n => (0 ≤ k ∧ k < 60 ∧ 0 ≤ i ∧ i < j ∧ j ≤ 40 ∧ 1 ≤ n) ∧ (
      (A (194 + 4 * k) = 1 ∧ B (j - 1) = 15 ∧ Rep B D A d (A (195 + 4 * k)) i (j - 1) n) ∨
      (∃ m n1 n2, n = n1 + n2 ∧ ((A (194 + 4 * k) = 2 ∧ B (j - 1) = 14) ∨ (A (194 + 4 * k) = 3 ∧ B (j - 1) = 13)) ∧ Rep B D A d (A (195 + 4 * k)) i m n1 ∧ Rep B D A d (A (196 + 4 * k)) m (j - 1) n2) ∨
      (n = 1 ∧ j = i + 1 ∧ (
        (∃ w, 16 ≤ w ∧ w ≤ 18 ∧ A (194 + 4 * k) = 50 + w ∧ B i = w) ∨
        (A (194 + 4 * k) = 69 ∧ B i = 19 ∧ A (195 + 4 * k) = D i ∧ 0 ≤ D i ∧ D i < A 2) ∨
        (∃ w s, 20 ≤ w ∧ w ≤ 23 ∧ 0 ≤ s ∧ s ≤ 2 ∧ A (194 + 4 * k) = 50 + w ∧ A (197 + 4 * k) = 60 + s ∧ B i = 100 * (s + 1) + w ∧ A (196 + 4 * k) = D i ∧ 0 ≤ D i ∧ D i ≤ 999))))
def rS (mem : zMem) (se : Nat) (A : Int → Int) : Prop := (A 192 = 0 ∧ mem se 4 = 0) ∨ (A 192 = 1 ∧ 1 ≤ mem se 4 ∧ mem se 3 ≤ 40 ∧ ∃ d n, d ≤ 60 ∧ n ≤ 20 ∧ Rep (mem (se + 1)) (mem (se + 2)) A d (A 193) 0 (mem se 3) n)
def rI (mem : zMem) (pl sc se : Nat) (A N : Int → Int) : Prop := oP A ∧ oS A ∧ vP mem pl A ∧ vS mem sc A ∧ rN mem pl A N ∧ rS mem se A
def rT (mem : zMem) : Prop := mem 138 2 = mem 1 2 ∧ 0 ≤ mem 1 2 ∧ mem 1 2 ≤ 940 ∧ ∀ i, 0 ≤ i → i < mem 1 2 → mem 139 i = mem 2 i ∧ 0 ≤ mem 2 i ∧ mem 2 i ≤ 255
def rV (mem : zMem) : Prop := mem 138 10 = mem 0 15 ∧ mem 138 26 = mem 0 16 ∧ mem 138 32 = mem 0 17 ∧ mem 138 33 = mem 0 18 ∧ mem 138 34 = mem 0 19
def rL (mem : zMem) : Prop := mem 138 36 = mem 102 1 ∧ 0 ≤ mem 102 1 ∧ mem 102 1 ≤ 40 ∧ ∀ i, 0 ≤ i → i < mem 102 1 → mem 153 i = mem 103 i
def rB (mem : zMem) : Prop := mem 138 41 = mem 45 5 ∧ (mem 45 5 = 0 ∨ (mem 45 5 = 1 ∧ mem 155 0 = mem 45 6 ∧ mem 155 1 = mem 45 7 ∧ mem 155 2 = mem 45 8 ∧ mem 155 3 = mem 45 9))
def rG (mem : zMem) : Prop := ∀ k : Nat, k < 2 → mem 148 k = mem 96 k ∧ (mem 96 k = 0 ∨ (mem 96 k = 1 ∧ rI mem (105 + 17 * k) (112 + 17 * k) (117 + 17 * k) (fun i => mem 142 (434 * k + i)) (fun i => mem 147 (11 * k + i))))
def kw32 : List Int := [254268868, 659011763, 8902245, 542723566, 20142, 165492, 20436616, 759412, 15190664, 12345, 660530, 87641, 278194, 498, 1476, 14836, 645959844, 540146, 267570, 486, 777040520, 24, 25, 492210354]
def rK (mem : zMem) : Prop := (∀ k : Nat, k < 24 → mem 3 k = kw32.getD k 0) ∧ mem 41 3 = 0 ∧ mem 41 4 = 0
def rO (mem : zMem) : Prop := rT mem ∧ rV mem ∧ rL mem ∧ rB mem ∧ rG mem ∧ rK mem
def Rel (mem : zMem) : Prop := rI mem 4 11 16 (mem 140) (mem 145) ∧ rH mem (mem 140) ∧ rO mem
/-! what stays -/
theorem rN_mem {mem m' : zMem} {pl : Nat} {A N : Int → Int} (h : ∀ q, pl ≤ q → q ≤ pl + 6 → m' q = mem q) (r : rN mem pl A N) : rN m' pl A N := by
  unfold rN at r ⊢
  rw [h (pl + 3) (by omega) (by omega), h (pl + 4) (by omega) (by omega)]
  exact r
theorem rS_mem {mem m' : zMem} {se : Nat} {A : Int → Int} (h : ∀ q, se ≤ q → q ≤ se + 2 → m' q = mem q) (r : rS mem se A) : rS m' se A := by
  unfold rS at r ⊢
  rw [h se (by omega) (by omega), h (se + 1) (by omega) (by omega), h (se + 2) (by omega) (by omega)]
  exact r
theorem rI_mem {mem m' : zMem} {pl sc se : Nat} {A N : Int → Int} (h1 : ∀ q, pl ≤ q → q ≤ pl + 6 → m' q = mem q) (h2 : ∀ q, sc ≤ q → q ≤ sc + 4 → m' q = mem q) (h3 : ∀ q, se ≤ q → q ≤ se + 2 → m' q = mem q) (r : rI mem pl sc se A N) : rI m' pl sc se A N := by
  obtain ⟨o, os, v, w, n, s⟩ := r
  exact ⟨o, os, vP_mem h1 v, vS_mem h2 w, rN_mem h1 n, rS_mem h3 s⟩
theorem Rep_cg {B D A A' : Int → Int} (h : ∀ i, 0 ≤ i → i < 434 → A' i = A i) : ∀ (d : Nat) (k i j : Int) (n : Nat), Rep B D A d k i j n → Rep B D A' d k i j n := by
  intro d
  induction d with
  | zero => intro k i j n r; exact r
  | succ d ih =>
    intro k i j n r
    unfold Rep at r ⊢
    obtain ⟨hk, r⟩ := r
    refine ⟨hk, ?_⟩
    rw [h (194 + 4 * k) (by omega) (by omega), h (195 + 4 * k) (by omega) (by omega), h (196 + 4 * k) (by omega) (by omega), h (197 + 4 * k) (by omega) (by omega), h 2 (by omega) (by omega)]
    rcases r with ⟨a, b, c⟩ | ⟨m, n1, n2, a, b, c, e⟩ | r
    · exact Or.inl ⟨a, b, ih _ _ _ _ c⟩
    · exact Or.inr (Or.inl ⟨m, n1, n2, a, b, ih _ _ _ _ c, ih _ _ _ _ e⟩)
    · exact Or.inr (Or.inr r)
theorem rS_cg {mem : zMem} {se : Nat} {A A' : Int → Int} (h : ∀ i, 0 ≤ i → i < 434 → A' i = A i) (r : rS mem se A) : rS mem se A' := by
  unfold rS at r ⊢
  rw [h 192 (by omega) (by omega), h 193 (by omega) (by omega)]
  rcases r with r | ⟨a, b, c, d, n, e, f, g⟩
  · exact Or.inl r
  · exact Or.inr ⟨a, b, c, d, n, e, f, Rep_cg h _ _ _ _ _ g⟩
theorem rN_cg {mem : zMem} {pl : Nat} {A A' N N' : Int → Int} (o : oP A) (h2 : A' 2 = A 2) (h3 : A' 3 = A 3) (hn : ∀ i, 0 ≤ i → i < 11 → N' i = N i) (r : rN mem pl A N) : rN mem pl A' N' := by
  have o1 := o.1
  refine ⟨fun h a b => ?_, fun p a b => ?_⟩
  · rw [hn h a (by omega)]
    exact r.1 h a (by omega)
  · rw [hn (5 + p) (by omega) (by omega)]
    exact r.2 p a (by omega)
theorem rI_cg {mem : zMem} {pl sc se : Nat} {A A' N N' : Int → Int} (h : ∀ i, 0 ≤ i → i < 434 → A' i = A i) (hn : ∀ i, 0 ≤ i → i < 11 → N' i = N i) (r : rI mem pl sc se A N) : rI mem pl sc se A' N' := by
  obtain ⟨o, os, v, w, n, s⟩ := r
  have o1 := o.1
  have hp : ∀ i, 0 ≤ i → i < 106 → A' i = A i := fun i a b => h i a (by omega)
  have h0 := h 0 (by omega) (by omega)
  have h1 := h 1 (by omega) (by omega)
  have h2 := h 2 (by omega) (by omega)
  have h3 := h 3 (by omega) (by omega)
  exact ⟨oP_of hp o, oS_cg h0 h1 h2 h3 (by omega) (by omega) (fun i a b => h i (by omega) (by omega)) os, vP_of hp o v, vS_cg h2 h3 (by omega) (by omega) (fun i a b => h i (by omega) (by omega)) w, rN_cg o h2 h3 hn n, rS_cg h s⟩
def sO (mem m' : zMem) : Prop := (∀ q, (q = 0 ∨ q = 2 ∨ q = 3 ∨ q = 41 ∨ q = 96 ∨ q = 102 ∨ q = 103 ∨ (105 ≤ q ∧ q ≤ 119) ∨ (122 ≤ q ∧ q ≤ 136) ∨ q = 139 ∨ q = 142 ∨ q = 147 ∨ q = 148 ∨ q = 153 ∨ q = 155) → m' q = mem q) ∧ m' 1 2 = mem 1 2 ∧ (∀ i, 5 ≤ i → m' 45 i = mem 45 i) ∧ ∀ i, (i = 2 ∨ i = 10 ∨ i = 26 ∨ i = 32 ∨ i = 33 ∨ i = 34 ∨ i = 36 ∨ i = 41) → m' 138 i = mem 138 i
theorem rT_mem {mem m' : zMem} (h1 : m' 1 2 = mem 1 2) (h2 : m' 2 = mem 2) (h3 : m' 138 2 = mem 138 2) (h4 : m' 139 = mem 139) (r : rT mem) : rT m' := by
  unfold rT at r ⊢
  rw [h1, h2, h3, h4]
  exact r
theorem rL_mem {mem m' : zMem} (h1 : m' 138 36 = mem 138 36) (h2 : m' 102 = mem 102) (h3 : m' 103 = mem 103) (h4 : m' 153 = mem 153) (r : rL mem) : rL m' := by
  unfold rL at r ⊢
  rw [h1, h2, h3, h4]
  exact r
theorem rV_mem {mem m' : zMem} (h1 : m' 0 = mem 0) (h2 : ∀ i, (i = 10 ∨ i = 26 ∨ i = 32 ∨ i = 33 ∨ i = 34) → m' 138 i = mem 138 i) (r : rV mem) : rV m' := by
  unfold rV at r ⊢
  rw [h1, h2 10 (by omega), h2 26 (by omega), h2 32 (by omega), h2 33 (by omega), h2 34 (by omega)]
  exact r
theorem rB_mem {mem m' : zMem} (h1 : ∀ i, 5 ≤ i → m' 45 i = mem 45 i) (h2 : m' 155 = mem 155) (h3 : m' 138 41 = mem 138 41) (r : rB mem) : rB m' := by
  unfold rB at r ⊢
  rw [h2, h3, h1 5 (by omega), h1 6 (by omega), h1 7 (by omega), h1 8 (by omega), h1 9 (by omega)]
  exact r
theorem rK_mem {mem m' : zMem} (h1 : m' 3 = mem 3) (h2 : m' 41 = mem 41) (r : rK mem) : rK m' := by
  unfold rK at r ⊢
  rw [h1, h2]
  exact r
theorem rG_mem {mem m' : zMem} (h1 : ∀ q, (q = 96 ∨ (105 ≤ q ∧ q ≤ 119) ∨ (122 ≤ q ∧ q ≤ 136) ∨ q = 142 ∨ q = 147 ∨ q = 148) → m' q = mem q) (r : rG mem) : rG m' := by
  intro k hk
  have := r k hk
  rw [h1 96 (by omega), h1 142 (by omega), h1 147 (by omega), h1 148 (by omega)]
  refine ⟨this.1, ?_⟩
  rcases this.2 with h | ⟨h, g⟩
  · exact Or.inl h
  · exact Or.inr ⟨h, rI_mem (fun q a b => h1 q (by omega)) (fun q a b => h1 q (by omega)) (fun q a b => h1 q (by omega)) g⟩
theorem rO_mem {mem m' : zMem} (h : sO mem m') (r : rO mem) : rO m' := by
  obtain ⟨h1, h2, h3, h4⟩ := h
  obtain ⟨a, b, c, d, e, f⟩ := r
  exact ⟨rT_mem h2 (h1 2 (by omega)) (h4 2 (by omega)) (h1 139 (by omega)) a, rV_mem (h1 0 (by omega)) (fun i hi => h4 i (by omega)) b, rL_mem (h4 36 (by omega)) (h1 102 (by omega)) (h1 103 (by omega)) (h1 153 (by omega)) c, rB_mem h3 (h1 155 (by omega)) (h4 41 (by omega)) d, rG_mem (fun q hq => h1 q (by omega)) e, rK_mem (h1 3 (by omega)) (h1 41 (by omega)) f⟩
theorem rH_mem {mem m' : zMem} {A : Int → Int} (h1 : ∀ q, 53 ≤ q → q ≤ 94 → m' q = mem q) (h2 : m' 138 25 = mem 138 25) (h3 : m' 143 = mem 143) (r : rH mem A) : rH m' A := by
  unfold rH at r ⊢
  have e : ∀ j, snA m' A j = snA mem A j := fun j => by unfold snA; rw [h3]
  rw [h1 53 (by omega) (by omega), h2]
  refine ⟨r.1, fun j a b => ?_⟩
  rw [e j]
  have := r.2 j a b
  have hr : 0 ≤ (mem 53 1 - mem 53 2 + j + 8) % 8 ∧ (mem 53 1 - mem 53 2 + j + 8) % 8 < 8 := ⟨Int.emod_nonneg _ (by omega), Int.emod_lt_of_pos _ (by omega)⟩
  exact ⟨vS_mem (fun q a b => h1 q (by omega) (by omega)) this.1, this.2⟩
/-- what a call that only answers leaves -/
theorem Rel_mem {mem m' : zMem} (h : sO mem m') (h1 : ∀ q, ((4 ≤ q ∧ q ≤ 18) ∨ (53 ≤ q ∧ q ≤ 94) ∨ q = 140 ∨ q = 143 ∨ q = 145) → m' q = mem q) (h2 : m' 138 25 = mem 138 25) (r : Rel mem) : Rel m' := by
  obtain ⟨a, b, c⟩ := r
  refine ⟨?_, ?_, rO_mem h c⟩
  · rw [h1 140 (by omega), h1 145 (by omega)]
    exact rI_mem (fun q _ _ => h1 q (by omega)) (fun q _ _ => h1 q (by omega)) (fun q _ _ => h1 q (by omega)) a
  · rw [h1 140 (by omega)]
    exact rH_mem (fun q _ _ => h1 q (by omega)) h2 (h1 143 (by omega)) b
def m00 (mem : zMem) : zMem := zup mem 138 0 0
theorem m00_off {mem : zMem} {q : Nat} (h : q ≠ 138) : m00 mem q = mem q := zup_off h
theorem m00_at {mem : zMem} {i : Int} (h : i ≠ 0) : m00 mem 138 i = mem 138 i := by unfold m00; rw [zup_same, if_neg h]
theorem m00_eq (mem : zMem) : zup mem 138 0 0 = m00 mem := by rw [m00]
theorem ixl {α : Type} {k : Int} {a b : α} (h : 0 ≤ k ∧ k < 434) : (if ix 140 k then a else b) = a := if_pos ⟨h.1, by rw [l140]; exact h.2⟩
theorem sO_m00 (mem : zMem) : sO mem (m00 mem) := ⟨fun q h => m00_off (by omega), by rw [m00_off (by omega)], fun i _ => by rw [m00_off (by omega)], fun i h => m00_at (by omega)⟩
theorem Rel_m00 {mem : zMem} (r : Rel mem) : Rel (m00 mem) := Rel_mem (sO_m00 mem) (fun q h => m00_off (by omega)) (m00_at (by omega)) r
def okC (f g : zMem → Option (Int × zMem)) (mem : zMem) : Prop := ∃ r m1 m2, f mem = some (r, m1) ∧ g m1 = some (r, m2) ∧ Rel m2
theorem okQ {f g : zMem → Option (Int × zMem)} {mem : zMem} (R : Rel mem) (r : Int) (h1 : f mem = some (r, mem)) (h2 : g mem = some (r, m00 mem)) : okC f g mem := ⟨r, mem, m00 mem, h1, h2, Rel_m00 R⟩
