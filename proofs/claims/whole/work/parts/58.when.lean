theorem lp_genB {σ ρ : Type} {F : Nat → σ → Int → ρ} {I : Int → σ → Prop} {M N : Int} (hs : ∀ n i a, M ≤ i → i < N → I i a → ∃ a', F (n + 1) a i = F n a' (i + 1) ∧ I (i + 1) a') (h0 : M ≤ N) {a : σ} (hi : I M a) {n : Nat} (hn : N - M < n) : ∃ (n' : Nat) (a' : σ), (n : Int) = n' + 1 + (N - M) ∧ I N a' ∧ F n a M = F (n' + 1) a' N := by
  have key : ∀ (r : Nat) (i : Int) (n : Nat) (a : σ), M ≤ i → i + r = N → r < n → I i a → ∃ (n' : Nat) (a' : σ), (n : Int) = n' + 1 + r ∧ I N a' ∧ F n a i = F (n' + 1) a' N := by
    intro r
    induction r with
    | zero =>
      intro i n a h1 b c d
      obtain ⟨n, rfl⟩ : ∃ k, n = k + 1 := ⟨n - 1, by omega⟩
      have : i = N := by omega
      rw [this] at d ⊢
      exact ⟨n, a, by omega, d, rfl⟩
    | succ r ih =>
      intro i n a h1 b c d
      obtain ⟨n, rfl⟩ : ∃ k, n = k + 1 := ⟨n - 1, by omega⟩
      obtain ⟨a', e, d'⟩ := hs n i a h1 (by omega) d
      rw [e]
      obtain ⟨n', a'', x, y, z⟩ := ih (i + 1) n a' (by omega) (by omega) (by omega) d'
      exact ⟨n', a'', by omega, y, z⟩
  obtain ⟨n', a', x, y, z⟩ := key (N - M).toNat M n a (by omega) (by omega) (by omega) hi
  exact ⟨n', a', by omega, y, z⟩
theorem zand_1 (x : Int) : zand x 1 = 0 ∨ zand x 1 = 1 := by
  have h : (i32 x &&& i32 1).toBitVec.toNat ≤ 1 := by
    rw [Int32.toBitVec_and, BitVec.toNat_and]
    exact Nat.and_le_right
  have e : zand x 1 = ((i32 x &&& i32 1).toBitVec.toNat : Int) := by
    unfold zand
    exact BitVec.toInt_eq_toNat_of_lt (by omega)
  omega
theorem cByteOn {mem : zMem} {i : Int} (h0 : 0 ≤ i) (h1 : i < mem 1 2) (h2 : mem 1 2 ≤ 940) : f_X6_byteOn i mem = some (mem 2 i, mem) := by
  have L : sLen 2 = 940 := rfl
  unfold f_X6_byteOn
  rw [if_neg (by omega), if_neg (by omega), if_neg (by omega), if_pos (by omega)]
/-! is the tape as told? -/
def tldB (A T : Int → Int) : Nat → Int → Bool
  | 0, _ => true
  | r + 1, i => decide ((0 ≤ T i ∧ T i < A 3) ∧ T (i + 1) ≤ 1) && tldB A T r (i + 2)
theorem cTold_l {mem : zMem} {A : Int → Int} (v : vP mem 4 A) (o : oP A) (h2 : mem 1 2 ≤ 940) : ∀ (r : Nat) (i : Int) (n : Nat), 1 ≤ i → i + 2 * r = mem 1 2 → r < n → f_X11_isTapeAsTold_0 n (mem 1 2) i mem = some (bi (tldB A (mem 2) r i = true), mem) := by
  intro r
  induction r with
  | zero =>
    intro i n a b c
    obtain ⟨n, rfl⟩ : ∃ k, n = k + 1 := ⟨n - 1, by omega⟩
    show b_X11_isTapeAsTold_0 (f_X11_isTapeAsTold_0 n) (mem 1 2) i mem = _
    unfold b_X11_isTapeAsTold_0
    rw [w32_id ⟨by omega, by omega⟩, if_pos (by omega)]
    rfl
  | succ r ih =>
    intro i n a b c
    obtain ⟨n, rfl⟩ : ∃ k, n = k + 1 := ⟨n - 1, by omega⟩
    show b_X11_isTapeAsTold_0 (f_X11_isTapeAsTold_0 n) (mem 1 2) i mem = _
    unfold b_X11_isTapeAsTold_0
    rw [w32_id (x := i + 1) ⟨by omega, by omega⟩, if_neg (by omega), w32_id (x := i + 2) ⟨by omega, by omega⟩]
    simp only [cByteOn (mem := mem) (i := i) (by omega) (by omega) h2, cByteOn (mem := mem) (i := i + 1) (by omega) (by omega) h2, zbind, cHasPerson v o, bi0]
    rw [ih (i + 2) n (by omega) (by omega) (by omega)]
    by_cases h1 : 0 ≤ mem 2 i ∧ mem 2 i < A 3
    · rw [if_pos h1]
      by_cases h2 : mem 2 (i + 1) ≤ 1
      · rw [if_pos h2]
        simp [tldB, h1, h2]
      · rw [if_neg h2]
        simp [tldB, h2]
    · rw [if_neg h1, bi_f (by simp only [tldB, Bool.and_eq_true, decide_eq_true_eq]; intro c; exact h1 c.1.1)]
theorem mTold_l {mem : zMem} {T : Int → Int} {z : Int} (o : oP (mem 140)) (hz : z ≤ 940) (hT : ∀ i, 0 ≤ i → i < z → mem 139 i = T i) : ∀ (r : Nat) (i : Int) (n : Nat), 1 ≤ i → i + 2 * r = z → r < n → f_X12_when_2 n z i mem = if tldB (mem 140) T r i = true then f_X12_when_1 zN z 0 0 mem else some (-1, mem) := by
  have L : sLen 139 = 940 := rfl
  intro r
  induction r with
  | zero =>
    intro i n a b c
    obtain ⟨n, rfl⟩ : ∃ k, n = k + 1 := ⟨n - 1, by omega⟩
    show b_X12_when_2 (f_X12_when_2 n) z i mem = _
    unfold b_X12_when_2
    rw [if_pos (by omega)]
    rfl
  | succ r ih =>
    intro i n a b c
    obtain ⟨n, rfl⟩ : ∃ k, n = k + 1 := ⟨n - 1, by omega⟩
    show b_X12_when_2 (f_X12_when_2 n) z i mem = _
    unfold b_X12_when_2
    rw [w32_id (x := i + 1) ⟨by omega, by omega⟩, if_neg (by omega), w32_id (x := i + 2) ⟨by omega, by omega⟩, if_pos (by omega)]
    simp only [mIsPerson o, zbind, bi0]
    rw [if_pos (c := ix 139 (i + 1)) ⟨by omega, by omega⟩, ih (i + 2) n (by omega) (by omega) (by omega), hT i (by omega) (by omega), hT (i + 1) (by omega) (by omega)]
    by_cases h1 : 0 ≤ T i ∧ T i < mem 140 3
    · rw [if_pos h1]
      by_cases h2 : T (i + 1) ≤ 1
      · rw [if_pos h2]
        simp [tldB, h1, h2]
      · rw [if_neg h2, if_neg (by simp only [tldB, Bool.and_eq_true, decide_eq_true_eq]; intro c; exact h2 c.1.2)]
    · rw [if_neg h1, if_neg (by simp only [tldB, Bool.and_eq_true, decide_eq_true_eq]; intro c; exact h1 c.1.1)]
/-! is it so at an hour? -/
def soB (T : Int → Int) (t : Int) : Nat → Int → Bool
  | 0, _ => true
  | r + 1, i => decide (zand (zshr t (T i)) 1 = T (i + 1)) && soB T t r (i + 2)
theorem cSo_l {mem : zMem} (t : Int) (h2 : mem 1 2 ≤ 940) : ∀ (r : Nat) (i : Int) (n : Nat), 1 ≤ i → i + 2 * r = mem 1 2 → r < n → f_X11_isTapeSoAt_0 n t i mem = some (bi (soB (mem 2) t r i = true), mem) := by
  intro r
  induction r with
  | zero =>
    intro i n a b c
    obtain ⟨n, rfl⟩ : ∃ k, n = k + 1 := ⟨n - 1, by omega⟩
    show b_X11_isTapeSoAt_0 (f_X11_isTapeSoAt_0 n) t i mem = _
    unfold b_X11_isTapeSoAt_0
    rw [w32_id ⟨by omega, by omega⟩, if_pos (by omega)]
    rfl
  | succ r ih =>
    intro i n a b c
    obtain ⟨n, rfl⟩ : ∃ k, n = k + 1 := ⟨n - 1, by omega⟩
    show b_X11_isTapeSoAt_0 (f_X11_isTapeSoAt_0 n) t i mem = _
    unfold b_X11_isTapeSoAt_0
    rw [w32_id (x := i + 1) ⟨by omega, by omega⟩, if_neg (by omega), w32_id (x := i + 2) ⟨by omega, by omega⟩]
    simp only [cByteOn (mem := mem) (i := i) (by omega) (by omega) h2, cByteOn (mem := mem) (i := i + 1) (by omega) (by omega) h2, zbind]
    rw [ih (i + 2) n (by omega) (by omega) (by omega)]
    by_cases h1 : zand (zshr t (mem 2 i)) 1 = mem 2 (i + 1)
    · rw [if_pos h1]
      simp [soB, h1]
    · rw [if_neg h1]
      simp [soB, h1]
theorem mSo_l {mem : zMem} {T : Int → Int} {z : Int} (t : Int) (hz : z ≤ 940) (hT : ∀ i, 0 ≤ i → i < z → mem 139 i = T i) : ∀ (r : Nat) (i : Int) (n : Nat), 1 ≤ i → i + 2 * r = z → r < n → (∀ i, 0 ≤ i → i < z → 0 ≤ T i) → tldB (mem 140) T r i = true → f_X12_fits_0 n z t i mem = some (bi (soB T t r i = true), mem) := by
  have L : sLen 139 = 940 := rfl
  intro r
  induction r with
  | zero =>
    intro i n a b c h0 ht
    obtain ⟨n, rfl⟩ : ∃ k, n = k + 1 := ⟨n - 1, by omega⟩
    show b_X12_fits_0 (f_X12_fits_0 n) z t i mem = _
    unfold b_X12_fits_0
    rw [if_pos (by omega)]
    rfl
  | succ r ih =>
    intro i n a b c h0 ht
    obtain ⟨n, rfl⟩ : ∃ k, n = k + 1 := ⟨n - 1, by omega⟩
    simp only [tldB, Bool.and_eq_true, decide_eq_true_eq] at ht
    show b_X12_fits_0 (f_X12_fits_0 n) z t i mem = _
    unfold b_X12_fits_0
    rw [w32_id (x := i + 1) ⟨by omega, by omega⟩, if_neg (by omega), w32_id (x := i + 2) ⟨by omega, by omega⟩, if_pos (by omega)]
    simp only [mHas, zbind]
    rw [if_pos (by omega), ih (i + 2) n (by omega) (by omega) (by omega) h0 ht.2, hT i (by omega) (by omega), hT (i + 1) (by omega) (by omega)]
    have hT1 := h0 (i + 1) (by omega) (by omega)
    have hz1 := zand_1 (zshr t (T i))
    by_cases h1 : T (i + 1) = 1
    · rw [if_pos h1]
      by_cases h2 : zand (zshr t (T i)) 1 = 1
      · rw [bi_t h2, if_pos rfl]
        simp [soB, h1, h2]
      · rw [bi_f h2, if_neg (by omega)]
        simp [soB, h1, h2]
    · rw [if_neg h1]
      have h1' : T (i + 1) = 0 := by omega
      by_cases h2 : zand (zshr t (T i)) 1 = 1
      · rw [bi_t h2, if_neg (by omega)]
        simp [soB, h1', h2]
      · rw [bi_f h2, if_pos rfl]
        have : zand (zshr t (T i)) 1 = 0 := by omega
        simp [soB, h1', this]
/-! whom to ask -/
def yesP (A : Int → Int) (h W p : Int) : Int → Bool := fun s => decide (zand (zshr W s) 1 = 1) && decide (zand (zshr (tcd A h s) p) 1 = 1)
def lft (A : Int → Int) (h W p : Int) : Int := if cnt (yesP A h W p) (A 4).toNat ≤ (popT W.toNat : Int) - cnt (yesP A h W p) (A 4).toNat then (popT W.toNat : Int) - cnt (yesP A h W p) (A 4).toNat else cnt (yesP A h W p) (A 4).toNat
theorem lft_r {A : Int → Int} (o : oP A) (h W p : Int) : 0 ≤ lft A h W p ∧ lft A h W p ≤ 8 := by
  have o1 := o.1
  have h1 := cnt_r (yesP A h W p) (A 4).toNat
  have h2 := popT_le W.toNat
  unfold lft
  split <;> omega
def akS (A : Int → Int) (h W : Int) : Nat → Int × Int
  | 0 => (-1, 9)
  | n + 1 => if lft A h W n ≥ (akS A h W n).2 then akS A h W n else ((n : Int), lft A h W n)
theorem akS_s (A : Int → Int) (h W : Int) (n : Nat) : akS A h W (n + 1) = if lft A h W n ≥ (akS A h W n).2 then akS A h W n else ((n : Int), lft A h W n) := rfl
theorem akS_ok {A : Int → Int} (o : oP A) (h W : Int) (n : Nat) : 0 ≤ (akS A h W (n + 1)).1 ∧ (akS A h W (n + 1)).1 ≤ n ∧ (akS A h W (n + 1)).2 = lft A h W (akS A h W (n + 1)).1 := by
  induction n with
  | zero =>
    rw [akS_s]
    have := lft_r o h W 0
    rw [if_neg (by simp only [akS, Int.ofNat_zero, Int.natCast_zero]; omega)]
    exact ⟨by omega, by omega, rfl⟩
  | succ n ih =>
    rw [akS_s]
    split
    · exact ⟨ih.1, by omega, ih.2.2⟩
    · exact ⟨by simp only; omega, by simp only; omega, rfl⟩
theorem cAsk_l {mem : zMem} {A : Int → Int} (v : vP mem 4 A) (w : vS mem 11 A) (o : oP A) (os : oS A) {h W : Int} (hh : 0 ≤ h ∧ h < A 2) (hW : 0 ≤ W ∧ W < 256) : ∀ (r : Nat) (p : Int) (n : Nat), 0 ≤ p → p + r = A 3 → 20 * r < n → f_X11_bestToAsk_0 n 0 h W (akS A h W p.toNat).1 (akS A h W p.toNat).2 p 0 0 mem = some ((akS A h W (A 3).toNat).1, mem) := by
  have o1 := o.1
  have v4 := v.1.2.2.2.1
  have v5 := v.1.2.2.2.2
  intro r
  induction r with
  | zero =>
    intro p n p0 p1 hn
    obtain ⟨n, rfl⟩ : ∃ k, n = k + 1 := ⟨n - 1, by omega⟩
    show b_X11_bestToAsk_0 (f_X11_bestToAsk_0 n) 0 h W _ _ p 0 0 mem = _
    simp only [b_X11_bestToAsk_0]
    rw [v4, if_pos (by omega), show p = A 3 by omega]
  | succ r ih =>
    intro p n p0 p1 hn
    obtain ⟨n, rfl⟩ : ∃ k, n = k + 1 := ⟨n - 1, by omega⟩
    show b_X11_bestToAsk_0 (f_X11_bestToAsk_0 n) 0 h W _ _ p 0 0 mem = _
    simp only [b_X11_bestToAsk_0]
    rw [v4, if_neg (by omega)]
    generalize hb : akS A h W p.toNat = b at *
    obtain ⟨n', a', nn, ia, e⟩ := lp_genB (F := fun n a i => f_X11_bestToAsk_0 n 1 h W b.1 b.2 p a i mem) (I := fun i a => a = cnt (yesP A h W p) i.toNat) (M := 0) (N := A 4) (n := n) (a := 0) (by
      intro n i a h0 h1 ha
      show ∃ a', b_X11_bestToAsk_0 (f_X11_bestToAsk_0 n) 1 h W b.1 b.2 p a i mem = _ ∧ _
      simp only [b_X11_bestToAsk_0]
      have hr := cnt_r (yesP A h W p) i.toNat
      have ei : (i + 1).toNat = i.toNat + 1 := by omega
      have hz := zand_1 (zshr (tcd A h i) p)
      rw [v5, if_neg (by omega), w32_id (x := i + 1) ⟨by omega, by omega⟩, ei, cnt_s, Int.toNat_of_nonneg h0, cPersonsTouched IL_20 v w o os hh (Or.inr ⟨h0, h1⟩)]
      simp only [zbind, pipe]
      rw [w32_id (x := a + zand (zshr (tcd A h i) p) 1) ⟨by omega, by omega⟩]
      by_cases c1 : zand (zshr W i) 1 = 1
      · rw [if_pos c1]
        refine ⟨_, rfl, ?_⟩
        by_cases c2 : zand (zshr (tcd A h i) p) 1 = 1
        · rw [if_pos (by simp [yesP, c1, c2]), ha, c2]
        · rw [if_neg (by simp [yesP, c1, c2])]
          omega
      · rw [if_neg c1]
        refine ⟨_, rfl, ?_⟩
        rw [if_neg (by simp [yesP, c1])]
        omega) (by omega) rfl (by omega)
    rw [show f_X11_bestToAsk_0 n 1 h W b.1 b.2 p 0 0 mem = f_X11_bestToAsk_0 (n' + 1) 1 h W b.1 b.2 p a' (A 4) mem from e]
    show b_X11_bestToAsk_0 (f_X11_bestToAsk_0 n') 1 h W b.1 b.2 p a' (A 4) mem = _
    simp only [b_X11_bestToAsk_0]
    have hr := cnt_r (yesP A h W p) (A 4).toNat
    have hp8 := popT_le W.toNat
    have ez : zmax a' (w32 ((popT W.toNat : Int) - a')) = lft A h W p := by
      rw [w32_id ⟨by omega, by omega⟩, ia]
      unfold zmax lft
      by_cases hc : cnt (yesP A h W p) (A 4).toNat < (popT W.toNat : Int) - cnt (yesP A h W p) (A 4).toNat
      · rw [if_pos hc, if_pos (by omega)]
      · rw [if_neg hc]
        split <;> omega
    have ep : (p + 1).toNat = p.toNat + 1 := by omega
    have key := ih (p + 1) n' (by omega) (by omega) (by omega)
    rw [ep, akS_s, hb, Int.toNat_of_nonneg p0] at key
    rw [v5, if_pos (by omega), pop_castJ hW.1 hW.2]
    simp only [zbind, pipe]
    rw [ez, w32_id (x := p + 1) ⟨by omega, by omega⟩]
    by_cases c1 : lft A h W p ≥ b.2
    · rw [if_pos c1] at key ⊢
      exact key
    · rw [if_neg c1] at key ⊢
      exact key
theorem mLeftBy {mem : zMem} (o : oP (mem 140)) (os : oS (mem 140)) {h W p : Int} (hh : 0 ≤ h ∧ h < mem 140 2) (hW : 0 ≤ W ∧ W < 256) : f_X12_leftBy W h p mem = some (lft (mem 140) h W p, mem) := by
  have o1 := o.1
  have hz := zN_ge
  obtain ⟨n', a', ia, e⟩ := lp_gen (F := fun n a i => f_X12_leftBy_0 n W h p a i mem) (I := fun i a => a = cnt (yesP (mem 140) h W p) i.toNat) (M := 0) (N := mem 140 4) (n := zN) (a := 0) (by
    intro n i a h0 h1 ha
    show ∃ a', b_X12_leftBy_0 (f_X12_leftBy_0 n) W h p a i mem = _ ∧ _
    unfold b_X12_leftBy_0
    have hr := cnt_r (yesP (mem 140) h W p) i.toNat
    have ei : (i + 1).toNat = i.toNat + 1 := by omega
    rw [ixl (by omega), if_neg (by omega), w32_id (x := i + 1) ⟨by omega, by omega⟩, w32_id (x := a + 1) ⟨by omega, by omega⟩, ei, cnt_s, Int.toNat_of_nonneg h0]
    simp only [mHas, zbind, bi0, mTouchedBy o os hh (Or.inr ⟨h0, h1⟩)]
    by_cases c1 : zand (zshr W i) 1 = 1
    · rw [if_pos c1]
      by_cases c2 : zand (zshr (tcd (mem 140) h i) p) 1 = 1
      · rw [if_pos c2]
        refine ⟨_, rfl, ?_⟩
        rw [if_pos (by simp [yesP, c1, c2]), ha]
      · rw [if_neg c2]
        refine ⟨_, rfl, ?_⟩
        rw [if_neg (by simp [yesP, c1, c2])]
        omega
    · rw [if_neg c1]
      refine ⟨_, rfl, ?_⟩
      rw [if_neg (by simp [yesP, c1])]
      omega) (by omega) rfl (by omega)
  unfold f_X12_leftBy
  rw [show f_X12_leftBy_0 zN W h p 0 0 mem = f_X12_leftBy_0 (n' + 1) W h p a' (mem 140 4) mem from e]
  show b_X12_leftBy_0 (f_X12_leftBy_0 n') W h p a' (mem 140 4) mem = _
  unfold b_X12_leftBy_0
  have hr := cnt_r (yesP (mem 140) h W p) (mem 140 4).toNat
  have hp8 := popT_le W.toNat
  rw [ixl (by omega), if_pos (by omega)]
  simp only [pop_cast hW.1 hW.2, zbind]
  rw [w32_id ⟨by omega, by omega⟩, ia]
  unfold lft
  split <;> rfl
theorem mAsk_l {A : Int → Int} {h W : Int} (o : oP A) (os : oS A) (hh : 0 ≤ h ∧ h < A 2) (hW : 0 ≤ W ∧ W < 256) : ∀ (r : Nat) (p : Int) (n : Nat) (m : zMem), 1 ≤ p → p + r = A 3 → r < n → m 140 = A → m 139 0 = h → m 138 32 = (akS A h W p.toNat).1 → ∃ m', f_X12_when_0 n W p m = some (W, m') ∧ (∀ q, q ≠ 138 → m' q = m q) ∧ (∀ i, i ≠ 32 → m' 138 i = m 138 i) ∧ m' 138 32 = (akS A h W (A 3).toNat).1 := by
  have o1 := o.1
  have L : sLen 139 = 940 := rfl
  have i0 : ∀ {α : Type} {a b : α}, (if ix 139 0 then a else b) = a := fun {α a b} => if_pos ⟨by omega, by omega⟩
  intro r
  induction r with
  | zero =>
    intro p n m p0 p1 hn e1 e2 e3
    obtain ⟨n, rfl⟩ : ∃ k, n = k + 1 := ⟨n - 1, by omega⟩
    refine ⟨m, ?_, fun _ _ => rfl, fun _ _ => rfl, by rw [e3, show p = A 3 by omega]⟩
    show b_X12_when_0 (f_X12_when_0 n) W p m = _
    unfold b_X12_when_0
    rw [ixl (by omega), e1, if_pos (by omega)]
  | succ r ih =>
    intro p n m p0 p1 hn e1 e2 e3
    obtain ⟨n, rfl⟩ : ∃ k, n = k + 1 := ⟨n - 1, by omega⟩
    have om : oP (m 140) := by rw [e1]; exact o
    have osm : oS (m 140) := by rw [e1]; exact os
    have ep : (p + 1).toNat = p.toNat + 1 := by omega
    obtain ⟨k1, k2, k3⟩ := akS_ok o h W (p.toNat - 1)
    rw [show p.toNat - 1 + 1 = p.toNat by omega] at k1 k2 k3
    have l1 := fun x => mLeftBy om osm (h := h) (W := W) (p := x) (by rw [e1]; exact hh) hW
    rw [e1] at l1
    have u : f_X12_when_0 (n + 1) W p m = if lft A h W p ≥ lft A h W (akS A h W p.toNat).1 then f_X12_when_0 n W (p + 1) m else f_X12_when_0 n W (p + 1) (zup m 138 32 p) := by
      show b_X12_when_0 (f_X12_when_0 n) W p m = _
      unfold b_X12_when_0
      rw [ixl (by omega), e1, if_neg (by omega), i0, e2]
      simp only [l1, zbind, e2, e3, i0, pipe]
      rw [w32_id (x := p + 1) ⟨by omega, by omega⟩]
    have as := akS_s A h W p.toNat
    rw [k3, Int.toNat_of_nonneg (by omega)] at as
    rw [u]
    by_cases hc : lft A h W p ≥ lft A h W (akS A h W p.toNat).1
    · rw [if_pos hc] at as ⊢
      exact ih (p + 1) n m (by omega) (by omega) (by omega) e1 e2 (by rw [ep, as, e3])
    · rw [if_neg hc] at as ⊢
      obtain ⟨m', f1, f2, f3, f4⟩ := ih (p + 1) n (zup m 138 32 p) (by omega) (by omega) (by omega) (by rw [zup_off (by omega)]; exact e1) (by rw [zup_off (by omega)]; exact e2) (by rw [ep, as, zup_same, if_pos rfl])
      exact ⟨m', f1, fun q hq => by rw [f2 q hq, zup_off hq], fun i hi => by rw [f3 i hi, zup_same, if_neg hi], f4⟩
theorem Rel_T0 {mem m' : zMem} (R : Rel mem) (h1 : ∀ q, ((3 ≤ q ∧ q ≤ 18) ∨ q = 41 ∨ (53 ≤ q ∧ q ≤ 94) ∨ q = 96 ∨ q = 102 ∨ q = 103 ∨ (105 ≤ q ∧ q ≤ 119) ∨ (122 ≤ q ∧ q ≤ 136) ∨ q = 140 ∨ q = 142 ∨ q = 143 ∨ q = 145 ∨ q = 147 ∨ q = 148 ∨ q = 153 ∨ q = 155) → m' q = mem q) (h2 : m' 1 2 = 0) (h2' : m' 138 2 = 0) (h3 : ∀ i, 5 ≤ i → m' 45 i = mem 45 i) (h4 : ∀ i, (i = 25 ∨ i = 36 ∨ i = 41) → m' 138 i = mem 138 i) (h5 : rV m') : Rel m' := by
  obtain ⟨a, b, t, vv, l, bb, g, k⟩ := R
  refine ⟨?_, ?_, ⟨by omega, by omega, by omega, fun i a b => by omega⟩, h5, rL_mem (h4 36 (by omega)) (h1 102 (by omega)) (h1 103 (by omega)) (h1 153 (by omega)) l, rB_mem h3 (h1 155 (by omega)) (h4 41 (by omega)) bb, rG_mem (fun q hq => h1 q (by omega)) g, rK_mem (h1 3 (by omega)) (h1 41 (by omega)) k⟩
  · rw [h1 140 (by omega), h1 145 (by omega)]
    exact rI_mem (fun q _ _ => h1 q (by omega)) (fun q _ _ => h1 q (by omega)) (fun q _ _ => h1 q (by omega)) a
  · rw [h1 140 (by omega)]
    exact rH_mem (fun q _ _ => h1 q (by omega)) (h4 25 (by omega)) (h1 143 (by omega)) b
theorem qWhen {mem : zMem} (R : Rel mem) : okC f_X11_when f_X12_when mem := by
  have hN := zN_ge
  have L : sLen 139 = 940 := rfl
  have i0 : ∀ {α : Type} {a b : α}, (if ix 139 0 then a else b) = a := fun {α a b} => if_pos ⟨by omega, by omega⟩
  obtain ⟨o, os, v, w, _⟩ := R.1
  have o1 := o.1
  obtain ⟨t1, t2, t3, t4⟩ := R.2.2.1
  have vv := R.2.2.2.1
  -- what is left of the tape
  have d2 : zrem (mem 1 2) 2 = mem 1 2 % 2 := zrem_nn (by omega) (by omega) (by omega) (by omega)
  have dv : zdiv (mem 1 2) 2 = mem 1 2 / 2 := zdiv_nn (by omega) (by omega) (by omega) (by omega)
  -- the reference, behind a class that changed its own alone
  have ur : ∀ mc : zMem, (∀ q, q ≠ 0 → q ≠ 1 → mc q = mem q) → f_X12_when mc = if mem 1 2 % 2 = 1 ∧ (1 ≤ mem 1 2 / 2 ∧ mem 1 2 / 2 ≤ 6) ∧ (0 ≤ mem 139 0 ∧ mem 139 0 < mem 140 2) then f_X12_when_2 zN (mem 1 2) 1 (zup (m00 mc) 138 2 0) else some (-1, zup (m00 mc) 138 2 0) := by
    intro mc hmc
    have e' : zup (m00 mc) 138 2 0 140 = mem 140 := by rw [zup_off (by omega), m00_off (by omega), hmc 140 (by omega) (by omega)]
    have oo : oP (zup (m00 mc) 138 2 0 140) := by rw [e']; exact o
    have et : zup (m00 mc) 138 2 0 139 = mem 139 := by rw [zup_off (by omega), m00_off (by omega), hmc 139 (by omega) (by omega)]
    have ez : m00 mc 138 2 = mem 1 2 := by rw [m00_at (by omega), hmc 138 (by omega) (by omega)]; exact t1
    unfold f_X12_when f_X12_take
    simp only [pipe, m00_eq, zbind, mIsIn, bi0, mIsHouse oo, i0, e', et]
    rw [ez, d2, dv]
    by_cases c1 : mem 1 2 % 2 = 1
    · rw [if_pos c1]
      by_cases c2 : 1 ≤ mem 1 2 / 2 ∧ mem 1 2 / 2 ≤ 6
      · rw [if_pos c2]
        by_cases c3 : 0 ≤ mem 139 0 ∧ mem 139 0 < mem 140 2
        · rw [if_pos c3, if_pos ⟨c1, c2, c3⟩]
        · rw [if_neg c3, if_neg (fun c => c3 c.2.2)]
      · rw [if_neg c2, if_neg (fun c => c2 c.2.1)]
    · rw [if_neg c1, if_neg (fun c => c1 c.1)]
  -- the end of it
  have fin : ∀ (mc mf : zMem), (∀ q, q ≠ 0 → q ≠ 1 → mc q = mem q) → mc 1 2 = 0 → (∀ q, q ≠ 138 → mf q = mc q) → (∀ i, i ≠ 0 → i ≠ 2 → i ≠ 32 → mf 138 i = mem 138 i) → mf 138 2 = 0 → (∀ i, i ≠ 17 → mc 0 i = mem 0 i) → mf 138 32 = mc 0 17 → Rel mf := by
    intro mc mf h1 h2 h3 h4 h5 h6 h7
    refine Rel_T0 R (fun q hq => by rw [h3 q (by omega), h1 q (by omega) (by omega)]) (by rw [h3 1 (by omega)]; exact h2) h5 (fun i _ => by rw [h3 45 (by omega), h1 45 (by omega) (by omega)]) (fun i hi => h4 i (by omega) (by omega) (by omega)) ?_
    unfold rV
    rw [h3 0 (by omega), h7, h4 10 (by omega) (by omega) (by omega), h4 26 (by omega) (by omega) (by omega), h4 33 (by omega) (by omega) (by omega), h4 34 (by omega) (by omega) (by omega), h6 15 (by omega), h6 16 (by omega), h6 18 (by omega), h6 19 (by omega)]
    exact ⟨vv.1, vv.2.1, rfl, vv.2.2.2.1, vv.2.2.2.2⟩
  have simple : ∀ r : Int, f_X11_hoursByTape mem = some (r, mem) → r ≤ 0 → (∀ mc : zMem, (∀ q, q ≠ 0 → q ≠ 1 → mc q = mem q) → f_X12_when mc = some (r, zup (m00 mc) 138 2 0)) → okC f_X11_when f_X12_when mem := by
    intro r h1 h2 h3
    have hz : ∀ q, q ≠ 0 → q ≠ 1 → zup mem 1 2 0 q = mem q := fun q _ h => zup_off h
    refine ⟨r, zup mem 1 2 0, _, ?_, h3 _ hz, ?_⟩
    · unfold f_X11_when
      rw [h1]
      simp only [zbind, pipe]
      rw [if_pos h2]
    · refine fin (zup mem 1 2 0) _ hz (by rw [zup_same, if_pos rfl]) (fun q hq => by rw [zup_off hq, m00_off hq]) (fun i a b c => by rw [zup_same, if_neg b, m00_at a, zup_off (by omega)]) (by rw [zup_same, if_pos rfl]) (fun i _ => by rw [zup_off (by omega)]) ?_
      rw [zup_same, if_neg (by omega), m00_at (by omega), zup_off (by omega), zup_off (by omega)]
      exact vv.2.2.1
  by_cases hs : 3 ≤ mem 1 2 ∧ mem 1 2 ≤ 13 ∧ mem 1 2 % 2 = 1
  · have hT : ∀ i, 0 ≤ i → i < mem 1 2 → mem 139 i = mem 2 i := fun i a b => (t4 i a b).1
    have hb0 := cByteOn (mem := mem) (i := 0) (by omega) (by omega) t3
    have uc : f_X11_isTapeAsTold mem = if 0 ≤ mem 2 0 ∧ mem 2 0 < mem 140 2 then f_X11_isTapeAsTold_0 zN (mem 1 2) 1 mem else some (0, mem) := by
      unfold f_X11_isTapeAsTold
      simp only [pipe]
      rw [if_neg (by omega), if_neg (by omega), d2, if_neg (by omega), hb0]
      simp only [zbind, cHasHouse v o, bi0]
    have e0 : mem 139 0 = mem 2 0 := hT 0 (by omega) (by omega)
    by_cases hh : 0 ≤ mem 2 0 ∧ mem 2 0 < mem 140 2
    · have hpairs : (1 : Int) + 2 * (((mem 1 2 - 1) / 2).toNat : Int) = mem 1 2 := by omega
      generalize hrr : ((mem 1 2 - 1) / 2).toNat = r at *
      have ct := cTold_l v o t3 r 1 zN (by omega) hpairs (by omega)
      rw [if_pos hh, ct] at uc
      have urr : ∀ mc : zMem, (∀ q, q ≠ 0 → q ≠ 1 → mc q = mem q) → f_X12_when mc = if tldB (mem 140) (mem 2) r 1 = true then f_X12_when_1 zN (mem 1 2) 0 0 (zup (m00 mc) 138 2 0) else some (-1, zup (m00 mc) 138 2 0) := by
        intro mc hmc
        have e' : zup (m00 mc) 138 2 0 140 = mem 140 := by rw [zup_off (by omega), m00_off (by omega), hmc 140 (by omega) (by omega)]
        have et : zup (m00 mc) 138 2 0 139 = mem 139 := by rw [zup_off (by omega), m00_off (by omega), hmc 139 (by omega) (by omega)]
        have := mTold_l (mem := zup (m00 mc) 138 2 0) (T := mem 2) (z := mem 1 2) (by rw [e']; exact o) t3 (fun i a b => by rw [et]; exact hT i a b) r 1 zN (by omega) hpairs (by omega)
        rw [e'] at this
        rw [ur mc hmc, if_pos ⟨by omega, by omega, by omega⟩, this]
      by_cases ht : tldB (mem 140) (mem 2) r 1 = true
      · -- the hours
        have hcH : f_X11_hoursByTape mem = some (set0 (fun s => soB (mem 2) (tcd (mem 140) (mem 2 0) s) r 1) (mem 140 4), mem) := by
          have v5 := v.1.2.2.2.2
          unfold f_X11_hoursByTape
          rw [uc]
          simp only [zbind, bi0]
          rw [if_pos ht]
          refine lp_set (F := fun n a i => f_X11_hoursByTape_0 n a i mem) (fun n x i a b => ?_) (fun n x => ?_) (by omega) (by omega)
          · show b_X11_hoursByTape_0 (f_X11_hoursByTape_0 n) x i mem = _
            unfold b_X11_hoursByTape_0 f_X11_isTapeSoAt
            rw [v5, if_neg (by omega), w32_id (x := i + 1) ⟨by omega, by omega⟩, hb0]
            simp only [zbind, pipe, cPersonsTouched IL_20 v w o os hh (Or.inr ⟨a, b⟩), cSo_l (mem := mem) (tcd (mem 140) (mem 2 0) i) t3 r 1 zN (by omega) hpairs (by omega), bi0]
            split <;> rfl
          · show b_X11_hoursByTape_0 (f_X11_hoursByTape_0 n) x (mem 140 4) mem = _
            unfold b_X11_hoursByTape_0
            rw [v5, if_pos (by omega)]
        have hmH : ∀ m : zMem, m 140 = mem 140 → m 139 = mem 139 → f_X12_when_1 zN (mem 1 2) 0 0 m = if set0 (fun s => soB (mem 2) (tcd (mem 140) (mem 2 0) s) r 1) (mem 140 4) = 0 then some (0, m) else f_X12_when_0 zN (set0 (fun s => soB (mem 2) (tcd (mem 140) (mem 2 0) s) r 1) (mem 140 4)) 1 (zup m 138 32 0) := by
          intro m e1 e2
          have om : oP (m 140) := by rw [e1]; exact o
          have osm : oS (m 140) := by rw [e1]; exact os
          obtain ⟨n', a', ia, e⟩ := lp_gen (F := fun n a i => f_X12_when_1 n (mem 1 2) a i m) (I := fun i a => a = set0 (fun s => soB (mem 2) (tcd (mem 140) (mem 2 0) s) r 1) i) (M := 0) (N := mem 140 4) (n := zN) (a := 0) (by
            intro n i a h0 h1 ha
            show ∃ a', b_X12_when_1 (f_X12_when_1 n) (mem 1 2) a i m = _ ∧ _
            unfold b_X12_when_1 f_X12_fits
            have tb := mTouchedBy om osm (h := mem 2 0) (s := i) (by rw [e1]; exact hh) (by rw [e1]; exact Or.inr ⟨h0, h1⟩)
            have ms := mSo_l (mem := m) (T := mem 2) (z := mem 1 2) (tcd (mem 140) (mem 2 0) i) t3 (fun i a b => by rw [e2]; exact hT i a b) r 1 zN (by omega) hpairs (by omega) (fun i a b => (t4 i a b).2.1) (by rw [e1]; exact ht)
            rw [e1] at tb
            rw [ixl (by omega), e1, if_neg (by omega), w32_id (x := i + 1) ⟨by omega, by omega⟩, i0, e2, e0, tb]
            simp only [zbind, pipe, ms, bi0]
            have es : set0 (fun s => soB (mem 2) (tcd (mem 140) (mem 2 0) s) r 1) (i + 1) = if soB (mem 2) (tcd (mem 140) (mem 2 0) i) r 1 = true then zor a (zshl 1 i) else a := by
              obtain ⟨q, rfl⟩ : ∃ q : Nat, i = (q : Int) := ⟨i.toNat, by omega⟩
              rw [set0_bset _ (by omega) (by omega), show ((q : Int) + 1).toNat = q + 1 by omega, bset_s, ha, set0_bset _ (by omega) (by omega), Int.toNat_natCast]
              by_cases hp : soB (mem 2) (tcd (mem 140) (mem 2 0) (q : Int)) r 1 = true
              · rw [if_pos hp, if_pos hp, zor_bit q (by omega) _ (bset_lt _ q)]
              · rw [if_neg hp, if_neg hp, Nat.add_zero]
            rw [es]
            split
            · exact ⟨_, rfl, rfl⟩
            · exact ⟨_, rfl, rfl⟩) (by omega) rfl (by omega)
          rw [show f_X12_when_1 zN (mem 1 2) 0 0 m = f_X12_when_1 (n' + 1) (mem 1 2) a' (mem 140 4) m from e]
          show b_X12_when_1 (f_X12_when_1 n') (mem 1 2) a' (mem 140 4) m = _
          unfold b_X12_when_1
          rw [ixl (by omega), e1, if_pos (by omega), ia]
          rfl
        have hrg := set0_range (fun s => soB (mem 2) (tcd (mem 140) (mem 2 0) s) r 1) (n := mem 140 4) (by omega) (by omega)
        generalize hW : set0 (fun s => soB (mem 2) (tcd (mem 140) (mem 2 0) s) r 1) (mem 140 4) = W at *
        have e140 : ∀ mc : zMem, (∀ q, q ≠ 0 → q ≠ 1 → mc q = mem q) → zup (m00 mc) 138 2 0 140 = mem 140 := fun mc hmc => by rw [zup_off (by omega), m00_off (by omega), hmc 140 (by omega) (by omega)]
        have e139 : ∀ mc : zMem, (∀ q, q ≠ 0 → q ≠ 1 → mc q = mem q) → zup (m00 mc) 138 2 0 139 = mem 139 := fun mc hmc => by rw [zup_off (by omega), m00_off (by omega), hmc 139 (by omega) (by omega)]
        by_cases hz : W = 0
        · refine simple 0 (by rw [hcH, hz]) (by omega) (fun mc hmc => ?_)
          rw [urr mc hmc, if_pos ht, hmH _ (e140 mc hmc) (e139 mc hmc), if_pos hz]
        · -- somebody is there
          have hp1 : 1 ≤ mem 140 3 := by
            have hr1 : 1 ≤ r := by omega
            obtain ⟨r', rfl⟩ : ∃ k, r = k + 1 := ⟨r - 1, by omega⟩
            simp only [tldB, Bool.and_eq_true, decide_eq_true_eq] at ht
            omega
          have ca := cAsk_l v w o os hh hrg (mem 140 3).toNat 0 zN (by omega) (by omega) (by omega)
          have hz1 : ∀ q, q ≠ 0 → q ≠ 1 → zup (zup mem 0 17 (akS (mem 140) (mem 2 0) W (mem 140 3).toNat).1) 1 2 0 q = mem q := fun q a b => by rw [zup_off b, zup_off a]
          generalize hmc : zup (zup mem 0 17 (akS (mem 140) (mem 2 0) W (mem 140 3).toNat).1) 1 2 0 = mc at *
          obtain ⟨mf, f1, f2, f3, f4⟩ := mAsk_l o os hh hrg (mem 140 3 - 1).toNat 1 zN (zup (zup (m00 mc) 138 2 0) 138 32 0) (by omega) (by omega) (by omega) (by rw [zup_off (by omega)]; exact e140 mc hz1) (by rw [zup_off (by omega), e139 mc hz1]; exact e0) (by
            rw [zup_same, if_pos rfl]
            have := akS_ok o (mem 2 0) W 0
            show (0 : Int) = (akS (mem 140) (mem 2 0) W (0 + 1)).1
            omega)
          refine ⟨W, mc, mf, ?_, ?_, ?_⟩
          · unfold f_X11_when f_X11_bestToAsk
            rw [hcH]
            simp only [zbind, hb0, pipe]
            rw [if_neg (by omega), show f_X11_bestToAsk_0 zN 0 (mem 2 0) W (-1) 9 0 0 0 mem = _ from ca]
            simp only
            rw [hmc]
          · rw [urr mc hz1, if_pos ht, hmH _ (e140 mc hz1) (e139 mc hz1), if_neg hz, f1]
          · refine fin mc mf hz1 (by rw [← hmc, zup_same, if_pos rfl]) (fun q hq => by rw [f2 q hq, zup_off hq, zup_off hq, m00_off hq]) (fun i a b c => by rw [f3 i c, zup_same, if_neg c, zup_same, if_neg b, m00_at a, hz1 138 (by omega) (by omega)]) (by rw [f3 2 (by omega), zup_same, if_neg (by omega), zup_same, if_pos rfl]) (fun i hi => by rw [← hmc, zup_off (by omega), zup_same, if_neg hi]) (by rw [f4, ← hmc, zup_off (by omega), zup_same, if_pos rfl])
      · refine simple (-1) ?_ (by omega) (fun mc hmc => by rw [urr mc hmc, if_neg ht])
        unfold f_X11_hoursByTape
        rw [uc]
        simp only [zbind, bi0]
        rw [if_neg ht]
    · refine simple (-1) ?_ (by omega) (fun mc hmc => by rw [ur mc hmc, if_neg (fun c => hh (by rw [← e0]; exact c.2.2))])
      unfold f_X11_hoursByTape
      rw [uc, if_neg hh]
      rfl
  · refine simple (-1) ?_ (by omega) (fun mc hmc => by rw [ur mc hmc, if_neg (by omega)])
    unfold f_X11_hoursByTape f_X11_isTapeAsTold
    simp only [pipe]
    by_cases c1 : mem 1 2 < 3
    · rw [if_pos c1]; rfl
    · rw [if_neg c1]
      by_cases c2 : mem 1 2 > 13
      · rw [if_pos c2]; rfl
      · rw [if_neg c2, d2, if_pos (by omega)]
        rfl
