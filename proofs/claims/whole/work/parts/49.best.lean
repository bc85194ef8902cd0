/-! loops with a state -/
theorem lp_gen {σ ρ : Type} {F : Nat → σ → Int → ρ} {I : Int → σ → Prop} {M N : Int} (hs : ∀ n i a, M ≤ i → i < N → I i a → ∃ a', F (n + 1) a i = F n a' (i + 1) ∧ I (i + 1) a') (h0 : M ≤ N) {a : σ} (hi : I M a) {n : Nat} (hn : N - M < n) : ∃ n' a', I N a' ∧ F n a M = F (n' + 1) a' N := by
  have key : ∀ (r : Nat) (i : Int) (n : Nat) (a : σ), M ≤ i → i + r = N → r < n → I i a → ∃ n' a', I N a' ∧ F n a i = F (n' + 1) a' N := by
    intro r
    induction r with
    | zero =>
      intro i n a h1 b c d
      obtain ⟨n, rfl⟩ : ∃ k, n = k + 1 := ⟨n - 1, by omega⟩
      have : i = N := by omega
      rw [this] at d ⊢
      exact ⟨n, a, d, rfl⟩
    | succ r ih =>
      intro i n a h1 b c d
      obtain ⟨n, rfl⟩ : ∃ k, n = k + 1 := ⟨n - 1, by omega⟩
      obtain ⟨a', e, d'⟩ := hs n i a h1 (by omega) d
      rw [e]
      exact ih (i + 1) n a' (by omega) (by omega) (by omega) d'
  exact key (N - M).toNat M n a (by omega) (by omega) (by omega) hi
/-! how many -/
def cnt (P : Int → Bool) : Nat → Int
  | 0 => 0
  | n + 1 => cnt P n + if P n then 1 else 0
theorem cnt_s (P : Int → Bool) (n : Nat) : cnt P (n + 1) = cnt P n + if P n then 1 else 0 := rfl
theorem cnt_r (P : Int → Bool) (n : Nat) : 0 ≤ cnt P n ∧ cnt P n ≤ n := by
  induction n with
  | zero => exact ⟨by unfold cnt; omega, by unfold cnt; omega⟩
  | succ n ih =>
    rw [cnt_s]
    split <;> omega
theorem cnt_congr {P Q : Int → Bool} {n : Nat} (h : ∀ k : Nat, k < n → P k = Q k) : cnt P n = cnt Q n := by
  induction n with
  | zero => rfl
  | succ n ih => rw [cnt_s, cnt_s, h n (by omega), ih fun k hk => h k (by omega)]
theorem cnt_or {P : Int → Bool} {c n : Nat} (hc : c < n) (hp : P c = false) : cnt (fun d => P d || decide (d = (c : Int))) n = cnt P n + 1 := by
  induction n with
  | zero => omega
  | succ n ih =>
    rw [cnt_s, cnt_s]
    by_cases h : c = n
    · subst h
      have : cnt (fun d => P d || decide (d = (c : Int))) c = cnt P c := cnt_congr fun k hk => by
        have : ¬ (k : Int) = (c : Int) := by omega
        simp [this]
      rw [this, hp]
      simp
    · have h2 : ¬ (n : Int) = (c : Int) := by omega
      rw [ih (by omega)]
      simp only [h2, decide_false, Bool.or_false]
      split <;> omega
theorem cnt_false (n : Nat) : cnt (fun _ => false) n = 0 := by
  induction n with
  | zero => rfl
  | succ n ih => rw [cnt_s, ih]; rfl
theorem mk_cnt {A : Int → Int} (o : oP A) {h s : Int} (hs : 0 ≤ s ∧ s < A 4) : ∀ j : Nat, (j : Int) ≤ rc A h s → cnt (mk A h s j) 64 = j := by
  intro j
  induction j with
  | zero => intro _; exact cnt_false 64
  | succ j ih =>
    intro hj
    have l := (lit_stp (rc_lit A h s (k := (j : Int) + 1) (by omega) (by omega))).1
    obtain ⟨_, _, c0, c1, _⟩ := stp_val o l
    have e : mk A h s (j + 1) = fun d => mk A h s j d || decide (d = (((stp A (A (5 + h)) (A (26 + s)) ((j : Int) + 1)).toNat : Nat) : Int)) := by
      funext d
      rw [mk_s, Int.toNat_of_nonneg c0]
    rw [e, cnt_or (by omega), ih (by omega)]
    · omega
    · rw [Int.toNat_of_nonneg c0]
      cases hm : mk A h s j (stp A (A (5 + h)) (A (26 + s)) ((j : Int) + 1)) with
      | false => rfl
      | true =>
        exfalso
        obtain ⟨k, k1, k2, k3⟩ := (mk_spec A h s j _).1 hm
        have a1 := al_of o hs l
        have a2 := al_of o hs (h := h) (k := k) (by rw [← k3]; exact l)
        rw [k3, a2] at a1
        omega
theorem mShadow_0 {mem : zMem} {M : Int} {P : Int → Bool} (hP : ∀ d : Nat, d < 64 → castB M d = P d) : f_X12_shadow_0 zN M 0 0 mem = some (cnt P 64, mem) := by
  have hz := zN_ge
  obtain ⟨n', a', ia, e⟩ := lp_gen (F := fun n a i => f_X12_shadow_0 n M a i mem) (I := fun i a => a = cnt P i.toNat) (M := 0) (N := 64) (n := zN) (a := 0) (by
    intro n i a h0 h1 ha
    show ∃ a', b_X12_shadow_0 (f_X12_shadow_0 n) M a i mem = _ ∧ _
    unfold b_X12_shadow_0
    have hr := cnt_r P i.toNat
    have hc := hP i.toNat (by omega)
    rw [Int.toNat_of_nonneg h0] at hc
    have ei : (i + 1).toNat = i.toNat + 1 := by omega
    rw [if_neg (by omega), mIsCast, w32_id (x := i + 1) ⟨by omega, by omega⟩, w32_id (x := a + 1) ⟨by omega, by omega⟩]
    simp only [zbind, bi0]
    rw [hc, ei, cnt_s, Int.toNat_of_nonneg h0]
    by_cases hp : P i = true
    · rw [if_pos hp, if_pos hp]
      exact ⟨a + 1, rfl, by rw [ha]⟩
    · rw [if_neg hp, if_neg hp]
      exact ⟨a, rfl, by omega⟩) (by omega) rfl (by omega)
  show f_X12_shadow_0 zN M 0 0 mem = _
  rw [show f_X12_shadow_0 zN M 0 0 mem = f_X12_shadow_0 (n' + 1) M a' 64 mem from e]
  show b_X12_shadow_0 (f_X12_shadow_0 n') M a' 64 mem = _
  unfold b_X12_shadow_0
  rw [if_pos (by omega), ia]
  rfl
theorem mShadow {mem : zMem} (o : oP (mem 140)) (h s : Int) : f_X12_shadow h s mem = some (if (0 ≤ h ∧ h < mem 140 2) ∧ 0 ≤ s ∧ s < mem 140 4 then rc (mem 140) h s else -1, m00 mem) := by
  have e : m00 mem 140 = mem 140 := m00_off (by omega)
  have o' : oP (m00 mem 140) := by rw [e]; exact o
  unfold f_X12_shadow
  simp only [pipe, m00_eq, mIsHouse o', mIsSun o', zbind, bi0, e]
  by_cases hh : 0 ≤ h ∧ h < mem 140 2
  · rw [if_pos hh]
    by_cases hs : 0 ≤ s ∧ s < mem 140 4
    · rw [if_pos hs, if_pos ⟨hh, hs⟩]
      obtain ⟨M, e1, e2⟩ := mShadowOf (mem := m00 mem) o' (h := h) (s := s) (by rw [e]; exact hh) (by rw [e]; exact hs)
      rw [e] at e2
      rw [e1]
      simp only
      rw [mShadow_0 e2, mk_cnt o hs _ (by have := rc_r (mem 140) h s; omega)]
      have := rc_r (mem 140) h s
      rw [Int.toNat_of_nonneg this.1]
    · rw [if_neg hs, if_neg (fun c => hs c.2)]
  · rw [if_neg hh, if_neg (fun c => hh c.1)]
theorem qShadow {mem : zMem} (R : Rel mem) (h s : Int) : okC (f_X11_shadow h s) (f_X12_shadow h s) mem := by
  obtain ⟨o, os, v, sc, _⟩ := R.1
  refine okQ R _ ?_ (mShadow o h s)
  unfold f_X11_shadow
  simp only [cHasShadow v o, zbind, bi0, cReach IL_20 v sc o]
  split <;> rfl
theorem qHeirs {mem : zMem} (R : Rel mem) (h s : Int) : okC (f_X11_heirs h s) (f_X12_heirs h s) mem := by
  obtain ⟨o, os, v, sc, _⟩ := R.1
  have e : m00 mem 140 = mem 140 := m00_off (by omega)
  have o' : oP (m00 mem 140) := by rw [e]; exact o
  have os' : oS (m00 mem 140) := by rw [e]; exact os
  by_cases hc : (0 ≤ h ∧ h < mem 140 2) ∧ 0 ≤ s ∧ s < mem 140 4
  · have t1 := mTouchedBy (mem := m00 mem) o' os' (h := h) (s := s) (by rw [e]; exact hc.1) (by rw [e]; exact Or.inr hc.2)
    rw [e] at t1
    refine okQ R (tcd (mem 140) h s) ?_ ?_
    · unfold f_X11_heirs
      simp only [cHasShadow v o, zbind, bi0, cPersonsTouched IL_20 v sc o os hc.1 (Or.inr hc.2)]
      rw [if_pos hc]
    · unfold f_X12_heirs
      simp only [pipe, m00_eq, mIsHouse o', mIsSun o', zbind, bi0, e, t1]
      rw [if_pos hc.1, if_pos hc.2]
  · refine okQ R (-1) ?_ ?_
    · unfold f_X11_heirs
      simp only [cHasShadow v o, zbind, bi0]
      rw [if_neg hc]
    · unfold f_X12_heirs
      simp only [pipe, m00_eq, mIsHouse o', mIsSun o', zbind, bi0, e]
      by_cases hh : 0 ≤ h ∧ h < mem 140 2
      · rw [if_pos hh, if_neg (fun c => hc ⟨hh, c⟩)]
      · rw [if_neg hh]
/-! best -/
def bst (A : Int → Int) (p h : Int) : Nat → Int × Int
  | 0 => (-1, 7)
  | n + 1 => if prt A p h n ≤ 0 ∨ prt A p h n ≥ (bst A p h n).2 then bst A p h n else ((n : Int), prt A p h n)
theorem bst_s (A : Int → Int) (p h : Int) (n : Nat) : bst A p h (n + 1) = if prt A p h n ≤ 0 ∨ prt A p h n ≥ (bst A p h n).2 then bst A p h n else ((n : Int), prt A p h n) := rfl
theorem popT_le6 : ∀ x : Nat, x < 64 → popT x ≤ 6 := by decide +kernel
theorem prt_r {A : Int → Int} (o : oP A) (p h s : Int) : 0 ≤ prt A p h s ∧ prt A p h s ≤ 6 := by
  have := popT_le6 (tcd A h s).toNat (by have := tcd_64 o h s; omega)
  unfold prt
  split <;> omega
theorem bst_7 {A : Int → Int} (o : oP A) (p h : Int) (n : Nat) : (bst A p h n).2 ≤ 7 ∧ (bst A p h n).2 ≥ 0 := by
  induction n with
  | zero => exact ⟨by unfold bst; omega, by unfold bst; omega⟩
  | succ n ih =>
    rw [bst_s]
    have := prt_r o p h n
    split
    · exact ih
    · exact ⟨by simp only; omega, by simp only; omega⟩
theorem cBest_0 {mem : zMem} {A : Int → Int} (v : vP mem 4 A) (w : vS mem 11 A) (o : oP A) (os : oS A) (p : Int) {h : Int} (hh : 0 ≤ h ∧ h < A 2) : f_X11_best_0 zN p h (-1) 7 0 mem = some ((bst A p h (A 4).toNat).1, mem) := by
  have hz := zN_ge
  have o1 := o.1
  have v5 := v.1.2.2.2.2
  obtain ⟨n', a', ia, e⟩ := lp_gen (F := fun n (a : Int × Int) i => f_X11_best_0 n p h a.1 a.2 i mem) (I := fun i a => a = bst A p h i.toNat) (M := 0) (N := A 4) (n := zN) (a := (-1, 7)) (by
    intro n i a h0 h1 ha
    show ∃ a', b_X11_best_0 (f_X11_best_0 n) p h a.1 a.2 i mem = _ ∧ _
    unfold b_X11_best_0
    have ei : (i + 1).toNat = i.toNat + 1 := by omega
    rw [v5, if_neg (by omega), w32_id (x := i + 1) ⟨by omega, by omega⟩, cPartsWith IL_20 v w o os p hh (Or.inr ⟨h0, h1⟩), ei, bst_s, Int.toNat_of_nonneg h0]
    simp only [zbind]
    by_cases c1 : prt A p h i ≤ 0
    · rw [if_pos c1, if_pos (Or.inl c1)]
      exact ⟨a, rfl, ha⟩
    · rw [if_neg c1]
      by_cases c2 : prt A p h i ≥ a.2
      · rw [if_pos c2, if_pos (Or.inr (by rw [← ha]; exact c2))]
        exact ⟨a, rfl, ha⟩
      · rw [if_neg c2, if_neg (by rw [← ha]; omega)]
        exact ⟨(i, prt A p h i), rfl, rfl⟩) (by omega) rfl (by omega)
  rw [show f_X11_best_0 zN p h (-1) 7 0 mem = f_X11_best_0 (n' + 1) p h a'.1 a'.2 (A 4) mem from e]
  show b_X11_best_0 (f_X11_best_0 n') p h a'.1 a'.2 (A 4) mem = _
  unfold b_X11_best_0
  rw [v5, if_pos (by omega), ia]
theorem mBest_0 {mem : zMem} (o : oP (mem 140)) (os : oS (mem 140)) {p h : Int} (hp : 0 ≤ p ∧ p < mem 140 3) (hh : 0 ≤ h ∧ h < mem 140 2) : f_X12_best_0 zN p h (-1) 100000 0 mem = some ((bst (mem 140) p h (mem 140 4).toNat).1, mem) := by
  have hz := zN_ge
  have o1 := o.1
  obtain ⟨n', a', ia, e⟩ := lp_gen (F := fun n (a : Int × Int) i => f_X12_best_0 n p h a.1 a.2 i mem) (I := fun i a => a.1 = (bst (mem 140) p h i.toNat).1 ∧ (a.2 = (bst (mem 140) p h i.toNat).2 ∨ ((bst (mem 140) p h i.toNat).2 = 7 ∧ a.2 = 100000))) (M := 0) (N := mem 140 4) (n := zN) (a := (-1, 100000)) (by
    intro n i a h0 h1 ha
    show ∃ a', b_X12_best_0 (f_X12_best_0 n) p h a.1 a.2 i mem = _ ∧ _
    unfold b_X12_best_0
    have tr := tcd_r o h i
    have ei : (i + 1).toNat = i.toNat + 1 := by omega
    have pr := prt_r o p h i
    have pz := prt_0 o (h := h) (s := i) hp
    have b7 := bst_7 o p h i.toNat
    rw [ixl (by omega), if_neg (by omega), w32_id (x := i + 1) ⟨by omega, by omega⟩, mTouchedBy o os hh (Or.inr ⟨h0, h1⟩), ei, bst_s, Int.toNat_of_nonneg h0]
    simp only [zbind, mHas, bi0, pop_cast tr.1 tr.2]
    by_cases c1 : zand (zshr (tcd (mem 140) h i) p) 1 = 1
    · have q : prt (mem 140) p h i = (popT (tcd (mem 140) h i).toNat : Int) := by unfold prt; rw [if_pos c1]
      have qn : ¬ prt (mem 140) p h i ≤ 0 := fun c => (pz.1 (by omega)) c1
      rw [if_pos c1, ← q]
      by_cases c2 : prt (mem 140) p h i < a.2
      · rw [if_pos c2]
        refine ⟨(i, prt (mem 140) p h i), rfl, ?_⟩
        rw [if_neg (by omega)]
        exact ⟨rfl, Or.inl rfl⟩
      · rw [if_neg c2]
        refine ⟨a, rfl, ?_⟩
        rw [if_pos (by omega)]
        exact ha
    · rw [if_neg c1]
      refine ⟨a, rfl, ?_⟩
      rw [if_pos (Or.inl (by have := pz.2 c1; omega))]
      exact ha) (by omega) ⟨rfl, Or.inr ⟨rfl, rfl⟩⟩ (by omega)
  rw [show f_X12_best_0 zN p h (-1) 100000 0 mem = f_X12_best_0 (n' + 1) p h a'.1 a'.2 (mem 140 4) mem from e]
  show b_X12_best_0 (f_X12_best_0 n') p h a'.1 a'.2 (mem 140 4) mem = _
  unfold b_X12_best_0
  rw [ixl (by omega), if_pos (by omega), ia.1]
theorem qBest {mem : zMem} (R : Rel mem) (p h : Int) : okC (f_X11_best p h) (f_X12_best p h) mem := by
  obtain ⟨o, os, v, sc, _⟩ := R.1
  have e : m00 mem 140 = mem 140 := m00_off (by omega)
  have o' : oP (m00 mem 140) := by rw [e]; exact o
  have os' : oS (m00 mem 140) := by rw [e]; exact os
  by_cases hp : 0 ≤ p ∧ p < mem 140 3
  · by_cases hh : 0 ≤ h ∧ h < mem 140 2
    · have t1 := mBest_0 (mem := m00 mem) o' os' (p := p) (h := h) (by rw [e]; exact hp) (by rw [e]; exact hh)
      rw [e] at t1
      refine okQ R (bst (mem 140) p h (mem 140 4).toNat).1 ?_ ?_
      · unfold f_X11_best
        simp only [cHasPerson v o, cHasHouse v o, zbind, bi0]
        rw [if_pos hp, if_pos hh, cBest_0 v sc o os p hh]
      · unfold f_X12_best
        simp only [pipe, m00_eq, mIsPerson o', mIsHouse o', zbind, bi0, e]
        rw [if_pos hp, if_pos hh, t1]
    · refine okQ R (-1) ?_ ?_
      · unfold f_X11_best
        simp only [cHasPerson v o, cHasHouse v o, zbind, bi0]
        rw [if_pos hp, if_neg hh]
      · unfold f_X12_best
        simp only [pipe, m00_eq, mIsPerson o', mIsHouse o', zbind, bi0, e]
        rw [if_pos hp, if_neg hh]
  · refine okQ R (-1) ?_ ?_
    · unfold f_X11_best
      simp only [cHasPerson v o, zbind, bi0]
      rw [if_neg hp]
    · unfold f_X12_best
      simp only [pipe, m00_eq, mIsPerson o', zbind, bi0, e]
      rw [if_neg hp]
