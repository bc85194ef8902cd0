theorem sz_pop : ∀ U : Nat, U < 128 → (popT U : Int) = sz U := by decide +kernel
def adjA (A : Int → Int) (ST : Int → Int → Int) (h s kk : Int) (q b : Nat) : Bool := decide ((b : Int) < rc A h s) && decide (ST q (stp A (A (5 + h)) (A (26 + s)) ((b : Int) + 1)) ≠ -1 ∧ ST q (stp A (A (5 + h)) (A (26 + s)) ((b : Int) + 1)) ≤ kk)
def rcA (A : Int → Int) (ST : Int → Int → Int) (h s kk : Int) (q c : Int) : Bool := mk A h s (rc A h s).toNat c && decide (ST q c ≠ -1 ∧ ST q c ≤ kk)
def spread_ok (A : Int → Int) (p : Int) (st' : Int → Int) : Prop := (∀ c : Int, 0 ≤ c → c < 64 → st' c = -1 ∨ (0 ≤ st' c ∧ st' c < 64)) ∧ (∀ m : zMem, vP m 4 A → vS m 11 A → ∃ m', f_X10_spread p m = some (0, m') ∧ (∀ c : Int, 0 ≤ c → c < 64 → m' 98 c = st' c) ∧ ∀ q, q ≠ 98 → q ≠ 99 → m' q = m q) ∧ (∀ r : zMem, r 140 = A → ∃ r', f_X12_layFar (A (116 + p)) r = some (0, r') ∧ (∀ c : Int, 0 ≤ c → c < 64 → r' 149 c = fr5 (st' c)) ∧ ∀ q, q ≠ 149 → q ≠ 150 → r' q = r q)
theorem cCellsWithin {m : zMem} {A : Int → Int} {ST : Int → Int → Int} (v : vP m 4 A) (w : vS m 11 A) (o : oP A) (os : oS A) {h s kk : Int} (hh : 0 ≤ h ∧ h < A 2) (hs : 0 ≤ s ∧ s < A 4) {p : Nat} (sp : spread_ok A p (ST p)) : ∃ (m' : zMem) (cells : Nat), f_X10_cellsWithin p h s kk m = some ((cells : Int), m') ∧ (cells : Nat) < 128 ∧ (∀ b, b < 7 → adjA A ST h s kk p b = cells.testBit b) ∧ ∀ q, q ≠ 98 → q ≠ 99 → m' q = m q := by
  have hN := zN_ge
  have rr := rc_r A h s
  obtain ⟨s1, s2, s3⟩ := sp
  obtain ⟨m1, c1, c2, c3⟩ := s2 m v w
  have v1 : vP m1 4 A := vP_mem (fun q _ _ => c3 q (by omega) (by omega)) v
  have w1 : vS m1 11 A := vS_mem (fun q _ _ => c3 q (by omega) (by omega)) w
  generalize hP : (fun b : Int => decide (ST p (stp A (A (5 + h)) (A (26 + s)) (b + 1)) ≠ -1 ∧ ST p (stp A (A (5 + h)) (A (26 + s)) (b + 1)) ≤ kk)) = P
  obtain ⟨n', a', ia, ee⟩ := lp_gen (F := fun n a i => f_X10_cellsWithin_0 n h s kk (rc A h s) a i m1) (I := fun i a => a = set0 P (i - 1)) (M := 1) (N := rc A h s + 1) (n := zN) (a := 0) (by
    intro n i a i0 i1 ha
    have cs := cStepsToShade v1 o os hh hs i0 (by omega) c2
    show ∃ a', b_X10_cellsWithin_0 (f_X10_cellsWithin_0 n) h s kk (rc A h s) a i m1 = _ ∧ _
    unfold b_X10_cellsWithin_0
    have es := set0_s P (i := i - 1) (by omega) (by omega)
    rw [Int.sub_add_cancel] at es
    have hPi : (P (i - 1) = true) ↔ (ST p (stp A (A (5 + h)) (A (26 + s)) i) ≠ -1 ∧ ST p (stp A (A (5 + h)) (A (26 + s)) i) ≤ kk) := by
      rw [← hP]
      simp only [Int.sub_add_cancel, decide_eq_true_eq]
    rw [if_neg (by omega), cs, w32_id (x := i + 1) ⟨by omega, by omega⟩, w32_id (x := i - 1) ⟨by omega, by omega⟩, Int.add_sub_cancel, es, ← ha]
    simp only [zbind, pipe]
    by_cases h1 : ST p (stp A (A (5 + h)) (A (26 + s)) i) = -1
    · rw [if_pos h1, if_neg (fun c => (hPi.1 c).1 h1)]
      exact ⟨a, rfl, rfl⟩
    · rw [if_neg h1]
      by_cases h2 : ST p (stp A (A (5 + h)) (A (26 + s)) i) > kk
      · rw [if_pos h2, if_neg (fun c => by have := (hPi.1 c).2; omega)]
        exact ⟨a, rfl, rfl⟩
      · rw [if_neg h2, if_pos (hPi.2 ⟨h1, by omega⟩)]
        exact ⟨_, rfl, rfl⟩) (by omega) rfl (by omega)
  rw [Int.add_sub_cancel, set0_bset P (by omega) (by omega)] at ia
  have hlt := bset_lt (fun k => P (k : Int)) (rc A h s).toNat
  have h2 : 2 ^ (rc A h s).toNat ≤ 2 ^ 7 := Nat.pow_le_pow_right (by omega) (by omega)
  refine ⟨m1, bset (fun k => P (k : Int)) (rc A h s).toNat, ?_, by omega, fun b hb => ?_, c3⟩
  · unfold f_X10_cellsWithin
    rw [c1]
    simp only [zbind]
    rw [cReach IL_20 v1 w1 o, if_pos ⟨hh, hs⟩]
    simp only
    rw [show f_X10_cellsWithin_0 zN h s kk (rc A h s) 0 1 m1 = f_X10_cellsWithin_0 (n' + 1) h s kk (rc A h s) a' (rc A h s + 1) m1 from ee]
    show b_X10_cellsWithin_0 (f_X10_cellsWithin_0 n') h s kk (rc A h s) a' (rc A h s + 1) m1 = _
    unfold b_X10_cellsWithin_0
    rw [if_pos (by omega), ia]
  · rw [bset_bit, ← hP]
    unfold adjA
    congr 1
    by_cases hc : (b : Int) < rc A h s
    · rw [decide_eq_true hc, decide_eq_true (by omega)]
    · rw [decide_eq_false hc, decide_eq_false (by omega)]
/-! the class's count -/
theorem cMost {A : Int → Int} {ST : Int → Int → Int} (o : oP A) (os : oS A) {h s kk : Int} (hh : 0 ≤ h ∧ h < A 2) (hs : 0 ≤ s ∧ s < A 4) (sp : ∀ p : Int, 0 ≤ p → p < A 3 → spread_ok A p (ST p)) : ∀ (k p : Nat) (n : Nat) (m : zMem), (p : Int) + k = A 3 → k < n → vP m 4 A → vS m 11 A → (∀ U : Nat, U < 128 → (m 100 U = 0 ∨ m 100 U = 1) ∧ (m 100 U = 1 ↔ Tk (adjA A ST h s kk) p U)) → ∃ Y m', f_X10_mostInShadow_1 n h s kk p m = some (Y, m') ∧ (∀ q, q ≠ 98 → q ≠ 99 → q ≠ 100 → m' q = m q) ∧ (∃ U : Nat, U < 128 ∧ Tk (adjA A ST h s kk) (A 3).toNat U ∧ sz U = Y) ∧ ∀ U : Nat, U < 128 → Tk (adjA A ST h s kk) (A 3).toNat U → sz U ≤ Y := by
  have hN := zN_ge
  have o1 := o.1
  have l100 : sLen 100 = 128 := rfl
  intro k
  induction k with
  | zero =>
    intro p n m hp hn v w hT
    obtain ⟨n, rfl⟩ : ∃ q, n = q + 1 := ⟨n - 1, by omega⟩
    have ep : p = (A 3).toNat := by omega
    subst ep
    have e3 : m 4 3 = A 3 := v.1.2.2.2.1
    obtain ⟨n', a', ia, ee⟩ := lp_gen (F := fun n a i => f_X10_mostInShadow_0 n a i m) (I := fun i a => 0 ≤ a ∧ a ≤ 8 ∧ (a = 0 ∨ ∃ U : Nat, U < 128 ∧ Tk (adjA A ST h s kk) (A 3).toNat U ∧ sz U = a) ∧ ∀ U : Nat, (U : Int) < i → Tk (adjA A ST h s kk) (A 3).toNat U → sz U ≤ a) (M := 0) (N := 128) (n := zN) (a := 0) (by
      intro n i a i0 i1 ⟨a0, a1, a2, a3⟩
      obtain ⟨q, rfl⟩ : ∃ q : Nat, i = (q : Int) := ⟨i.toNat, by omega⟩
      have hq := hT q (by omega)
      have hsz := sz_pop q (by omega)
      have hpl := popT_le q
      show ∃ a', b_X10_mostInShadow_0 (f_X10_mostInShadow_0 n) a q m = _ ∧ _
      unfold b_X10_mostInShadow_0
      rw [if_neg (by omega), if_pos (show ix 100 (q : Int) from ⟨by omega, by omega⟩), w32_id (x := (q : Int) + 1) ⟨by omega, by omega⟩, bitCount_eq (by omega)]
      simp only [zbind, pipe]
      by_cases hz : m 100 q = 0
      · rw [if_pos hz]
        refine ⟨a, rfl, a0, a1, a2, fun U hU hTU => ?_⟩
        by_cases hUq : U = q
        · subst hUq
          have := hq.2.2 hTU
          omega
        · exact a3 U (by omega) hTU
      · rw [if_neg hz]
        have hTq : Tk (adjA A ST h s kk) (A 3).toNat q := hq.2.1 (by omega)
        refine ⟨zmax a (popT q), rfl, ?_⟩
        unfold zmax
        by_cases hm : a < (popT q : Int)
        · rw [if_pos hm]
          refine ⟨by omega, by omega, Or.inr ⟨q, by omega, hTq, by omega⟩, fun U hU hTU => ?_⟩
          by_cases hUq : U = q
          · subst hUq; omega
          · have := a3 U (by omega) hTU; omega
        · rw [if_neg hm]
          refine ⟨a0, a1, a2, fun U hU hTU => ?_⟩
          by_cases hUq : U = q
          · subst hUq; omega
          · exact a3 U (by omega) hTU) (by omega) ⟨by omega, by omega, Or.inl rfl, fun U hU => by omega⟩ (by omega)
    refine ⟨a', m, ?_, fun _ _ _ _ => rfl, ?_, fun U hU => ia.2.2.2 U (by omega)⟩
    · show b_X10_mostInShadow_1 (f_X10_mostInShadow_1 n) h s kk ((A 3).toNat : Int) m = _
      unfold b_X10_mostInShadow_1
      rw [e3, if_pos (by omega), show f_X10_mostInShadow_0 zN 0 0 m = f_X10_mostInShadow_0 (n' + 1) a' 128 m from ee]
      show b_X10_mostInShadow_0 (f_X10_mostInShadow_0 n') a' 128 m = _
      unfold b_X10_mostInShadow_0
      rw [if_pos (by omega)]
    · have T0 : Tk (adjA A ST h s kk) (A 3).toNat 0 := ⟨fun _ => 7, ⟨fun q _ => Or.inl rfl, fun q q' _ _ _ h => absurd rfl h⟩, fun b hb => ⟨fun h => by simp at h, fun ⟨q, _, h⟩ => absurd (show 7 = b from h) (by omega)⟩⟩
      rcases ia.2.2.1 with h0 | h0
      · exact ⟨0, by omega, T0, by rw [h0]; decide⟩
      · exact h0
  | succ k ih =>
    intro p n m hp hn v w hT
    obtain ⟨n, rfl⟩ : ∃ q, n = q + 1 := ⟨n - 1, by omega⟩
    have e3 : m 4 3 = A 3 := v.1.2.2.2.1
    obtain ⟨m1, cells, a1, a2, a3, a4⟩ := cCellsWithin v w o os (kk := kk) hh hs (sp p (by omega) (by omega))
    obtain ⟨m2, b1, b2, b3⟩ := cTake a2 a3 (m := m1) (by rw [a4 100 (by omega) (by omega)]; exact hT)
    have fm : ∀ q, q ≠ 98 → q ≠ 99 → q ≠ 100 → m2 q = m q := fun q x y z => by rw [b2 q z, a4 q x y]
    obtain ⟨Y, m', c1, c2, c3⟩ := ih (p + 1) n m2 (by omega) (by omega) (vP_mem (fun q _ _ => fm q (by omega) (by omega) (by omega)) v) (vS_mem (fun q _ _ => fm q (by omega) (by omega) (by omega)) w) b3
    refine ⟨Y, m', ?_, fun q x y z => by rw [c2 q x y z, fm q x y z], c3⟩
    show b_X10_mostInShadow_1 (f_X10_mostInShadow_1 n) h s kk (p : Int) m = _
    unfold b_X10_mostInShadow_1
    rw [e3, if_neg (by omega), a1]
    simp only [zbind]
    rw [b1]
    simp only
    rw [w32_id ⟨by omega, by omega⟩]
    exact c1
/-! the reference's count -/
def ocB (A : Int → Int) (h s : Int) (σ : Int → Int) (b : Int) : Bool := decide (b < rc A h s) && decide (σ (stp A (A (5 + h)) (A (26 + s)) (b + 1)) ≠ -1)
noncomputable def psi (A : Int → Int) (h s : Int) (σ : Int → Int) (p b : Nat) : Nat := if ocB A h s σ b = true then (σ (stp A (A (5 + h)) (A (26 + s)) ((b : Int) + 1))).toNat else p
def Cnt (A : Int → Int) (ST : Int → Int → Int) (h s kk : Int) (p : Nat) (σ : Int → Int) (z : Int) : Prop := Vx p (rcA A ST h s kk) (fun _ => false) σ ∧ z = cnt (ocB A h s σ) 7 ∧ ∀ S : Nat, S < 128 → Tk (adjA A ST h s kk) p S → sz S ≤ z
theorem cl_in {A : Int → Int} (o : oP A) {h s : Int} {b : Int} (h0 : 0 ≤ b) (h1 : b < rc A h s) : inD (stp A (A (5 + h)) (A (26 + s)) (b + 1)) ∧ mk A h s (rc A h s).toNat (stp A (A (5 + h)) (A (26 + s)) (b + 1)) = true := by
  have l := (lit_stp (rc_lit A h s (k := b + 1) (by omega) (by omega))).1
  have c := (stp_val o l).2.2
  exact ⟨⟨c.1, c.2.1⟩, (mk_spec A h s _ _).2 ⟨b + 1, by omega, by omega, rfl⟩⟩
theorem cl_inj {A : Int → Int} (o : oP A) {h s : Int} (hs : 0 ≤ s ∧ s < A 4) {b b' : Int} (h0 : 0 ≤ b) (h1 : b < rc A h s) (h0' : 0 ≤ b') (h1' : b' < rc A h s) (e : stp A (A (5 + h)) (A (26 + s)) (b + 1) = stp A (A (5 + h)) (A (26 + s)) (b' + 1)) : b = b' := by
  have l := (lit_stp (rc_lit A h s (k := b + 1) (by omega) (by omega))).1
  have l' := (lit_stp (rc_lit A h s (k := b' + 1) (by omega) (by omega))).1
  have a := al_of o hs l
  have a' := al_of o hs l'
  rw [e, a'] at a
  omega
theorem psi_ok {A : Int → Int} {ST : Int → Int → Int} (o : oP A) {h s kk : Int} (hs : 0 ≤ s ∧ s < A 4) {p : Nat} {σ : Int → Int} (v : Vx p (rcA A ST h s kk) (fun _ => false) σ) : (∀ b, b < 7 → (psi A h s σ p b < p ↔ ocB A h s σ b = true)) ∧ (∀ b, b < 7 → psi A h s σ p b < p → ((psi A h s σ p b : Nat) : Int) = σ (stp A (A (5 + h)) (A (26 + s)) ((b : Int) + 1)) ∧ adjA A ST h s kk (psi A h s σ p b) b = true) ∧ ∀ b b', b < 7 → b' < 7 → psi A h s σ p b < p → psi A h s σ p b = psi A h s σ p b' → b = b' := by
  have key : ∀ b : Nat, ocB A h s σ b = true → (b : Int) < rc A h s ∧ σ (stp A (A (5 + h)) (A (26 + s)) ((b : Int) + 1)) ≠ -1 ∧ 0 ≤ σ (stp A (A (5 + h)) (A (26 + s)) ((b : Int) + 1)) ∧ σ (stp A (A (5 + h)) (A (26 + s)) ((b : Int) + 1)) < p ∧ rcA A ST h s kk (σ (stp A (A (5 + h)) (A (26 + s)) ((b : Int) + 1))) (stp A (A (5 + h)) (A (26 + s)) ((b : Int) + 1)) = true := by
    intro b hb
    unfold ocB at hb
    simp only [Bool.and_eq_true, decide_eq_true_eq] at hb
    obtain ⟨c1, c2⟩ := cl_in o (h := h) (s := s) (b := (b : Int)) (by omega) hb.1
    have := (v.1 _ c1 rfl).resolve_left hb.2
    exact ⟨hb.1, hb.2, this.1, this.2.1, this.2.2⟩
  refine ⟨fun b hb => ?_, fun b hb hl => ?_, fun b b' hb hb' hl he => ?_⟩
  · unfold psi
    by_cases hc : ocB A h s σ b = true
    · have := key b hc
      rw [if_pos hc]
      constructor
      · intro _; exact hc
      · intro _; omega
    · rw [if_neg hc]
      constructor
      · intro h; omega
      · intro h; exact absurd h hc
  · unfold psi at hl ⊢
    by_cases hc : ocB A h s σ b = true
    · obtain ⟨k1, k2, k3, k4, k5⟩ := key b hc
      rw [if_pos hc]
      refine ⟨Int.toNat_of_nonneg k3, ?_⟩
      unfold adjA
      rw [Int.toNat_of_nonneg k3]
      unfold rcA at k5
      simp only [Bool.and_eq_true, decide_eq_true_eq] at k5 ⊢
      exact ⟨k1, k5.2⟩
    · rw [if_neg hc] at hl; omega
  · unfold psi at hl he
    by_cases hc : ocB A h s σ b = true
    · obtain ⟨k1, k2, k3, k4, k5⟩ := key b hc
      rw [if_pos hc] at hl he
      by_cases hc' : ocB A h s σ b' = true
      · obtain ⟨j1, j2, j3, j4, j5⟩ := key b' hc'
        rw [if_pos hc'] at he
        have e : σ (stp A (A (5 + h)) (A (26 + s)) ((b : Int) + 1)) = σ (stp A (A (5 + h)) (A (26 + s)) ((b' : Int) + 1)) := by omega
        have := v.2 _ _ (cl_in o (by omega) k1).1 (cl_in o (by omega) j1).1 rfl rfl e k2
        have := cl_inj o hs (by omega) k1 (by omega) j1 this
        omega
      · rw [if_neg hc'] at he; omega
    · rw [if_neg hc] at hl; omega
theorem Cnt_get {A : Int → Int} {ST : Int → Int → Int} (o : oP A) {h s kk : Int} (hs : 0 ≤ s ∧ s < A 4) {p : Nat} {σ : Int → Int} {z : Int} (c : Cnt A ST h s kk p σ z) : ∃ U : Nat, U < 128 ∧ Tk (adjA A ST h s kk) p U ∧ sz U = z := by
  obtain ⟨p1, p2, p3⟩ := psi_ok o hs c.1
  have hlt := bset_lt (fun b => decide (psi A h s σ p b < p)) 7
  refine ⟨_, by omega, Tk_of (fun b hb hl => (p2 b hb hl).2) p3, ?_⟩
  rw [c.2.1]
  unfold sz
  refine cnt_congr (fun k hk => ?_)
  simp only [Int.toNat_natCast]
  rw [bset_bit, Bool.eq_iff_iff]
  simp only [hk, decide_true, Bool.true_and, decide_eq_true_eq]
  exact p1 k hk
theorem Cnt_fail {A : Int → Int} {ST : Int → Int → Int} (o : oP A) {h s kk : Int} (hs : 0 ≤ s ∧ s < A 4) {p : Nat} {σ σ' : Int → Int} {z : Int} {X' : Int → Bool} (c : Cnt A ST h s kk p σ z) (f : Fail (rcA A ST h s kk) (fun _ => false) X' σ σ' p) : Cnt A ST h s kk (p + 1) σ' z := by
  obtain ⟨v, hz, mx⟩ := c
  obtain ⟨p1, p2, p3⟩ := psi_ok o hs v
  obtain ⟨f1, f2, f3⟩ := f
  refine ⟨⟨fun c hc _ => ?_, fun c c' hc hc' _ _ he hne => ?_⟩, ?_, fun S hS hT => ?_⟩
  · rw [f1 c hc]
    rcases v.1 c hc rfl with h | ⟨h1, h2, h3⟩
    · exact Or.inl h
    · exact Or.inr ⟨h1, by omega, h3⟩
  · rw [f1 c hc, f1 c' hc'] at he
    rw [f1 c hc] at hne
    exact v.2 c c' hc hc' rfl rfl he hne
  · rw [hz]
    refine cnt_congr (fun k hk => ?_)
    unfold ocB
    by_cases hk2 : (k : Int) < rc A h s
    · rw [f1 _ (cl_in o (by omega) hk2).1]
    · rw [decide_eq_false hk2]
      rfl
  · refine Tk_stop (ψ := psi A h s σ p) (Tr := fun b => decide ((b : Int) < rc A h s) && X' (stp A (A (5 + h)) (A (26 + s)) ((b : Int) + 1))) (fun b hb hl => (p2 b hb hl).2) p3 (fun b hb ht => ?_) (fun b hb ha => ?_) (fun b b' hb hb' ht ha => ?_) mx hT
    · simp only [Bool.and_eq_true, decide_eq_true_eq] at ht
      rw [p1 b hb]
      unfold ocB
      simp only [Bool.and_eq_true, decide_eq_true_eq]
      exact ⟨ht.1, (f3 _ (cl_in o (by omega) ht.1).1 ht.2 rfl).1⟩
    · unfold adjA at ha
      simp only [Bool.and_eq_true, decide_eq_true_eq] at ha ⊢
      obtain ⟨c1, c2⟩ := cl_in o (h := h) (s := s) (b := (b : Int)) (by omega) ha.1
      refine ⟨ha.1, f2 _ c1 ?_⟩
      unfold rcA
      simp only [Bool.and_eq_true, decide_eq_true_eq]
      exact ⟨c2, ha.2⟩
    · simp only [Bool.and_eq_true, decide_eq_true_eq] at ht
      have hl : psi A h s σ p b < p := by
        rw [p1 b hb]
        unfold ocB
        simp only [Bool.and_eq_true, decide_eq_true_eq]
        exact ⟨ht.1, (f3 _ (cl_in o (by omega) ht.1).1 ht.2 rfl).1⟩
      obtain ⟨e1, _⟩ := p2 b hb hl
      unfold adjA at ha
      rw [e1] at ha
      simp only [Bool.and_eq_true, decide_eq_true_eq] at ha ⊢
      obtain ⟨c1, c2⟩ := cl_in o (h := h) (s := s) (b := (b' : Int)) (by omega) ha.1
      refine ⟨ha.1, (f3 _ (cl_in o (by omega) ht.1).1 ht.2 rfl).2 _ c1 ?_⟩
      unfold rcA
      simp only [Bool.and_eq_true, decide_eq_true_eq]
      exact ⟨c2, ha.2⟩
theorem Cnt_succ {A : Int → Int} {ST : Int → Int → Int} (o : oP A) {h s kk : Int} (hs : 0 ≤ s ∧ s < A 4) {p : Nat} {σ σ' : Int → Int} {z : Int} (c : Cnt A ST h s kk p σ z) (f : Succ ((p : Int) + 1) (rcA A ST h s kk) (fun _ => false) σ σ' p) : Cnt A ST h s kk (p + 1) σ' (z + 1) := by
  obtain ⟨v, hz, mx⟩ := c
  obtain ⟨_, f2, _, c0, k1, _, k3, k4, k5⟩ := f
  have rr := rc_r A h s
  have v' : Vx ((p + 1 : Nat) : Int) (rcA A ST h s kk) (fun _ => false) σ' := f2
  refine ⟨v', ?_, fun S hS hT => ?_⟩
  · -- the new cell is one of the shadow's
    have hv := (f2.1 c0 k1 rfl).resolve_left k4
    have hm : mk A h s (rc A h s).toNat c0 = true := by
      have := hv.2.2
      unfold rcA at this
      simp only [Bool.and_eq_true] at this
      exact this.1
    obtain ⟨k, j0, j1, j2⟩ := (mk_spec A h s _ _).1 hm
    have e : stp A (A (5 + h)) (A (26 + s)) ((k - 1) + 1) = c0 := by rw [Int.sub_add_cancel]; exact j2.symm
    have hcnt := cnt_or (P := ocB A h s σ) (c := (k - 1).toNat) (n := 7) (by omega) (by
      rw [Int.toNat_of_nonneg (by omega)]
      unfold ocB
      rw [e, k3]
      simp)
    rw [hz, ← hcnt]
    refine cnt_congr (fun b hb => ?_)
    rw [Int.toNat_of_nonneg (by omega)]
    unfold ocB
    by_cases hb2 : (b : Int) < rc A h s
    · by_cases hbk : (b : Int) = k - 1
      · rw [hbk, e]
        simp [k4, show k - 1 < rc A h s by omega]
      · have hne : stp A (A (5 + h)) (A (26 + s)) ((b : Int) + 1) ≠ c0 := by
          intro he
          rw [← e] at he
          exact hbk (cl_inj o hs (by omega) hb2 (by omega) (by omega) he)
        have := k5 _ (cl_in o (by omega) hb2).1 rfl hne
        simp only [hbk, decide_false, Bool.or_false]
        congr 1
        rw [Bool.eq_iff_iff, decide_eq_true_eq, decide_eq_true_eq]
        exact not_congr this.symm
    · have hbk : ¬ (b : Int) = k - 1 := by omega
      simp [hb2, hbk]
  · rcases (Tk_s _ p S).1 hT with h1 | ⟨b, b1, b2, b3, b4⟩
    · have := mx S hS h1
      omega
    · have hlt := tk_lt S hS b b1 b2
      have := mx _ (by omega) b4
      rw [sz_x b1 b2]
      omega
