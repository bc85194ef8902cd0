theorem mCrowd {A : Int → Int} {ST : Int → Int → Int} (o : oP A) (os : oS A) {h s kk : Int} (hh : 0 ≤ h ∧ h < A 2) (hs : 0 ≤ s ∧ s < A 4) (hk : 0 ≤ kk ∧ kk ≤ 30) (sp : ∀ p : Int, 0 ≤ p → p < A 3 → spread_ok A p (ST p)) {M : Int} (hM : ∀ d : Nat, d < 64 → castB M (d : Int) = mk A h s (rc A h s).toNat (d : Int)) : ∀ (k p : Nat) (n : Nat) (z : Int) (r : zMem), (p : Int) + k = A 3 → 100 * k < n → r 140 = A → (∀ q c : Int, 0 ≤ q → q < (p : Int) → inD c → castB (r 152 q) c = rcA A ST h s kk q c) → Cnt A ST h s kk p (r 151) z → ∃ Y r', f_X12_crowd_0 n 0 kk M z p 0 r = some (Y, r') ∧ (∀ q, q ≠ 138 → q ≠ 149 → q ≠ 150 → q ≠ 151 → q ≠ 152 → r' q = r q) ∧ (∀ i, i ≠ 31 → r' 138 i = r 138 i) ∧ ∃ σ, Cnt A ST h s kk (A 3).toNat σ Y := by
  have hN := zN_ge
  have o1 := o.1
  have rr := rc_r A h s
  have l149 : sLen 149 = 64 := rfl
  have l152 : sLen 152 = 6 := rfl
  intro k
  induction k with
  | zero =>
    intro p n z r hp hn e hR c
    obtain ⟨n, rfl⟩ : ∃ q, n = q + 1 := ⟨n - 1, by omega⟩
    have ep : p = (A 3).toNat := by omega
    subst ep
    refine ⟨z, r, ?_, fun _ _ _ _ _ _ => rfl, fun _ _ => rfl, r 151, c⟩
    show b_X12_crowd_0 (f_X12_crowd_0 n) 0 kk M z ((A 3).toNat : Int) 0 r = _
    simp only [b_X12_crowd_0]
    rw [ixl (by omega), e, if_pos (by omega)]
  | succ k ih =>
    intro p n z r hp hn e hR c
    obtain ⟨n, rfl⟩ : ∃ q, n = q + 1 := ⟨n - 1, by omega⟩
    obtain ⟨s1, s2, s3⟩ := sp p (by omega) (by omega)
    obtain ⟨r1, a1, a2, a3⟩ := s3 r e
    have i152 : ∀ {α : Type} {a b : α}, (if ix 152 (p : Int) then a else b) = a := fun {α a b} => if_pos ⟨by omega, by omega⟩
    -- whom the cells are in reach of
    obtain ⟨n', r2, nn, ⟨b1, b2, b3⟩, ee⟩ := lp_genB (F := fun n (m : zMem) i => f_X12_crowd_0 n 1 kk M z p i m) (I := fun i m => (∀ q, q ≠ 152 → m q = r1 q) ∧ (∀ q, q ≠ (p : Int) → m 152 q = r1 152 q) ∧ ∀ d, inD d → castB (m 152 p) d = (decide (d < i) && rcA A ST h s kk p d)) (M := 0) (N := 64) (n := n) (a := zup r1 152 p 0) (by
      intro n i m i0 i1 ⟨c1, c2, c3⟩
      have hd : inD i := ⟨i0, i1⟩
      have hcb := hM i.toNat (by omega)
      rw [Int.toNat_of_nonneg i0] at hcb
      have h149 : m 149 i = fr5 (ST p i) := by rw [c1 149 (by omega)]; exact a2 i i0 i1
      have sr := s1 i i0 i1
      have hrc : rcA A ST h s kk p i = (mk A h s (rc A h s).toNat i && decide (¬ m 149 i > kk)) := by
        unfold rcA
        congr 1
        rw [h149]
        unfold fr5
        by_cases h1 : ST p i = -1
        · rw [if_pos h1]
          simp [h1]
          omega
        · rw [if_neg h1]
          simp [h1]
      show ∃ a', b_X12_crowd_0 (f_X12_crowd_0 n) 1 kk M z p i m = _ ∧ _
      simp only [b_X12_crowd_0]
      rw [if_neg (by omega), mIsCast, hcb, w32_id (x := i + 1) ⟨by omega, by omega⟩]
      simp only [zbind, bi0, pipe]
      have stay : rcA A ST h s kk p i = false → ∀ d, inD d → castB (m 152 p) d = (decide (d < i + 1) && rcA A ST h s kk p d) := by
        intro hf d hd'
        rw [c3 d hd']
        by_cases hdi : d = i
        · rw [hdi, hf]; simp
        · congr 1
          rw [Bool.eq_iff_iff, decide_eq_true_eq, decide_eq_true_eq]
          omega
      by_cases h1 : mk A h s (rc A h s).toNat i = true
      · rw [if_pos h1, if_pos (show ix 149 i from ⟨i0, by omega⟩)]
        by_cases h2 : m 149 i > kk
        · rw [if_pos h2]
          refine ⟨m, rfl, c1, c2, stay (by rw [hrc]; simp [h2])⟩
        · rw [if_neg h2, i152, i152]
          refine ⟨_, rfl, fun q hq => by rw [zup_off hq, c1 q hq], fun q hq => by rw [zup_same, if_neg hq, c2 q hq], fun d hd' => ?_⟩
          have hd0 := hd'.1
          have hd1 := hd'.2
          have := cast_or (m 152 p) (c := i.toNat) (d := d.toNat) (by omega) (by omega)
          rw [Int.toNat_of_nonneg i0, Int.toNat_of_nonneg hd'.1] at this
          rw [zup_same, if_pos rfl, this, c3 d hd']
          by_cases hdi : d = i
          · rw [hdi, hrc]
            simp [h1, h2]
            omega
          · have hne : ¬ d.toNat = i.toNat := by omega
            simp only [hne, decide_false, Bool.or_false]
            congr 1
            rw [Bool.eq_iff_iff, decide_eq_true_eq, decide_eq_true_eq]
            omega
      · rw [if_neg h1]
        refine ⟨m, rfl, c1, c2, stay (by rw [hrc]; simp [h1])⟩) (by omega) ⟨fun q hq => by rw [zup_off hq], fun q hq => by rw [zup_same, if_neg hq], fun d hd => by
        rw [zup_same, if_pos rfl]
        have hd0 := hd.1
        have hd1 := hd.2
        have := cast_0 (d := d.toNat) (by omega)
        rw [Int.toNat_of_nonneg hd.1] at this
        rw [this]
        have : ¬ d < 0 := by omega
        simp [this]⟩ (by omega)
    -- he looks for a cell
    generalize hr3 : zup r2 138 31 0 = r3
    have g1 : ∀ q, q ≠ 138 → r3 q = r2 q := fun q hq => by rw [← hr3, zup_off hq]
    have g2 : ∀ i, i ≠ 31 → r3 138 i = r2 138 i := fun i hi => by rw [← hr3, zup_same, if_neg hi]
    have g151 : r3 151 = r 151 := by rw [g1 151 (by omega), b1 151 (by omega), a3 151 (by omega) (by omega)]
    have hR3 : ∀ q c, 0 ≤ q → q < (p : Int) + 1 → inD c → castB (r3 152 q) c = rcA A ST h s kk q c := by
      intro q d q0 q1 hd
      rw [g1 152 (by omega)]
      by_cases hq : q = (p : Int)
      · have hd1 := hd.2
        rw [hq, b3 d hd, decide_eq_true (by omega), Bool.true_and]
      · rw [b2 q hq, a3 152 (by omega) (by omega)]
        exact hR q d q0 (by omega) hd
    have hX3 : ∀ d, inD d → castB (r3 138 31) d = (fun _ => false) d := by
      intro d hd
      have hd0 := hd.1
      have hd1 := hd.2
      have := cast_0 (d := d.toNat) (by omega)
      rw [Int.toNat_of_nonneg hd.1] at this
      rw [← hr3, zup_same, if_pos rfl, this]
    have V3 : Vx ((p : Int) + 1) (rcA A ST h s kk) (fun _ => false) (r3 151) := by
      rw [g151]
      refine ⟨fun d hd _ => ?_, c.1.2⟩
      rcases c.1.1 d hd rfl with h | ⟨h1, h2, h3⟩
      · exact Or.inl h
      · exact Or.inr ⟨h1, by omega, h3⟩
    have N3 : ∀ d, inD d → (fun _ => false) d = false → r3 151 d ≠ (p : Int) := by
      intro d hd _ he
      rw [g151] at he
      rcases c.1.1 d hd rfl with h | ⟨h1, h2, h3⟩ <;> omega
    obtain ⟨y, r4, X', f1, f2, f3, f4, f5⟩ := finds_l (P := fun d => mk A h s (rc A h s).toNat d) (RC := rcA A ST h s kk) (NP := (p : Int) + 1) (by omega) (fun q d _ _ _ hq => by unfold rcA at hq; simp only [Bool.and_eq_true] at hq; exact hq.1) 20 r3 p (fun _ => false) (by omega) (by omega) hR3 hX3 V3 N3 (by
      have := mk_cnt o hs (h := h) (rc A h s).toNat (by omega)
      have e2 : cnt (fun d => mk A h s (rc A h s).toNat d && !(fun _ => false) d) 64 = cnt (mk A h s (rc A h s).toNat) 64 := cnt_congr (fun k _ => by simp)
      rw [e2, this]
      omega)
    have e4 : r4 140 = A := by rw [f2.1 140 (by omega) (by omega), g1 140 (by omega), b1 140 (by omega), a3 140 (by omega) (by omega), e]
    have hR4 : ∀ q c, 0 ≤ q → q < ((p + 1 : Nat) : Int) → inD c → castB (r4 152 q) c = rcA A ST h s kk q c := by
      intro q d q0 q1 hd
      rw [f2.1 152 (by omega) (by omega)]
      exact hR3 q d q0 (by omega) hd
    have C4 : Cnt A ST h s kk (p + 1) (r4 151) (if y = 0 then z else z + 1) := by
      rw [g151] at f5
      rcases f5 with ⟨y0, f5⟩ | ⟨y1, f5⟩
      · rw [if_pos y0]
        exact Cnt_fail o hs c f5
      · rw [if_neg (by omega)]
        exact Cnt_succ o hs c f5
    have hzr : 0 ≤ z ∧ z ≤ 7 := by
      rw [c.2.1]
      exact cnt_r _ 7
    obtain ⟨Y, r', k1, k2, k3, k4⟩ := ih (p + 1) n' (if y = 0 then z else z + 1) r4 (by omega) (by omega) e4 hR4 C4
    refine ⟨Y, r', ?_, fun q x1 x2 x3 x4 x5 => by rw [k2 q x1 x2 x3 x4 x5, f2.1 q x1 x4, g1 q x1, b1 q x5, a3 q x2 x3], fun i hi => by rw [k3 i hi, f2.2 i hi, g2 i hi, b1 138 (by omega), a3 138 (by omega) (by omega)], k4⟩
    show b_X12_crowd_0 (f_X12_crowd_0 n) 0 kk M z p 0 r = _
    simp only [b_X12_crowd_0]
    rw [ixl (by omega), e, if_neg (by omega), w32_id (x := 116 + (p : Int)) ⟨by omega, by omega⟩, ixl (by omega), a1]
    simp only [zbind, pipe]
    rw [i152, show f_X12_crowd_0 n 1 kk M z p 0 (zup r1 152 p 0) = f_X12_crowd_0 (n' + 1) 1 kk M z p 64 r2 from ee]
    show b_X12_crowd_0 (f_X12_crowd_0 n') 1 kk M z p 64 r2 = _
    simp only [b_X12_crowd_0, pipe]
    rw [if_pos (by omega), hr3]
    have f1' : f_X12_finds p r3 = some (y, r4) := f1
    rw [f1']
    simp only [zbind]
    rw [w32_id (x := (p : Int) + 1) ⟨by omega, by omega⟩, w32_id (x := z + 1) ⟨by omega, by omega⟩]
    by_cases hy : y = 0
    · rw [if_pos hy] at k1 ⊢
      exact k1
    · rw [if_neg hy] at k1 ⊢
      exact k1
theorem qCrowd {mem : zMem} (R : Rel mem) (h s kk : Int) : okC (f_X11_crowd h s kk) (f_X12_crowd h s kk) mem := by
  have hN := zN_ge
  obtain ⟨o, os, v, w, _⟩ := R.1
  have o1 := o.1
  have e : m00 mem 140 = mem 140 := m00_off (by omega)
  have o' : oP (m00 mem 140) := by rw [e]; exact o
  have l100 : sLen 100 = 128 := rfl
  have l151 : sLen 151 = 64 := rfl
  by_cases hv : (0 ≤ h ∧ h < mem 140 2) ∧ 0 ≤ s ∧ s < mem 140 4
  · by_cases hk : 0 ≤ kk ∧ kk ≤ 30
    · -- everybody's steps
      have key : ∀ p : Int, ∃ st : Int → Int, 0 ≤ p → p < mem 140 3 → spread_ok (mem 140) p st := by
        intro p
        by_cases hp : 0 ≤ p ∧ p < mem 140 3
        · obtain ⟨st, h1⟩ := spread_all o os hp
          exact ⟨st, fun _ _ => h1⟩
        · exact ⟨fun _ => 0, fun a b => absurd ⟨a, b⟩ hp⟩
      obtain ⟨ST, sp⟩ := Classical.axiomOfChoice key
      -- the class
      obtain ⟨n', m1, ⟨i1, i2⟩, ee⟩ := lp_inv (F := fun n i m => f_X10_mostInShadow_2 n h s kk i m) (N := 128) (m := mem) (I := fun i m => (∀ q, q ≠ 100 → m q = mem q) ∧ ∀ j, 0 ≤ j → j < i → m 100 j = if j = 0 then 1 else 0) (by
        intro n i m a b ⟨c, d⟩
        have i100 : ∀ {α : Type} {a b : α}, (if ix 100 i then a else b) = a := fun {α a b} => if_pos ⟨by omega, by omega⟩
        have gen : ∀ x : Int, x = (if i = 0 then 1 else 0) → (∀ q, q ≠ 100 → zup m 100 i x q = mem q) ∧ ∀ j, 0 ≤ j → j < i + 1 → zup m 100 i x 100 j = if j = 0 then 1 else 0 := by
          intro x hx
          refine ⟨fun q hq => by rw [zup_off hq, c q hq], fun j j0 j1 => ?_⟩
          rw [zup_same]
          by_cases hj : j = i
          · rw [if_pos hj, hj, hx]
          · rw [if_neg hj, d j j0 (by omega)]
        show ∃ m', b_X10_mostInShadow_2 (f_X10_mostInShadow_2 n) h s kk i m = _ ∧ _
        unfold b_X10_mostInShadow_2
        rw [if_neg (by omega), i100, i100, w32_id ⟨by omega, by omega⟩]
        by_cases hi : i = 0
        · rw [if_pos hi]
          exact ⟨_, rfl, gen 1 (by rw [if_pos hi])⟩
        · rw [if_neg hi]
          exact ⟨_, rfl, gen 0 (by rw [if_neg hi])⟩) (by omega) (by omega) ⟨fun _ _ => rfl, fun j a b => by omega⟩
      have v1 : vP m1 4 (mem 140) := vP_mem (fun q _ _ => i1 q (by omega)) v
      have w1 : vS m1 11 (mem 140) := vS_mem (fun q _ _ => i1 q (by omega)) w
      obtain ⟨Y, m2, c1, c2, ⟨U, u1, u2, u3⟩, c4⟩ := cMost (kk := kk) o os hv.1 hv.2 sp (mem 140 3).toNat 0 zN m1 (by omega) (by omega) v1 w1 (by
        intro U hU
        rw [i2 U (by omega) (by omega), Tk_0 _ hU]
        by_cases h0 : U = 0
        · subst h0; simp
        · have : ¬ (U : Int) = 0 := by omega
          rw [if_neg this]
          exact ⟨Or.inl rfl, fun h => by omega, fun h => absurd h h0⟩)
      have fm : ∀ q, q ≠ 98 → q ≠ 99 → q ≠ 100 → m2 q = mem q := fun q x y z => by rw [c2 q x y z, i1 q z]
      -- the reference
      have e1 : m00 m2 140 = mem 140 := by rw [m00_off (by omega), fm 140 (by omega) (by omega) (by omega)]
      have o2 : oP (m00 m2 140) := by rw [e1]; exact o
      obtain ⟨M, f1, f2⟩ := mShadowOf (mem := m00 m2) o2 (h := h) (s := s) (by rw [e1]; exact hv.1) (by rw [e1]; exact hv.2)
      rw [e1] at f2
      obtain ⟨n2, r1, ⟨j1, j2⟩, ef⟩ := lp_inv (F := fun n i m => f_X12_crowd_1 n kk M i m) (N := 64) (m := m00 m2) (I := fun i m => (∀ q, q ≠ 151 → m q = m00 m2 q) ∧ ∀ j, 0 ≤ j → j < i → m 151 j = -1) (by
        intro n i m a b ⟨c, d⟩
        show ∃ m', b_X12_crowd_1 (f_X12_crowd_1 n) kk M i m = _ ∧ _
        unfold b_X12_crowd_1
        rw [if_neg (by omega), if_pos (show ix 151 i from ⟨a, by omega⟩), w32_id ⟨by omega, by omega⟩]
        refine ⟨_, rfl, fun q hq => by rw [zup_off hq, c q hq], fun j j0 j1 => ?_⟩
        rw [zup_same]
        by_cases hj : j = i
        · rw [if_pos hj]
        · rw [if_neg hj, d j j0 (by omega)]) (by omega) (by omega) ⟨fun _ _ => rfl, fun j a b => by omega⟩
      have er : r1 140 = mem 140 := by rw [j1 140 (by omega), e1]
      have C0 : Cnt (mem 140) ST h s kk 0 (r1 151) 0 := by
        refine ⟨⟨fun c hc _ => Or.inl (j2 c hc.1 hc.2), fun c c' hc _ _ _ _ hne => absurd (j2 c hc.1 hc.2) hne⟩, ?_, fun S hS hT => ?_⟩
        · rw [cnt_0 (fun k hk => ?_)]
          unfold ocB
          by_cases hk2 : (k : Int) < rc (mem 140) h s
          · have := (cl_in o (by omega) hk2).1
            rw [j2 _ this.1 this.2]
            simp
          · simp [hk2]
        · rw [(Tk_0 _ hS).1 hT]
          decide
      obtain ⟨Y2, r2, k1, k2, k3, σ, k4⟩ := mCrowd (kk := kk) o os hv.1 hv.2 hk sp f2 (mem 140 3).toNat 0 zN 0 r1 (by omega) (by omega) er (fun q c a b => by omega) C0
      obtain ⟨U2, x1, x2, x3⟩ := Cnt_get o hv.2 k4
      have hYY : Y2 = Y := by
        have t1 := k4.2.2 U u1 u2
        have t2 := c4 U2 x1 x2
        omega
      subst hYY
      have fr : ∀ q, q ≠ 98 → q ≠ 99 → q ≠ 100 → q ≠ 138 → q ≠ 149 → q ≠ 150 → q ≠ 151 → q ≠ 152 → r2 q = mem q := fun q a b c d e f g i => by rw [k2 q d e f g i, j1 q g, m00_off d, fm q a b c]
      have f138 : ∀ i, i ≠ 0 → i ≠ 31 → r2 138 i = mem 138 i := fun i a b => by rw [k3 i b, j1 138 (by omega), m00_at a, fm 138 (by omega) (by omega) (by omega)]
      refine ⟨Y2, m2, r2, ?_, ?_, Rel_mem ⟨fun q hq => fr q (by omega) (by omega) (by omega) (by omega) (by omega) (by omega) (by omega) (by omega), by rw [fr 1 (by omega) (by omega) (by omega) (by omega) (by omega) (by omega) (by omega) (by omega)], fun i _ => by rw [fr 45 (by omega) (by omega) (by omega) (by omega) (by omega) (by omega) (by omega) (by omega)], fun i hi => f138 i (by omega) (by omega)⟩ (fun q hq => fr q (by omega) (by omega) (by omega) (by omega) (by omega) (by omega) (by omega) (by omega)) (f138 25 (by omega) (by omega)) R⟩
      · unfold f_X11_crowd f_X10_mostInShadow
        simp only [cHasShadow v o, zbind, bi0]
        rw [if_pos hv, if_neg (by omega), if_pos (by omega), show f_X10_mostInShadow_2 zN h s kk 0 mem = f_X10_mostInShadow_2 (n' + 1) h s kk 128 m1 from ee]
        have : f_X10_mostInShadow_2 (n' + 1) h s kk 128 m1 = some (Y2, m2) := by
          show b_X10_mostInShadow_2 (f_X10_mostInShadow_2 n') h s kk 128 m1 = _
          unfold b_X10_mostInShadow_2
          rw [if_pos (by omega)]
          exact c1
        rw [this]
      · unfold f_X12_crowd
        simp only [pipe, m00_eq, mIsHouse o2, mIsSun o2, mIsIn, zbind, bi0, e1]
        rw [if_pos hv.1, if_pos hv.2, if_pos hk, f1]
        simp only
        rw [show f_X12_crowd_1 zN kk M 0 (m00 m2) = f_X12_crowd_1 (n2 + 1) kk M 64 r1 from ef]
        show b_X12_crowd_1 (f_X12_crowd_1 n2) kk M 64 r1 = _
        unfold b_X12_crowd_1
        rw [if_pos (by omega)]
        exact k1
    · refine okQ R (-1) ?_ ?_
      · unfold f_X11_crowd
        simp only [cHasShadow v o, zbind, bi0]
        rw [if_pos hv]
        by_cases h1 : kk < 0
        · rw [if_pos h1]
        · rw [if_neg h1, if_neg (by omega)]
      · unfold f_X12_crowd
        simp only [pipe, m00_eq, mIsHouse o', mIsSun o', mIsIn, zbind, bi0, e]
        rw [if_pos hv.1, if_pos hv.2, if_neg hk]
  · refine okQ R (-1) ?_ ?_
    · unfold f_X11_crowd
      simp only [cHasShadow v o, zbind, bi0]
      rw [if_neg hv]
    · unfold f_X12_crowd
      simp only [pipe, m00_eq, mIsHouse o', mIsSun o', zbind, bi0, e]
      by_cases h1 : 0 ≤ h ∧ h < mem 140 2
      · rw [if_pos h1, if_neg (fun c => hv ⟨h1, c⟩)]
      · rw [if_neg h1]
