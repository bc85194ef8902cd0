/-! longest -/
theorem longest_l {A : Int → Int} (o : oP A) : ∀ (k : Nat) (tag : Nat) (v1 v2 v3 : Int) (mc : zMem) (n nr : Nat), ((tag = 0 ∧ v3 = 0 ∧ 100 * (6 - v2) = k) ∨ (tag = 1 ∧ v2 < A 2 ∧ 0 ≤ v3 ∧ v3 ≤ A 4 ∧ 100 * (5 - v2) + (20 - v3) = k)) → 0 ≤ v2 → v2 ≤ A 2 → k < n → k < nr → vP mc 4 A → vS mc 11 A →
    ∃ r mc', f_X11_longest_0 n tag v1 v2 v3 mc = some (r, mc') ∧ (∀ q, q ≠ 0 → mc' q = mc q) ∧ (∀ i, i ≠ 18 → i ≠ 19 → mc' 0 i = mc 0 i) ∧ ∀ mr : zMem, mr 140 = A → mr 138 33 = mc 0 18 → mr 138 34 = mc 0 19 → ∃ mr', f_X12_longest_0 nr tag v1 v2 v3 mr = some (r, mr') ∧ (∀ q, q ≠ 138 → mr' q = mr q) ∧ (∀ i, i ≠ 0 → i ≠ 33 → i ≠ 34 → mr' 138 i = mr 138 i) ∧ mr' 138 33 = mc' 0 18 ∧ mr' 138 34 = mc' 0 19 := by
  have o1 := o.1
  intro k
  induction k using Nat.strongRecOn with
  | ind k ih =>
    intro tag v1 v2 v3 mc n nr ht h0 h1 hn hnr v w
    obtain ⟨n, rfl⟩ : ∃ k, n = k + 1 := ⟨n - 1, by omega⟩
    obtain ⟨nr, rfl⟩ : ∃ k, nr = k + 1 := ⟨nr - 1, by omega⟩
    have v3' := v.1.2.2.1
    have v5 := v.1.2.2.2.2
    rcases ht with ⟨rfl, rfl, hk⟩ | ⟨rfl, hk1, hk2, hk3, hk⟩
    · have u : f_X11_longest_0 (n + 1) 0 v1 v2 0 mc = (if v2 ≥ (mc 4 2) then (some (v1, mc)) else (f_X11_longest_0 n 1 v1 v2 0 mc)) := rfl
      have ur : ∀ mr, f_X12_longest_0 (nr + 1) 0 v1 v2 0 mr = if ix 140 2 then if v2 ≥ (mr 140 2) then (some (v1, mr)) else (f_X12_longest_0 nr 1 v1 v2 0 mr) else none := fun _ => rfl
      by_cases hc : v2 ≥ A 2
      · refine ⟨v1, mc, ?_, fun q _ => rfl, fun i _ _ => rfl, fun mr e a b => ⟨mr, ?_, fun q _ => rfl, fun i _ _ _ => rfl, a, b⟩⟩
        · rw [u, v3', if_pos hc]
        · rw [ur, ixl (by omega), e, if_pos hc]
      · obtain ⟨r, mc', e1, e2, e3, e4⟩ := ih (100 * (5 - v2) + (20 - 0)).toNat (by omega) 1 v1 v2 0 mc n nr (Or.inr ⟨rfl, by omega, by omega, by omega, by omega⟩) h0 h1 (by omega) (by omega) v w
        refine ⟨r, mc', ?_, e2, e3, fun mr e a b => ?_⟩
        · rw [u, v3', if_neg hc, e1]
        · rw [ur, ixl (by omega), e, if_neg hc]
          exact e4 mr e a b
    · have u : f_X11_longest_0 (n + 1) 1 v1 v2 v3 mc = (if v3 ≥ (mc 4 4) then (f_X11_longest_0 n 0 v1 (w32 (v2 + 1)) 0 mc) else (zbind (f_X3_reach 20 v2 v3 mc) fun y1003 m1004 => if y1003 ≤ v1 then (f_X11_longest_0 n 1 v1 v2 (w32 (v3 + 1)) m1004) else (pipe (zup m1004 0 18 v2) fun m1006 => pipe (zup m1006 0 19 v3) fun m1007 => f_X11_longest_0 n 1 y1003 v2 (w32 (v3 + 1)) m1007))) := rfl
      have ur : ∀ mr, f_X12_longest_0 (nr + 1) 1 v1 v2 v3 mr = if ix 140 4 then if v3 ≥ (mr 140 4) then (f_X12_longest_0 nr 0 v1 (w32 (v2 + 1)) 0 mr) else (zbind (f_X12_shadow v2 v3 mr) fun y1004 m1005 => if y1004 > v1 then (pipe (zup m1005 138 33 v2) fun m1007 => pipe (zup m1007 138 34 v3) fun m1008 => f_X12_longest_0 nr 1 y1004 v2 (w32 (v3 + 1)) m1008) else (f_X12_longest_0 nr 1 v1 v2 (w32 (v3 + 1)) m1005)) else none := fun _ => rfl
      by_cases hc : v3 ≥ A 4
      · obtain ⟨r, mc', e1, e2, e3, e4⟩ := ih (100 * (6 - (v2 + 1))).toNat (by omega) 0 v1 (v2 + 1) 0 mc n nr (Or.inl ⟨rfl, rfl, by omega⟩) (by omega) (by omega) (by omega) (by omega) v w
        refine ⟨r, mc', ?_, e2, e3, fun mr e a b => ?_⟩
        · rw [u, v5, if_pos hc, w32_id ⟨by omega, by omega⟩, e1]
        · rw [ur, ixl (by omega), e, if_pos hc, w32_id ⟨by omega, by omega⟩]
          exact e4 mr e a b
      · have w1 : w32 (v3 + 1) = v3 + 1 := w32_id ⟨by omega, by omega⟩
        have hv : (0 ≤ v2 ∧ v2 < A 2) ∧ 0 ≤ v3 ∧ v3 < A 4 := ⟨⟨h0, hk1⟩, hk2, by omega⟩
        rw [v5, if_neg hc, cReach IL_20 v w o, if_pos hv, w1] at u
        simp only [zbind, pipe] at u
        have ur' : ∀ mr, mr 140 = A → f_X12_longest_0 (nr + 1) 1 v1 v2 v3 mr = if rc A v2 v3 > v1 then f_X12_longest_0 nr 1 (rc A v2 v3) v2 (v3 + 1) (zup (zup (m00 mr) 138 33 v2) 138 34 v3) else f_X12_longest_0 nr 1 v1 v2 (v3 + 1) (m00 mr) := by
          intro mr e
          rw [ur, ixl (by omega), mShadow (by rw [e]; exact o), e, if_neg hc, if_pos hv, w1]
          rfl
        by_cases hr : rc A v2 v3 ≤ v1
        · rw [if_pos hr] at u
          obtain ⟨r, mc', e1, e2, e3, e4⟩ := ih (100 * (5 - v2) + (20 - (v3 + 1))).toNat (by omega) 1 v1 v2 (v3 + 1) mc n nr (Or.inr ⟨rfl, by omega, by omega, by omega, by omega⟩) h0 h1 (by omega) (by omega) v w
          refine ⟨r, mc', u.trans e1, e2, e3, fun mr e a b => ?_⟩
          obtain ⟨mr', g1, g2, g3, g4⟩ := e4 (m00 mr) (by rw [m00_off (by omega)]; exact e) (by rw [m00_at (by omega)]; exact a) (by rw [m00_at (by omega)]; exact b)
          refine ⟨mr', ?_, fun q hq => by rw [g2 q hq, m00_off hq], fun i a b c => by rw [g3 i a b c, m00_at a], g4⟩
          rw [ur' mr e, if_neg (by omega), g1]
        · rw [if_neg hr] at u
          have vp : vP (zup (zup mc 0 18 v2) 0 19 v3) 4 A := vP_mem (fun q _ _ => by rw [zup_off (by omega), zup_off (by omega)]) v
          have vs : vS (zup (zup mc 0 18 v2) 0 19 v3) 11 A := vS_mem (fun q _ _ => by rw [zup_off (by omega), zup_off (by omega)]) w
          obtain ⟨r, mc', e1, e2, e3, e4⟩ := ih (100 * (5 - v2) + (20 - (v3 + 1))).toNat (by omega) 1 (rc A v2 v3) v2 (v3 + 1) (zup (zup mc 0 18 v2) 0 19 v3) n nr (Or.inr ⟨rfl, by omega, by omega, by omega, by omega⟩) h0 h1 (by omega) (by omega) vp vs
          refine ⟨r, mc', u.trans e1, fun q hq => by rw [e2 q hq, zup_off hq, zup_off hq], fun i a b => by rw [e3 i a b, zup_same, if_neg b, zup_same, if_neg a], fun mr e a b => ?_⟩
          obtain ⟨mr', g1, g2, g3, g4⟩ := e4 (zup (zup (m00 mr) 138 33 v2) 138 34 v3) (by rw [zup_off (by omega), zup_off (by omega), m00_off (by omega)]; exact e) (by rw [zup_same, if_neg (by omega), zup_same, if_pos rfl, zup_same, if_neg (by omega), zup_same, if_pos rfl]) (by rw [zup_same, if_pos rfl, zup_same, if_pos rfl])
          refine ⟨mr', ?_, fun q hq => by rw [g2 q hq, zup_off hq, zup_off hq, m00_off hq], fun i a b c => by rw [g3 i a b c, zup_same, if_neg c, zup_same, if_neg b, m00_at a], g4⟩
          rw [ur' mr e, if_pos (by omega), g1]
theorem Rel_V {mem m' : zMem} (R : Rel mem) (h1 : ∀ q, ((2 ≤ q ∧ q ≤ 18) ∨ q = 41 ∨ (53 ≤ q ∧ q ≤ 94) ∨ q = 96 ∨ q = 102 ∨ q = 103 ∨ (105 ≤ q ∧ q ≤ 119) ∨ (122 ≤ q ∧ q ≤ 136) ∨ q = 139 ∨ q = 140 ∨ q = 142 ∨ q = 143 ∨ q = 145 ∨ q = 147 ∨ q = 148 ∨ q = 153 ∨ q = 155) → m' q = mem q) (h2 : m' 1 2 = mem 1 2) (h3 : ∀ i, 5 ≤ i → m' 45 i = mem 45 i) (h4 : ∀ i, (i = 2 ∨ i = 25 ∨ i = 36 ∨ i = 41) → m' 138 i = mem 138 i) (h5 : rV m') : Rel m' := by
  obtain ⟨a, b, t, vv, l, bb, g, k⟩ := R
  refine ⟨?_, ?_, rT_mem h2 (h1 2 (by omega)) (h4 2 (by omega)) (h1 139 (by omega)) t, h5, rL_mem (h4 36 (by omega)) (h1 102 (by omega)) (h1 103 (by omega)) (h1 153 (by omega)) l, rB_mem h3 (h1 155 (by omega)) (h4 41 (by omega)) bb, rG_mem (fun q hq => h1 q (by omega)) g, rK_mem (h1 3 (by omega)) (h1 41 (by omega)) k⟩
  · rw [h1 140 (by omega), h1 145 (by omega)]
    exact rI_mem (fun q _ _ => h1 q (by omega)) (fun q _ _ => h1 q (by omega)) (fun q _ _ => h1 q (by omega)) a
  · rw [h1 140 (by omega)]
    exact rH_mem (fun q _ _ => h1 q (by omega)) (h4 25 (by omega)) (h1 143 (by omega)) b
theorem qLongest {mem : zMem} (R : Rel mem) : okC f_X11_longest f_X12_longest mem := by
  have hz := zN_ge
  have vv := R.2.2.2.1
  have a := R.1
  have o := a.1
  have o1 := o.1
  obtain ⟨r, mc, e1, e2, e3, e4⟩ := longest_l o 600 0 0 0 0 mem zN zN (Or.inl ⟨rfl, rfl, by omega⟩) (by omega) (by omega) (by omega) (by omega) a.2.2.1 a.2.2.2.1
  obtain ⟨mr, g1, g2, g3, g4, g5⟩ := e4 (m00 mc) (by rw [m00_off (by omega), e2 140 (by omega)]) (by rw [m00_at (by omega), e2 138 (by omega)]; exact vv.2.2.2.1) (by rw [m00_at (by omega), e2 138 (by omega)]; exact vv.2.2.2.2)
  have f1 : ∀ q, q ≠ 0 → q ≠ 138 → mr q = mem q := fun q a b => by rw [g2 q b, m00_off b, e2 q a]
  have f2 : ∀ i, i ≠ 0 → i ≠ 33 → i ≠ 34 → mr 138 i = mem 138 i := fun i a b c => by rw [g3 i a b c, m00_at a, e2 138 (by omega)]
  have f3 : ∀ i, mr 0 i = mc 0 i := fun i => by rw [g2 0 (by omega), m00_off (by omega)]
  refine ⟨r, mc, mr, e1, g1, Rel_V R (fun q hq => f1 q (by omega) (by omega)) (by rw [f1 1 (by omega) (by omega)]) (fun i _ => by rw [f1 45 (by omega) (by omega)]) (fun i hi => f2 i (by omega) (by omega) (by omega)) ?_⟩
  unfold rV
  rw [f3, f3, f3, f3, f3, e3 15 (by omega) (by omega), e3 16 (by omega) (by omega), e3 17 (by omega) (by omega), f2 10 (by omega) (by omega) (by omega), f2 26 (by omega) (by omega) (by omega), f2 32 (by omega) (by omega) (by omega)]
  exact ⟨vv.1, vv.2.1, vv.2.2.1, g4, g5⟩
/-! spare -/
def lk (A : Int → Int) (h s k : Int) : Int := A (10 + h) - k * A (34 + s) - A (128 + stp A (A (5 + h)) (A (26 + s)) k)
def spS (A : Int → Int) (h s : Int) : Nat → Int × Int
  | 0 => (-1, 10)
  | n + 1 => if hAt A (stp A (A (5 + h)) (A (26 + s)) ((n : Int) + 1)) = -1 ∧ pAt A (stp A (A (5 + h)) (A (26 + s)) ((n : Int) + 1)) = 0 ∧ lk A h s ((n : Int) + 1) < (spS A h s n).2 then (stp A (A (5 + h)) (A (26 + s)) ((n : Int) + 1), lk A h s ((n : Int) + 1)) else spS A h s n
theorem spS_s (A : Int → Int) (h s : Int) (n : Nat) : spS A h s (n + 1) = if hAt A (stp A (A (5 + h)) (A (26 + s)) ((n : Int) + 1)) = -1 ∧ pAt A (stp A (A (5 + h)) (A (26 + s)) ((n : Int) + 1)) = 0 ∧ lk A h s ((n : Int) + 1) < (spS A h s n).2 then (stp A (A (5 + h)) (A (26 + s)) ((n : Int) + 1), lk A h s ((n : Int) + 1)) else spS A h s n := rfl
theorem spS_ok (A : Int → Int) (h s : Int) (n : Nat) : spS A h s n = (-1, 10) ∨ ∃ k : Int, 1 ≤ k ∧ k ≤ n ∧ spS A h s n = (stp A (A (5 + h)) (A (26 + s)) k, lk A h s k) ∧ hAt A (stp A (A (5 + h)) (A (26 + s)) k) = -1 := by
  induction n with
  | zero => exact Or.inl rfl
  | succ n ih =>
    rw [spS_s]
    split
    · rename_i hc
      exact Or.inr ⟨(n : Int) + 1, by omega, by omega, rfl, hc.1⟩
    · rcases ih with e | ⟨k, a, b, c, d⟩
      · exact Or.inl e
      · exact Or.inr ⟨k, a, by omega, c, d⟩
theorem lit_r {A : Int → Int} (o : oP A) (os : oS A) {h s k : Int} (hh : 0 ≤ h ∧ h < A 2) (hs : 0 ≤ s ∧ s < A 4) (h1 : 1 ≤ k) (h2 : k ≤ rc A h s) : inC A (stp A (A (5 + h)) (A (26 + s)) k) ∧ 0 ≤ htA A (stp A (A (5 + h)) (A (26 + s)) k) ∧ htA A (stp A (A (5 + h)) (A (26 + s)) k) < A (10 + h) - k * A (34 + s) ∧ 1 ≤ k * A (34 + s) ∧ A (10 + h) ≤ 9 := by
  obtain ⟨l1, l2⟩ := lit_stp (rc_lit A h s h1 h2)
  have c := (stp_val o l1).2.2
  have hr := htA_r o os c.1 c.2.1
  have hd := (o.2.2 s hs.1 hs.2).2.2.1
  have ht := (o.2.1 h hh.1 hh.2).2.2
  have : 1 * 1 ≤ k * A (34 + s) := Int.mul_le_mul h1 hd (by omega) (by omega)
  exact ⟨c, hr.1, l2, by omega, ht⟩
theorem lk_r {A : Int → Int} (o : oP A) (os : oS A) {h s k : Int} (hh : 0 ≤ h ∧ h < A 2) (hs : 0 ≤ s ∧ s < A 4) (h1 : 1 ≤ k) (h2 : k ≤ rc A h s) (hn : hAt A (stp A (A (5 + h)) (A (26 + s)) k) = -1) : lk A h s k = A (10 + h) - k * A (34 + s) - htA A (stp A (A (5 + h)) (A (26 + s)) k) ∧ 1 ≤ lk A h s k ∧ lk A h s k ≤ 8 := by
  obtain ⟨c, a, b, d, e⟩ := lit_r o os hh hs h1 h2
  have : lk A h s k = A (10 + h) - k * A (34 + s) - htA A (stp A (A (5 + h)) (A (26 + s)) k) := by
    unfold lk htA
    rw [if_pos hn]
  omega
theorem cStonesToStop {mem : zMem} {t pl sc : Nat} {A : Int → Int} (I : IL t pl sc) (v : vP mem pl A) (w : vS mem sc A) (o : oP A) (os : oS A) {h s k : Int} (hh : 0 ≤ h ∧ h < A 2) (hs : 0 ≤ s ∧ s < A 4) (h1 : 1 ≤ k) (h2 : k ≤ rc A h s) : f_X3_stonesToStop t h s (stp A (A (5 + h)) (A (26 + s)) k) mem = some (A (10 + h) - k * A (34 + s) - htA A (stp A (A (5 + h)) (A (26 + s)) k), mem) := by
  obtain ⟨c, a, b, d, e⟩ := lit_r o os hh hs h1 h2
  have o1 := o.1
  have L1 := I.2.2.1.2.1
  have L2 := I.2.2.1.2.2.2.2.2
  have r0 := I.1
  have q1 := (v.2.1 h hh.1 hh.2).2
  have q2 := (v.2.2 s hs.1 hs.2).2
  have hal := al_of o hs (lit_stp (rc_lit A h s h1 h2)).1
  have i1 : ix (pl + 2) h := ⟨hh.1, by omega⟩
  have i2 : ix (pl + 6) s := ⟨hs.1, by omega⟩
  unfold f_X3_stonesToStop
  simp only [r0, cHasShadow v o, zbind, bi0, cStepsAlong I.2.2.1 v o ⟨c.1, c.2.1⟩, cHeightAt I v w o c.1 c.2.1, pipe]
  have hv : (0 ≤ h ∧ h < A 2) ∧ 0 ≤ s ∧ s < A 4 := ⟨hh, hs⟩
  rw [if_pos hv, if_pos i1, if_pos i2, if_pos hv, q1, q2, hal]
  rw [w32_id (x := k * A (34 + s)) ⟨by omega, by omega⟩, w32_id (x := A (10 + h) - k * A (34 + s)) ⟨by omega, by omega⟩, w32_id ⟨by omega, by omega⟩]
theorem cSpotThatSpares {mem : zMem} {t pl sc : Nat} {A : Int → Int} (I : IL t pl sc) (v : vP mem pl A) (w : vS mem sc A) (o : oP A) (os : oS A) {h s a : Int} (hh : 0 ≤ h ∧ h < A 2) (hs : 0 ≤ s ∧ s < A 4) (h1 : 1 ≤ a) (h2 : a ≤ rc A h s) : f_X3_spotThatSpares t h s a mem = some ((spS A h s (a - 1).toNat).1, mem) := by
  have hz := zN_ge
  have o1 := o.1
  have r0 := I.1
  have rr := rc_r A h s
  have L1 := I.2.2.1.1
  have L2 := I.2.2.1.2.2.2.2.1
  have q1 := (v.2.1 h hh.1 hh.2).1
  have q2 := (v.2.2 s hs.1 hs.2).1
  have i1 : ix (pl + 1) h := ⟨hh.1, by omega⟩
  have i2 : ix (pl + 5) s := ⟨hs.1, by omega⟩
  have hc := (o.2.1 h hh.1 hh.2).1
  have hs3 := o.2.2 s hs.1 hs.2
  unfold f_X3_spotThatSpares
  simp only [r0, cHasShadow v o, zbind, bi0]
  rw [if_pos ⟨hh, hs⟩]
  obtain ⟨n', b', ib, e⟩ := lp_gen (F := fun n (b : Int × Int) i => f_X3_spotThatSpares_0 n t h s a b.1 b.2 i mem) (I := fun i b => b = spS A h s (i - 1).toNat) (M := 1) (N := a) (n := zN) (a := (-1, 10)) (by
    intro n i b j0 j1 hb
    show ∃ b', b_X3_spotThatSpares_0 (f_X3_spotThatSpares_0 n) t h s a b.1 b.2 i mem = _ ∧ _
    unfold b_X3_spotThatSpares_0
    obtain ⟨c, a1, b1, d1, e1⟩ := lit_r o os hh hs j0 (by omega : i ≤ rc A h s)
    have lkr := lk_r o os hh hs j0 (by omega : i ≤ rc A h s)
    have ei : (i + 1 - 1).toNat = (i - 1).toNat + 1 := by omega
    have ej : (((i - 1).toNat : Nat) : Int) + 1 = i := by omega
    rw [r0, if_neg (by omega), if_neg (by omega), if_pos i1, if_pos i2, q1, q2, cSpotFrom v o ⟨hc.1, hc.2.1⟩ ⟨hs3.1, hs3.2.1⟩ ⟨by omega, by omega⟩]
    simp only [zbind, cStonesToStop I v w o os hh hs j0 (by omega : i ≤ rc A h s), cWhyNotLay I v w o os c.1 c.2.1]
    rw [w32_id (x := i + 1) ⟨by omega, by omega⟩, ei, spS_s, ej, ← hb]
    by_cases c1 : hAt A (stp A (A (5 + h)) (A (26 + s)) i) = -1
    · obtain ⟨k1, k2, k3⟩ := lkr c1
      rw [← k1]
      have hw : wLay A (stp A (A (5 + h)) (A (26 + s)) i) = if pAt A (stp A (A (5 + h)) (A (26 + s)) i) = 0 then 0 else 2 := by
        unfold wLay
        rw [if_pos c1]
        have : ¬ A (128 + stp A (A (5 + h)) (A (26 + s)) i) = 9 := by
          have : htA A (stp A (A (5 + h)) (A (26 + s)) i) = A (128 + stp A (A (5 + h)) (A (26 + s)) i) := by
            unfold htA; rw [if_pos c1]
          omega
        rw [if_neg this]
      by_cases c2 : lk A h s i ≥ b.2
      · rw [if_pos c2, if_neg (by omega)]
        exact ⟨b, rfl, rfl⟩
      · rw [if_neg c2, hw]
        by_cases c3 : pAt A (stp A (A (5 + h)) (A (26 + s)) i) = 0
        · rw [if_pos c3, if_pos rfl, if_pos ⟨c1, c3, by omega⟩]
          exact ⟨(_, _), rfl, rfl⟩
        · rw [if_neg c3, if_neg (by omega), if_neg (fun c => c3 c.2.1)]
          exact ⟨b, rfl, rfl⟩
    · have hw : wLay A (stp A (A (5 + h)) (A (26 + s)) i) = 1 := by
        unfold wLay; rw [if_neg c1]
      rw [hw, if_neg (c := hAt A (stp A (A (5 + h)) (A (26 + s)) i) = -1 ∧ _) (fun c => c1 c.1), if_neg (c := (1 : Int) = 0) (by omega)]
      refine ⟨b, ?_, rfl⟩
      split <;> rfl) h1 rfl (by omega)
  rw [show f_X3_spotThatSpares_0 zN t h s a (-1) 10 1 mem = f_X3_spotThatSpares_0 (n' + 1) t h s a b'.1 b'.2 a mem from e]
  show b_X3_spotThatSpares_0 (f_X3_spotThatSpares_0 n') t h s a b'.1 b'.2 a mem = _
  unfold b_X3_spotThatSpares_0
  rw [if_pos (by omega), ib]
