theorem mSpare_0 {mem : zMem} (o : oP (mem 140)) (os : oS (mem 140)) {p h s : Int} (hp : 0 ≤ p ∧ p < mem 140 3) (hh : 0 ≤ h ∧ h < mem 140 2) (hs : 0 ≤ s ∧ s < mem 140 4) (h1 : 1 ≤ al (mem 140) h s (mem 140 (116 + p))) (h2 : al (mem 140) h s (mem 140 (116 + p)) ≤ rc (mem 140) h s) :
    ∃ m', f_X12_spare_0 zN p s (-1) (mem 140 (5 + h)) (mem 140 (10 + h)) mem = some (if (spS (mem 140) h s (al (mem 140) h s (mem 140 (116 + p)) - 1).toNat).1 = -1 then -1 else (spS (mem 140) h s (al (mem 140) h s (mem 140 (116 + p)) - 1).toNat).2, m') ∧ (∀ q, q ≠ 138 → m' q = mem q) ∧ (∀ j, j ≠ 26 → m' 138 j = mem 138 j) ∧ m' 138 26 = (if (spS (mem 140) h s (al (mem 140) h s (mem 140 (116 + p)) - 1).toNat).1 = -1 then mem 138 26 else (spS (mem 140) h s (al (mem 140) h s (mem 140 (116 + p)) - 1).toNat).1) := by
  generalize hA : mem 140 = A at *
  generalize ha : al A h s (A (116 + p)) = a at *
  have hz := zN_ge
  have o1 := o.1
  have rr := rc_r A h s
  have hc := (o.2.1 h hh.1 hh.2).1
  have hs3 := o.2.2 s hs.1 hs.2
  have hpc := os.2.1 p hp.1 hp.2
  have hat : stp A (A (5 + h)) (A (26 + s)) a = A (116 + p) := by
    rw [← ha]
    exact al_to o hs hpc (by omega)
  have nx : ∀ i, 0 ≤ i → i < a → stp A (A (5 + h)) (A (26 + s)) i ≠ -1 ∧ 0 ≤ stp A (A (5 + h)) (A (26 + s)) i ∧ stp A (A (5 + h)) (A (26 + s)) i < 64 := by
    intro i a0 a1
    by_cases h0 : i = 0
    · rw [h0, stp_0 hc]
      exact ⟨by have := hc.1; omega, hc.1, hc.2.1⟩
    · have := (lit_stp (rc_lit A h s (k := i) (by omega) (by omega))).1
      have c := (stp_val o this).2.2
      exact ⟨this, c.1, c.2.1⟩
  have mul_s : ∀ i, (i + 1) * A (34 + s) = i * A (34 + s) + A (34 + s) := fun i => by rw [Int.add_mul, Int.one_mul]
  obtain ⟨n', b', ⟨i1, i2, i3⟩, e⟩ := lp_gen (F := fun n (b : Int × zMem) i => f_X12_spare_0 n p s b.1 (stp A (A (5 + h)) (A (26 + s)) i) (A (10 + h) - i * A (34 + s)) b.2) (I := fun i b => (∀ q, q ≠ 138 → b.2 q = mem q) ∧ (∀ j, j ≠ 26 → b.2 138 j = mem 138 j) ∧ (((spS A h s i.toNat).1 = -1 ∧ b.1 = -1 ∧ b.2 138 26 = mem 138 26 ∧ (spS A h s i.toNat).2 = 10) ∨ ((spS A h s i.toNat).1 ≠ -1 ∧ b.1 = (spS A h s i.toNat).2 ∧ b.2 138 26 = (spS A h s i.toNat).1 ∧ 1 ≤ b.1))) (M := 0) (N := a - 1) (n := zN) (a := (-1, mem)) (by
    intro n i b j0 j1 ⟨b1, b2, b3⟩
    show ∃ b', b_X12_spare_0 (f_X12_spare_0 n) p s b.1 (stp A (A (5 + h)) (A (26 + s)) i) (A (10 + h) - i * A (34 + s)) b.2 = _ ∧ _
    obtain ⟨n1, n2, n3⟩ := nx i j0 (by omega)
    obtain ⟨c, a1, l1, d1, e1⟩ := lit_r o os hh hs (by omega : 1 ≤ i + 1) (by omega : i + 1 ≤ rc A h s)
    have lkr := lk_r o os hh hs (by omega : 1 ≤ i + 1) (by omega : i + 1 ≤ rc A h s)
    have e140 : b.2 140 = A := by rw [b1 140 (by omega), hA]
    have ob : oP (b.2 140) := by rw [e140]; exact o
    have ei : (i + 1).toNat = i.toNat + 1 := by omega
    have ej : ((i.toNat : Nat) : Int) + 1 = i + 1 := by omega
    have ms := mul_s i
    have nt := mNextTo ob (c := stp A (A (5 + h)) (A (26 + s)) i) (s := A (26 + s)) ⟨n2, n3⟩ ⟨hs3.1, hs3.2.1⟩
    rw [e140, ← stp_next o n1] at nt
    have hne : ¬ stp A (A (5 + h)) (A (26 + s)) (i + 1) = A (116 + p) := by
      intro hq
      have := al_of o hs (lit_stp (rc_lit A h s (k := i + 1) (by omega) (by omega))).1
      rw [hq, ha] at this
      omega
    have sr := os.2.2.1 _ c.1 c.2.1
    have c0 := c.1
    have c64 := c.2.1
    have hm : 0 ≤ i * A (34 + s) := Int.mul_nonneg j0 (by omega)
    unfold b_X12_spare_0
    rw [w32_id (x := 26 + s) ⟨by omega, by omega⟩, w32_id (x := 34 + s) ⟨by omega, by omega⟩, w32_id (x := 116 + p) ⟨by omega, by omega⟩, ixl (by omega), e140, nt]
    simp only [zbind, pipe, e140]
    rw [ixl (by omega), ixl (by omega), if_neg hne, w32_id (x := 128 + stp A (A (5 + h)) (A (26 + s)) (i + 1)) ⟨by omega, by omega⟩, ixl (by omega), w32_id (x := A (10 + h) - i * A (34 + s) - A (34 + s)) ⟨by omega, by omega⟩, mHouseAt ob]
    simp only [mPersonsAt ob, e140]
    have el : A (10 + h) - i * A (34 + s) - A (34 + s) = A (10 + h) - (i + 1) * A (34 + s) := by omega
    rw [el, w32_id (x := A (10 + h) - (i + 1) * A (34 + s) - A (128 + stp A (A (5 + h)) (A (26 + s)) (i + 1))) ⟨by omega, by omega⟩, ei, spS_s, ej]
    rw [show A (10 + h) - (i + 1) * A (34 + s) - A (128 + stp A (A (5 + h)) (A (26 + s)) (i + 1)) = lk A h s (i + 1) from rfl]
    by_cases c1 : hAt A (stp A (A (5 + h)) (A (26 + s)) (i + 1)) = -1
    · obtain ⟨k1, k2, k3⟩ := lkr c1
      rw [if_pos c1]
      by_cases c2 : pAt A (stp A (A (5 + h)) (A (26 + s)) (i + 1)) = 0
      · rw [if_pos c2, if_neg (by omega)]
        have u1 : ∀ q, q ≠ 138 → zup b.2 138 26 (stp A (A (5 + h)) (A (26 + s)) (i + 1)) q = mem q := fun q hq => by rw [zup_off hq, b1 q hq]
        have u2 : ∀ j, j ≠ 26 → zup b.2 138 26 (stp A (A (5 + h)) (A (26 + s)) (i + 1)) 138 j = mem 138 j := fun j hj => by rw [zup_same, if_neg hj, b2 j hj]
        have u3 : zup b.2 138 26 (stp A (A (5 + h)) (A (26 + s)) (i + 1)) 138 26 = stp A (A (5 + h)) (A (26 + s)) (i + 1) := by rw [zup_same, if_pos rfl]
        rcases b3 with ⟨x1, x2, x3, x4⟩ | ⟨x1, x2, x3, x4⟩
        · rw [if_pos x2]
          refine ⟨(lk A h s (i + 1), zup b.2 138 26 (stp A (A (5 + h)) (A (26 + s)) (i + 1))), rfl, u1, u2, Or.inr ?_⟩
          rw [if_pos ⟨c1, c2, by omega⟩]
          exact ⟨by have := c.1; simp only; omega, rfl, u3, k2⟩
        · rw [if_neg (by omega)]
          by_cases c3 : lk A h s (i + 1) < b.1
          · rw [if_pos c3]
            refine ⟨(lk A h s (i + 1), zup b.2 138 26 (stp A (A (5 + h)) (A (26 + s)) (i + 1))), rfl, u1, u2, Or.inr ?_⟩
            rw [if_pos ⟨c1, c2, by omega⟩]
            exact ⟨by have := c.1; simp only; omega, rfl, u3, k2⟩
          · rw [if_neg c3]
            refine ⟨b, rfl, b1, b2, ?_⟩
            rw [if_neg (by omega)]
            exact Or.inr ⟨x1, x2, x3, x4⟩
      · rw [if_neg c2]
        refine ⟨b, rfl, b1, b2, ?_⟩
        rw [if_neg (fun c => c2 c.2.1)]
        exact b3
    · rw [if_neg c1]
      refine ⟨b, rfl, b1, b2, ?_⟩
      rw [if_neg (fun c => c1 c.1)]
      exact b3) (by omega) ⟨fun q _ => rfl, fun j _ => rfl, Or.inl ⟨rfl, rfl, rfl, rfl⟩⟩ (by omega)
  have e' : f_X12_spare_0 zN p s (-1) (A (5 + h)) (A (10 + h)) mem = f_X12_spare_0 (n' + 1) p s b'.1 (stp A (A (5 + h)) (A (26 + s)) (a - 1)) (A (10 + h) - (a - 1) * A (34 + s)) b'.2 := by
    have := e
    simp only [stp_0 hc, Int.zero_mul, Int.sub_zero] at this
    exact this
  have e140 : b'.2 140 = A := by rw [i1 140 (by omega), hA]
  have ob : oP (b'.2 140) := by rw [e140]; exact o
  obtain ⟨n1, n2, n3⟩ := nx (a - 1) (by omega) (by omega)
  have nt := mNextTo ob (c := stp A (A (5 + h)) (A (26 + s)) (a - 1)) (s := A (26 + s)) ⟨n2, n3⟩ ⟨hs3.1, hs3.2.1⟩
  rw [e140, ← stp_next o n1, Int.sub_add_cancel, hat] at nt
  refine ⟨b'.2, ?_, i1, i2, ?_⟩
  · rw [e']
    show b_X12_spare_0 (f_X12_spare_0 n') p s b'.1 (stp A (A (5 + h)) (A (26 + s)) (a - 1)) (A (10 + h) - (a - 1) * A (34 + s)) b'.2 = _
    unfold b_X12_spare_0
    rw [w32_id (x := 26 + s) ⟨by omega, by omega⟩, w32_id (x := 34 + s) ⟨by omega, by omega⟩, w32_id (x := 116 + p) ⟨by omega, by omega⟩, ixl (by omega), e140, nt]
    simp only [zbind, pipe, e140]
    rw [ixl (by omega), ixl (by omega), if_pos trivial]
    rcases i3 with ⟨x1, x2, x3, x4⟩ | ⟨x1, x2, x3, x4⟩
    · rw [if_pos x1, x2]
    · rw [if_neg x1, x2]
  · rcases i3 with ⟨x1, x2, x3, x4⟩ | ⟨x1, x2, x3, x4⟩
    · rw [if_pos x1, x3]
    · rw [if_neg x1, x3]
theorem tch_iff (A : Int → Int) (h s c : Int) : tch A h s c = true ↔ 1 ≤ al A h s c ∧ al A h s c ≤ rc A h s := by
  unfold tch
  rw [decide_eq_true_eq]
theorem qSpare {mem : zMem} (R : Rel mem) (p h s : Int) : okC (f_X11_spare p h s) (f_X12_spare p h s) mem := by
  have vv := R.2.2.2.1
  obtain ⟨o, os, v, sc, _⟩ := R.1
  have o1 := o.1
  have L13 : sLen 13 = 6 := rfl
  have e : m00 mem 140 = mem 140 := m00_off (by omega)
  have o' : oP (m00 mem 140) := by rw [e]; exact o
  have os' : oS (m00 mem 140) := by rw [e]; exact os
  by_cases hp : 0 ≤ p ∧ p < mem 140 3
  · by_cases hv : (0 ≤ h ∧ h < mem 140 2) ∧ 0 ≤ s ∧ s < mem 140 4
    · have q1 : mem 13 p = mem 140 (116 + p) := sc.2.2.1 p hp.1 hp.2
      have hpc := os.2.1 p hp.1 hp.2
      have i13 : ix 13 p := ⟨hp.1, by omega⟩
      have hT := has_tcd o (h := h) (s := s) hp
      rw [tch_iff] at hT
      have t1 := mTouchedBy (mem := m00 mem) o' os' (h := h) (s := s) (by rw [e]; exact hv.1) (by rw [e]; exact Or.inr hv.2)
      rw [e] at t1
      have uc : f_X11_spare p h s mem = if al (mem 140) h s (mem 140 (116 + p)) < 1 then some (0, mem) else if al (mem 140) h s (mem 140 (116 + p)) ≤ rc (mem 140) h s then (zbind (f_X3_spotThatSpares 20 h s (al (mem 140) h s (mem 140 (116 + p))) mem) fun y15 m16 => if y15 = (-1) then (some ((-1), m16)) else (pipe (zup m16 0 16 y15) fun m18 => zbind (f_X3_stonesToStop 20 h s y15 m18) fun y19 m20 => some (y19, m20))) else some (0, mem) := by
        unfold f_X11_spare
        simp only [cHasPerson v o, cHasShadow v o, bi0]
        rw [zbind]
        simp only [zbind, bi0, q1, cStepsAlong IL_20.2.2.1 v o (c := mem 140 (116 + p)) ⟨hpc.1, hpc.2.1⟩, cReach IL_20 v sc o, cHasShadow v o]
        rw [if_pos hp, if_pos hv, if_pos i13, if_pos hv, if_pos hv]
      have ur : ∀ m, m 140 = mem 140 → f_X12_spare p h s m = if zand (zshr (tcd (mem 140) h s) p) 1 = 1 then f_X12_spare_0 zN p s (-1) (mem 140 (5 + h)) (mem 140 (10 + h)) (m00 m) else some (0, m00 m) := by
        intro m em
        have e' : m00 m 140 = mem 140 := by rw [m00_off (by omega), em]
        have oo : oP (m00 m 140) := by rw [e']; exact o
        have oos : oS (m00 m 140) := by rw [e']; exact os
        have t2 := mTouchedBy (mem := m00 m) oo oos (h := h) (s := s) (by rw [e']; exact hv.1) (by rw [e']; exact Or.inr hv.2)
        rw [e'] at t2
        unfold f_X12_spare
        simp only [pipe, m00_eq, mIsPerson oo, mIsHouse oo, mIsSun oo, zbind, bi0, e', t2, mHas]
        rw [if_pos hp, if_pos hv.1, if_pos hv.2, w32_id (x := 5 + h) ⟨by omega, by omega⟩, w32_id (x := 10 + h) ⟨by omega, by omega⟩, ixl (by omega), ixl (by omega)]
      by_cases hc : 1 ≤ al (mem 140) h s (mem 140 (116 + p)) ∧ al (mem 140) h s (mem 140 (116 + p)) ≤ rc (mem 140) h s
      · have cs := cSpotThatSpares IL_20 v sc o os hv.1 hv.2 hc.1 hc.2
        rw [if_neg (by omega), if_pos hc.2, cs] at uc
        simp only [zbind, pipe] at uc
        have key : ∀ mc : zMem, (∀ q, q ≠ 0 → mc q = mem q) → ∃ m', f_X12_spare p h s mc = some (if (spS (mem 140) h s (al (mem 140) h s (mem 140 (116 + p)) - 1).toNat).1 = -1 then -1 else (spS (mem 140) h s (al (mem 140) h s (mem 140 (116 + p)) - 1).toNat).2, m') ∧ (∀ q, q ≠ 138 → m' q = mc q) ∧ (∀ j, j ≠ 0 → j ≠ 26 → m' 138 j = mem 138 j) ∧ m' 138 26 = (if (spS (mem 140) h s (al (mem 140) h s (mem 140 (116 + p)) - 1).toNat).1 = -1 then mem 138 26 else (spS (mem 140) h s (al (mem 140) h s (mem 140 (116 + p)) - 1).toNat).1) := by
          intro mc hmc
          have em : mc 140 = mem 140 := hmc 140 (by omega)
          have e' : m00 mc 140 = mem 140 := by rw [m00_off (by omega), em]
          obtain ⟨m', a1, a2, a3, a4⟩ := mSpare_0 (mem := m00 mc) (p := p) (h := h) (s := s) (by rw [e']; exact o) (by rw [e']; exact os) (by rw [e']; exact hp) (by rw [e']; exact hv.1) (by rw [e']; exact hv.2) (by rw [e']; exact hc.1) (by rw [e']; exact hc.2)
          rw [e'] at a1 a4
          refine ⟨m', ?_, fun q hq => by rw [a2 q hq, m00_off hq], fun j b c => by rw [a3 j c, m00_at b, hmc 138 (by omega)], ?_⟩
          · rw [ur mc em, if_pos (hT.2 ⟨by omega, hc⟩), a1]
          · rw [a4, m00_at (by omega), hmc 138 (by omega)]
        have fin : ∀ mc m' : zMem, (∀ q, q ≠ 0 → mc q = mem q) → (∀ q, q ≠ 138 → m' q = mc q) → (∀ j, j ≠ 0 → j ≠ 26 → m' 138 j = mem 138 j) → (∀ i, i ≠ 16 → mc 0 i = mem 0 i) → m' 138 26 = mc 0 16 → Rel m' := by
          intro mc m' b1 b2 b3 b4 b5
          have f1 : ∀ q, q ≠ 0 → q ≠ 138 → m' q = mem q := fun q a b => by rw [b2 q b, b1 q a]
          refine Rel_V R (fun q hq => f1 q (by omega) (by omega)) (by rw [f1 1 (by omega) (by omega)]) (fun i _ => by rw [f1 45 (by omega) (by omega)]) (fun i hi => b3 i (by omega) (by omega)) ?_
          unfold rV
          rw [b2 0 (by omega), b5, b3 10 (by omega) (by omega), b3 32 (by omega) (by omega), b3 33 (by omega) (by omega), b3 34 (by omega) (by omega), b4 15 (by omega), b4 17 (by omega), b4 18 (by omega), b4 19 (by omega)]
          exact ⟨vv.1, rfl, vv.2.2.1, vv.2.2.2.1, vv.2.2.2.2⟩
        rcases spS_ok (mem 140) h s (al (mem 140) h s (mem 140 (116 + p)) - 1).toNat with hsp | ⟨k, k1, k2, k3, k4⟩
        · rw [hsp, if_pos rfl] at uc
          obtain ⟨m', a1, a2, a3, a4⟩ := key mem (fun _ _ => rfl)
          rw [hsp, if_pos rfl] at a1 a4
          exact ⟨-1, mem, m', uc, a1, fin mem m' (fun _ _ => rfl) a2 a3 (fun _ _ => rfl) (by rw [a4]; exact vv.2.1)⟩
        · obtain ⟨c, _⟩ := lit_r o os hv.1 hv.2 k1 (by omega : k ≤ rc (mem 140) h s)
          have hne : ¬ stp (mem 140) (mem 140 (5 + h)) (mem 140 (26 + s)) k = -1 := by have := c.1; omega
          obtain ⟨j1, j2, j3⟩ := lk_r o os hv.1 hv.2 k1 (by omega : k ≤ rc (mem 140) h s) k4
          have z1 : ∀ q, q ≠ 0 → zup mem 0 16 (stp (mem 140) (mem 140 (5 + h)) (mem 140 (26 + s)) k) q = mem q := fun q hq => zup_off hq
          have cst := cStonesToStop IL_20 (mem := zup mem 0 16 (stp (mem 140) (mem 140 (5 + h)) (mem 140 (26 + s)) k)) (vP_mem (fun q _ _ => z1 q (by omega)) v) (vS_mem (fun q _ _ => z1 q (by omega)) sc) o os hv.1 hv.2 k1 (by omega : k ≤ rc (mem 140) h s)
          rw [k3, if_neg hne, cst, ← j1] at uc
          simp only at uc
          obtain ⟨m', a1, a2, a3, a4⟩ := key (zup mem 0 16 (stp (mem 140) (mem 140 (5 + h)) (mem 140 (26 + s)) k)) z1
          rw [k3, if_neg hne] at a1 a4
          refine ⟨lk (mem 140) h s k, _, m', uc, a1, fin _ m' z1 a2 a3 (fun i hi => by rw [zup_same, if_neg hi]) (by rw [a4, zup_same, if_pos rfl])⟩
      · have hF : ¬ zand (zshr (tcd (mem 140) h s) p) 1 = 1 := fun c => hc (hT.1 c).2
        refine okQ R 0 ?_ ?_
        · rw [uc]
          by_cases h1 : al (mem 140) h s (mem 140 (116 + p)) < 1
          · rw [if_pos h1]
          · rw [if_neg h1, if_neg (by omega)]
        · rw [ur mem rfl, if_neg hF]
    · refine okQ R (-1) ?_ ?_
      · unfold f_X11_spare
        simp only [cHasPerson v o, cHasShadow v o, zbind, bi0]
        rw [if_pos hp, if_neg hv]
      · unfold f_X12_spare
        simp only [pipe, m00_eq, mIsPerson o', mIsHouse o', mIsSun o', zbind, bi0, e]
        rw [if_pos hp]
        by_cases hh : 0 ≤ h ∧ h < mem 140 2
        · rw [if_pos hh, if_neg (fun c => hv ⟨hh, c⟩)]
        · rw [if_neg hh]
  · refine okQ R (-1) ?_ ?_
    · unfold f_X11_spare
      simp only [cHasPerson v o, zbind, bi0]
      rw [if_neg hp]
    · unfold f_X12_spare
      simp only [pipe, m00_eq, mIsPerson o', zbind, bi0, e]
      rw [if_neg hp]
