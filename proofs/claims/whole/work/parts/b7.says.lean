/-! one thing said: behind the head -/
theorem one_fin {T : Int → Int} {n lim : Int} {A N : Int → Int} {p q o z w : Int} {B D X : Int → Int} {fcb frb fc fr : zMem → Option (Int × zMem)} (w0 : 0 ≤ w) (w1 : w < 8) (hb : SO T n lim A p o z B D X (w + 1) (PcT T n lim p (o + 1) z B D A N) (PrT T n lim q z (o + 1) (w + 1) X A N) fcb frb) (hc : ∀ m, PcT T n lim p o z B D A N m → fc m = fcb (zup m 49 4 (o + 1))) (hr : ∀ r, PrT T n lim p z o w X A N r → ∃ r', PrT T n lim q z (o + 1) (w + 1) X A N r' ∧ GS r r' ∧ fr r = oneF (frb r')) : SO T n lim A p o z B D X w (PcT T n lim p o z B D A N) (PrT T n lim p z o w X A N) fc fr := by
  have pc1 : ∀ m, PcT T n lim p o z B D A N m → PcT T n lim p (o + 1) z B D A N (zup m 49 4 (o + 1)) := by
    rintro m ⟨c, pc, s⟩
    refine ⟨CT_up c (by omega), PC_S pc (FS_up (by omega)), ?_, ?_, ?_, ?_⟩
    · rw [zup_same, if_pos rfl]
    · rw [zup_same, if_neg (by omega)]; exact s.2.1
    · rw [zup_off (by omega)]; exact s.2.2.1
    · rw [zup_off (by omega)]; exact s.2.2.2
  rcases hb with ⟨kk, pl, kn, hc', hr'⟩ | ⟨p', o', z', B', D', X', nl, hb, e1, e2, t, hc', hr'⟩
  · refine Or.inl ⟨kk, pl, kn, fun m pm => ?_, fun r pr => ?_⟩
    · obtain ⟨m', a1, a2, a3⟩ := hc' _ (pc1 m pm)
      exact ⟨m', by rw [hc m pm, a1], a2, FS_t (FS_up (by omega)) a3⟩
    · obtain ⟨r1, x1, x2, x3⟩ := hr r pr
      obtain ⟨r', a1, a2, a3⟩ := hr' r1 x1
      refine ⟨zup r' 138 45 (w32 (r' 138 45 - 1)), ?_, ?_, GS_t x2 (GS_t a3 (GS_up (by omega)))⟩
      · rw [x3, a1]
        unfold oneF
        simp [zbind, pipe]
      · unfold RF
        rw [zup_same, if_neg (by omega), zup_same, if_neg (by omega)]
        exact a2
  · refine Or.inr ⟨p', o', z', B', D', X', nl, hb, e1, e2, t, fun m pm => ?_, fun r pr => ?_⟩
    · obtain ⟨m', a1, a2, a3, a4⟩ := hc' _ (pc1 m pm)
      exact ⟨m', by rw [hc m pm, a1], a2, a3, FS_t (FS_up (by omega)) a4⟩
    · obtain ⟨r1, x1, x2, x3⟩ := hr r pr
      obtain ⟨r', a1, a2, a3, a4, a5⟩ := hr' r1 x1
      have e : w32 (r' 138 45 - 1) = w := by
        rw [a3.2.2.1, w32_id ⟨by omega, by omega⟩]
        omega
      refine ⟨zup r' 138 45 w, ?_, RU_F a2 (by omega), ?_, by rw [zup_same, if_neg (by omega)]; exact a4, GS_t x2 (GS_t a5 (GS_up (by omega)))⟩
      · rw [x3, a1]
        unfold oneF
        simp [zbind, pipe, e]
      · unfold RS
        rw [zup_same, if_neg (by omega), zup_same, if_neg (by omega), zup_same, if_pos rfl, zup_off (by omega)]
        exact ⟨a3.1, a3.2.1, rfl, a3.2.2.2⟩
theorem Tr_not {B D X : Int → Int} {H z z2 : Int} {k : Nat} (t : Tr B D X H (z2 - z).toNat z z2 k) (hz : z2 < 40) : Tr (up B z2 15) (up D z2 0) (up4 X (4 * z2) 1 (z2 - 1) 0 0) H (z2 + 1 - z).toNat z (z2 + 1) k := by
  have b := Tr_b t
  rw [show (z2 + 1 - z).toNat = (z2 - z).toNat + 1 by omega]
  obtain ⟨u1, u2, u3, u4⟩ := up4_at X (4 * z2) 1 (z2 - 1) 0 0
  have e : z2 + 1 - 1 = z2 := by omega
  refine ⟨⟨b.1, by omega, by omega, b.2.2.2⟩, Or.inl ⟨?_, ?_, ?_, ?_⟩⟩
  · rw [e, u1]
  · rw [e, u2]
    omega
  · rw [e, up_eq]
  · rw [e]
    exact Tr_cg _ _ _ _ (fun q hq => ⟨up_ne (by omega), up_ne (by omega)⟩) (fun q hq => up4_off (by omega)) t
theorem cAddG {m : zMem} (x y : Int) (h : 0 ≤ m 49 3) : ∃ m', f_X8_add 49 x y m = some (0, m') ∧ m' 1 = m 1 ∧ 0 ≤ m' 49 3 ∧ FS m m' := by
  have L50 : sLen (49 + 1) = 40 := rfl
  have L51 : sLen (49 + 2) = 40 := rfl
  unfold f_X8_add
  generalize hz : m 49 3 = z at h
  by_cases h1 : z ≥ 40
  · rw [if_pos h1]
    exact ⟨m, rfl, rfl, by omega, FS_r m⟩
  · rw [if_neg h1, if_neg h1, if_pos (show ix (49 + 1) z from ⟨h, by rw [L50]; omega⟩)]
    simp only [pipe]
    have e1 : zup m (49 + 1) z x 49 3 = z := by rw [zup_off (by omega), hz]
    rw [e1, if_pos (show ix (49 + 2) z from ⟨h, by rw [L51]; omega⟩)]
    have e2 : zup (zup m (49 + 1) z x) (49 + 2) z y 49 3 = z := by rw [zup_off (by omega), e1]
    rw [e2, w32_id ⟨by omega, by omega⟩]
    refine ⟨_, rfl, by rw [zup_off (by omega), zup_off (by omega), zup_off (by omega)], by rw [zup_same, if_pos rfl]; omega, FS_t (FS_t (FS_up (by omega)) (FS_up (by omega))) (FS_up (by omega))⟩
theorem one_not {T : Int → Int} {n lim p o z w : Int} {B D X A N : Int → Int} {sc : SelfC} {sr : Nat → zMem → Option (Int × zMem)} (ok : okTx T n) (hl : 0 ≤ lim) (h0 : 0 ≤ p) (h1 : p ≤ n) (hp : p < (lexT T n lim p).2.1) (o0 : 0 ≤ o) (o1 : o < 20) (z0 : 0 ≤ z) (z1 : z ≤ 2 * o) (hN : hOne T n lim A N (w + 1) (fun m => sc 1 49 4 (w + 1 + 1) m) (fun r => sr 2 r)) : SO T n lim A p o z B D X (w + 1) (PcT T n lim p (o + 1) z B D A N) (PrT T n lim (lexT T n lim p).2.1 z (o + 1) (w + 1) X A N) (fun m7 => zbind (f_X6_step m7) fun _ m9 => zbind (sc 1 49 4 (w + 1 + 1) m9) fun y10 m11 => zbind (f_X8_add 49 15 0 m11) fun _ m12 => if y10 = 0 ∨ y10 = 1 then some (y10, m12) else none) (fun r => fb_X12_readNot sr r) := by
  have lr := lexT_r (T := T) (n := n) (lim := lim) hl h0 h1
  have st : ∀ m, PcT T n lim p (o + 1) z B D A N m → ∃ m1, f_X6_step m = some (0, m1) ∧ PcT T n lim (lexT T n lim p).2.1 (o + 1) z B D A N m1 ∧ FS m m1 := by
    rintro m ⟨c, pc, s⟩
    obtain ⟨m1, a1, a2, a3⟩ := cStepU ok (by omega) lr.2.1 (CT_U c)
    exact ⟨m1, a1, ⟨a2, PC_S pc (FXF_S a3), CS_F s a3⟩, FXF_S a3⟩
  rcases hN (lexT T n lim p).2.1 (o + 1) z B D X (by omega) lr.2.1 (by omega) (by omega) z0 (by omega) with ⟨kk, pl, kn, hc, hr⟩ | ⟨p2, o2, z2, B2, D2, X2, n2, hb, e1, e2, t2, hc, hr⟩
  · refine Or.inl ⟨kk, pl, kn, fun m pm => ?_, fun r pr => ?_⟩
    · obtain ⟨m1, s1, s2, s3⟩ := st m pm
      obtain ⟨m2, a1, a2, a3⟩ := hc m1 s2
      obtain ⟨m3, b1, b2, b3, b4⟩ := cAddG (m := m2) 15 0 a2.2
      dsimp only at a1
      refine ⟨m3, ?_, ⟨?_, b3⟩, FS_t s3 (FS_t a3 b4)⟩
      · dsimp only
        rw [s1]
        simp only [zbind]
        rw [a1]
        simp only
        rw [b1]
        simp
      · unfold CF
        rw [b2]
        exact a2.1
    · obtain ⟨r1, a1, a2, a3⟩ := hr r pr
      dsimp only at a1
      refine ⟨r1, ?_, a2, a3⟩
      dsimp only
      unfold fb_X12_readNot
      rw [a1]
      simp [zbind]
  · refine Or.inr ⟨p2, o2, z2 + 1, up B2 z2 15, up D2 z2 0, up4 X2 (4 * z2) 1 (z2 - 1) 0 0, n2, ⟨by omega, hb.2.1, by omega, hb.2.2.2.1, by omega, by omega, by omega⟩, fun q hq => ?_, fun q hq => ?_, Tr_not t2 (by omega), fun m pm => ?_, fun r pr => ?_⟩
    · rw [up_ne (by omega), up_ne (by omega)]
      exact e1 q hq
    · rw [up4_off (by omega)]
      exact e2 q hq
    · obtain ⟨m1, s1, s2, s3⟩ := st m pm
      obtain ⟨m2, a1, a2, a3, a4⟩ := hc m1 s2
      obtain ⟨m3, b1, b2, b3, b4⟩ := cAddE 15 0 a2 a3 (by omega) (by omega)
      dsimp only at a1
      refine ⟨m3, ?_, b2, b3, FS_t s3 (FS_t a4 b4)⟩
      dsimp only
      rw [s1]
      simp only [zbind]
      rw [a1]
      simp only
      rw [b1]
      simp
    · obtain ⟨r1, a1, a2, a3, a4, a5⟩ := hr r pr
      obtain ⟨r2, b1, b2, b3, b4, b5⟩ := mSays 1 (z2 - 1) 0 0 a2 a3 (by omega) (by omega)
      dsimp only at a1
      refine ⟨zup r2 138 46 z2, ?_, RU_F b2 (by omega), ?_, by rw [zup_same, if_pos rfl]; omega, GS_t a5 (GS_t b5 (GS_up (by omega)))⟩
      · dsimp only
        unfold fb_X12_readNot
        rw [a1]
        simp only [zbind]
        rw [if_neg (by omega), a4, b1]
        rfl
      · unfold RS
        rw [zup_same, if_neg (by omega), zup_same, if_neg (by omega), zup_same, if_neg (by omega), zup_off (by omega)]
        exact b3
theorem one_br {T : Int → Int} {n lim p o z w : Int} {B D X A N : Int → Int} {sc : SelfC} {sr : Nat → zMem → Option (Int × zMem)} (ok : okTx T n) (hl : 0 ≤ lim) (h0 : 0 ≤ p) (h1 : p ≤ n) (hp : p < (lexT T n lim p).2.1) (o0 : 0 ≤ o) (o1 : o < 20) (z0 : 0 ≤ z) (z1 : z ≤ 2 * o) (hN : hOne T n lim A N (w + 1) (fun m => sc 0 49 4 (w + 1 + 1) m) (fun r => sr 0 r)) : SO T n lim A p o z B D X (w + 1) (PcT T n lim p (o + 1) z B D A N) (PrT T n lim (lexT T n lim p).2.1 z (o + 1) (w + 1) X A N) (fun m7 => zbind (f_X6_step m7) fun _ m27 => zbind (sc 0 49 4 (w + 1 + 1) m27) fun y28 m29 => if y28 = 0 then (some (0, m29)) else (zbind (f_X6_isSign 41 m29) fun y32 m33 => if y32 = 0 then (zbind (f_X6_fail 1 m33) fun y35 m36 => if y35 = 0 then (some (0, m36)) else (zbind (f_X6_step m36) fun _ m40 => some (1, m40))) else (zbind (f_X6_step m33) fun _ m42 => some (1, m42)))) (fun r => fb_X12_readBracket sr r) := by
  have lr := lexT_r (T := T) (n := n) (lim := lim) hl h0 h1
  have st : ∀ m, PcT T n lim p (o + 1) z B D A N m → ∃ m1, f_X6_step m = some (0, m1) ∧ PcT T n lim (lexT T n lim p).2.1 (o + 1) z B D A N m1 ∧ FS m m1 := by
    rintro m ⟨c, pc, s⟩
    obtain ⟨m1, a1, a2, a3⟩ := cStepU ok (by omega) lr.2.1 (CT_U c)
    exact ⟨m1, a1, ⟨a2, PC_S pc (FXF_S a3), CS_F s a3⟩, FXF_S a3⟩
  rcases hN (lexT T n lim p).2.1 (o + 1) z B D X (by omega) lr.2.1 (by omega) (by omega) z0 (by omega) with ⟨kk, pl, kn, hc, hr⟩ | ⟨p2, o2, z2, B2, D2, X2, n2, hb, e1, e2, t2, hc, hr⟩
  · refine Or.inl ⟨kk, pl, kn, fun m pm => ?_, fun r pr => ?_⟩
    · obtain ⟨m1, s1, s2, s3⟩ := st m pm
      obtain ⟨m2, a1, a2, a3⟩ := hc m1 s2
      dsimp only at a1
      refine ⟨m2, ?_, a2, FS_t s3 a3⟩
      dsimp only
      rw [s1]
      simp only [zbind]
      rw [a1]
      simp
    · obtain ⟨r1, a1, a2, a3⟩ := hr r pr
      dsimp only at a1
      refine ⟨r1, ?_, a2, a3⟩
      dsimp only
      unfold fb_X12_readBracket
      rw [a1]
      simp [zbind]
  · have l2 := lexT_r (T := T) (n := n) (lim := lim) (p := p2) hl (by omega) hb.2.1
    by_cases g : (lexT T n lim p2).2.2.1 = 4 ∧ (lexT T n lim p2).2.2.2.1 = 41
    · refine Or.inr ⟨(lexT T n lim p2).2.1, o2, z2, B2, D2, X2, n2, ⟨by omega, l2.2.1, by omega, hb.2.2.2.1, by omega, by omega, by omega⟩, e1, e2, t2, fun m pm => ?_, fun r pr => ?_⟩
      · obtain ⟨m1, s1, s2, s3⟩ := st m pm
        obtain ⟨m2, a1, a2, a3, a4⟩ := hc m1 s2
        obtain ⟨m3, b1, b2, b3⟩ := cStepU ok (by omega) l2.2.1 (CT_U a2)
        dsimp only at a1
        refine ⟨m3, ?_, b2, CS_F a3 b3, FS_t s3 (FS_t a4 (FXF_S b3))⟩
        dsimp only
        rw [s1]
        simp only [zbind]
        rw [a1]
        simp only
        rw [if_neg (by omega), cIsSign a2]
        simp only [bi0]
        rw [if_pos g, b1]
      · obtain ⟨r1, a1, a2, a3, a4, a5⟩ := hr r pr
        obtain ⟨r2, b1, b2, b3⟩ := mGoU ok hl (by omega) hb.2.1 a2
        dsimp only at a1
        refine ⟨r2, ?_, b2, RS_F a3 (FY_F b3), ?_, GS_t a5 (FYF_S (FY_F b3))⟩
        · dsimp only
          unfold fb_X12_readBracket
          rw [a1]
          simp only [zbind]
          rw [if_neg (by omega), mIsSign a2]
          simp only [bi0]
          rw [if_pos g, b1]
        · rw [(FY_F b3).2 46 (by omega)]
          exact a4
    · refine Or.inl ⟨1, (lexT T n lim p2).1, by omega, fun m pm => ?_, fun r pr => ?_⟩
      · obtain ⟨m1, s1, s2, s3⟩ := st m pm
        obtain ⟨m2, a1, a2, a3, a4⟩ := hc m1 s2
        obtain ⟨m3, b1, b2, b3⟩ := cFail a2 (k := 1) (by omega)
        dsimp only at a1
        refine ⟨m3, ?_, CG_F a3 b3 (by omega) b2, FS_t s3 (FS_t a4 (FXF_S b3))⟩
        dsimp only
        rw [s1]
        simp only [zbind]
        rw [a1]
        simp only
        rw [if_neg (by omega), cIsSign a2]
        simp only [bi0]
        rw [if_neg g, b1]
        simp
      · obtain ⟨r1, a1, a2, a3, a4, a5⟩ := hr r pr
        obtain ⟨r2, b1, b2, b3⟩ := mBad a2 1
        have e : (if (lexT T n lim p2).2.2.1 = 1 then (1 : Int) else 1) = 1 := by split <;> rfl
        rw [e] at b2
        dsimp only at a1
        refine ⟨r2, ?_, b2, GS_t a5 (FYF_S b3)⟩
        dsimp only
        unfold fb_X12_readBracket
        rw [a1]
        simp only [zbind]
        rw [if_neg (by omega), mIsSign a2]
        simp only [bi0]
        rw [if_neg g, b1]
        simp
