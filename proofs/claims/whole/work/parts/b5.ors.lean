/-! a chain of 'or', by both; a whole condition -/
theorem and_all {T : Int → Int} {n lim : Int} {A N : Int → Int} {w dp : Int} {sc : SelfC} {sr : Nat → zMem → Option (Int × zMem)} (ok : okTx T n) (hl : 0 ≤ lim) (h1 : hOne T n lim A N w (fun m => sc 1 49 4 dp m) (fun r => sr 2 r)) {p o z : Int} {B D X : Int → Int} (p0 : 0 ≤ p) (p1 : p ≤ n) (o0 : 0 ≤ o) (o1 : o ≤ 20) (z0 : 0 ≤ z) (z1 : z ≤ 2 * o) :
    (∃ kk pl, kk ≠ 0 ∧ (∀ (f : Nat) m v4, 22 - o ≤ f → PcT T n lim p o z B D A N m → ∃ m', f_X8_readCond_0 sc f 1 49 4 dp v4 0 m = some (0, m') ∧ CG m' kk pl ∧ FS m m') ∧ (∀ r, PrT T n lim p z o w X A N r → ∃ r', fb_X12_readAnd sr r = some (0, r') ∧ RF r' kk pl ∧ GS r r')) ∨
    (∃ (p' o' z' : Int) (B' D' X' : Int → Int) (nl' : Nat), (p < p' ∧ p' ≤ n ∧ o < o' ∧ o' ≤ 20 ∧ z < z' ∧ z' - z ≤ 2 * (o' - o) - 1 ∧ (nl' : Int) ≤ o' - o) ∧ (∀ q, q < z → B' q = B q ∧ D' q = D q) ∧ (∀ q, q < 4 * z → X' q = X q) ∧ Tr B' D' X' (A 2) (z' - z).toNat z z' nl' ∧ (∀ (f : Nat) m v4, 22 - o ≤ f → PcT T n lim p o z B D A N m → ∃ m' f', f_X8_readCond_0 sc f 1 49 4 dp v4 0 m = kOr (f_X8_readCond_0 sc f') 49 4 dp v4 m' ∧ (f : Int) ≤ (f' : Int) + (o' - o) ∧ CT T n lim m' p' ∧ CS m' o' z' B' D' ∧ FS m m') ∧ (∀ r, PrT T n lim p z o w X A N r → ∃ r', fb_X12_readAnd sr r = some (1, r') ∧ RU T n lim r' p' ∧ RS r' z' o' w X' ∧ r' 138 46 = z' - 1 ∧ GS r r')) := by
  have hN := zN_ge
  have cc : ∀ (f : Nat) m v4, f_X8_readCond_0 sc (f + 1) 1 49 4 dp v4 0 m = (zbind (sc 1 49 4 dp m) fun y m' => if y = 0 then (some (0, m')) else kAnd (f_X8_readCond_0 sc f) 49 4 dp v4 0 m') := by
    intro f m v4
    rw [readC_s, cond_1, if_neg (by omega)]
    have e : ∀ m9, (if (0 : Int) ≤ 0 then kAnd (f_X8_readCond_0 sc f) 49 4 dp v4 0 m9 else (zbind (f_X8_add 49 14 0 m9) fun _ m1025 => kAnd (f_X8_readCond_0 sc f) 49 4 dp v4 0 m1025)) = kAnd (f_X8_readCond_0 sc f) 49 4 dp v4 0 m9 := fun m9 => if_pos (by omega)
    simp only [e]
  rcases h1 p o z B D X p0 p1 o0 o1 z0 z1 with ⟨kk, pl, kn, hc, hr⟩ | ⟨p2, o2, z2, B2, D2, X2, n2, hb, e1, e2, t2, hc, hr⟩
  · refine Or.inl ⟨kk, pl, kn, fun f m v4 hf pm => ?_, fun r pr => ?_⟩
    · obtain ⟨f, rfl⟩ : ∃ g, f = g + 1 := ⟨f - 1, by omega⟩
      obtain ⟨m2, b1, b2, b3⟩ := hc m pm
      refine ⟨m2, ?_, b2, b3⟩
      simp only at b1
      rw [cc, b1]
      simp [zbind]
    · obtain ⟨r2, b1, b2, b3⟩ := hr r pr
      refine ⟨r2, ?_, b2, b3⟩
      simp only at b1
      unfold fb_X12_readAnd
      rw [b1]
      simp [zbind]
  · have tb := Tr_b t2
    rcases and_loop (dp := dp) (sc := sc) (sr := sr) ok hl h1 (zs := z) (os := o) o0 z0 z1 (21 - o2).toNat p2 o2 z2 B2 D2 X2 n2 (by omega) (by omega) hb.2.1 hb.2.2.1 hb.2.2.2.1 hb.2.2.2.2.2.1 hb.2.2.2.2.2.2 t2 with ⟨kk, pl, kn, hc', hr'⟩ | ⟨p', o', z', B', D', X', nl', hb', e1', e2', t', nk, hc', hr'⟩
    · refine Or.inl ⟨kk, pl, kn, fun f m v4 hf pm => ?_, fun r pr => ?_⟩
      · obtain ⟨f, rfl⟩ : ∃ g, f = g + 1 := ⟨f - 1, by omega⟩
        obtain ⟨m2, b1, b2, b3, b4⟩ := hc m pm
        obtain ⟨m3, c1, c2, c3⟩ := hc' f m2 v4 0 (by omega) ⟨b2, PC_S pm.2.1 b4, b3⟩ (by omega) (by omega)
        refine ⟨m3, ?_, c2, FS_t b4 c3⟩
        simp only at b1
        rw [cc, b1]
        simp only [zbind]
        rw [if_neg (by omega), c1]
      · obtain ⟨r2, b1, b2, b3, b4, b5⟩ := hr r pr
        obtain ⟨r3, c1, c2, c3⟩ := hr' zN r2 (by omega) ⟨b2, by rw [b5.1 140 (by omega) (by omega)]; exact pr.2.1, by rw [b5.1 145 (by omega) (by omega)]; exact pr.2.2.1, b3⟩
        refine ⟨r3, ?_, c2, GS_t b5 c3⟩
        simp only at b1
        unfold fb_X12_readAnd
        rw [b1]
        simp only [zbind]
        rw [if_neg (by omega), b4]
        exact c1
    · refine Or.inr ⟨p', o', z', B', D', X', nl', ⟨by omega, by omega, by omega, by omega, by omega, by omega, by omega⟩, fun q hq => ?_, fun q hq => ?_, t', fun f m v4 hf pm => ?_, fun r pr => ?_⟩
      · rw [(e1' q hq).1, (e1' q hq).2]
        exact e1 q hq
      · rw [e2' q hq, e2 q hq]
      · obtain ⟨f, rfl⟩ : ∃ g, f = g + 1 := ⟨f - 1, by omega⟩
        obtain ⟨m2, b1, b2, b3, b4⟩ := hc m pm
        obtain ⟨m3, f', c1, c2, c3, c4, c5⟩ := hc' f m2 v4 0 (by omega) ⟨b2, PC_S pm.2.1 b4, b3⟩ (by omega) (by omega)
        refine ⟨m3, f', ?_, by omega, c3, c4, FS_t b4 c5⟩
        simp only at b1
        rw [cc, b1]
        simp only [zbind]
        rw [if_neg (by omega), c1]
      · obtain ⟨r2, b1, b2, b3, b4, b5⟩ := hr r pr
        obtain ⟨r3, c1, c2, c3, c4, c5⟩ := hr' zN r2 (by omega) ⟨b2, by rw [b5.1 140 (by omega) (by omega)]; exact pr.2.1, by rw [b5.1 145 (by omega) (by omega)]; exact pr.2.2.1, b3⟩
        refine ⟨r3, ?_, c2, c3, c4, GS_t b5 c5⟩
        simp only at b1
        unfold fb_X12_readAnd
        rw [b1]
        simp only [zbind]
        rw [if_neg (by omega), b4]
        exact c1
theorem ors_loop {T : Int → Int} {n lim : Int} {A N : Int → Int} {w dp : Int} {sc : SelfC} {sr sr' : Nat → zMem → Option (Int × zMem)} (hs : ∀ r, sr' 1 r = fb_X12_readAnd sr r) (ok : okTx T n) (hl : 0 ≤ lim) (h1 : hOne T n lim A N w (fun m => sc 1 49 4 dp m) (fun r => sr 2 r)) {zs os : Int} (os0 : 0 ≤ os) (zs0 : 0 ≤ zs) (zs1 : zs ≤ 2 * os) : ∀ (d : Nat) (p o z : Int) (B D X : Int → Int) (nl : Nat), 20 - o < d → 0 ≤ p → p ≤ n → os < o → o ≤ 20 → z - zs ≤ 2 * (o - os) - 1 → (nl : Int) ≤ o - os → Tr B D X (A 2) (z - zs).toNat zs z nl →
    (∃ kk pl, kk ≠ 0 ∧ (∀ (f : Nat) m v4, 60 - 2 * o ≤ f → PcT T n lim p o z B D A N m → 0 ≤ v4 → v4 < o → ∃ m', kOr2 (f_X8_readCond_0 sc f) 49 4 dp v4 m = some (0, m') ∧ CG m' kk pl ∧ FS m m') ∧ (∀ (f : Nat) r, d ≤ f → PrT T n lim p z o w X A N r → ∃ r', f_X12_readOr_0 sr' f (z - 1) r = some (0, r') ∧ RF r' kk pl ∧ GS r r')) ∨
    (∃ (p' o' z' : Int) (B' D' X' : Int → Int) (nl' : Nat), (p ≤ p' ∧ p' ≤ n ∧ o ≤ o' ∧ o' ≤ 20 ∧ z ≤ z' ∧ z' - zs ≤ 2 * (o' - os) - 1 ∧ (nl' : Int) ≤ o' - os) ∧ (∀ q, q < zs → B' q = B q ∧ D' q = D q) ∧ (∀ q, q < 4 * zs → X' q = X q) ∧ Tr B' D' X' (A 2) (z' - zs).toNat zs z' nl' ∧ (∀ (f : Nat) m v4, 60 - 2 * o ≤ f → PcT T n lim p o z B D A N m → 0 ≤ v4 → v4 < o → ∃ m', kOr2 (f_X8_readCond_0 sc f) 49 4 dp v4 m = some (1, m') ∧ CT T n lim m' p' ∧ CS m' o' z' B' D' ∧ FS m m') ∧ (∀ (f : Nat) r, d ≤ f → PrT T n lim p z o w X A N r → ∃ r', f_X12_readOr_0 sr' f (z - 1) r = some (1, r') ∧ RU T n lim r' p' ∧ RS r' z' o' w X' ∧ r' 138 46 = z' - 1 ∧ GS r r')) := by
  have ur : ∀ (f : Nat) v m, f_X12_readOr_0 sr' (f + 1) v m = b_X12_readOr_0 sr' (f_X12_readOr_0 sr' f) v m := fun _ _ _ => rfl
  intro d
  induction d with
  | zero => intro p o z B D X nl hd p0 p1 o0 o1; omega
  | succ d ih =>
    intro p o z B D X nl hd p0 p1 o0 o1 hz hn t
    have tb := Tr_b t
    have lr := lexT_r (T := T) (n := n) (lim := lim) hl p0 p1
    by_cases hk : isK (lexT T n lim p) 13
    · have lt : p < (lexT T n lim p).2.1 := lr.2.2.2.1 (by rw [hk.1]; omega)
      have goC : ∀ m, PcT T n lim p o z B D A N m → ∃ m1, PcT T n lim (lexT T n lim p).2.1 o z B D A N m1 ∧ FS m m1 ∧ ∀ (f : Nat) v4, 0 ≤ v4 → v4 < o → kOr2 (f_X8_readCond_0 sc (f + 1)) 49 4 dp v4 m = f_X8_readCond_0 sc f 1 49 4 dp (v4 + 1) 0 m1 := by
        rintro m ⟨c, pc, s⟩
        obtain ⟨m1, a1, a2, a3⟩ := cStepU ok (by omega) lr.2.1 (CT_U c)
        refine ⟨m1, ⟨a2, PC_S pc (FXF_S a3), CS_F s a3⟩, FXF_S a3, fun f v4 x y => ?_⟩
        rw [kOr2, if_pos ((CT_k c (by omega)).2 hk), a1]
        simp only [zbind]
        rw [readC_s, cond_0, w32_id (x := v4 + 1) ⟨by omega, by omega⟩, if_neg (by omega)]
      have goR : ∀ r, PrT T n lim p z o w X A N r → ∃ r1, PrT T n lim (lexT T n lim p).2.1 z o w X A N r1 ∧ GS r r1 ∧ ∀ f : Nat, f_X12_readOr_0 sr' (f + 1) (z - 1) r = (zbind (fb_X12_readAnd sr r1) fun y6 m7 => if y6 = 0 then (some (0, m7)) else (zbind (f_X12_saysOne 3 (z - 1) (m7 138 46) 0 m7) fun y10 m11 => f_X12_readOr_0 sr' f y10 m11)) := by
        rintro r ⟨u, eA, eN, s⟩
        obtain ⟨r1, a1, a2, a3⟩ := mGoU ok hl p0 p1 u
        have a3' := FY_F a3
        refine ⟨r1, ⟨a2, by rw [a3'.1 140 (by omega)]; exact eA, by rw [a3'.1 145 (by omega)]; exact eN, RS_F s a3'⟩, FYF_S a3', fun f => ?_⟩
        rw [ur]
        unfold b_X12_readOr_0
        rw [mIsWord hl p0 p1 u (by omega) (by omega)]
        simp only [zbind, bi0]
        rw [if_pos (show (lexT T n lim p).2.2.1 = 2 ∧ kno (lexT T n lim p).2.2.2.2 = 13 from hk), a1]
        simp only [hs]
      rcases and_all (dp := dp) (sc := sc) (sr := sr) (B := B) (D := D) (X := X) ok hl h1 (p := (lexT T n lim p).2.1) (o := o) (z := z) (by omega) lr.2.1 (by omega) o1 (by omega) (by omega) with ⟨kk, pl, kn, hc, hr⟩ | ⟨p2, o2, z2, B2, D2, X2, n2, hb, e1, e2, t2, hc, hr⟩
      · refine Or.inl ⟨kk, pl, kn, fun f m v4 hf pm a b => ?_, fun f r hf pr => ?_⟩
        · obtain ⟨f, rfl⟩ : ∃ g, f = g + 1 := ⟨f - 1, by omega⟩
          obtain ⟨m1, x1, x2, x3⟩ := goC m pm
          obtain ⟨m2, b1, b2, b3⟩ := hc f m1 (v4 + 1) (by omega) x1
          exact ⟨m2, by rw [x3 f v4 a b, b1], b2, FS_t x2 b3⟩
        · obtain ⟨f, rfl⟩ : ∃ g, f = g + 1 := ⟨f - 1, by omega⟩
          obtain ⟨r1, x1, x2, x3⟩ := goR r pr
          obtain ⟨r2, b1, b2, b3⟩ := hr r1 x1
          refine ⟨r2, ?_, b2, GS_t x2 b3⟩
          rw [x3 f, b1]
          simp [zbind]
      · have tj := Tr_join (k := 3) (kb := 13) (Or.inr ⟨rfl, rfl⟩) t e1 e2 t2 (by omega)
        have cc : ∀ (f : Nat) m v4, 60 - 2 * o ≤ (f : Int) + 1 → PcT T n lim p o z B D A N m → 0 ≤ v4 → v4 < o → ∃ (m3 : zMem) (f' : Nat), PcT T n lim p2 o2 (z2 + 1) (up B2 z2 13) (up D2 z2 0) A N m3 ∧ FS m m3 ∧ 60 - 2 * o2 ≤ (f' : Int) ∧ kOr2 (f_X8_readCond_0 sc (f + 1)) 49 4 dp v4 m = kOr2 (f_X8_readCond_0 sc f') 49 4 dp (v4 + 1) m3 := by
          intro f m v4 hf pm a b
          obtain ⟨m1, x1, x2, x3⟩ := goC m pm
          obtain ⟨m2, f', b1, b2, b3, b4, b5⟩ := hc f m1 (v4 + 1) (by omega) x1
          obtain ⟨m3, c1, c2, c3, c4⟩ := cAddE 13 0 b3 b4 (by omega) (by omega)
          refine ⟨m3, f', ⟨c2, PC_S x1.2.1 (FS_t b5 c4), c3⟩, FS_t x2 (FS_t b5 c4), by omega, ?_⟩
          rw [x3 f v4 a b, b1, kOr, if_neg (by omega), c1]
          rfl
        have rr : ∀ r, PrT T n lim p z o w X A N r → ∃ r3, PrT T n lim p2 (z2 + 1) o2 w (up4 X2 (4 * z2) 3 (z - 1) (z2 - 1) 0) A N r3 ∧ GS r r3 ∧ ∀ f : Nat, f_X12_readOr_0 sr' (f + 1) (z - 1) r = f_X12_readOr_0 sr' f (z2 + 1 - 1) r3 := by
          intro r pr
          obtain ⟨r1, x1, x2, x3⟩ := goR r pr
          obtain ⟨r2, b1, b2, b3, b4, b5⟩ := hr r1 x1
          obtain ⟨r3, c1, c2, c3, c4, c5⟩ := mSays 3 (z - 1) (z2 - 1) 0 b2 b3 (by omega) (by omega)
          have g5 := GS_t b5 c5
          refine ⟨r3, ⟨c2, by rw [g5.1 140 (by omega) (by omega)]; exact x1.2.1, by rw [g5.1 145 (by omega) (by omega)]; exact x1.2.2.1, c3⟩, GS_t x2 g5, fun f => ?_⟩
          rw [x3 f, b1]
          simp only [zbind]
          rw [if_neg (by omega), b4, c1, show z2 + 1 - 1 = z2 by omega]
        rcases ih p2 o2 (z2 + 1) (up B2 z2 13) (up D2 z2 0) (up4 X2 (4 * z2) 3 (z - 1) (z2 - 1) 0) (nl + n2) (by omega) (by omega) hb.2.1 (by omega) hb.2.2.2.1 (by omega) (by omega) tj with ⟨kk, pl, kn, hc', hr'⟩ | ⟨p', o', z', B', D', X', nl', hb', e1', e2', t', hc', hr'⟩
        · refine Or.inl ⟨kk, pl, kn, fun f m v4 hf pm a b => ?_, fun f r hf pr => ?_⟩
          · obtain ⟨f, rfl⟩ : ∃ g, f = g + 1 := ⟨f - 1, by omega⟩
            obtain ⟨m3, f', x1, x2, x4, x3⟩ := cc f m v4 (by omega) pm a b
            obtain ⟨m', y1, y2, y3⟩ := hc' f' m3 (v4 + 1) x4 x1 (by omega) (by omega)
            exact ⟨m', by rw [x3, y1], y2, FS_t x2 y3⟩
          · obtain ⟨f, rfl⟩ : ∃ g, f = g + 1 := ⟨f - 1, by omega⟩
            obtain ⟨r3, x1, x2, x3⟩ := rr r pr
            obtain ⟨r', y1, y2, y3⟩ := hr' f r3 (by omega) x1
            exact ⟨r', by rw [x3 f, y1], y2, GS_t x2 y3⟩
        · refine Or.inr ⟨p', o', z', B', D', X', nl', ⟨by omega, by omega, by omega, by omega, by omega, by omega, by omega⟩, fun q hq => ?_, fun q hq => ?_, t', fun f m v4 hf pm a b => ?_, fun f r hf pr => ?_⟩
          · have x1 := e1' q hq
            have x2 := e1 q (by omega)
            rw [x1.1, x1.2, up_ne (by omega), up_ne (by omega)]
            exact x2
          · rw [e2' q hq, up4_off (by omega), e2 q (by omega)]
          · obtain ⟨f, rfl⟩ : ∃ g, f = g + 1 := ⟨f - 1, by omega⟩
            obtain ⟨m3, f', x1, x2, x4, x3⟩ := cc f m v4 (by omega) pm a b
            obtain ⟨m', y1, y3, y4, y5⟩ := hc' f' m3 (v4 + 1) x4 x1 (by omega) (by omega)
            exact ⟨m', by rw [x3, y1], y3, y4, FS_t x2 y5⟩
          · obtain ⟨f, rfl⟩ : ∃ g, f = g + 1 := ⟨f - 1, by omega⟩
            obtain ⟨r3, x1, x2, x3⟩ := rr r pr
            obtain ⟨r', y1, y2, y3, y4, y5⟩ := hr' f r3 (by omega) x1
            exact ⟨r', by rw [x3 f, y1], y2, y3, y4, GS_t x2 y5⟩
    · refine Or.inr ⟨p, o, z, B, D, X, nl, ⟨by omega, p1, by omega, o1, by omega, hz, hn⟩, fun q _ => ⟨rfl, rfl⟩, fun q _ => rfl, t, fun f m v4 hf pm a b => ?_, fun f r hf pr => ?_⟩
      · refine ⟨m, ?_, pm.1, pm.2.2, FS_r m⟩
        unfold kOr2
        rw [if_neg (fun h => hk ((CT_k pm.1 (by omega)).1 h))]
      · obtain ⟨f, rfl⟩ : ∃ g, f = g + 1 := ⟨f - 1, by omega⟩
        obtain ⟨u, eA, eN, s⟩ := pr
        refine ⟨zup r 138 46 (z - 1), ?_, RU_F u (by omega), ?_, by rw [zup_same, if_pos rfl], GS_up (by omega)⟩
        · rw [ur]
          unfold b_X12_readOr_0
          rw [mIsWord hl p0 p1 u (by omega) (by omega)]
          simp only [zbind, bi0]
          rw [if_neg (show ¬ ((lexT T n lim p).2.2.1 = 2 ∧ kno (lexT T n lim p).2.2.2.2 = 13) from hk)]
          rfl
        · unfold RS
          rw [zup_same, if_neg (by omega), zup_same, if_neg (by omega), zup_same, if_neg (by omega), zup_off (by omega)]
          exact s
theorem cond_all {T : Int → Int} {n lim : Int} {A N : Int → Int} {w dp : Int} {sc : SelfC} {sr sr' : Nat → zMem → Option (Int × zMem)} (hs : ∀ r, sr' 1 r = fb_X12_readAnd sr r) (ok : okTx T n) (hl : 0 ≤ lim) (h1 : hOne T n lim A N w (fun m => sc 1 49 4 dp m) (fun r => sr 2 r)) : hOne T n lim A N w (fun m => fb_X8_readCond sc 49 4 dp m) (fun r => fb_X12_readOr sr' r) := by
  intro p o z B D X p0 p1 o0 o1 z0 z1
  have hN := zN_ge
  obtain ⟨g, hg⟩ : ∃ g, zN = g + 1 := ⟨zN - 1, by omega⟩
  have cc : ∀ m, fb_X8_readCond sc 49 4 dp m = f_X8_readCond_0 sc g 1 49 4 dp 0 0 m := by
    intro m
    unfold fb_X8_readCond
    rw [hg, readC_s, cond_0, if_neg (by omega)]
  have rc : ∀ r, fb_X12_readOr sr' r = (zbind (fb_X12_readAnd sr r) fun y1 m2 => if y1 = 0 then (some (0, m2)) else (f_X12_readOr_0 sr' zN (m2 138 46) m2)) := by
    intro r
    unfold fb_X12_readOr
    rw [hs]
    rfl
  rcases and_all (dp := dp) (sc := sc) (sr := sr) (B := B) (D := D) (X := X) ok hl h1 p0 p1 o0 o1 z0 z1 with ⟨kk, pl, kn, hc, hr⟩ | ⟨p2, o2, z2, B2, D2, X2, n2, hb, e1, e2, t2, hc, hr⟩
  · refine Or.inl ⟨kk, pl, kn, fun m pm => ?_, fun r pr => ?_⟩
    · obtain ⟨m2, b1, b2, b3⟩ := hc g m 0 (by omega) pm
      exact ⟨m2, by simp only [cc, b1], b2, b3⟩
    · obtain ⟨r2, b1, b2, b3⟩ := hr r pr
      refine ⟨r2, ?_, b2, b3⟩
      simp only [rc, b1, zbind]
      simp
  · rcases ors_loop (dp := dp) (sc := sc) (sr := sr) hs ok hl h1 (zs := z) (os := o) o0 z0 z1 (21 - o2).toNat p2 o2 z2 B2 D2 X2 n2 (by omega) (by omega) hb.2.1 hb.2.2.1 hb.2.2.2.1 hb.2.2.2.2.2.1 hb.2.2.2.2.2.2 t2 with ⟨kk, pl, kn, hc', hr'⟩ | ⟨p', o', z', B', D', X', nl', hb', e1', e2', t', hc', hr'⟩
    · refine Or.inl ⟨kk, pl, kn, fun m pm => ?_, fun r pr => ?_⟩
      · obtain ⟨m2, f', b1, b2, b3, b4, b5⟩ := hc g m 0 (by omega) pm
        obtain ⟨m3, c1, c2, c3⟩ := hc' f' m2 0 (by omega) ⟨b3, PC_S pm.2.1 b5, b4⟩ (by omega) (by omega)
        refine ⟨m3, ?_, c2, FS_t b5 c3⟩
        simp only [cc, b1]
        rw [kOr, if_pos (by omega), c1]
      · obtain ⟨r2, b1, b2, b3, b4, b5⟩ := hr r pr
        obtain ⟨r3, c1, c2, c3⟩ := hr' zN r2 (by omega) ⟨b2, by rw [b5.1 140 (by omega) (by omega)]; exact pr.2.1, by rw [b5.1 145 (by omega) (by omega)]; exact pr.2.2.1, b3⟩
        refine ⟨r3, ?_, c2, GS_t b5 c3⟩
        simp only [rc, b1, zbind]
        rw [if_neg (by omega), b4, c1]
    · refine Or.inr ⟨p', o', z', B', D', X', nl', ⟨by omega, by omega, by omega, by omega, by omega, by omega, by omega⟩, fun q hq => ?_, fun q hq => ?_, t', fun m pm => ?_, fun r pr => ?_⟩
      · rw [(e1' q hq).1, (e1' q hq).2]
        exact e1 q hq
      · rw [e2' q hq, e2 q hq]
      · obtain ⟨m2, f', b1, b2, b3, b4, b5⟩ := hc g m 0 (by omega) pm
        obtain ⟨m3, c1, c2, c3, c4⟩ := hc' f' m2 0 (by omega) ⟨b3, PC_S pm.2.1 b5, b4⟩ (by omega) (by omega)
        refine ⟨m3, ?_, c2, c3, FS_t b5 c4⟩
        simp only [cc, b1]
        rw [kOr, if_pos (by omega), c1]
      · obtain ⟨r2, b1, b2, b3, b4, b5⟩ := hr r pr
        obtain ⟨r3, c1, c2, c3, c4, c5⟩ := hr' zN r2 (by omega) ⟨b2, by rw [b5.1 140 (by omega) (by omega)]; exact pr.2.1, by rw [b5.1 145 (by omega) (by omega)]; exact pr.2.2.1, b3⟩
        refine ⟨r3, ?_, c2, c3, c4, GS_t b5 c5⟩
        simp only [rc, b1, zbind]
        rw [if_neg (by omega), b4, c1]
