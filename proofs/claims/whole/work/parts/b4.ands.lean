/-! a chain of 'and', by both -/
theorem Tr_join {B D X B2 D2 X2 : Int → Int} {H zs z z2 : Int} {n1 n2 : Nat} {k kb : Int} (hk : (k = 2 ∧ kb = 14) ∨ (k = 3 ∧ kb = 13)) (t1 : Tr B D X H (z - zs).toNat zs z n1) (h1 : ∀ q, q < z → B2 q = B q ∧ D2 q = D q) (h2 : ∀ q, q < 4 * z → X2 q = X q) (t2 : Tr B2 D2 X2 H (z2 - z).toNat z z2 n2) (hz : z2 < 40) : Tr (up B2 z2 kb) (up D2 z2 0) (up4 X2 (4 * z2) k (z - 1) (z2 - 1) 0) H (z2 + 1 - zs).toNat zs (z2 + 1) (n1 + n2) := by
  have b1 := Tr_b t1
  have b2 := Tr_b t2
  rw [show (z2 + 1 - zs).toNat = (z2 - zs).toNat + 1 by omega]
  obtain ⟨u1, u2, u3, u4⟩ := up4_at X2 (4 * z2) k (z - 1) (z2 - 1) 0
  have e : z2 + 1 - 1 = z2 := by omega
  refine ⟨⟨b1.1, by omega, by omega, by omega⟩, Or.inr (Or.inl ⟨z, n1, n2, rfl, ?_, ?_, ?_, ?_, ?_⟩)⟩
  · rw [e, u1, up_eq]
    omega
  · rw [e, u2]
  · rw [e, u3]
    omega
  · refine Tr_mono _ _ _ _ _ (by omega) (Tr_cg _ _ _ _ (fun q hq => ?_) (fun q hq => ?_) t1)
    · rw [up_ne (by omega), up_ne (by omega)]
      exact h1 q hq
    · rw [up4_off (by omega)]
      exact h2 q hq
  · rw [e]
    exact Tr_mono _ _ _ _ _ (by omega) (Tr_cg _ _ _ _ (fun q hq => ⟨up_ne (by omega), up_ne (by omega)⟩) (fun q hq => up4_off (by omega)) t2)
abbrev SelfC : Type := Nat → Nat → Nat → Int → zMem → Option (Int × zMem)
abbrev RecC : Type := Nat → Nat → Nat → Int → Int → Int → zMem → Option (Int × zMem)
noncomputable def kOr2 (rec : RecC) (r0 r2 : Nat) (v3 v4 : Int) (mem : zMem) : Option (Int × zMem) := if (mem 1 8) = 13 then (zbind (f_X6_step mem) fun _ m1005 => rec 0 r0 r2 v3 (w32 (v4 + 1)) 0 m1005) else (some (1, mem))
noncomputable def kOr (rec : RecC) (r0 r2 : Nat) (v3 v4 : Int) (mem : zMem) : Option (Int × zMem) := if v4 ≤ 0 then kOr2 rec r0 r2 v3 v4 mem else (zbind (f_X8_add r0 13 0 mem) fun _ m1006 => kOr2 rec r0 r2 v3 v4 m1006)
noncomputable def kAnd (rec : RecC) (r0 r2 : Nat) (v3 v4 v5 : Int) (mem : zMem) : Option (Int × zMem) := if (mem 1 8) = 14 then (zbind (f_X6_step mem) fun _ m1016 => rec 1 r0 r2 v3 v4 (w32 (v5 + 1)) m1016) else kOr rec r0 r2 v3 v4 mem
theorem cond_0 (self : SelfC) (rec : RecC) (r0 r2 : Nat) (v3 v4 v5 : Int) (mem : zMem) : b_X8_readCond_0 self rec 0 r0 r2 v3 v4 v5 mem = if v4 > 20 then (some (1, mem)) else (rec 1 r0 r2 v3 v4 0 mem) := rfl
theorem cond_1 (self : SelfC) (rec : RecC) (r0 r2 : Nat) (v3 v4 v5 : Int) (mem : zMem) : b_X8_readCond_0 self rec 1 r0 r2 v3 v4 v5 mem = if v5 > 20 then kOr rec r0 r2 v3 v4 mem else (zbind (self 1 r0 r2 v3 mem) fun y1010 m1011 => if y1010 = 0 then (some (0, m1011)) else (if v5 ≤ 0 then kAnd rec r0 r2 v3 v4 v5 m1011 else (zbind (f_X8_add r0 14 0 m1011) fun _ m1025 => kAnd rec r0 r2 v3 v4 v5 m1025))) := rfl
theorem readC_s (self : SelfC) (f : Nat) (t : Nat) (r0 r2 : Nat) (v3 v4 v5 : Int) (mem : zMem) : f_X8_readCond_0 self (f + 1) t r0 r2 v3 v4 v5 mem = b_X8_readCond_0 self (f_X8_readCond_0 self f) t r0 r2 v3 v4 v5 mem := rfl
def isK (t : Tok) (k : Int) : Prop := t.2.2.1 = 2 ∧ kno t.2.2.2.2 = k
theorem CT_k {T : Int → Int} {n lim p : Int} {m : zMem} (c : CT T n lim m p) {k : Int} (hk : 0 ≤ k) : m 1 8 = k ↔ isK (lexT T n lim p) k := by
  rw [c.2.1.2.2.2.2.1]
  unfold isK
  by_cases h : (lexT T n lim p).2.2.1 = 2
  · rw [if_pos h]
    exact ⟨fun x => ⟨h, x⟩, fun x => x.2⟩
  · rw [if_neg h]
    exact ⟨fun x => by omega, fun x => absurd x.1 h⟩
def hOne (T : Int → Int) (n lim : Int) (A N : Int → Int) (w : Int) (fc fr : zMem → Option (Int × zMem)) : Prop := ∀ p o z B D X, 0 ≤ p → p ≤ n → 0 ≤ o → o ≤ 20 → 0 ≤ z → z ≤ 2 * o → SO T n lim A p o z B D X w (PcT T n lim p o z B D A N) (PrT T n lim p z o w X A N) fc fr
theorem and_loop {T : Int → Int} {n lim : Int} {A N : Int → Int} {w dp : Int} {sc : SelfC} {sr : Nat → zMem → Option (Int × zMem)} (ok : okTx T n) (hl : 0 ≤ lim) (h1 : hOne T n lim A N w (fun m => sc 1 49 4 dp m) (fun r => sr 2 r)) {zs os : Int} (os0 : 0 ≤ os) (zs0 : 0 ≤ zs) (zs1 : zs ≤ 2 * os) : ∀ (d : Nat) (p o z : Int) (B D X : Int → Int) (nl : Nat), 20 - o < d → 0 ≤ p → p ≤ n → os < o → o ≤ 20 → z - zs ≤ 2 * (o - os) - 1 → (nl : Int) ≤ o - os → Tr B D X (A 2) (z - zs).toNat zs z nl →
    (∃ kk pl, kk ≠ 0 ∧ (∀ (f : Nat) m v4 v5, d ≤ f → PcT T n lim p o z B D A N m → 0 ≤ v5 → v5 < o → ∃ m', kAnd (f_X8_readCond_0 sc f) 49 4 dp v4 v5 m = some (0, m') ∧ CG m' kk pl ∧ FS m m') ∧ (∀ (f : Nat) r, d ≤ f → PrT T n lim p z o w X A N r → ∃ r', f_X12_readAnd_0 sr f (z - 1) r = some (0, r') ∧ RF r' kk pl ∧ GS r r')) ∨
    (∃ (p' o' z' : Int) (B' D' X' : Int → Int) (nl' : Nat), (p ≤ p' ∧ p' ≤ n ∧ o ≤ o' ∧ o' ≤ 20 ∧ z ≤ z' ∧ z' - zs ≤ 2 * (o' - os) - 1 ∧ (nl' : Int) ≤ o' - os) ∧ (∀ q, q < zs → B' q = B q ∧ D' q = D q) ∧ (∀ q, q < 4 * zs → X' q = X q) ∧ Tr B' D' X' (A 2) (z' - zs).toNat zs z' nl' ∧ ¬ isK (lexT T n lim p') 14 ∧ (∀ (f : Nat) m v4 v5, d ≤ f → PcT T n lim p o z B D A N m → 0 ≤ v5 → v5 < o → ∃ m' f', kAnd (f_X8_readCond_0 sc f) 49 4 dp v4 v5 m = kOr (f_X8_readCond_0 sc f') 49 4 dp v4 m' ∧ (f : Int) ≤ (f' : Int) + (o' - o) ∧ CT T n lim m' p' ∧ CS m' o' z' B' D' ∧ FS m m') ∧ (∀ (f : Nat) r, d ≤ f → PrT T n lim p z o w X A N r → ∃ r', f_X12_readAnd_0 sr f (z - 1) r = some (1, r') ∧ RU T n lim r' p' ∧ RS r' z' o' w X' ∧ r' 138 46 = z' - 1 ∧ GS r r')) := by
  have ur : ∀ (f : Nat) v m, f_X12_readAnd_0 sr (f + 1) v m = b_X12_readAnd_0 sr (f_X12_readAnd_0 sr f) v m := fun _ _ _ => rfl
  intro d
  induction d with
  | zero => intro p o z B D X nl hd p0 p1 o0 o1; omega
  | succ d ih =>
    intro p o z B D X nl hd p0 p1 o0 o1 hz hn t
    have tb := Tr_b t
    have lr := lexT_r (T := T) (n := n) (lim := lim) hl p0 p1
    by_cases hk : isK (lexT T n lim p) 14
    · have lt : p < (lexT T n lim p).2.1 := lr.2.2.2.1 (by rw [hk.1]; omega)
      have goC : ∀ m, PcT T n lim p o z B D A N m → ∃ m1, PcT T n lim (lexT T n lim p).2.1 o z B D A N m1 ∧ FS m m1 ∧ ∀ (f : Nat) v4 v5, 0 ≤ v5 → v5 < o → kAnd (f_X8_readCond_0 sc (f + 1)) 49 4 dp v4 v5 m = (zbind (sc 1 49 4 dp m1) fun y1010 m1011 => if y1010 = 0 then (some (0, m1011)) else (zbind (f_X8_add 49 14 0 m1011) fun _ m1025 => kAnd (f_X8_readCond_0 sc f) 49 4 dp v4 (v5 + 1) m1025)) := by
        rintro m ⟨c, pc, s⟩
        obtain ⟨m1, a1, a2, a3⟩ := cStepU ok (by omega) lr.2.1 (CT_U c)
        refine ⟨m1, ⟨a2, PC_S pc (FXF_S a3), CS_F s a3⟩, FXF_S a3, fun f v4 v5 x y => ?_⟩
        rw [kAnd, if_pos ((CT_k c (by omega)).2 hk), a1]
        simp only [zbind]
        rw [readC_s, cond_1, w32_id (x := v5 + 1) ⟨by omega, by omega⟩, if_neg (by omega)]
        have e : ∀ m9, (if v5 + 1 ≤ 0 then kAnd (f_X8_readCond_0 sc f) 49 4 dp v4 (v5 + 1) m9 else (zbind (f_X8_add 49 14 0 m9) fun _ m1025 => kAnd (f_X8_readCond_0 sc f) 49 4 dp v4 (v5 + 1) m1025)) = (zbind (f_X8_add 49 14 0 m9) fun _ m1025 => kAnd (f_X8_readCond_0 sc f) 49 4 dp v4 (v5 + 1) m1025) := fun m9 => if_neg (by omega)
        simp only [e]
        rfl
      have goR : ∀ r, PrT T n lim p z o w X A N r → ∃ r1, PrT T n lim (lexT T n lim p).2.1 z o w X A N r1 ∧ GS r r1 ∧ ∀ f : Nat, f_X12_readAnd_0 sr (f + 1) (z - 1) r = (zbind (sr 2 r1) fun y6 m7 => if y6 = 0 then (some (0, m7)) else (zbind (f_X12_saysOne 2 (z - 1) (m7 138 46) 0 m7) fun y10 m11 => f_X12_readAnd_0 sr f y10 m11)) := by
        rintro r ⟨u, eA, eN, s⟩
        obtain ⟨r1, a1, a2, a3⟩ := mGoU ok hl p0 p1 u
        have a3' := FY_F a3
        refine ⟨r1, ⟨a2, by rw [a3'.1 140 (by omega)]; exact eA, by rw [a3'.1 145 (by omega)]; exact eN, RS_F s a3'⟩, FYF_S a3', fun f => ?_⟩
        rw [ur]
        unfold b_X12_readAnd_0
        rw [mIsWord hl p0 p1 u (by omega) (by omega)]
        simp only [zbind, bi0]
        rw [if_pos (show (lexT T n lim p).2.2.1 = 2 ∧ kno (lexT T n lim p).2.2.2.2 = 14 from hk), a1]
      rcases h1 (lexT T n lim p).2.1 o z B D X (by omega) lr.2.1 (by omega) o1 (by omega) (by omega) with ⟨kk, pl, kn, hc, hr⟩ | ⟨p2, o2, z2, B2, D2, X2, n2, hb, e1, e2, t2, hc, hr⟩
      · refine Or.inl ⟨kk, pl, kn, fun f m v4 v5 hf pm a b => ?_, fun f r hf pr => ?_⟩
        · obtain ⟨f, rfl⟩ : ∃ g, f = g + 1 := ⟨f - 1, by omega⟩
          obtain ⟨m1, x1, x2, x3⟩ := goC m pm
          obtain ⟨m2, b1, b2, b3⟩ := hc m1 x1
          refine ⟨m2, ?_, b2, FS_t x2 b3⟩
          simp only at b1
          rw [x3 f v4 v5 a b, b1]
          simp [zbind]
        · obtain ⟨f, rfl⟩ : ∃ g, f = g + 1 := ⟨f - 1, by omega⟩
          obtain ⟨r1, x1, x2, x3⟩ := goR r pr
          obtain ⟨r2, b1, b2, b3⟩ := hr r1 x1
          refine ⟨r2, ?_, b2, GS_t x2 b3⟩
          simp only at b1
          rw [x3 f, b1]
          simp [zbind]
      · have tj := Tr_join (k := 2) (kb := 14) (Or.inl ⟨rfl, rfl⟩) t e1 e2 t2 (by omega)
        have cc : ∀ m, PcT T n lim p o z B D A N m → ∃ m3, PcT T n lim p2 o2 (z2 + 1) (up B2 z2 14) (up D2 z2 0) A N m3 ∧ FS m m3 ∧ ∀ (f : Nat) v4 v5, 0 ≤ v5 → v5 < o → kAnd (f_X8_readCond_0 sc (f + 1)) 49 4 dp v4 v5 m = kAnd (f_X8_readCond_0 sc f) 49 4 dp v4 (v5 + 1) m3 := by
          intro m pm
          obtain ⟨m1, x1, x2, x3⟩ := goC m pm
          obtain ⟨m2, b1, b2, b3, b4⟩ := hc m1 x1
          obtain ⟨m3, c1, c2, c3, c4⟩ := cAddE 14 0 b2 b3 (by omega) (by omega)
          refine ⟨m3, ⟨c2, PC_S x1.2.1 (FS_t b4 c4), c3⟩, FS_t x2 (FS_t b4 c4), fun f v4 v5 a b => ?_⟩
          simp only at b1
          rw [x3 f v4 v5 a b, b1]
          simp only [zbind]
          rw [if_neg (by omega), c1]
        have rr : ∀ r, PrT T n lim p z o w X A N r → ∃ r3, PrT T n lim p2 (z2 + 1) o2 w (up4 X2 (4 * z2) 2 (z - 1) (z2 - 1) 0) A N r3 ∧ GS r r3 ∧ ∀ f : Nat, f_X12_readAnd_0 sr (f + 1) (z - 1) r = f_X12_readAnd_0 sr f (z2 + 1 - 1) r3 := by
          intro r pr
          obtain ⟨r1, x1, x2, x3⟩ := goR r pr
          obtain ⟨r2, b1, b2, b3, b4, b5⟩ := hr r1 x1
          obtain ⟨r3, c1, c2, c3, c4, c5⟩ := mSays 2 (z - 1) (z2 - 1) 0 b2 b3 (by omega) (by omega)
          have g5 := GS_t b5 c5
          refine ⟨r3, ⟨c2, by rw [g5.1 140 (by omega) (by omega)]; exact x1.2.1, by rw [g5.1 145 (by omega) (by omega)]; exact x1.2.2.1, c3⟩, GS_t x2 g5, fun f => ?_⟩
          simp only at b1
          rw [x3 f, b1]
          simp only [zbind]
          rw [if_neg (by omega), b4, c1, show z2 + 1 - 1 = z2 by omega]
        rcases ih p2 o2 (z2 + 1) (up B2 z2 14) (up D2 z2 0) (up4 X2 (4 * z2) 2 (z - 1) (z2 - 1) 0) (nl + n2) (by omega) (by omega) hb.2.1 (by omega) hb.2.2.2.1 (by omega) (by omega) tj with ⟨kk, pl, kn, hc', hr'⟩ | ⟨p', o', z', B', D', X', nl', hb', e1', e2', t', nk, hc', hr'⟩
        · refine Or.inl ⟨kk, pl, kn, fun f m v4 v5 hf pm a b => ?_, fun f r hf pr => ?_⟩
          · obtain ⟨f, rfl⟩ : ∃ g, f = g + 1 := ⟨f - 1, by omega⟩
            obtain ⟨m3, x1, x2, x3⟩ := cc m pm
            obtain ⟨m', y1, y2, y3⟩ := hc' f m3 v4 (v5 + 1) (by omega) x1 (by omega) (by omega)
            exact ⟨m', by rw [x3 f v4 v5 a b, y1], y2, FS_t x2 y3⟩
          · obtain ⟨f, rfl⟩ : ∃ g, f = g + 1 := ⟨f - 1, by omega⟩
            obtain ⟨r3, x1, x2, x3⟩ := rr r pr
            obtain ⟨r', y1, y2, y3⟩ := hr' f r3 (by omega) x1
            exact ⟨r', by rw [x3 f, y1], y2, GS_t x2 y3⟩
        · refine Or.inr ⟨p', o', z', B', D', X', nl', ⟨by omega, by omega, by omega, by omega, by omega, by omega, by omega⟩, fun q hq => ?_, fun q hq => ?_, t', nk, fun f m v4 v5 hf pm a b => ?_, fun f r hf pr => ?_⟩
          · have x1 := e1' q hq
            have x2 := e1 q (by omega)
            rw [x1.1, x1.2, up_ne (by omega), up_ne (by omega)]
            exact x2
          · rw [e2' q hq, up4_off (by omega), e2 q (by omega)]
          · obtain ⟨f, rfl⟩ : ∃ g, f = g + 1 := ⟨f - 1, by omega⟩
            obtain ⟨m3, x1, x2, x3⟩ := cc m pm
            obtain ⟨m', f', y1, y2, y3, y4, y5⟩ := hc' f m3 v4 (v5 + 1) (by omega) x1 (by omega) (by omega)
            exact ⟨m', f', by rw [x3 f v4 v5 a b, y1], by omega, y3, y4, FS_t x2 y5⟩
          · obtain ⟨f, rfl⟩ : ∃ g, f = g + 1 := ⟨f - 1, by omega⟩
            obtain ⟨r3, x1, x2, x3⟩ := rr r pr
            obtain ⟨r', y1, y2, y3, y4, y5⟩ := hr' f r3 (by omega) x1
            exact ⟨r', by rw [x3 f, y1], y2, y3, y4, GS_t x2 y5⟩
    · refine Or.inr ⟨p, o, z, B, D, X, nl, ⟨by omega, p1, by omega, o1, by omega, hz, hn⟩, fun q _ => ⟨rfl, rfl⟩, fun q _ => rfl, t, hk, fun f m v4 v5 hf pm a b => ?_, fun f r hf pr => ?_⟩
      · refine ⟨m, f, ?_, by omega, pm.1, pm.2.2, FS_r m⟩
        unfold kAnd
        rw [if_neg (fun h => hk ((CT_k pm.1 (by omega)).1 h))]
      · obtain ⟨f, rfl⟩ : ∃ g, f = g + 1 := ⟨f - 1, by omega⟩
        obtain ⟨u, eA, eN, s⟩ := pr
        refine ⟨zup r 138 46 (z - 1), ?_, RU_F u (by omega), ?_, by rw [zup_same, if_pos rfl], GS_up (by omega)⟩
        · rw [ur]
          unfold b_X12_readAnd_0
          rw [mIsWord hl p0 p1 u (by omega) (by omega)]
          simp only [zbind, bi0]
          rw [if_neg (show ¬ ((lexT T n lim p).2.2.1 = 2 ∧ kno (lexT T n lim p).2.2.2.2 = 14) from hk)]
          rfl
        · unfold RS
          rw [zup_same, if_neg (by omega), zup_same, if_neg (by omega), zup_same, if_neg (by omega), zup_off (by omega)]
          exact s
