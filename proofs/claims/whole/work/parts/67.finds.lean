theorem cast_andn (M T : Int) {d : Nat} (hd : d < 64) : castB (zandL M (zxorL T (-1))) (d : Int) = (castB M (d : Int) && !castB T (d : Int)) := by
  rw [cast_bit _ hd, cast_bit _ hd, cast_bit _ hd]
  unfold zandL zxorL
  rw [i64_of, i64_of, Int64.toBitVec_and, BitVec.getLsbD_and, Int64.toBitVec_xor, BitVec.getLsbD_xor, show (i64 (-1)).toBitVec = BitVec.allOnes 64 from rfl, BitVec.getLsbD_allOnes]
  simp [hd]
def inD (c : Int) : Prop := 0 ≤ c ∧ c < 64
def Vx (NP : Int) (RC : Int → Int → Bool) (X : Int → Bool) (σ : Int → Int) : Prop := (∀ c, inD c → X c = false → σ c = -1 ∨ (0 ≤ σ c ∧ σ c < NP ∧ RC (σ c) c = true)) ∧ ∀ c c', inD c → inD c' → X c = false → X c' = false → σ c = σ c' → σ c ≠ -1 → c = c'
def Fail (RC : Int → Int → Bool) (X X' : Int → Bool) (σ σ' : Int → Int) (p : Int) : Prop := (∀ c, inD c → σ' c = σ c) ∧ (∀ c, inD c → RC p c = true → X' c = true) ∧ ∀ c, inD c → X' c = true → X c = false → σ c ≠ -1 ∧ ∀ c', inD c' → RC (σ c) c' = true → X' c' = true
def Succ (NP : Int) (RC : Int → Int → Bool) (X : Int → Bool) (σ σ' : Int → Int) (p : Int) : Prop := (∀ c, inD c → X c = true → σ' c = σ c) ∧ Vx NP RC X σ' ∧ (∀ c, inD c → X c = false → σ' c = -1 ∨ σ' c = p ∨ ∃ c', inD c' ∧ X c' = false ∧ σ c' = σ' c) ∧ ∃ c0, inD c0 ∧ X c0 = false ∧ σ c0 = -1 ∧ σ' c0 ≠ -1 ∧ ∀ c, inD c → X c = false → c ≠ c0 → (σ' c = -1 ↔ σ c = -1)
def frF (r r' : zMem) : Prop := (∀ q, q ≠ 138 → q ≠ 151 → r' q = r q) ∧ ∀ i, i ≠ 31 → r' 138 i = r 138 i
theorem frF_t {a b c : zMem} (h1 : frF a b) (h2 : frF b c) : frF a c := ⟨fun q x y => (h2.1 q x y).trans (h1.1 q x y), fun i x => (h2.2 i x).trans (h1.2 i x)⟩
theorem suc_here {NP : Int} {RC : Int → Int → Bool} {X : Int → Bool} {σ : Int → Int} {p c : Int} (v : Vx NP RC X σ) (hp0 : 0 ≤ p) (hp1 : p < NP) (hn : ∀ c, inD c → X c = false → σ c ≠ p) (hc : inD c) (hx : X c = false) (hr : RC p c = true) (hs : σ c = -1) : Succ NP RC X σ (up σ c p) p := by
  refine ⟨fun d hd hX => ?_, ⟨fun d hd hX => ?_, fun d d' hd hd' hX hX' he hne => ?_⟩, fun d hd hX => ?_, c, hc, hx, hs, by rw [up_eq]; omega, fun d hd hX hne => by rw [up_ne hne]⟩
  · rw [up_ne (fun e => by subst e; rw [hx] at hX; exact absurd hX (by simp))]
  · by_cases he : d = c
    · rw [he, up_eq]; exact Or.inr ⟨hp0, hp1, hr⟩
    · rw [up_ne he]; exact v.1 d hd hX
  · by_cases h1 : d = c
    · by_cases h2 : d' = c
      · rw [h1, h2]
      · rw [h1, up_eq, up_ne h2] at he
        exact absurd he.symm (hn d' hd' hX')
    · by_cases h2 : d' = c
      · rw [h2, up_eq, up_ne h1] at he
        exact absurd he (hn d hd hX)
      · rw [up_ne h1, up_ne h2] at he
        rw [up_ne h1] at hne
        exact v.2 d d' hd hd' hX hX' he hne
  · by_cases he : d = c
    · rw [he, up_eq]; exact Or.inr (Or.inl rfl)
    · rw [up_ne he]; exact Or.inr (Or.inr ⟨d, hd, hX, rfl⟩)
theorem suc_there {NP : Int} {RC : Int → Int → Bool} {X X1 : Int → Bool} {σ σ1 : Int → Int} {p c : Int} (v : Vx NP RC X σ) (hp0 : 0 ≤ p) (hp1 : p < NP) (hn : ∀ c, inD c → X c = false → σ c ≠ p) (hc : inD c) (hx : X c = false) (hr : RC p c = true) (hs : σ c ≠ -1) (hXX : ∀ d, inD d → X d = true → X1 d = true) (hc1 : X1 c = true) (s : Succ NP RC X1 σ σ1 (σ c)) : Succ NP RC X σ (up σ1 c p) p := by
  obtain ⟨s1, s2, s3, c0, k1, k2, k3, k4, k5⟩ := s
  have nx : ∀ d, inD d → X1 d = false → X d = false := fun d hd0 h => by
    cases hd : X d with
    | false => rfl
    | true => rw [hXX d hd0 hd] at h; exact absurd h (by simp)
  have ncc : ∀ d, X1 d = false → d ≠ c := fun d h e => by rw [e, hc1] at h; exact absurd h (by simp)
  refine ⟨fun d hd hX => ?_, ⟨fun d hd hX => ?_, fun d d' hd hd' hX hX' he hne => ?_⟩, fun d hd hX => ?_, c0, k1, nx c0 k1 k2, k3, by rw [up_ne (ncc c0 k2)]; exact k4, fun d hd hX hne => ?_⟩
  · have hdc : d ≠ c := fun e => by subst e; rw [hx] at hX; exact absurd hX (by simp)
    rw [up_ne hdc, s1 d hd (hXX d hd hX)]
  · by_cases he : d = c
    · rw [he, up_eq]; exact Or.inr ⟨hp0, hp1, hr⟩
    · rw [up_ne he]
      cases h1 : X1 d with
      | true => rw [s1 d hd h1]; exact v.1 d hd hX
      | false => exact s2.1 d hd h1
  · -- two with the same
    have pnot : ∀ d, inD d → X d = false → d ≠ c → σ1 d ≠ p := by
      intro d hd hX hdc e
      cases h1 : X1 d with
      | true => rw [s1 d hd h1] at e; exact hn d hd hX e
      | false =>
        rcases s3 d hd h1 with h | h | ⟨c', x1, x2, x3⟩
        · omega
        · rw [e] at h; exact hn c hc hx h.symm
        · rw [e] at x3; exact hn c' x1 (nx c' x1 x2) x3
    have mix : ∀ d d', inD d → inD d' → X d = false → X d' = false → d ≠ c → X1 d = true → X1 d' = false → σ1 d = σ1 d' → σ1 d ≠ -1 → False := by
      intro d d' hd hd' hX hX' hdc h1 h2 he hne
      rw [s1 d hd h1] at he hne
      rcases s3 d' hd' h2 with h | h | ⟨c', x1, x2, x3⟩
      · omega
      · exact hdc (v.2 d c hd hc hX hx (by rw [he, h]) hne)
      · have := v.2 d c' hd x1 hX (nx c' x1 x2) (by rw [he, x3]) hne
        rw [this, x2] at h1
        exact absurd h1 (by simp)
    by_cases h1 : d = c
    · by_cases h2 : d' = c
      · rw [h1, h2]
      · rw [h1, up_eq, up_ne h2] at he
        exact absurd he.symm (pnot d' hd' hX' h2)
    · by_cases h2 : d' = c
      · rw [h2, up_eq, up_ne h1] at he
        exact absurd he (pnot d hd hX h1)
      · rw [up_ne h1, up_ne h2] at he
        rw [up_ne h1] at hne
        cases g1 : X1 d with
        | true =>
          cases g2 : X1 d' with
          | true =>
            rw [s1 d hd g1, s1 d' hd' g2] at he
            rw [s1 d hd g1] at hne
            exact v.2 d d' hd hd' hX hX' he hne
          | false => exact (mix d d' hd hd' hX hX' h1 g1 g2 he hne).elim
        | false =>
          cases g2 : X1 d' with
          | true => exact (mix d' d hd' hd hX' hX h2 g2 g1 he.symm (by rw [← he]; exact hne)).elim
          | false => exact s2.2 d d' hd hd' g1 g2 he hne
  · by_cases he : d = c
    · rw [he, up_eq]; exact Or.inr (Or.inl rfl)
    · rw [up_ne he]
      cases h1 : X1 d with
      | true => exact Or.inr (Or.inr ⟨d, hd, hX, (s1 d hd h1).symm⟩)
      | false =>
        rcases s3 d hd h1 with h | h | ⟨c', x1, x2, x3⟩
        · exact Or.inl h
        · exact Or.inr (Or.inr ⟨c, hc, hx, h.symm⟩)
        · exact Or.inr (Or.inr ⟨c', x1, nx c' x1 x2, x3⟩)
  · by_cases he : d = c
    · rw [he, up_eq]
      exact ⟨fun h => by omega, fun h => absurd h hs⟩
    · rw [up_ne he]
      cases h1 : X1 d with
      | true => rw [s1 d hd h1]
      | false => exact k5 d hd h1 hne
theorem Succ_cg {NP : Int} {RC : Int → Int → Bool} {X : Int → Bool} {σ σ' τ τ' : Int → Int} {p : Int} (h : ∀ d, inD d → τ d = σ d) (h' : ∀ d, inD d → τ' d = σ' d) (s : Succ NP RC X σ σ' p) : Succ NP RC X τ τ' p := by
  obtain ⟨s1, s2, s3, c0, k1, k2, k3, k4, k5⟩ := s
  refine ⟨fun c hc hx => by rw [h c hc, h' c hc]; exact s1 c hc hx, ⟨fun c hc hx => by rw [h' c hc]; exact s2.1 c hc hx, fun c c' hc hc' hx hx' he hne => ?_⟩, fun c hc hx => ?_, c0, k1, k2, by rw [h c0 k1]; exact k3, by rw [h' c0 k1]; exact k4, fun c hc hx hne => by rw [h c hc, h' c hc]; exact k5 c hc hx hne⟩
  · rw [h' c hc, h' c' hc'] at he
    rw [h' c hc] at hne
    exact s2.2 c c' hc hc' hx hx' he hne
  · rw [h' c hc]
    rcases s3 c hc hx with a | a | ⟨c', x1, x2, x3⟩
    · exact Or.inl a
    · exact Or.inr (Or.inl a)
    · exact Or.inr (Or.inr ⟨c', x1, x2, by rw [h c' x1]; exact x3⟩)
theorem finds_l {P : Int → Bool} {RC : Int → Int → Bool} {NP : Int} (hNP : NP ≤ 6) (hRC : ∀ q c, 0 ≤ q → q < NP → inD c → RC q c = true → P c = true) : ∀ (f : Nat) (r : zMem) (p : Int) (X : Int → Bool), 0 ≤ p → p < NP → (∀ q c, 0 ≤ q → q < NP → inD c → castB (r 152 q) c = RC q c) → (∀ c, inD c → castB (r 138 31) c = X c) → Vx NP RC X (r 151) → (∀ c, inD c → X c = false → r 151 c ≠ p) → cnt (fun c => P c && !X c) 64 < f →
    ∃ y r' X', fg_finds f p r = some (y, r') ∧ frF r r' ∧ (∀ c, inD c → castB (r' 138 31) c = X' c) ∧ (∀ c, inD c → X c = true → X' c = true) ∧ ((y = 0 ∧ Fail RC X X' (r 151) (r' 151) p) ∨ (y = 1 ∧ Succ NP RC X (r 151) (r' 151) p)) := by
  have hN := zN_ge
  have l151 : sLen 151 = 64 := rfl
  have l152 : sLen 152 = 6 := rfl
  intro f
  induction f with
  | zero =>
    intro r p X p0 p1 h1 h2 v hn hf
    have := cnt_r (fun c => P c && !X c) 64
    omega
  | succ f ih =>
    intro r p X p0 p1 hR hX v hn hf
    have i152 : ∀ {α : Type} {a b : α}, (if ix 152 p then a else b) = a := fun {α a b} => if_pos ⟨p0, by omega⟩
    have i151 : ∀ {c : Int} {α : Type} {a b : α}, inD c → (if ix 151 c then a else b) = a := fun {c α a b} h => if_pos ⟨h.1, by have := h.2; omega⟩
    have loop : ∀ (k : Nat) (c : Int) (n : Nat) (m : zMem) (Y : Int → Bool), 0 ≤ c → c + k = 64 → k < n → frF r m → (∀ d, inD d → m 151 d = r 151 d) → (∀ d, inD d → castB (m 138 31) d = Y d) → (∀ d, inD d → X d = true → Y d = true) → (∀ d, inD d → d < c → RC p d = true → Y d = true) → (∀ d, inD d → Y d = true → X d = false → r 151 d ≠ -1 ∧ ∀ d', inD d' → RC (r 151 d) d' = true → Y d' = true) →
        ∃ y r' X', f_X12_finds_0 (fg_finds f) n p c m = some (y, r') ∧ frF r r' ∧ (∀ c, inD c → castB (r' 138 31) c = X' c) ∧ (∀ c, inD c → X c = true → X' c = true) ∧ ((y = 0 ∧ Fail RC X X' (r 151) (r' 151) p) ∨ (y = 1 ∧ Succ NP RC X (r 151) (r' 151) p)) := by
      intro k
      induction k with
      | zero =>
        intro c n m Y c0 c1 hn fm e1 e2 e3 e4 e5
        obtain ⟨n, rfl⟩ : ∃ q, n = q + 1 := ⟨n - 1, by omega⟩
        refine ⟨0, m, Y, ?_, fm, e2, e3, Or.inl ⟨rfl, e1, fun d hd h => e4 d hd (by have := hd.2; omega) h, e5⟩⟩
        show b_X12_finds_0 (fg_finds f) (f_X12_finds_0 (fg_finds f) n) p c m = _
        unfold b_X12_finds_0
        rw [if_pos (by omega)]
      | succ k ihk =>
        intro c n m Y c0 c1 hnn fm e1 e2 e3 e4 e5
        obtain ⟨n, rfl⟩ : ∃ q, n = q + 1 := ⟨n - 1, by omega⟩
        have hc : inD c := ⟨c0, by omega⟩
        have hcast : castB (zandL (m 152 p) (zxorL (m 138 31) (-1))) c = (RC p c && !Y c) := by
          have := cast_andn (m 152 p) (m 138 31) (d := c.toNat) (by omega)
          rw [Int.toNat_of_nonneg c0] at this
          rw [this, fm.1 152 (by omega) (by omega), hR p c p0 p1 hc, e2 c hc]
        have u : f_X12_finds_0 (fg_finds f) (n + 1) p c m = if (RC p c && !Y c) = true then (pipe (zup m 138 31 (zorL (m 138 31) (zshlL 1 c))) fun m9 => if ix 151 c then if (m9 151 c) = (-1) then (if ix 151 c then pipe (zup m9 151 c p) fun m14 => some (1, m14) else none) else (if ix 151 c then zbind (fg_finds f (m9 151 c) m9) fun y17 m18 => if y17 = 0 then (f_X12_finds_0 (fg_finds f) n p (c + 1) m18) else (if ix 151 c then pipe (zup m18 151 c p) fun m21 => some (1, m21) else none) else none) else none) else f_X12_finds_0 (fg_finds f) n p (c + 1) m := by
          show b_X12_finds_0 (fg_finds f) (f_X12_finds_0 (fg_finds f) n) p c m = _
          unfold b_X12_finds_0
          rw [if_neg (by omega), i152, mIsCast, hcast, w32_id ⟨by omega, by omega⟩]
          simp only [zbind, bi0]
        rw [u]
        by_cases hb : (RC p c && !Y c) = true
        · rw [if_pos hb]
          simp only [Bool.and_eq_true, Bool.not_eq_true'] at hb
          obtain ⟨hb1, hb2⟩ := hb
          have hxc : X c = false := by
            cases h : X c with
            | false => rfl
            | true => rw [e3 c hc h] at hb2; exact absurd hb2 (by simp)
          simp only [pipe]
          -- the cell is tried
          generalize hm9 : zup m 138 31 (zorL (m 138 31) (zshlL 1 c)) = m9
          have g1 : ∀ q, q ≠ 138 → m9 q = m q := fun q hq => by rw [← hm9, zup_off hq]
          have g2 : ∀ i, i ≠ 31 → m9 138 i = m 138 i := fun i hi => by rw [← hm9, zup_same, if_neg hi]
          have fm9 : frF r m9 := ⟨fun q a b => by rw [g1 q a, fm.1 q a b], fun i hi => by rw [g2 i hi, fm.2 i hi]⟩
          have g3 : ∀ d, inD d → castB (m9 138 31) d = (Y d || decide (d = c)) := by
            intro d hd
            have hd0 := hd.1
            have hd1 := hd.2
            have := cast_or (m 138 31) (c := c.toNat) (d := d.toNat) (by omega) (by omega)
            rw [Int.toNat_of_nonneg c0, Int.toNat_of_nonneg hd.1] at this
            rw [← hm9, zup_same, if_pos rfl, this, e2 d hd]
            congr 1
            by_cases h : d = c
            · simp [h]
            · have : ¬ d.toNat = c.toNat := by omega
              simp [h, this]
          have g151 : ∀ d, inD d → m9 151 d = r 151 d := fun d hd => by rw [g1 151 (by omega), e1 d hd]
          rw [i151 hc]
          by_cases hs : r 151 c = -1
          · rw [if_pos (by rw [g151 c hc]; exact hs), i151 hc]
            refine ⟨1, zup m9 151 c p, fun d => Y d || decide (d = c), rfl, ⟨fun q a b => by rw [zup_off b, fm9.1 q a b], fun i hi => by rw [zup_off (by omega), fm9.2 i hi]⟩, fun d hd => by rw [zup_off (by omega)]; exact g3 d hd, fun d hd h => by simp [e3 d hd h], Or.inr ⟨rfl, ?_⟩⟩
            have hsuc := suc_here v p0 p1 hn hc hxc hb1 hs
            have heq : ∀ d, inD d → zup m9 151 c p 151 d = up (r 151) c p d := fun d hd => by
              rw [zup_same]
              unfold up
              split
              · rfl
              · exact g151 d hd
            exact Succ_cg (fun _ _ => rfl) heq hsuc
          · rw [if_neg (by rw [g151 c hc]; exact hs), i151 hc, g151 c hc]
            -- who stands there looks for another
            have vc := (v.1 c hc hxc).resolve_left hs
            have nX : ∀ d, inD d → (Y d || decide (d = c)) = false → X d = false := fun d hd0 h => by
              cases hd : X d with
              | false => rfl
              | true => rw [e3 d hd0 hd] at h; exact absurd h (by simp)
            have V9 : Vx NP RC (fun d => Y d || decide (d = c)) (m9 151) := by
              refine ⟨fun d hd h => ?_, fun d d' hd hd' h h' he hne => ?_⟩
              · rw [g151 d hd]; exact v.1 d hd (nX d hd h)
              · rw [g151 d hd, g151 d' hd'] at he
                rw [g151 d hd] at hne
                exact v.2 d d' hd hd' (nX d hd h) (nX d' hd' h') he hne
            have N9 : ∀ d, inD d → (Y d || decide (d = c)) = false → m9 151 d ≠ r 151 c := by
              intro d hd h he
              rw [g151 d hd] at he
              have := v.2 d c hd hc (nX d hd h) hxc he (by rw [he]; exact hs)
              rw [this] at h
              simp at h
            have cn : cnt (fun d => P d && !(Y d || decide (d = c))) 64 < f := by
              have hPc := hRC p c p0 p1 hc hb1
              have h1 := cnt_or (P := fun d => P d && !(Y d || decide (d = c))) (c := c.toNat) (n := 64) (by omega) (by simp [Int.toNat_of_nonneg c0])
              rw [Int.toNat_of_nonneg c0] at h1
              have h2 : cnt (fun d => (P d && !(Y d || decide (d = c))) || decide (d = c)) 64 ≤ cnt (fun d => P d && !X d) 64 := by
                refine cnt_mono (fun d hd h => ?_)
                by_cases hdc : (d : Int) = c
                · rw [hdc]
                  simp [hPc, hxc]
                · simp only [hdc, decide_false, Bool.or_false, Bool.and_eq_true, Bool.not_eq_true'] at h ⊢
                  refine ⟨h.1, ?_⟩
                  cases hx2 : X d with
                  | false => rfl
                  | true => rw [e3 _ ⟨by omega, by omega⟩ hx2] at h; exact absurd h.2 (by simp)
              omega
            obtain ⟨y, r1, X1, a1, a2, a3, a4, a5⟩ := ih m9 (r 151 c) (fun d => Y d || decide (d = c)) vc.1 vc.2.1 (fun q d q0 q1 hd => by rw [fm9.1 152 (by omega) (by omega)]; exact hR q d q0 q1 hd) g3 V9 N9 cn
            rw [a1]
            simp only [zbind]
            rcases a5 with ⟨y0, b1, b2, b3⟩ | ⟨y1, b⟩
            · rw [if_pos y0]
              refine ihk (c + 1) n r1 X1 (by omega) (by omega) (by omega) (frF_t fm9 a2) (fun d hd => by rw [b1 d hd, g151 d hd]) a3 (fun d hd h => a4 d hd (by simp [e3 d hd h])) (fun d hd h hr => ?_) (fun d hd h hx => ?_)
              · by_cases hdc : d = c
                · exact a4 d hd (by simp [hdc])
                · exact a4 d hd (by simp [e4 d hd (by omega) hr])
              · cases hy : Y d with
                | true =>
                  obtain ⟨x1, x2⟩ := e5 d hd hy hx
                  exact ⟨x1, fun d' hd' hr => a4 d' hd' (by simp [x2 d' hd' hr])⟩
                | false =>
                  by_cases hdc : d = c
                  · subst hdc
                    exact ⟨hs, fun d' hd' hr => b2 d' hd' hr⟩
                  · obtain ⟨x1, x2⟩ := b3 d hd h (by simp [hy, hdc])
                    rw [g151 d hd] at x1 x2
                    exact ⟨x1, x2⟩
            · rw [if_neg (by omega), i151 hc]
              refine ⟨1, zup r1 151 c p, X1, rfl, ⟨fun q a b => by rw [zup_off b, (frF_t fm9 a2).1 q a b], fun i hi => by rw [zup_off (by omega), (frF_t fm9 a2).2 i hi]⟩, fun d hd => by rw [zup_off (by omega)]; exact a3 d hd, fun d hd h => a4 d hd (by simp [e3 d hd h]), Or.inr ⟨rfl, ?_⟩⟩
              have hst := suc_there (X1 := fun d => Y d || decide (d = c)) (σ1 := r1 151) v p0 p1 hn hc hxc hb1 hs (fun d hd h => by simp [e3 d hd h]) (by simp) (Succ_cg (fun d hd => (g151 d hd).symm) (fun _ _ => rfl) b)
              refine Succ_cg (fun _ _ => rfl) (fun d hd => ?_) hst
              rw [zup_same]
              rfl
        · rw [if_neg hb]
          have hb' : RC p c = true → Y c = true := by
            intro h
            cases hy : Y c with
            | true => rfl
            | false => simp [h, hy] at hb
          refine ihk (c + 1) n m Y (by omega) (by omega) (by omega) fm e1 e2 e3 (fun d hd h hr => ?_) e5
          by_cases hdc : d = c
          · subst hdc; exact hb' hr
          · exact e4 d hd (by omega) hr
    exact loop 64 0 zN r X (by omega) (by omega) (by omega) ⟨fun _ _ _ => rfl, fun _ _ => rfl⟩ (fun _ _ => rfl) hX (fun _ _ h => h) (fun d hd h => by have := hd.1; omega) (fun d hd h h' => by rw [h] at h'; exact absurd h' (by simp))
