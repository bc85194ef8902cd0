theorem Rep_cg2 {B D A A' : Int → Int} (h : ∀ i, (i < 106 ∨ 192 ≤ i) → A' i = A i) : ∀ (d : Nat) (k i j : Int) (n : Nat), Rep B D A d k i j n → Rep B D A' d k i j n := by
  intro d
  induction d with
  | zero => intro k i j n r; exact r
  | succ d ih =>
    intro k i j n r
    unfold Rep at r ⊢
    obtain ⟨hk, r⟩ := r
    refine ⟨hk, ?_⟩
    rw [h (194 + 4 * k) (by omega), h (195 + 4 * k) (by omega), h (196 + 4 * k) (by omega), h (197 + 4 * k) (by omega), h 2 (by omega)]
    rcases r with ⟨a, b, c⟩ | ⟨m, n1, n2, a, b, c, e⟩ | r
    · exact Or.inl ⟨a, b, ih _ _ _ _ c⟩
    · exact Or.inr (Or.inl ⟨m, n1, n2, a, b, ih _ _ _ _ c, ih _ _ _ _ e⟩)
    · exact Or.inr (Or.inr r)
/-! an act: what was so is kept, then it is otherwise -/
theorem act_ok {mem : zMem} (a : rI mem 4 11 16 (mem 140) (mem 145)) (b : rH mem (mem 140)) {A' : Int → Int} (pA : ∀ i, 0 ≤ i → i < 106 → A' i = mem 140 i) (pB : ∀ i, 192 ≤ i → i < 434 → A' i = mem 140 i) (os' : oS A') {act : zMem → Option (Int × zMem)} (hact : ∀ m : zMem, (∀ q, (q < 53 ∨ 94 < q) → m q = mem q) → ∃ m', act m = some (0, m') ∧ vS m' 11 A' ∧ onlyS m m' 11) :
    ∃ mk mc, f_X2_keep 11 mem = some (0, mk) ∧ (∀ q, (q < 53 ∨ 94 < q) → mk q = mem q) ∧ act mk = some (0, mc) ∧ (∀ q, (q < 11 ∨ 15 < q) → (q < 53 ∨ 94 < q) → mc q = mem q) ∧ ∀ mr : zMem, mr 140 = mem 140 → mr 143 = mem 143 → mr 138 25 = mem 138 25 → ∃ ms, f_X12_snap mr = some (0, ms) ∧ (∀ q, q ≠ 143 → q ≠ 138 → ms q = mr q) ∧ (∀ i, i ≠ 25 → ms 138 i = mr 138 i) ∧ ∀ mf : zMem, mf 140 = A' → mf 145 = mem 145 → (∀ q, ((4 ≤ q ∧ q ≤ 18) ∨ (53 ≤ q ∧ q ≤ 94)) → mf q = mc q) → mf 143 = ms 143 → mf 138 25 = ms 138 25 → rI mf 4 11 16 (mf 140) (mf 145) ∧ rH mf (mf 140) := by
  obtain ⟨o, os, v, w, n, s⟩ := a
  have o1 := o.1
  have b1 := b.1
  obtain ⟨mk, k0, k1, k2, k3, k4⟩ := cKeep w (by omega) (by omega) b1.1 b1.2.1 b1.2.2.1 b1.2.2.2.1
  have hk : ∀ q, (q < 53 ∨ 94 < q) → mk q = mem q := fun q hq => k4 q (by omega) (by omega)
  obtain ⟨mc, c0, c1, c2⟩ := hact mk hk
  refine ⟨mk, mc, k0, hk, c0, fun q h1 h2 => by rw [c2 q (by omega), hk q h2], fun mr r0 r1 r2 => ?_⟩
  obtain ⟨ms, s0, s1, s2, s3⟩ := mSnap (mem := mr) (z := mem 53 2) (by rw [r2]; exact b1.2.2.2.2) b1.2.2.1 b1.2.2.2.1
  refine ⟨ms, s0, s1, fun i hi => by rw [s2 i, up_ne hi], fun mf f0 f1 f2 f3 f4 => ?_⟩
  have h53 : ∀ q, 53 ≤ q → q ≤ 94 → mf q = mk q := fun q h1 h2 => by rw [f2 q (by omega), c2 q (by omega)]
  constructor
  · rw [f0, f1]
    refine ⟨oP_of pA o, os', vP_of pA o (vP_mem (fun q h1 h2 => by rw [f2 q (by omega), c2 q (by omega), hk q (by omega)]) v), vS_mem (fun q h1 h2 => f2 q (by omega)) c1, rN_cg o (pA 2 (by omega) (by omega)) (pA 3 (by omega) (by omega)) (fun _ _ _ => rfl) (rN_mem (fun q h1 h2 => by rw [f2 q (by omega), c2 q (by omega), hk q (by omega)]) n), ?_⟩
    have s' : rS mf 16 (mem 140) := rS_mem (fun q h1 h2 => by rw [f2 q (by omega), c2 q (by omega), hk q (by omega)]) s
    rcases s' with ⟨x, y⟩ | ⟨x, y, z, d, n, e, f, g⟩
    · exact Or.inl ⟨by rw [pB 192 (by omega) (by omega)]; exact x, y⟩
    · refine Or.inr ⟨by rw [pB 192 (by omega) (by omega)]; exact x, y, z, d, n, e, f, ?_⟩
      rw [pB 193 (by omega) (by omega)]
      have key : ∀ (d : Nat) (k i j : Int) (n : Nat), Rep (mf (16 + 1)) (mf (16 + 2)) (mem 140) d k i j n → Rep (mf (16 + 1)) (mf (16 + 2)) A' d k i j n := by
        intro d
        induction d with
        | zero => intro k i j n r; exact r
        | succ d ih =>
          intro k i j n r
          unfold Rep at r ⊢
          obtain ⟨hk, r⟩ := r
          refine ⟨hk, ?_⟩
          rw [pB (194 + 4 * k) (by omega) (by omega), pB (195 + 4 * k) (by omega) (by omega), pB (196 + 4 * k) (by omega) (by omega), pB (197 + 4 * k) (by omega) (by omega), pA 2 (by omega) (by omega)]
          rcases r with ⟨a, b, c⟩ | ⟨m, n1, n2, a, b, c, e⟩ | r
          · exact Or.inl ⟨a, b, ih _ _ _ _ c⟩
          · exact Or.inr (Or.inl ⟨m, n1, n2, a, b, ih _ _ _ _ c, ih _ _ _ _ e⟩)
          · exact Or.inr (Or.inr r)
      exact key _ _ _ _ _ g
  · rw [f0]
    refine rH_snap b o os rfl pA (by rw [h53 53 (by omega) (by omega), k1]) (by rw [h53 53 (by omega) (by omega), k2]) (vS_mem (fun q h1 h2 => h53 q (by omega) (by omega)) k3) (fun q h1 h2 h3 => by rw [h53 q (by omega) (by omega), k4 q (by omega) h3]) (by rw [f4, s2 25, up_eq]) ?_
    intro i i0 i1
    rw [f3, s3 i i0 i1, r0, r1]
/-- an act of the reference's -/
theorem mAct {mem : zMem} {w x y : Int} {A' : Int → Int} {ms : zMem} (h1 : f_X12_why w x y mem = some (0, mem)) (h2 : f_X12_snap mem = some (0, ms)) (h3 : f_X12_live w x y ms = some (0, set140 ms A')) : f_X12_act w x y 1 mem = some (0, set140 ms A') := by
  unfold f_X12_act
  rw [if_neg (by omega), h1]
  simp only [zbind, ↓reduceIte, h2, h3]
theorem mAct_no {mem : zMem} {w x y r : Int} (hr : r ≠ 0) (h1 : f_X12_why w x y mem = some (r, mem)) : f_X12_act w x y 1 mem = some (r, mem) := by
  unfold f_X12_act
  rw [if_neg (by omega), h1]
  simp only [zbind]
  rw [if_neg hr]
theorem mAct_0 (w x y : Int) (mem : zMem) : f_X12_act w x y 0 mem = some (-1, mem) := by
  unfold f_X12_act
  rw [if_pos rfl]
/-- the whole call of an act -/
theorem act_rel {mem : zMem} (R : Rel mem) {A' : Int → Int} (pA : ∀ i, 0 ≤ i → i < 106 → A' i = mem 140 i) (pB : ∀ i, 192 ≤ i → i < 434 → A' i = mem 140 i) (os' : oS A') {act : zMem → Option (Int × zMem)} (hact : ∀ m : zMem, (∀ q, (q < 53 ∨ 94 < q) → m q = mem q) → ∃ m', act m = some (0, m') ∧ vS m' 11 A' ∧ onlyS m m' 11) :
    ∃ mk mc, f_X2_keep 11 mem = some (0, mk) ∧ (∀ q, (q < 53 ∨ 94 < q) → mk q = mem q) ∧ act mk = some (0, mc) ∧ m00 mc 140 = mem 140 ∧ ∃ ms, f_X12_snap (m00 mc) = some (0, ms) ∧ ms 140 = mem 140 ∧ Rel (set140 ms A') := by
  obtain ⟨a, b, c⟩ := R
  obtain ⟨mk, mc, k0, k1, k2, k3, k4⟩ := act_ok a b pA pB os' hact
  have e : m00 mc 140 = mem 140 := by rw [m00_off (by omega), k3 140 (by omega) (by omega)]
  obtain ⟨ms, s0, s1, s2, s3⟩ := k4 (m00 mc) e (by rw [m00_off (by omega), k3 143 (by omega) (by omega)]) (by rw [m00_at (by omega), k3 138 (by omega) (by omega)])
  refine ⟨mk, mc, k0, k1, k2, e, ms, s0, by rw [s1 140 (by omega) (by omega), e], ?_⟩
  have f1 : ∀ q, q ≠ 140 → q ≠ 143 → q ≠ 138 → set140 ms A' q = mc q := fun q a b c => by rw [set140_off a, s1 q b c, m00_off c]
  obtain ⟨g1, g2⟩ := s3 (set140 ms A') (set140_at ms A') (by rw [f1 145 (by omega) (by omega) (by omega), k3 145 (by omega) (by omega)]) (fun q hq => f1 q (by omega) (by omega) (by omega)) (set140_off (by omega)) (by rw [set140_off (by omega)])
  refine ⟨g1, g2, rO_mem ⟨fun q hq => by rw [f1 q (by omega) (by omega) (by omega), k3 q (by omega) (by omega)], by rw [f1 1 (by omega) (by omega) (by omega), k3 1 (by omega) (by omega)], fun i _ => by rw [f1 45 (by omega) (by omega) (by omega), k3 45 (by omega) (by omega)], fun i hi => ?_⟩ c⟩
  rw [set140_off (by omega), s2 i (by omega), m00_at (by omega), k3 138 (by omega) (by omega)]
theorem qGo {mem : zMem} (R : Rel mem) (p s : Int) : okC (f_X11_go p s) (f_X12_go_ p s) mem := by
  obtain ⟨o, os, v, w, _⟩ := R.1
  have e : m00 mem 140 = mem 140 := m00_off (by omega)
  have o' : oP (m00 mem 140) := by rw [e]; exact o
  have os' : oS (m00 mem 140) := by rw [e]; exact os
  by_cases hp : 0 ≤ p ∧ p < mem 140 3
  · by_cases hs : 0 ≤ s ∧ s ≤ 3
    · by_cases hw : wGo (mem 140) p s = 0
      · obtain ⟨mk, mc, k0, k1, k2, e1, ms, s0, s1, s2⟩ := act_rel R (A' := goA (mem 140) p s) (goA_p hp.1) (fun i a b => by unfold goA; have := o.1; rw [up_ne (by omega), up_ne (by omega)]) (oS_go o os hp hw) (act := f_X3_makeStep 20 p s) (fun m hm => cMakeStep IL_20 (vP_mem (fun q _ _ => hm q (by omega)) v) (vS_mem (fun q _ _ => hm q (by omega)) w) o os hp hs hw)
        have o2 : oP (m00 mc 140) := by rw [e1]; exact o
        have os2 : oS (m00 mc 140) := by rw [e1]; exact os
        refine ⟨0, mc, _, ?_, ?_, s2⟩
        · unfold f_X11_go
          simp only [cHasPerson v o, zbind, bi0, cWhyNotStep IL_20 v w o os hp hs, hw, k0, k2]
          rw [if_pos hp, if_neg (by omega), if_pos (by omega), if_pos trivial]
        · unfold f_X12_go_
          simp only [pipe, m00_eq, mIsPerson o2, mIsIn, zbind, bi0, e1]
          rw [if_pos hp, if_pos (by omega), mAct (A' := goA (mem 140) p s) ?_ s0 ?_]
          · have := mWhyGo (mem := m00 mc) o2 os2 (p := p) (s := s) (by rw [e1]; exact hp) hs
            unfold f_X12_why
            rw [if_pos rfl, this, e1, hw]
            rfl
          · have := mGo (mem := ms) (by rw [s1]; exact o) (by rw [s1]; exact os) (p := p) (s := s) (by rw [s1]; exact hp) hs
            rw [this, s1]
      · refine okQ R (wGo (mem 140) p s) ?_ ?_
        · unfold f_X11_go
          simp only [cHasPerson v o, zbind, bi0, cWhyNotStep IL_20 v w o os hp hs]
          rw [if_pos hp, if_neg (by omega), if_pos (by omega), if_neg hw]
        · unfold f_X12_go_
          simp only [pipe, m00_eq, mIsPerson o', mIsIn, zbind, bi0, e]
          rw [if_pos hp, if_pos (by omega), mAct_no hw ?_]
          have := mWhyGo (mem := m00 mem) o' os' (p := p) (s := s) (by rw [e]; exact hp) hs
          unfold f_X12_why
          rw [if_pos rfl, this, e]
          rfl
    · refine okQ R (-1) ?_ ?_
      · unfold f_X11_go
        simp only [cHasPerson v o, zbind, bi0]
        rw [if_pos hp]
        by_cases h1 : s < 0
        · rw [if_pos h1]
        · rw [if_neg h1, if_neg (by omega)]
      · unfold f_X12_go_
        simp only [pipe, m00_eq, mIsPerson o', mIsIn, zbind, bi0, e, mAct_0]
        rw [if_pos hp, if_neg (by omega)]
  · refine okQ R (-1) ?_ ?_
    · unfold f_X11_go
      simp only [cHasPerson v o, zbind, bi0]
      rw [if_neg hp]
    · unfold f_X12_go_
      simp only [pipe, m00_eq, mIsPerson o', mIsIn, zbind, bi0, e, mAct_0]
      rw [if_neg hp]
theorem bi_t {P : Prop} [Decidable P] (h : P) : bi P = 1 := if_pos h
theorem bi_f {P : Prop} [Decidable P] (h : ¬ P) : bi P = 0 := if_neg h
theorem qLay {mem : zMem} (R : Rel mem) (x y : Int) : okC (f_X11_lay x y) (f_X12_lay x y) mem := by
  obtain ⟨o, os, v, w, _⟩ := R.1
  have e : m00 mem 140 = mem 140 := m00_off (by omega)
  have o' : oP (m00 mem 140) := by rw [e]; exact o
  by_cases hc : isC (mem 140) x y
  · obtain ⟨h1, h2, h3, h4⟩ := spot_eq o hc
    by_cases hw : wLay (mem 140) (8 * y + x) = 0
    · obtain ⟨mk, mc, k0, k1, k2, e1, ms, s0, s1, s2⟩ := act_rel R (A' := layA (mem 140) (8 * y + x)) (layA_p h2) (fun i a b => by unfold layA; rw [up_ne (by omega), up_ne (by omega)]) (oS_lay o os ⟨h2, h3⟩ hw) (act := f_X3_layStone 20 (8 * y + x)) (fun m hm => cLayStone IL_20 (vS_mem (fun q _ _ => hm q (by omega)) w) o os h2 h3)
      have o2 : oP (m00 mc 140) := by rw [e1]; exact o
      refine ⟨0, mc, _, ?_, ?_, s2⟩
      · unfold f_X11_lay
        simp only [cHasCell v, zbind, bi0, pipe, h1, cWhyNotLay IL_20 v w o os h2 h3, hw, k0, k2]
        rw [if_pos hc, if_pos trivial]
      · unfold f_X12_lay
        simp only [pipe, m00_eq, mIsCell o2, zbind, e1, h1, bi_t hc]
        rw [mAct (A' := layA (mem 140) (8 * y + x)) ?_ s0 ?_]
        · have := mWhyLay (mem := m00 mc) o2 h2 h3
          unfold f_X12_why
          rw [if_neg (by omega), if_pos rfl, this, e1, hw]
          rfl
        · have := mLay (mem := ms) (by rw [s1]; exact os) 0 h2 h3
          rw [this, s1]
    · refine okQ R (wLay (mem 140) (8 * y + x)) ?_ ?_
      · unfold f_X11_lay
        simp only [cHasCell v, zbind, bi0, pipe, h1, cWhyNotLay IL_20 v w o os h2 h3]
        rw [if_pos hc, if_neg hw]
      · unfold f_X12_lay
        simp only [pipe, m00_eq, mIsCell o', zbind, e, h1, bi_t hc]
        rw [mAct_no hw ?_]
        have := mWhyLay (mem := m00 mem) o' h2 h3
        unfold f_X12_why
        rw [if_neg (by omega), if_pos rfl, this, e]
        rfl
  · refine okQ R (-1) ?_ ?_
    · unfold f_X11_lay
      simp only [cHasCell v, zbind, bi0]
      rw [if_neg hc]
    · unfold f_X12_lay
      simp only [pipe, m00_eq, mIsCell o', zbind, e, bi_f hc, mAct_0]
theorem qTear {mem : zMem} (R : Rel mem) (x y : Int) : okC (f_X11_tear x y) (f_X12_tear x y) mem := by
  obtain ⟨o, os, v, w, _⟩ := R.1
  have e : m00 mem 140 = mem 140 := m00_off (by omega)
  have o' : oP (m00 mem 140) := by rw [e]; exact o
  by_cases hc : isC (mem 140) x y
  · obtain ⟨h1, h2, h3, h4⟩ := spot_eq o hc
    have why : ∀ m : zMem, m 140 = mem 140 → f_X12_why 2 (8 * y + x) 0 m = some (wTear (mem 140) (8 * y + x), m) := by
      intro m em
      unfold f_X12_why wTear
      rw [if_neg (by omega), if_neg (by omega), if_pos rfl, w32_id (x := 128 + (8 * y + x)) ⟨by omega, by omega⟩, ixl (by omega), em]
      split <;> rfl
    by_cases hw : wTear (mem 140) (8 * y + x) = 0
    · obtain ⟨mk, mc, k0, k1, k2, e1, ms, s0, s1, s2⟩ := act_rel R (A' := tearA (mem 140) (8 * y + x)) (tearA_p h2) (fun i a b => by unfold tearA; rw [up_ne (by omega)]) (oS_tear o os ⟨h2, h3⟩ hw) (act := f_X3_tearStone 20 (8 * y + x)) (fun m hm => cTearStone IL_20 (vS_mem (fun q _ _ => hm q (by omega)) w) o os h2 h3)
      have o2 : oP (m00 mc 140) := by rw [e1]; exact o
      refine ⟨0, mc, _, ?_, ?_, s2⟩
      · unfold f_X11_tear
        simp only [cHasCell v, zbind, bi0, pipe, h1, cWhyNotTear IL_20 w os h2 h3, hw, k0, k2]
        rw [if_pos hc, if_pos trivial]
      · unfold f_X12_tear
        simp only [pipe, m00_eq, mIsCell o2, zbind, e1, h1, bi_t hc]
        rw [mAct (A' := tearA (mem 140) (8 * y + x)) ?_ s0 ?_]
        · rw [why _ e1, hw]
        · have := mTear (mem := ms) (by rw [s1]; exact os) 0 h2 h3
          rw [this, s1]
    · refine okQ R (wTear (mem 140) (8 * y + x)) ?_ ?_
      · unfold f_X11_tear
        simp only [cHasCell v, zbind, bi0, pipe, h1, cWhyNotTear IL_20 w os h2 h3]
        rw [if_pos hc, if_neg hw]
      · unfold f_X12_tear
        simp only [pipe, m00_eq, mIsCell o', zbind, e, h1, bi_t hc]
        rw [mAct_no hw (why _ e)]
  · refine okQ R (-1) ?_ ?_
    · unfold f_X11_tear
      simp only [cHasCell v, zbind, bi0]
      rw [if_neg hc]
    · unfold f_X12_tear
      simp only [pipe, m00_eq, mIsCell o', zbind, e, bi_f hc, mAct_0]
theorem buryA_q {A : Int → Int} {h : Int} (hh : 0 ≤ h ∧ h < 5) : ∀ i, 192 ≤ i → i < 434 → buryA A h i = A i := by
  intro i a b
  unfold buryA finB
  rw [up_ne (by omega), up_ne (by omega), up_ne (by omega), addW_off (by omega) (by omega) (by omega)]
theorem mWhyBury {mem : zMem} (h y : Int) : f_X12_why 3 h y mem = some (wBury (mem 140) h, mem) := by
  unfold f_X12_why
  rw [if_neg (by omega), if_neg (by omega), if_neg (by omega), mIsBuried]
  simp only [zbind]
  unfold wBury
  split <;> simp
theorem mLiveBury {mem : zMem} (o : oP (mem 140)) (os : oS (mem 140)) {h : Int} (y : Int) (hh : 0 ≤ h ∧ h < mem 140 2) : f_X12_live 3 h y mem = some (0, set140 mem (buryA (mem 140) h)) := by
  unfold f_X12_live
  rw [if_neg (by omega), if_neg (by omega), if_neg (by omega), mDoBury o os hh]
  rfl
theorem qBury {mem : zMem} (R : Rel mem) (h : Int) : okC (f_X11_bury h) (f_X12_bury h) mem := by
  obtain ⟨o, os, v, w, _⟩ := R.1
  have o1 := o.1
  have e : m00 mem 140 = mem 140 := m00_off (by omega)
  have o' : oP (m00 mem 140) := by rw [e]; exact o
  by_cases hc : 0 ≤ h ∧ h < mem 140 2
  · by_cases hw : wBury (mem 140) h = 0
    · obtain ⟨mk, mc, k0, k1, k2, e1, ms, s0, s1, s2⟩ := act_rel R (A' := buryA (mem 140) h) (buryA_p hc.1) (buryA_q (by omega)) (oS_bury o os hc) (act := f_X3_buryHouse 20 h) (fun m hm => cBuryHouse IL_20 (vP_mem (fun q _ _ => hm q (by omega)) v) (vS_mem (fun q _ _ => hm q (by omega)) w) o os hc)
      have o2 : oP (m00 mc 140) := by rw [e1]; exact o
      refine ⟨0, mc, _, ?_, ?_, s2⟩
      · unfold f_X11_bury
        simp only [cHasHouse v o, zbind, bi0, cWhyNotBury IL_20 w, hw, k0, k2]
        rw [if_pos hc, if_pos trivial]
      · unfold f_X12_bury
        simp only [pipe, m00_eq, mIsHouse o2, zbind, e1, bi_t hc]
        rw [mAct (A' := buryA (mem 140) h) ?_ s0 ?_]
        · rw [mWhyBury, e1, hw]
        · have := mLiveBury (mem := ms) (by rw [s1]; exact o) (by rw [s1]; exact os) 0 (h := h) (by rw [s1]; exact hc)
          rw [this, s1]
    · refine okQ R (wBury (mem 140) h) ?_ ?_
      · unfold f_X11_bury
        simp only [cHasHouse v o, zbind, bi0, cWhyNotBury IL_20 w]
        rw [if_pos hc, if_neg hw]
      · unfold f_X12_bury
        simp only [pipe, m00_eq, mIsHouse o', zbind, e, bi_t hc]
        rw [mAct_no hw (by rw [mWhyBury, e])]
  · refine okQ R (-1) ?_ ?_
    · unfold f_X11_bury
      simp only [cHasHouse v o, zbind, bi0]
      rw [if_neg hc]
    · unfold f_X12_bury
      simp only [pipe, m00_eq, mIsHouse o', zbind, e, bi_f hc, mAct_0]
theorem qHours {mem : zMem} (R : Rel mem) (n : Int) : okC (f_X11_hours n) (f_X12_hours n) mem := by
  obtain ⟨o, os, v, w, _⟩ := R.1
  have o1 := o.1
  have os1 := os.1
  have e : m00 mem 140 = mem 140 := m00_off (by omega)
  have w2 : mem 11 5 = mem 140 106 := w.1.2.1
  by_cases hn : 1 ≤ n ∧ n ≤ 60
  · have hg : zmin n (w32 (400 - mem 11 5)) = if n ≥ 400 - mem 140 106 then 400 - mem 140 106 else n := by
      unfold zmin
      rw [w2, w32_id ⟨by omega, by omega⟩]
      by_cases h : 400 - mem 140 106 < n
      · rw [if_pos h, if_pos (by omega)]
      · rw [if_neg h]
        split <;> omega
    by_cases hz : mem 140 106 = 400
    · refine okQ R 0 ?_ ?_
      · unfold f_X11_hours
        rw [if_neg (by omega), if_pos (by omega), hg, if_pos (by omega)]
        simp only [pipe]
        rw [if_pos (by omega), hz]
        rfl
      · unfold f_X12_hours
        simp only [pipe, m00_eq, mIsIn, zbind, bi0, e]
        rw [if_pos (by omega), ixl (by omega), if_pos hz]
    · generalize hk : (if n ≥ 400 - mem 140 106 then 400 - mem 140 106 else n) = k at hg
      have hk0 : 0 < k ∧ mem 140 106 + k ≤ 400 := by
        rw [← hk]
        split <;> omega
      obtain ⟨mk, mc, k0, k1, k2, e1, ms, s0, s1, s2⟩ := act_rel R (A' := up (mem 140) 106 (mem 140 106 + k)) (fun i a b => up_ne (by omega)) (fun i a b => up_ne (by omega)) (oS_hour o os ⟨by omega, by omega⟩) (act := fun m => some (0, zup m 11 5 (w32 (m 11 5 + k)))) (fun m hm => by
        refine ⟨_, rfl, ?_, onlyS_up (by omega)⟩
        rw [hm 11 (by omega), w2, w32_id ⟨by omega, by omega⟩]
        exact vS_f (vS_mem (fun q _ _ => hm q (by omega)) w) (by omega) (by omega) _ (by omega))
      refine ⟨k, mc, _, ?_, ?_, s2⟩
      · unfold f_X11_hours
        rw [if_neg (by omega), if_pos (by omega), hg]
        simp only [pipe, k0, zbind]
        rw [if_neg (by omega)]
        simp only [Option.some.injEq, Prod.mk.injEq, true_and] at k2
        rw [k2]
      · unfold f_X12_hours f_X12_passHours f_X12_least
        simp only [pipe, m00_eq, mIsIn, zbind, bi0, e1]
        rw [if_pos (by omega), ixl (by omega), if_neg hz, s0]
        simp only [s1]
        rw [ixl (by omega), w32_id (x := 400 - mem 140 106) ⟨by omega, by omega⟩]
        have : (if n ≥ 400 - mem 140 106 then some (400 - mem 140 106, ms) else some (n, ms)) = some (k, ms) := by
          rw [← hk]
          split <;> rfl
        rw [this]
        simp only [s1]
        rw [ixl (by omega), ixl (by omega), zup_140, s1, w32_id ⟨by omega, by omega⟩]
  · refine okQ R (-1) ?_ ?_
    · unfold f_X11_hours
      by_cases h : n < 1
      · rw [if_pos h]
      · rw [if_neg h, if_neg (by omega)]
    · unfold f_X12_hours
      simp only [pipe, m00_eq, mIsIn, zbind, bi0, e]
      rw [if_neg (by omega)]
theorem qUndo {mem : zMem} (R : Rel mem) : okC f_X11_undo f_X12_undo mem := by
  obtain ⟨a, b, c⟩ := R
  obtain ⟨o, os, v, w, nn, ss⟩ := a
  have o1 := o.1
  have b1 := b.1
  by_cases hz : mem 53 2 = 0
  · refine okQ ⟨⟨o, os, v, w, nn, ss⟩, b, c⟩ (-1) ?_ ?_
    · unfold f_X11_undo f_X2_bringBack
      rw [if_pos hz]
      rfl
    · unfold f_X12_undo
      simp only [pipe, m00_eq]
      rw [m00_at (by omega), b1.2.2.2.2, if_pos hz]
  · obtain ⟨mc, e1, e2, e3, e4, e5⟩ := cBringBack b o hz
    have r5 := b1.2.2.2.2
    have h25 : zup (m00 mc) 138 25 (w32 (m00 mc 138 25 - 1)) 138 25 = mem 53 2 - 1 := by
      rw [zup_same, if_pos rfl, m00_at (by omega), e5 138 (by omega) (by omega), r5, w32_id ⟨by omega, by omega⟩]
    have u0 := mUndo_0 (mem := zup (m00 mc) 138 25 (w32 (m00 mc 138 25 - 1))) h25 (by omega) (by omega)
    have h140 : zup (m00 mc) 138 25 (w32 (m00 mc 138 25 - 1)) 140 = mem 140 := by rw [zup_off (by omega), m00_off (by omega), e5 140 (by omega) (by omega)]
    have h143 : zup (m00 mc) 138 25 (w32 (m00 mc 138 25 - 1)) 143 = mem 143 := by rw [zup_off (by omega), m00_off (by omega), e5 143 (by omega) (by omega)]
    have hsn : snA (zup (m00 mc) 138 25 (w32 (m00 mc 138 25 - 1))) (mem 140) (mem 53 2 - 1) = snA mem (mem 140) (mem 53 2 - 1) := by
      unfold snA
      rw [h143]
    rw [h140, hsn] at u0
    refine ⟨mem 53 2 - 1, mc, set140 (zup (m00 mc) 138 25 (w32 (m00 mc 138 25 - 1))) (snA mem (mem 140) (mem 53 2 - 1)), ?_, ?_, ?_⟩
    · unfold f_X11_undo
      rw [e1]
      simp only [zbind]
      rw [if_neg (by omega), e3]
    · unfold f_X12_undo
      simp only [pipe, m00_eq]
      rw [if_neg (by rw [m00_at (by omega), e5 138 (by omega) (by omega)]; omega), u0]
    · generalize hB : snA mem (mem 140) (mem 53 2 - 1) = B at *
      have f1 : ∀ q, q ≠ 140 → q ≠ 138 → set140 (zup (m00 mc) 138 25 (w32 (m00 mc 138 25 - 1))) B q = mc q := fun q a b => by rw [set140_off a, zup_off b, m00_off b]
      have f2 : ∀ i, i ≠ 0 → i ≠ 25 → set140 (zup (m00 mc) 138 25 (w32 (m00 mc 138 25 - 1))) B 138 i = mem 138 i := fun i a b => by rw [set140_off (by omega), zup_same, if_neg b, m00_at a, e5 138 (by omega) (by omega)]
      have f3 : ∀ q, q ≠ 140 → q ≠ 138 → q ≠ 53 → (q < 11 ∨ 15 < q) → set140 (zup (m00 mc) 138 25 (w32 (m00 mc 138 25 - 1))) B q = mem q := fun q a b c d => by rw [f1 q a b, e5 q c d]
      have pB : ∀ i, (i < 106 ∨ 192 ≤ i) → B i = mem 140 i := fun i hi => by rw [← hB]; unfold snA; rw [if_neg (by omega)]
      have osB : oS B := by
        have := (b.2 (mem 53 2 - 1) (by omega) (by omega)).2
        rw [hB] at this
        exact this
      refine ⟨?_, ?_, rO_mem ⟨fun q hq => f3 q (by omega) (by omega) (by omega) (by omega), by rw [f3 1 (by omega) (by omega) (by omega) (by omega)], fun i _ => by rw [f3 45 (by omega) (by omega) (by omega) (by omega)], fun i hi => f2 i (by omega) (by omega)⟩ c⟩
      · rw [set140_at, f3 145 (by omega) (by omega) (by omega) (by omega)]
        refine ⟨oP_of (fun i _ h => pB i (by omega)) o, osB, vP_of (fun i _ h => pB i (by omega)) o (vP_mem (fun q h1 h2 => f3 q (by omega) (by omega) (by omega) (by omega)) v), vS_mem (fun q h1 h2 => f1 q (by omega) (by omega)) e4, rN_cg o (pB 2 (by omega)) (pB 3 (by omega)) (fun _ _ _ => rfl) (rN_mem (fun q h1 h2 => f3 q (by omega) (by omega) (by omega) (by omega)) nn), ?_⟩
        have s' := rS_mem (m' := set140 (zup (m00 mc) 138 25 (w32 (m00 mc 138 25 - 1))) B) (fun q h1 h2 => f3 q (by omega) (by omega) (by omega) (by omega)) ss
        rcases s' with ⟨x, y⟩ | ⟨x, y, z, d, n, e, f, g⟩
        · exact Or.inl ⟨by rw [pB 192 (by omega)]; exact x, y⟩
        · refine Or.inr ⟨by rw [pB 192 (by omega)]; exact x, y, z, d, n, e, f, ?_⟩
          rw [pB 193 (by omega)]
          exact Rep_cg2 (fun i hi => pB i hi) _ _ _ _ _ g
      · rw [set140_at]
        exact rH_undo b o hz (fun i _ h => pB i (by omega)) (by rw [f1 53 (by omega) (by omega), e2]) (by rw [f1 53 (by omega) (by omega), e3]) (fun q h1 h2 => f3 q (by omega) (by omega) (by omega) (by omega)) (by rw [set140_off (by omega), h25]) (by rw [set140_off (by omega), h143])
