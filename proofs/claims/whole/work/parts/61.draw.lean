/-! draws -/
theorem zush_8 (x : Int) : 0 ≤ zush x 8 ∧ zush x 8 < 16777216 := by
  have h : ((i32 x).toUInt32 >>> ((i32 8).toUInt32 &&& Int32.toUInt32 31)).toNat < 16777216 := by
    rw [UInt32.toNat_shiftRight]
    have e : ((i32 8).toUInt32 &&& Int32.toUInt32 31).toNat % 32 = 8 := by decide
    rw [e, Nat.shiftRight_eq_div_pow]
    have := (i32 x).toUInt32.toNat_lt
    omega
  have e : zush x 8 = (((i32 x).toUInt32 >>> ((i32 8).toUInt32 &&& Int32.toUInt32 31)).toNat : Int) := by
    unfold zush
    exact BitVec.toInt_eq_toNat_of_lt (by
      show 2 * ((i32 x).toUInt32 >>> ((i32 8).toUInt32 &&& Int32.toUInt32 31)).toNat < 2 ^ 32
      omega)
  omega
def nxs (x : Int) : Int := w32 (w32 (x * 1103515245) + 12345)
def drw (x n : Int) : Int := zrem (zush x 8) n
theorem drw_r (x : Int) {n : Int} (h0 : 0 < n) (h1 : n ≤ 1000) : 0 ≤ drw x n ∧ drw x n < n := by
  have h := zush_8 x
  unfold drw
  rw [zrem_nn h.1 (by omega) h0 (by omega)]
  exact ⟨Int.emod_nonneg _ (by omega), Int.emod_lt_of_pos _ h0⟩
def pq (A A' : Int → Int) : Prop := ∀ i, (i < 106 ∨ 192 ≤ i) → A' i = A i
theorem pq_t {A B C : Int → Int} (h1 : pq A B) (h2 : pq B C) : pq A C := fun i hi => (h2 i hi).trans (h1 i hi)
theorem pq_r (A : Int → Int) : pq A A := fun _ _ => rfl
theorem pq_P {A B : Int → Int} (h : pq A B) (o : oP A) : oP B := oP_of (fun i _ b => h i (by omega)) o
theorem pq_V {A B : Int → Int} {mem : zMem} {pl : Nat} (h : pq A B) (o : oP A) (v : vP mem pl A) : vP mem pl B := vP_of (fun i _ b => h i (by omega)) o v
theorem goA_pq {A : Int → Int} {p s : Int} (hp : 0 ≤ p ∧ p < 6) : pq A (goA A p s) := fun i hi => by
  unfold goA
  rw [up_ne (by omega), up_ne (by omega)]
theorem layA_pq {A : Int → Int} {c : Int} (hc : 0 ≤ c ∧ c < 64) : pq A (layA A c) := fun i hi => by
  unfold layA
  rw [up_ne (by omega), up_ne (by omega)]
theorem tearA_pq {A : Int → Int} {c : Int} (hc : 0 ≤ c ∧ c < 64) : pq A (tearA A c) := fun i hi => by
  unfold tearA
  rw [up_ne (by omega)]
theorem buryA_pq {A : Int → Int} {h : Int} (hh : 0 ≤ h ∧ h < 5) : pq A (buryA A h) := fun i hi => by
  unfold buryA finB
  rw [up_ne (by omega), up_ne (by omega), up_ne (by omega), addW_off (by omega) (by omega) (by omega)]
theorem hour_pq {A : Int → Int} (v : Int) : pq A (up A 106 v) := fun i hi => up_ne (by omega)
theorem goA_106 {A : Int → Int} {p s : Int} (hp : 0 ≤ p) : goA A p s 106 = A 106 := by unfold goA; rw [up_ne (by omega), up_ne (by omega)]
theorem layA_106 {A : Int → Int} {c : Int} (hc : 0 ≤ c) : layA A c 106 = A 106 := by unfold layA; rw [up_ne (by omega), up_ne (by omega)]
theorem tearA_106 {A : Int → Int} {c : Int} (hc : 0 ≤ c) : tearA A c 106 = A 106 := by unfold tearA; rw [up_ne (by omega)]
theorem buryA_106 {A : Int → Int} {h : Int} (hh : 0 ≤ h) : buryA A h 106 = A 106 := by
  unfold buryA finB
  rw [up_ne (by omega), up_ne (by omega), up_ne (by omega), addW_off (by omega) (by omega) (by omega)]
/-! the trial island of the class, the row of the reference -/
def Cs (m : zMem) (A : Int → Int) (x : Int) : Prop := vP m 4 A ∧ vS m 22 A ∧ m 101 0 = x
def Rs (r : zMem) (A : Int → Int) (x : Int) : Prop := r 140 = A ∧ r 138 37 = x
def frC (m m' : zMem) : Prop := ∀ q, (q < 22 ∨ 26 < q) → q ≠ 101 → m' q = m q
def frR (r r' : zMem) : Prop := (∀ q, q ≠ 138 → q ≠ 140 → r' q = r q) ∧ ∀ i, i ≠ 37 → r' 138 i = r 138 i
theorem frC_t {a b c : zMem} (h1 : frC a b) (h2 : frC b c) : frC a c := fun q x y => (h2 q x y).trans (h1 q x y)
theorem frR_t {a b c : zMem} (h1 : frR a b) (h2 : frR b c) : frR a c := ⟨fun q x y => (h2.1 q x y).trans (h1.1 q x y), fun i x => (h2.2 i x).trans (h1.2 i x)⟩
theorem frC_r (a : zMem) : frC a a := fun _ _ _ => rfl
theorem frR_r (a : zMem) : frR a a := ⟨fun _ _ _ => rfl, fun _ _ => rfl⟩
theorem frC_S {m m' : zMem} (h : onlyS m m' 22) : frC m m' := fun q a _ => h q (by omega)
theorem frR_140 (r : zMem) (A : Int → Int) : frR r (set140 r A) := ⟨fun q _ b => set140_off b, fun i _ => by rw [set140_off (by omega)]⟩
theorem cDraw {m : zMem} {A : Int → Int} {x : Int} (c : Cs m A x) {n : Int} (hn : 0 < n) : ∃ m', f_X1_draw n m = some (drw (nxs x) n, m') ∧ Cs m' A (nxs x) ∧ frC m m' := by
  obtain ⟨c1, c2, c3⟩ := c
  refine ⟨zup m 101 0 (nxs x), ?_, ⟨vP_mem (fun q _ _ => zup_off (by omega)) c1, vS_mem (fun q _ _ => zup_off (by omega)) c2, by rw [zup_same, if_pos rfl]⟩, fun q _ b => zup_off b⟩
  unfold f_X1_draw
  simp only [pipe]
  rw [c3, if_neg (by omega), if_neg (by omega), zup_same, if_pos rfl]
  rfl
theorem mDraw {r : zMem} {A : Int → Int} {x : Int} (c : Rs r A x) {n : Int} (hn : 0 < n) : ∃ r', f_X12_draw n r = some (drw (nxs x) n, r') ∧ Rs r' A (nxs x) ∧ frR r r' := by
  obtain ⟨c1, c2⟩ := c
  refine ⟨zup r 138 37 (nxs x), ?_, ⟨by rw [zup_off (by omega)]; exact c1, by rw [zup_same, if_pos rfl]⟩, fun q a _ => zup_off a, fun i hi => by rw [zup_same, if_neg hi]⟩
  unfold f_X12_draw
  simp only [pipe]
  rw [c2, if_neg (by omega), zup_same, if_pos rfl]
  rfl
theorem frC_S101 {m m' : zMem} (h : onlyS m m' 22) : m' 101 = m 101 := h 101 (by omega)
theorem Cs_S {m m' : zMem} {A A' : Int → Int} {x : Int} (o : oP A) (h : pq A A') (c : Cs m A x) (v : vS m' 22 A') (hs : onlyS m m' 22) : Cs m' A' x := ⟨pq_V h o (vP_mem (fun q _ _ => hs q (by omega)) c.1), v, by rw [frC_S101 hs]; exact c.2.2⟩
theorem Rs_140 {r : zMem} {A A' : Int → Int} {x : Int} (c : Rs r A x) : Rs (set140 r A') A' x := ⟨set140_at r A', by rw [set140_off (by omega)]; exact c.2⟩
/-- one person's draws -/
theorem live_p {A : Int → Int} {x p : Int} (o : oP A) (os : oS A) (hp : 0 ≤ p ∧ p < A 3) : ∃ A' x', pq A A' ∧ oS A' ∧ A' 106 = A 106 ∧ (∀ m, Cs m A x → ∃ m', f_X1_livePerson 21 p m = some (0, m') ∧ Cs m' A' x' ∧ frC m m') ∧ (∀ r, Rs r A x → ∃ r', f_X12_drawsFor p r = some (0, r') ∧ Rs r' A' x' ∧ frR r r') := by
  have o1 := o.1
  have d6 := drw_r (nxs x) (n := 6) (by omega) (by omega)
  have r0 : sRf 21 0 = 4 := rfl
  by_cases h4 : drw (nxs x) 6 ≥ 4
  · by_cases he : drw (nxs x) 6 = 4
    · have dw := drw_r (nxs (nxs x)) (n := A 0) (by omega) (by omega)
      have dh := drw_r (nxs (nxs (nxs x))) (n := A 1) (by omega) (by omega)
      have hw : w32 (w32 (8 * drw (nxs (nxs (nxs x))) (A 1)) + drw (nxs (nxs x)) (A 0)) = 8 * drw (nxs (nxs (nxs x))) (A 1) + drw (nxs (nxs x)) (A 0) := by
        rw [w32_id (x := 8 * drw (nxs (nxs (nxs x))) (A 1)) ⟨by omega, by omega⟩, w32_id ⟨by omega, by omega⟩]
      generalize hc : 8 * drw (nxs (nxs (nxs x))) (A 1) + drw (nxs (nxs x)) (A 0) = c at *
      have hc64 : 0 ≤ c ∧ c < 64 := by omega
      refine ⟨if wLay A c = 0 then layA A c else A, nxs (nxs (nxs x)), ?_, ?_, ?_, fun m hm => ?_, fun r hr => ?_⟩
      · split
        · exact layA_pq hc64
        · exact pq_r A
      · split
        · rename_i hl; exact oS_lay o os hc64 hl
        · exact os
      · split
        · exact layA_106 hc64.1
        · rfl
      · obtain ⟨m1, a1, a2, a3⟩ := cDraw hm (n := 6) (by omega)
        obtain ⟨m2, b1, b2, b3⟩ := cDraw a2 (n := A 0) (by omega)
        obtain ⟨m3, c1, c2, c3⟩ := cDraw b2 (n := A 1) (by omega)
        have e0 : m1 4 0 = A 0 := a2.1.1.1
        have e1 : m2 4 1 = A 1 := b2.1.1.2.1
        have u : f_X1_livePerson 21 p m = if wLay A c = 0 then (zbind (f_X3_layStone 21 c m3) fun _ m15 => some (0, m15)) else some (0, m3) := by
          unfold f_X1_livePerson
          simp only [a1, zbind, r0, e0]
          rw [if_pos h4, if_pos he, b1]
          simp only [e1]
          rw [c1]
          simp only [pipe, hw, cWhyNotLay IL_21 c2.1 c2.2.1 o os hc64.1 hc64.2]
        rw [u]
        by_cases hl : wLay A c = 0
        · obtain ⟨m4, d1, d2, d3⟩ := cLayStone IL_21 c2.2.1 o os hc64.1 hc64.2
          rw [if_pos hl, if_pos hl, d1]
          exact ⟨m4, rfl, Cs_S o (layA_pq hc64) c2 d2 d3, frC_t (frC_t (frC_t a3 b3) c3) (frC_S d3)⟩
        · rw [if_neg hl, if_neg hl]
          exact ⟨m3, rfl, c2, frC_t (frC_t a3 b3) c3⟩
      · obtain ⟨m1, a1, a2, a3⟩ := mDraw hr (n := 6) (by omega)
        obtain ⟨m2, b1, b2, b3⟩ := mDraw a2 (n := A 0) (by omega)
        obtain ⟨m3, c1, c2, c3⟩ := mDraw b2 (n := A 1) (by omega)
        have om : oP (m3 140) := by rw [c2.1]; exact o
        have osm : oS (m3 140) := by rw [c2.1]; exact os
        have hwl := mWhyLay om hc64.1 hc64.2
        rw [c2.1] at hwl
        have hwy : f_X12_why 1 c 0 m3 = some (wLay A c, m3) := by
          unfold f_X12_why
          rw [if_neg (by omega), if_pos rfl, hwl]
          rfl
        have u : f_X12_drawsFor p r = zbind (f_X12_doIf 1 c 0 m3) fun _ m13 => some (0, m13) := by
          unfold f_X12_drawsFor
          simp only [a1, zbind, a2.1]
          rw [if_pos h4, if_pos he, ixl (by omega), b1]
          simp only [b2.1]
          rw [ixl (by omega), c1]
          simp only [hw]
        rw [u]
        unfold f_X12_doIf
        rw [hwy]
        simp only [zbind]
        by_cases hl : wLay A c = 0
        · have := mLay (mem := m3) osm 0 hc64.1 hc64.2
          rw [c2.1] at this
          rw [if_pos hl, if_pos hl, this]
          exact ⟨_, rfl, Rs_140 c2, frR_t (frR_t (frR_t a3 b3) c3) (frR_140 _ _)⟩
        · rw [if_neg hl, if_neg hl]
          exact ⟨m3, rfl, c2, frR_t (frR_t a3 b3) c3⟩
    · refine ⟨A, nxs x, pq_r A, os, rfl, fun m hm => ?_, fun r hr => ?_⟩
      · obtain ⟨m1, a1, a2, a3⟩ := cDraw hm (n := 6) (by omega)
        refine ⟨m1, ?_, a2, a3⟩
        unfold f_X1_livePerson
        simp only [a1, zbind]
        rw [if_pos h4, if_neg he]
      · obtain ⟨m1, a1, a2, a3⟩ := mDraw hr (n := 6) (by omega)
        refine ⟨m1, ?_, a2, a3⟩
        unfold f_X12_drawsFor
        simp only [a1, zbind]
        rw [if_pos h4, if_neg he]
  · generalize hd : drw (nxs x) 6 = d at d6 h4
    have hs : 0 ≤ d ∧ d ≤ 3 := by omega
    refine ⟨if wGo A p (d) = 0 then goA A p (d) else A, nxs x, ?_, ?_, ?_, fun m hm => ?_, fun r hr => ?_⟩
    · split
      · exact goA_pq (by omega)
      · exact pq_r A
    · split
      · rename_i hl; exact oS_go o os hp hl
      · exact os
    · split
      · exact goA_106 hp.1
      · rfl
    · obtain ⟨m1, a1, a2, a3⟩ := cDraw hm (n := 6) (by omega)
      rw [hd] at a1
      unfold f_X1_livePerson
      simp only [a1, zbind]
      rw [if_neg h4, cWhyNotStep IL_21 a2.1 a2.2.1 o os hp hs]
      simp only
      by_cases hl : wGo A p (d) = 0
      · obtain ⟨m4, d1, d2, d3⟩ := cMakeStep IL_21 a2.1 a2.2.1 o os hp hs hl
        rw [if_pos hl, if_pos hl, d1]
        exact ⟨m4, rfl, Cs_S o (goA_pq (by omega)) a2 d2 d3, frC_t a3 (frC_S d3)⟩
      · rw [if_neg hl, if_neg hl]
        exact ⟨m1, rfl, a2, a3⟩
    · obtain ⟨m1, a1, a2, a3⟩ := mDraw hr (n := 6) (by omega)
      rw [hd] at a1
      have om : oP (m1 140) := by rw [a2.1]; exact o
      have osm : oS (m1 140) := by rw [a2.1]; exact os
      have hwl := mWhyGo om osm (p := p) (s := d) (by rw [a2.1]; exact hp) hs
      rw [a2.1] at hwl
      have hwy : f_X12_why 0 p (d) m1 = some (wGo A p (d), m1) := by
        unfold f_X12_why
        rw [if_pos rfl, hwl]
        rfl
      have hdo : ∃ m', f_X12_doIf 0 p (d) m1 = some (0, m') ∧ Rs m' (if wGo A p (d) = 0 then goA A p (d) else A) (nxs x) ∧ frR r m' := by
        unfold f_X12_doIf
        rw [hwy]
        simp only [zbind]
        by_cases hl : wGo A p (d) = 0
        · have := mGo (mem := m1) om osm (p := p) (s := d) (by rw [a2.1]; exact hp) hs
          rw [a2.1] at this
          rw [if_pos hl, if_pos hl, this]
          exact ⟨_, rfl, Rs_140 a2, frR_t a3 (frR_140 _ _)⟩
        · rw [if_neg hl, if_neg hl]
          exact ⟨m1, rfl, a2, a3⟩
      obtain ⟨m', g1, g2, g3⟩ := hdo
      refine ⟨m', ?_, g2, g3⟩
      have u : f_X12_drawsFor p r = if d = 4 then (if ix 140 0 then zbind (f_X12_draw (m' 140 0) m') fun y18 m19 => if ix 140 1 then zbind (f_X12_draw (m19 140 1) m19) fun y22 m23 => zbind (f_X12_doIf 1 (w32 ((w32 (8 * y22)) + y18)) 0 m23) fun _ m24 => some (0, m24) else none else none) else (some (0, m')) := by
        unfold f_X12_drawsFor
        rw [a1, zbind]
        simp only
        rw [if_neg h4, g1, zbind]
      rw [u, if_neg (by omega)]
/-- all persons' -/
theorem live_ps (g i : Int) : ∀ (k : Nat) (A : Int → Int) (x p : Int), oP A → oS A → 0 ≤ p → p + k = A 3 → ∃ A' x', pq A A' ∧ oS A' ∧ A' 106 = A 106 ∧ (∀ m (n : Nat), Cs m A x → k < n → ∃ m' n', n = n' + k ∧ f_X1_liveHours_0 n 1 21 g i p m = f_X1_liveHours_0 n' 1 21 g i (A 3) m' ∧ Cs m' A' x' ∧ frC m m') ∧ (∀ r (n : Nat), Rs r A x → k < n → ∃ r' n', n = n' + k ∧ f_X12_drawHours_0 n 1 g i p r = f_X12_drawHours_0 n' 1 g i (A 3) r' ∧ Rs r' A' x' ∧ frR r r') := by
  intro k
  induction k with
  | zero =>
    intro A x p o os p0 p1
    have : p = A 3 := by omega
    subst this
    exact ⟨A, x, pq_r A, os, rfl, fun m n c _ => ⟨m, n, rfl, rfl, c, frC_r m⟩, fun r n c _ => ⟨r, n, rfl, rfl, c, frR_r r⟩⟩
  | succ k ih =>
    intro A x p o os p0 p1
    have o1 := o.1
    obtain ⟨A1, x1, a1, a2, a3, a4, a5⟩ := live_p (x := x) o os (p := p) ⟨p0, by omega⟩
    have e3 : A1 3 = A 3 := a1 3 (by omega)
    obtain ⟨A2, x2, b1, b2, b3, b4, b5⟩ := ih A1 x1 (p + 1) (pq_P a1 o) a2 (by omega) (by omega)
    refine ⟨A2, x2, pq_t a1 b1, b2, b3.trans a3, fun m n c hn => ?_, fun r n c hn => ?_⟩
    · obtain ⟨n, rfl⟩ : ∃ q, n = q + 1 := ⟨n - 1, by omega⟩
      obtain ⟨m1, c1, c2, c3⟩ := a4 m c
      obtain ⟨m2, n', d0, d1, d2, d3⟩ := b4 m1 n c2 (by omega)
      refine ⟨m2, n', by omega, ?_, d2, frC_t c3 d3⟩
      have e : m (sRf 21 0) 3 = A 3 := c.1.1.2.2.2.1
      show b_X1_liveHours_0 (f_X1_liveHours_0 n) 1 21 g i p m = _
      simp only [b_X1_liveHours_0]
      rw [e, if_neg (by omega), if_neg (by omega), c1]
      simp only [zbind]
      rw [w32_id ⟨by omega, by omega⟩, d1, e3]
    · obtain ⟨n, rfl⟩ : ∃ q, n = q + 1 := ⟨n - 1, by omega⟩
      obtain ⟨m1, c1, c2, c3⟩ := a5 r c
      obtain ⟨m2, n', d0, d1, d2, d3⟩ := b5 m1 n c2 (by omega)
      refine ⟨m2, n', by omega, ?_, d2, frR_t c3 d3⟩
      show b_X12_drawHours_0 (f_X12_drawHours_0 n) 1 g i p r = _
      simp only [b_X12_drawHours_0]
      rw [ixl (by omega), c.1, if_neg (by omega), c1]
      simp only [zbind]
      rw [w32_id ⟨by omega, by omega⟩, d1, e3]
