/-! calls that may be refused -/
def okT (f g : zMem → Option (Int × zMem)) (mem : zMem) (P : Prop) : Prop := (P → ∃ r m1 m2, f mem = some (r, m1) ∧ g m1 = some (r, m2) ∧ m2 138 0 = 0 ∧ Rel m2) ∧ (¬ P → ∃ m2, g mem = some (0, m2) ∧ m2 138 0 = 1 ∧ Rel m2)
theorem Rel_up0 {mem : zMem} (v : Int) (r : Rel mem) : Rel (zup mem 138 0 v) := Rel_mem ⟨fun q h => zup_off (by omega), by rw [zup_off (by omega)], fun i _ => by rw [zup_off (by omega)], fun i h => by rw [zup_same, if_neg (by omega)]⟩ (fun q h => zup_off (by omega)) (by rw [zup_same, if_neg (by omega)]) r
theorem okTQ {f g : zMem → Option (Int × zMem)} {mem : zMem} {P : Prop} (R : Rel mem) (r : Int) (h1 : P → f mem = some (r, mem)) (h2 : P → g mem = some (r, m00 mem)) (h3 : ¬ P → g mem = some (0, zup (m00 mem) 138 0 1)) : okT f g mem P := ⟨fun p => ⟨r, mem, m00 mem, h1 p, h2 p, by unfold m00; rw [zup_same, if_pos rfl], Rel_m00 R⟩, fun p => ⟨_, h3 p, by rw [zup_same, if_pos rfl], Rel_up0 1 (Rel_m00 R)⟩⟩
theorem qHouse {mem : zMem} (R : Rel mem) (h w : Int) : okT (f_X11_house h w) (f_X12_house h w) mem ((0 ≤ h ∧ h < mem 140 2) ∧ 0 ≤ w ∧ w ≤ 5) := by
  have L := l140
  have L5 : sLen 5 = 5 := rfl
  have L6 : sLen 6 = 5 := rfl
  have L15 : sLen 15 = 5 := rfl
  obtain ⟨o, os, v, s, _⟩ := R.1
  have o1 := o.1
  have e : m00 mem 140 = mem 140 := m00_off (by omega)
  have o' : oP (m00 mem 140) := by rw [e]; exact o
  have os' : oS (m00 mem 140) := by rw [e]; exact os
  have hh : 0 ≤ mem 140 106 ∧ mem 140 106 ≤ 400 := ⟨os.1.1, os.1.2.1⟩
  have hs := sunA_r o hh
  refine okTQ R (if w = 0 then zrem (mem 140 (5 + h)) 8 else if w = 1 then zdiv (mem 140 (5 + h)) 8 else if w = 2 then mem 140 (10 + h) else if w = 3 then mem 140 (111 + h) else if w = 4 then wBury (mem 140) h else tcd (mem 140) h (sunA (mem 140))) (fun p => ?_) (fun p => ?_) (fun p => ?_)
  · have v1 : mem 5 h = mem 140 (5 + h) := (v.2.1 h p.1.1 p.1.2).1
    have v2 : mem 6 h = mem 140 (10 + h) := (v.2.1 h p.1.1 p.1.2).2
    have v3 : mem 15 h = mem 140 (111 + h) := s.2.2.2.2 h p.1.1 p.1.2
    have v4 : mem 11 4 = mem 140 107 := s.1.1
    unfold f_X11_house f_X7_isBuried
    simp only [cHasHouse v o, cTableHour IL_20 v s o hh, zbind, bi0, cPersonsTouched IL_20 v s o os p.1 (hs.imp (fun a => a.1) id)]
    have i5 : ix 5 h := ⟨p.1.1, by omega⟩
    have i6 : ix 6 h := ⟨p.1.1, by omega⟩
    have i15 : ix 15 h := ⟨p.1.1, by omega⟩
    rw [if_pos p.1, if_neg (by omega), if_pos (by omega), v1, v2, v3, v4, if_pos i5, if_pos i5, if_pos i6, if_pos i15]
    simp only [wBury]
    rcases (by omega : w = 0 ∨ w = 1 ∨ w = 2 ∨ w = 3 ∨ w = 4 ∨ w = 5) with hw | hw | hw | hw | hw | hw <;> subst hw <;> simp
    by_cases hb : zand (zshr (mem 140 107) h) 1 = 1 <;> simp [hb]
  · unfold f_X12_house
    have t1 := mTouchedBy (mem := m00 mem) o' os' (h := h) (s := sunA (mem 140)) (by rw [e]; exact p.1) (by rw [e]; omega)
    have t2 := mSunNow (mem := m00 mem) o' (by rw [e]; exact hh)
    rw [e] at t1 t2
    simp only [pipe, m00_eq, mIsHouse o', t2, mIsBuried, zbind, bi0, e, t1]
    rw [w32_id (x := 5 + h) ⟨by omega, by omega⟩, w32_id (x := 10 + h) ⟨by omega, by omega⟩, w32_id (x := 111 + h) ⟨by omega, by omega⟩, if_pos p.1, ixl (k := 5 + h) (by omega), ixl (k := 5 + h) (by omega), ixl (k := 10 + h) (by omega), ixl (k := 111 + h) (by omega)]
    simp only [wBury]
    rcases (by omega : w = 0 ∨ w = 1 ∨ w = 2 ∨ w = 3 ∨ w = 4 ∨ w = 5) with hw | hw | hw | hw | hw | hw <;> subst hw <;> simp
    split <;> simp
  · unfold f_X12_house f_X12_refuse
    simp only [pipe, m00_eq]
    rw [mIsHouse o']
    simp only [zbind, bi0]
    rw [e]
    by_cases hp : 0 ≤ h ∧ h < mem 140 2
    · rw [if_pos hp, if_neg (by omega), if_neg (by omega), if_neg (by omega), if_neg (by omega), if_neg (by omega), if_neg (by omega)]
    · rw [if_neg hp]
theorem cSidesOpen {mem : zMem} {t pl sc : Nat} {A : Int → Int} (I : IL t pl sc) (v : vP mem pl A) (w : vS mem sc A) (o : oP A) (os : oS A) {p : Int} (hp : 0 ≤ p ∧ p < A 3) : f_X3_sidesOpen t p mem = some (set0 (fun s => decide (wGo A p s = 0)) 4, mem) := by
  refine lp_set (F := fun n a i => f_X3_sidesOpen_0 n t p a i mem) (fun n x i a b => ?_) (fun n x => ?_) (by omega) (by omega)
  · show b_X3_sidesOpen_0 (f_X3_sidesOpen_0 n) t p x i mem = _
    unfold b_X3_sidesOpen_0
    rw [if_neg (by omega), cWhyNotStep I v w o os hp ⟨a, by omega⟩, w32_id (x := i + 1) ⟨by omega, by omega⟩]
    simp only [zbind, pipe, decide_eq_true_eq]
    split <;> rfl
  · show b_X3_sidesOpen_0 (f_X3_sidesOpen_0 n) t p x 4 mem = _
    unfold b_X3_sidesOpen_0
    rw [if_pos (by omega)]
theorem mSides {mem : zMem} (o : oP (mem 140)) (os : oS (mem 140)) {p : Int} (hp : 0 ≤ p ∧ p < mem 140 3) : f_X12_person_0 zN p 0 0 mem = some (set0 (fun s => decide (wGo (mem 140) p s = 0)) 4, mem) := by
  refine lp_set (F := fun n a i => f_X12_person_0 n p a i mem) (fun n x i a b => ?_) (fun n x => ?_) (by omega) (by omega)
  · show b_X12_person_0 (f_X12_person_0 n) p x i mem = _
    unfold b_X12_person_0
    rw [if_neg (by omega), mWhyGo o os hp ⟨a, by omega⟩, w32_id (x := i + 1) ⟨by omega, by omega⟩]
    simp only [zbind, pipe, decide_eq_true_eq]
    split <;> rfl
  · show b_X12_person_0 (f_X12_person_0 n) p x 4 mem = _
    unfold b_X12_person_0
    rw [if_pos (by omega)]
theorem qPerson {mem : zMem} (R : Rel mem) (h w : Int) : okT (f_X11_person h w) (f_X12_person h w) mem ((0 ≤ h ∧ h < mem 140 3) ∧ 0 ≤ w ∧ w ≤ 4) := by
  have L := l140
  have L5 : sLen 13 = 6 := rfl
  have L6 : sLen 14 = 6 := rfl
  obtain ⟨o, os, v, s, _⟩ := R.1
  have o1 := o.1
  have e : m00 mem 140 = mem 140 := m00_off (by omega)
  have o' : oP (m00 mem 140) := by rw [e]; exact o
  have os' : oS (m00 mem 140) := by rw [e]; exact os
  refine okTQ R (if w = 0 then zrem (mem 140 (116 + h)) 8 else if w = 1 then zdiv (mem 140 (116 + h)) 8 else if w = 2 then mem 140 (122 + h) else if w = 3 then shOn (mem 140) (mem 140 (116 + h)) else set0 (fun s => decide (wGo (mem 140) h s = 0)) 4) (fun p => ?_) (fun p => ?_) (fun p => ?_)
  · have v1 : mem 13 h = mem 140 (116 + h) := s.2.2.1 h p.1.1 p.1.2
    have v2 : mem 14 h = mem 140 (122 + h) := s.2.2.2.1 h p.1.1 (by omega)
    unfold f_X11_person
    simp only [cHasPerson v o, cSidesOpen IL_20 v s o os p.1, zbind, bi0, v1, v2, cHousesTouching IL_20 v s o os (os.2.1 h p.1.1 p.1.2)]
    have i5 : ix 13 h := ⟨p.1.1, by omega⟩
    have i6 : ix 14 h := ⟨p.1.1, by omega⟩
    rw [if_pos p.1, if_neg (by omega), if_pos (by omega), if_pos i5, if_pos i5, if_pos i6, if_pos i5]
    rcases (by omega : w = 0 ∨ w = 1 ∨ w = 2 ∨ w = 3 ∨ w = 4) with hw | hw | hw | hw | hw <;> subst hw <;> simp
  · unfold f_X12_person
    have t1 := mSides (mem := m00 mem) o' os' (p := h) (by rw [e]; exact p.1)
    have t2 := mShadowsOn (mem := m00 mem) o' os' (c := mem 140 (116 + h)) (by rw [e]; exact os.2.1 h p.1.1 p.1.2)
    rw [e] at t1 t2
    simp only [pipe, m00_eq, mIsPerson o', t1, zbind, bi0, e, w32_id (x := 116 + h) ⟨by omega, by omega⟩, w32_id (x := 122 + h) ⟨by omega, by omega⟩, t2]
    rw [if_pos p.1, ixl (k := 116 + h) (by omega), ixl (k := 116 + h) (by omega), ixl (k := 122 + h) (by omega), ixl (k := 116 + h) (by omega)]
    rcases (by omega : w = 0 ∨ w = 1 ∨ w = 2 ∨ w = 3 ∨ w = 4) with hw | hw | hw | hw | hw <;> subst hw <;> simp
  · unfold f_X12_person f_X12_refuse
    simp only [pipe, m00_eq]
    rw [mIsPerson o']
    simp only [zbind, bi0]
    rw [e]
    by_cases hp : 0 ≤ h ∧ h < mem 140 3
    · rw [if_pos hp, if_neg (by omega), if_neg (by omega), if_neg (by omega), if_neg (by omega), if_neg (by omega)]
    · rw [if_neg hp]
/-! shadow, heirs, share, best, longest -/
theorem pop_cast {x : Int} (h0 : 0 ≤ x) (h1 : x < 256) (mem : zMem) : f_X12_bits x mem = some ((popT x.toNat : Int), mem) := by
  have := bits_eq (x := x.toNat) (by omega) mem
  rwa [Int.toNat_of_nonneg h0] at this
theorem pop_castJ {x : Int} (h0 : 0 ≤ x) (h1 : x < 256) (mem : zMem) : f_J6_bitCount_0f7a4 x mem = some ((popT x.toNat : Int), mem) := by
  have := bitCount_eq (x := x.toNat) (by omega) mem
  rwa [Int.toNat_of_nonneg h0] at this
theorem mHas (x k : Int) (mem : zMem) : f_X12_has x k mem = some (bi (zand (zshr x k) 1 = 1), mem) := by
  unfold f_X12_has bi
  split <;> rfl
def prt (A : Int → Int) (p h s : Int) : Int := if zand (zshr (tcd A h s) p) 1 = 1 then (popT (tcd A h s).toNat : Int) else 0
theorem cPartsWith {mem : zMem} {t pl sc : Nat} {A : Int → Int} (I : IL t pl sc) (v : vP mem pl A) (w : vS mem sc A) (o : oP A) (os : oS A) (p : Int) {h s : Int} (hh : 0 ≤ h ∧ h < A 2) (hs : s = -1 ∨ (0 ≤ s ∧ s < A 4)) : f_X3_partsWith t p h s mem = some (prt A p h s, mem) := by
  have tr := tcd_r o h s
  unfold f_X3_partsWith prt
  rw [cPersonsTouched I v w o os hh hs]
  simp only [zbind]
  rw [pop_castJ tr.1 tr.2]
  simp only
  split <;> rfl
theorem has_tcd {A : Int → Int} (o : oP A) {h s p : Int} (hp : 0 ≤ p ∧ p < A 3) : (zand (zshr (tcd A h s) p) 1 = 1) ↔ s ≠ -1 ∧ tch A h s (A (116 + p)) = true := by
  have o1 := o.1
  obtain ⟨n, rfl⟩ : ∃ n : Nat, p = (n : Int) := ⟨p.toNat, by omega⟩
  unfold tcd
  by_cases hs : s = -1
  · rw [if_pos hs]
    have := has_bit n (by omega) 0 (by omega)
    simp only [Int.ofNat_zero, Int.natCast_zero] at this
    simp [hs, this]
  · rw [if_neg hs, set0_bset _ (by omega) (by omega)]
    have hl := bset_lt (fun k => tch A h s (A (116 + (k : Int)))) (A 3).toNat
    have h2 : 2 ^ (A 3).toNat ≤ 2 ^ 8 := Nat.pow_le_pow_right (by omega) (by omega)
    rw [has_bit n (by omega) _ (by omega), bset_bit]
    simp [hs]
    intro _
    omega
theorem popT_1 : ∀ x : Nat, x < 256 → ∀ p : Nat, p < 8 → zand (zshr (x : Int) (p : Int)) 1 = 1 → 1 ≤ popT x := by decide +kernel
theorem prt_0 {A : Int → Int} (o : oP A) {h s p : Int} (hp : 0 ≤ p ∧ p < A 3) : prt A p h s = 0 ↔ ¬ (zand (zshr (tcd A h s) p) 1 = 1) := by
  have o1 := o.1
  have tr := tcd_r o h s
  unfold prt
  split
  · rename_i hc
    have := popT_1 (tcd A h s).toNat (by omega) p.toNat (by omega) (by rw [Int.toNat_of_nonneg tr.1, Int.toNat_of_nonneg hp.1]; exact hc)
    constructor
    · intro h0; omega
    · intro h0; exact absurd hc h0
  · rename_i hc
    exact ⟨fun _ => hc, fun _ => rfl⟩
theorem qShare {mem : zMem} (R : Rel mem) (p h s w : Int) : okT (f_X11_share p h s w) (f_X12_share p h s w) mem ((0 ≤ p ∧ p < mem 140 3) ∧ ((0 ≤ h ∧ h < mem 140 2) ∧ 0 ≤ s ∧ s < mem 140 4) ∧ 0 ≤ w ∧ w ≤ 1) := by
  obtain ⟨o, os, v, sc, _⟩ := R.1
  have o1 := o.1
  have e : m00 mem 140 = mem 140 := m00_off (by omega)
  have o' : oP (m00 mem 140) := by rw [e]; exact o
  have os' : oS (m00 mem 140) := by rw [e]; exact os
  have tr := tcd_r o h s
  refine okTQ R (if w = 0 then (if prt (mem 140) p h s = 0 then 0 else 1) else (if prt (mem 140) p h s = 0 then 1 else prt (mem 140) p h s)) (fun q => ?_) (fun q => ?_) (fun q => ?_)
  · unfold f_X11_share
    simp only [cHasPerson v o, cHasShadow v o, zbind, bi0, cPartsWith IL_20 v sc o os p q.2.1.1 (Or.inr q.2.1.2)]
    rw [if_pos q.1, if_pos q.2.1, if_neg (by omega), if_pos (by omega)]
    repeat' split
    all_goals rfl
  · have hz := prt_0 o (h := h) (s := s) q.1
    have t1 := mTouchedBy (mem := m00 mem) o' os' (h := h) (s := s) (by rw [e]; exact q.2.1.1) (by rw [e]; omega)
    rw [e] at t1
    unfold f_X12_share
    simp only [pipe, m00_eq, mIsPerson o', mIsHouse o', mIsSun o', mIsIn, zbind, bi0, e, t1, mHas, pop_cast tr.1 tr.2]
    rw [if_pos q.1, if_pos q.2.1.1, if_pos q.2.1.2, if_pos q.2.2]
    by_cases hc : zand (zshr (tcd (mem 140) h s) p) 1 = 1
    · have hn : prt (mem 140) p h s ≠ 0 := by rw [ne_eq, hz]; exact not_not_intro hc
      have hq : prt (mem 140) p h s = (popT (tcd (mem 140) h s).toNat : Int) := by unfold prt; rw [if_pos hc]
      rw [if_pos hc, if_pos hc, if_neg hn, if_neg hn, hq]
      split <;> rfl
    · have hn : prt (mem 140) p h s = 0 := hz.2 hc
      rw [if_neg hc, if_neg hc, if_pos hn, if_pos hn]
      split <;> rfl
  · unfold f_X12_share f_X12_refuse
    simp only [pipe, m00_eq, mIsPerson o', mIsHouse o', mIsSun o', mIsIn, zbind, bi0, e]
    by_cases hp : 0 ≤ p ∧ p < mem 140 3
    · rw [if_pos hp]
      by_cases hq : 0 ≤ h ∧ h < mem 140 2
      · rw [if_pos hq]
        by_cases hr : 0 ≤ s ∧ s < mem 140 4
        · rw [if_pos hr, if_neg (by omega)]
        · rw [if_neg hr]
      · rw [if_neg hq]
    · rw [if_neg hp]
