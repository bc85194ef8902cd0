/-! what house, person, share tell, as a number of the row alone: the law's out row is no part of it -/
theorem Rel_157 {mem : zMem} (v : Int) (r : Rel mem) : Rel (zup mem 157 0 v) := Rel_mem ⟨fun q h => zup_off (by omega), by rw [zup_off (by omega)], fun i _ => by rw [zup_off (by omega)], fun i h => by rw [zup_off (by omega)]⟩ (fun q h => zup_off (by omega)) (by rw [zup_off (by omega)]) r
def tPH (A : Int → Int) (h w : Int) : Prop := (0 ≤ h ∧ h < A 2) ∧ 0 ≤ w ∧ w ≤ 5
def tPP (A : Int → Int) (h w : Int) : Prop := (0 ≤ h ∧ h < A 3) ∧ 0 ≤ w ∧ w ≤ 4
def tPS (A : Int → Int) (p h s w : Int) : Prop := (0 ≤ p ∧ p < A 3) ∧ ((0 ≤ h ∧ h < A 2) ∧ 0 ≤ s ∧ s < A 4) ∧ 0 ≤ w ∧ w ≤ 1
noncomputable def tH (A : Int → Int) (h w : Int) : Int := (if w = 0 then zrem (A (5 + h)) 8 else if w = 1 then zdiv (A (5 + h)) 8 else if w = 2 then A (10 + h) else if w = 3 then A (111 + h) else if w = 4 then wBury A h else tcd A h (sunA A))
theorem eH {mem : zMem} (R : Rel mem) (h w : Int) (p : tPH (mem 140) h w) : f_X11_house h w mem = some (tH (mem 140) h w, mem) ∧ f_X12_house h w mem = some (tH (mem 140) h w, m00 mem) := by
  unfold tPH at p
  unfold tH
  have L := l140
  have L5 : sLen 5 = 5 := rfl
  have L6 : sLen 6 = 5 := rfl
  have L15 : sLen 15 = 5 := rfl
  obtain ⟨o, os, v, s, _⟩ := R.1
  have o1 := o.1
  have e : m00 mem 140 = mem 140 := m00_off (by omega)
  have o' : oP (m00 mem 140) := by rw [e]; exact o
  have os' : oS (m00 mem 140) := by rw [e]; exact os
  have hh : 0 ≤ mem 140 106 ∧ mem 140 106 ≤ 400 := ⟨os.1.1, os.1.2.1⟩
  have hs := sunA_r o hh
  refine ⟨?_, ?_⟩
  · have v1 : mem 5 h = mem 140 (5 + h) := (v.2.1 h p.1.1 p.1.2).1
    have v2 : mem 6 h = mem 140 (10 + h) := (v.2.1 h p.1.1 p.1.2).2
    have v3 : mem 15 h = mem 140 (111 + h) := s.2.2.2.2 h p.1.1 p.1.2
    have v4 : mem 11 4 = mem 140 107 := s.1.1
    unfold f_X11_house f_X7_isBuried
    simp only [cHasHouse v o, cTableHour IL_20 v s o hh, zbind, bi0, cPersonsTouched IL_20 v s o os p.1 (hs.imp (fun a => a.1) id)]
    have i5 : ix 5 h := ⟨p.1.1, by omega⟩
    have i6 : ix 6 h := ⟨p.1.1, by omega⟩
    have i15 : ix 15 h := ⟨p.1.1, by omega⟩
    rw [if_pos p.1, if_neg (by omega), if_pos (by omega), v1, v2, v3, v4, if_pos i5, if_pos i5, if_pos i6, if_pos i15]
    simp only [wBury]
    rcases (by omega : w = 0 ∨ w = 1 ∨ w = 2 ∨ w = 3 ∨ w = 4 ∨ w = 5) with hw | hw | hw | hw | hw | hw <;> subst hw <;> simp
    by_cases hb : zand (zshr (mem 140 107) h) 1 = 1 <;> simp [hb]
  · unfold f_X12_house
    have t1 := mTouchedBy (mem := m00 mem) o' os' (h := h) (s := sunA (mem 140)) (by rw [e]; exact p.1) (by rw [e]; omega)
    have t2 := mSunNow (mem := m00 mem) o' (by rw [e]; exact hh)
    rw [e] at t1 t2
    simp only [pipe, m00_eq, mIsHouse o', t2, mIsBuried, zbind, bi0, e, t1]
    rw [w32_id (x := 5 + h) ⟨by omega, by omega⟩, w32_id (x := 10 + h) ⟨by omega, by omega⟩, w32_id (x := 111 + h) ⟨by omega, by omega⟩, if_pos p.1, ixl (k := 5 + h) (by omega), ixl (k := 5 + h) (by omega), ixl (k := 10 + h) (by omega), ixl (k := 111 + h) (by omega)]
    simp only [wBury]
    rcases (by omega : w = 0 ∨ w = 1 ∨ w = 2 ∨ w = 3 ∨ w = 4 ∨ w = 5) with hw | hw | hw | hw | hw | hw <;> subst hw <;> simp
    split <;> simp
noncomputable def tP (A : Int → Int) (h w : Int) : Int := (if w = 0 then zrem (A (116 + h)) 8 else if w = 1 then zdiv (A (116 + h)) 8 else if w = 2 then A (122 + h) else if w = 3 then shOn A (A (116 + h)) else set0 (fun s => decide (wGo A h s = 0)) 4)
theorem eP {mem : zMem} (R : Rel mem) (h w : Int) (p : tPP (mem 140) h w) : f_X11_person h w mem = some (tP (mem 140) h w, mem) ∧ f_X12_person h w mem = some (tP (mem 140) h w, m00 mem) := by
  unfold tPP at p
  unfold tP
  have L := l140
  have L5 : sLen 13 = 6 := rfl
  have L6 : sLen 14 = 6 := rfl
  obtain ⟨o, os, v, s, _⟩ := R.1
  have o1 := o.1
  have e : m00 mem 140 = mem 140 := m00_off (by omega)
  have o' : oP (m00 mem 140) := by rw [e]; exact o
  have os' : oS (m00 mem 140) := by rw [e]; exact os
  refine ⟨?_, ?_⟩
  · have v1 : mem 13 h = mem 140 (116 + h) := s.2.2.1 h p.1.1 p.1.2
    have v2 : mem 14 h = mem 140 (122 + h) := s.2.2.2.1 h p.1.1 (by omega)
    unfold f_X11_person
    simp only [cHasPerson v o, cSidesOpen IL_20 v s o os p.1, zbind, bi0, v1, v2, cHousesTouching IL_20 v s o os (os.2.1 h p.1.1 p.1.2)]
    have i5 : ix 13 h := ⟨p.1.1, by omega⟩
    have i6 : ix 14 h := ⟨p.1.1, by omega⟩
    rw [if_pos p.1, if_neg (by omega), if_pos (by omega), if_pos i5, if_pos i5, if_pos i6, if_pos i5]
    rcases (by omega : w = 0 ∨ w = 1 ∨ w = 2 ∨ w = 3 ∨ w = 4) with hw | hw | hw | hw | hw <;> subst hw <;> simp
  · unfold f_X12_person
    have t1 := mSides (mem := m00 mem) o' os' (p := h) (by rw [e]; exact p.1)
    have t2 := mShadowsOn (mem := m00 mem) o' os' (c := mem 140 (116 + h)) (by rw [e]; exact os.2.1 h p.1.1 p.1.2)
    rw [e] at t1 t2
    simp only [pipe, m00_eq, mIsPerson o', t1, zbind, bi0, e, w32_id (x := 116 + h) ⟨by omega, by omega⟩, w32_id (x := 122 + h) ⟨by omega, by omega⟩, t2]
    rw [if_pos p.1, ixl (k := 116 + h) (by omega), ixl (k := 116 + h) (by omega), ixl (k := 122 + h) (by omega), ixl (k := 116 + h) (by omega)]
    rcases (by omega : w = 0 ∨ w = 1 ∨ w = 2 ∨ w = 3 ∨ w = 4) with hw | hw | hw | hw | hw <;> subst hw <;> simp
noncomputable def tS (A : Int → Int) (p h s w : Int) : Int := (if w = 0 then (if prt A p h s = 0 then 0 else 1) else (if prt A p h s = 0 then 1 else prt A p h s))
theorem eS {mem : zMem} (R : Rel mem) (p h s w : Int) (q : tPS (mem 140) p h s w) : f_X11_share p h s w mem = some (tS (mem 140) p h s w, mem) ∧ f_X12_share p h s w mem = some (tS (mem 140) p h s w, m00 mem) := by
  unfold tPS at q
  unfold tS
  obtain ⟨o, os, v, sc, _⟩ := R.1
  have o1 := o.1
  have e : m00 mem 140 = mem 140 := m00_off (by omega)
  have o' : oP (m00 mem 140) := by rw [e]; exact o
  have os' : oS (m00 mem 140) := by rw [e]; exact os
  have tr := tcd_r o h s
  refine ⟨?_, ?_⟩
  · unfold f_X11_share
    simp only [cHasPerson v o, cHasShadow v o, zbind, bi0, cPartsWith IL_20 v sc o os p q.2.1.1 (Or.inr q.2.1.2)]
    rw [if_pos q.1, if_pos q.2.1, if_neg (by omega), if_pos (by omega)]
    repeat' split
    all_goals rfl
  · have hz := prt_0 o (h := h) (s := s) q.1
    have t1 := mTouchedBy (mem := m00 mem) o' os' (h := h) (s := s) (by rw [e]; exact q.2.1.1) (by rw [e]; omega)
    rw [e] at t1
    unfold f_X12_share
    simp only [pipe, m00_eq, mIsPerson o', mIsHouse o', mIsSun o', mIsIn, zbind, bi0, e, t1, mHas, pop_cast tr.1 tr.2]
    rw [if_pos q.1, if_pos q.2.1.1, if_pos q.2.1.2, if_pos q.2.2]
    by_cases hc : zand (zshr (tcd (mem 140) h s) p) 1 = 1
    · have hn : prt (mem 140) p h s ≠ 0 := by rw [ne_eq, hz]; exact not_not_intro hc
      have hq : prt (mem 140) p h s = (popT (tcd (mem 140) h s).toNat : Int) := by unfold prt; rw [if_pos hc]
      rw [if_pos hc, if_pos hc, if_neg hn, if_neg hn, hq]
      split <;> rfl
    · have hn : prt (mem 140) p h s = 0 := hz.2 hc
      rw [if_neg hc, if_neg hc, if_pos hn, if_pos hn]
      split <;> rfl
