/-! steps from where one stands -/
def fr5 (x : Int) : Int := if x = -1 then 100000 else x
def okQ5 (st qu : Int → Int) (z : Int) : Prop := 1 ≤ z ∧ z ≤ 64 ∧ z = cnt (fun c => decide (st c ≠ -1)) 64 ∧ (∀ c, 0 ≤ c → c < 64 → st c = -1 ∨ (0 ≤ st c ∧ st c < z)) ∧ ∀ i, 0 ≤ i → i < z → 0 ≤ qu i ∧ qu i < 64 ∧ st (qu i) ≠ -1
def Cq (A st qu : Int → Int) (z : Int) (m : zMem) : Prop := vP m 4 A ∧ vS m 11 A ∧ (∀ c, 0 ≤ c → c < 64 → m 98 c = st c) ∧ ∀ i, 0 ≤ i → i < z → m 99 i = qu i
def Rq (A st qu : Int → Int) (z : Int) (r : zMem) : Prop := r 140 = A ∧ (∀ c, 0 ≤ c → c < 64 → r 149 c = fr5 (st c)) ∧ ∀ i, 0 ≤ i → i < z → r 150 i = qu i
theorem cnt_lt {P : Int → Bool} {n c : Nat} (hc : c < n) (hp : P c = false) : cnt P n < n := by
  have h := cnt_or hc hp
  have := cnt_r (fun d => P d || decide (d = (c : Int))) n
  omega
theorem cnt_up {st : Int → Int} {c v : Int} (h0 : 0 ≤ c) (h1 : c < 64) (hs : st c = -1) (hv : v ≠ -1) : cnt (fun d => decide (up st c v d ≠ -1)) 64 = cnt (fun d => decide (st d ≠ -1)) 64 + 1 := by
  have := cnt_or (P := fun d => decide (st d ≠ -1)) (c := c.toNat) (n := 64) (by omega) (by simp [Int.toNat_of_nonneg h0, hs])
  rw [← this]
  refine cnt_congr (fun k hk => ?_)
  rw [Int.toNat_of_nonneg h0]
  by_cases hd : (k : Int) = c
  · rw [hd, up_eq]
    simp [hv]
  · rw [up_ne hd]
    simp [hd]
theorem bfs {A : Int → Int} (o : oP A) (os : oS A) : ∀ (k : Nat) (tag : Nat) (z i s : Int) (st qu : Int → Int), okQ5 st qu z → 0 ≤ i → ((tag = 0 ∧ s = 0 ∧ i ≤ z ∧ 10 * (64 - i) + 5 = k) ∨ (tag = 1 ∧ 0 ≤ s ∧ s ≤ 4 ∧ i < z ∧ 10 * (64 - i) + (4 - s) = k)) →
    ∃ st' : Int → Int, (∀ c : Int, 0 ≤ c → c < 64 → st' c = -1 ∨ (0 ≤ st' c ∧ st' c < 64)) ∧ (∀ (m : zMem) (n : Nat), Cq A st qu z m → k < n → ∃ m', f_X10_spread_0 n tag z i (if tag = 0 then 0 else qu i) s m = some (0, m') ∧ (∀ c : Int, 0 ≤ c → c < 64 → m' 98 c = st' c) ∧ ∀ q, q ≠ 98 → q ≠ 99 → m' q = m q) ∧ (∀ (r : zMem) (n : Nat), Rq A st qu z r → k < n → ∃ r', f_X12_layFar_0 n tag z i s r = some (0, r') ∧ (∀ c : Int, 0 ≤ c → c < 64 → r' 149 c = fr5 (st' c)) ∧ ∀ q, q ≠ 149 → q ≠ 150 → r' q = r q) := by
  have l98 : sLen 98 = 64 := rfl
  have l99 : sLen 99 = 64 := rfl
  have l149 : sLen 149 = 64 := rfl
  have l150 : sLen 150 = 64 := rfl
  have j98 : ∀ {x : Int} {α : Type} {a b : α}, 0 ≤ x → x < 64 → (if ix 98 x then a else b) = a := fun {x α a b} h0 h1 => if_pos ⟨h0, by omega⟩
  have j99 : ∀ {x : Int} {α : Type} {a b : α}, 0 ≤ x → x < 64 → (if ix 99 x then a else b) = a := fun {x α a b} h0 h1 => if_pos ⟨h0, by omega⟩
  have j149 : ∀ {x : Int} {α : Type} {a b : α}, 0 ≤ x → x < 64 → (if ix 149 x then a else b) = a := fun {x α a b} h0 h1 => if_pos ⟨h0, by omega⟩
  have j150 : ∀ {x : Int} {α : Type} {a b : α}, 0 ≤ x → x < 64 → (if ix 150 x then a else b) = a := fun {x α a b} h0 h1 => if_pos ⟨h0, by omega⟩
  intro k
  induction k using Nat.strongRecOn with
  | ind k ih =>
    intro tag z i s st qu J i0 ht
    obtain ⟨z1, z2, z3, z4, z5⟩ := J
    rcases ht with ⟨rfl, rfl, hi, hk⟩ | ⟨rfl, s0, s1, hi, hk⟩
    · by_cases he : i = z
      · refine ⟨st, fun c a b => by have := z4 c a b; omega, fun m n c hn => ?_, fun r n c hn => ?_⟩
        · obtain ⟨n, rfl⟩ : ∃ q, n = q + 1 := ⟨n - 1, by omega⟩
          refine ⟨m, ?_, c.2.2.1, fun _ _ _ => rfl⟩
          show b_X10_spread_0 (f_X10_spread_0 n) 0 z i (if (0 : Nat) = 0 then 0 else qu i) 0 m = _
          simp only [b_X10_spread_0]
          rw [if_pos (by omega)]
        · obtain ⟨n, rfl⟩ : ∃ q, n = q + 1 := ⟨n - 1, by omega⟩
          refine ⟨r, ?_, c.2.1, fun _ _ _ => rfl⟩
          show b_X12_layFar_0 (f_X12_layFar_0 n) 0 z i 0 r = _
          simp only [b_X12_layFar_0]
          rw [if_pos (by omega)]
      · obtain ⟨st', g1, g2, g3⟩ := ih (10 * (64 - i) + (4 - 0)).toNat (by omega) 1 z i 0 st qu ⟨z1, z2, z3, z4, z5⟩ i0 (Or.inr ⟨rfl, by omega, by omega, by omega, by omega⟩)
        refine ⟨st', g1, fun m n c hn => ?_, fun r n c hn => ?_⟩
        · obtain ⟨n, rfl⟩ : ∃ q, n = q + 1 := ⟨n - 1, by omega⟩
          obtain ⟨m', h1, h2, h3⟩ := g2 m n c (by omega)
          refine ⟨m', ?_, h2, h3⟩
          show b_X10_spread_0 (f_X10_spread_0 n) 0 z i (if (0 : Nat) = 0 then 0 else qu i) 0 m = _
          simp only [b_X10_spread_0]
          rw [if_neg (by omega), if_neg (by omega), j99 (by omega) (by omega), c.2.2.2 i i0 (by omega)]
          exact h1
        · obtain ⟨n, rfl⟩ : ∃ q, n = q + 1 := ⟨n - 1, by omega⟩
          obtain ⟨r', h1, h2, h3⟩ := g3 r n c (by omega)
          refine ⟨r', ?_, h2, h3⟩
          show b_X12_layFar_0 (f_X12_layFar_0 n) 0 z i 0 r = _
          simp only [b_X12_layFar_0]
          rw [if_neg (by omega)]
          exact h1
    · obtain ⟨q0, q1, q2⟩ := z5 i i0 hi
      by_cases he : s = 4
      · obtain ⟨st', g1, g2, g3⟩ := ih (10 * (64 - (i + 1)) + 5).toNat (by omega) 0 z (i + 1) 0 st qu ⟨z1, z2, z3, z4, z5⟩ (by omega) (Or.inl ⟨rfl, by omega, by omega, by omega⟩)
        refine ⟨st', g1, fun m n c hn => ?_, fun r n c hn => ?_⟩
        · obtain ⟨n, rfl⟩ : ∃ q, n = q + 1 := ⟨n - 1, by omega⟩
          obtain ⟨m', h1, h2, h3⟩ := g2 m n c (by omega)
          refine ⟨m', ?_, h2, h3⟩
          show b_X10_spread_0 (f_X10_spread_0 n) 1 z i _ s m = _
          simp only [b_X10_spread_0]
          rw [if_pos (by omega), w32_id ⟨by omega, by omega⟩]
          exact h1
        · obtain ⟨n, rfl⟩ : ∃ q, n = q + 1 := ⟨n - 1, by omega⟩
          obtain ⟨r', h1, h2, h3⟩ := g3 r n c (by omega)
          refine ⟨r', ?_, h2, h3⟩
          show b_X12_layFar_0 (f_X12_layFar_0 n) 1 z i s r = _
          simp only [b_X12_layFar_0]
          rw [if_pos (by omega), w32_id ⟨by omega, by omega⟩]
          exact h1
      · -- one side
        have ws : w32 (s + 1) = s + 1 := w32_id ⟨by omega, by omega⟩
        have sp : ∀ m : zMem, vP m 4 A → f_X5_spotFrom 4 (qu i) s 1 m = some (stp A (qu i) s 1, m) := fun m v => cSpotFrom v o ⟨q0, q1⟩ ⟨s0, by omega⟩ ⟨by omega, by omega⟩
        have nt : ∀ r : zMem, r 140 = A → f_X12_nextTo (qu i) s r = some (stp A (qu i) s 1, r) := fun r h => by
          have := mNextTo (mem := r) (by rw [h]; exact o) (c := qu i) (s := s) ⟨q0, q1⟩ ⟨s0, by omega⟩
          rw [h] at this
          exact this
        -- going on with nothing new
        have same : (∀ (m : zMem) (n : Nat), Cq A st qu z m → f_X10_spread_0 (n + 1) 1 z i (qu i) s m = f_X10_spread_0 n 1 z i (qu i) (s + 1) m) → (∀ (r : zMem) (n : Nat), Rq A st qu z r → f_X12_layFar_0 (n + 1) 1 z i s r = f_X12_layFar_0 n 1 z i (s + 1) r) → ∃ st' : Int → Int, (∀ c : Int, 0 ≤ c → c < 64 → st' c = -1 ∨ (0 ≤ st' c ∧ st' c < 64)) ∧ (∀ (m : zMem) (n : Nat), Cq A st qu z m → k < n → ∃ m', f_X10_spread_0 n 1 z i (if 1 = 0 then 0 else qu i) s m = some (0, m') ∧ (∀ c : Int, 0 ≤ c → c < 64 → m' 98 c = st' c) ∧ ∀ q, q ≠ 98 → q ≠ 99 → m' q = m q) ∧ (∀ (r : zMem) (n : Nat), Rq A st qu z r → k < n → ∃ r', f_X12_layFar_0 n 1 z i s r = some (0, r') ∧ (∀ c : Int, 0 ≤ c → c < 64 → r' 149 c = fr5 (st' c)) ∧ ∀ q, q ≠ 149 → q ≠ 150 → r' q = r q) := by
          intro hc hr
          obtain ⟨st', g1, g2, g3⟩ := ih (10 * (64 - i) + (4 - (s + 1))).toNat (by omega) 1 z i (s + 1) st qu ⟨z1, z2, z3, z4, z5⟩ i0 (Or.inr ⟨rfl, by omega, by omega, by omega, by omega⟩)
          refine ⟨st', g1, fun m n c hn => ?_, fun r n c hn => ?_⟩
          · obtain ⟨n, rfl⟩ : ∃ q, n = q + 1 := ⟨n - 1, by omega⟩
            obtain ⟨m', h1, h2, h3⟩ := g2 m n c (by omega)
            exact ⟨m', (hc m n c).trans h1, h2, h3⟩
          · obtain ⟨n, rfl⟩ : ∃ q, n = q + 1 := ⟨n - 1, by omega⟩
            obtain ⟨r', h1, h2, h3⟩ := g3 r n c (by omega)
            exact ⟨r', (hr r n c).trans h1, h2, h3⟩
        generalize hto : stp A (qu i) s 1 = to at *
        by_cases hn1 : to = -1
        · refine same (fun m n c => ?_) (fun r n c => ?_)
          · show b_X10_spread_0 (f_X10_spread_0 n) 1 z i (qu i) s m = _
            simp only [b_X10_spread_0]
            rw [if_neg (by omega), sp m c.1]
            simp only [zbind]
            rw [if_pos hn1, ws]
          · show b_X12_layFar_0 (f_X12_layFar_0 n) 1 z i s r = _
            simp only [b_X12_layFar_0]
            rw [if_neg (by omega), j150 (by omega) (by omega), c.2.2 i i0 hi, nt r c.1]
            simp only [zbind]
            rw [if_pos hn1, ws]
        · have hin : inC A to := by
            have := stp_r o (qu i) s 1
            rw [hto] at this
            exact this.resolve_left hn1
          have t0 := hin.1
          have t1 := hin.2.1
          have op : ∀ r : zMem, r 140 = A → f_X12_isOpen to r = some (if htA A to = 0 then 1 else 0, r) := by
            intro r h
            unfold f_X12_isOpen
            have := mHeightOf (mem := r) (by rw [h]; exact o) t0 t1
            rw [this, h]
            simp only [zbind]
            split <;> rfl
          by_cases hv : st to = -1
          · by_cases hh : htA A to = 0
            · -- a new cell
              have hz : z < 64 := by
                have := cnt_lt (P := fun c => decide (st c ≠ -1)) (n := 64) (c := to.toNat) (by omega) (by simp [Int.toNat_of_nonneg t0, hv])
                omega
              have sq := z4 (qu i) q0 q1
              have hw1 : w32 (st (qu i) + 1) = st (qu i) + 1 := w32_id ⟨by omega, by omega⟩
              have hw2 : w32 (z + 1) = z + 1 := w32_id ⟨by omega, by omega⟩
              have hne : qu i ≠ to := fun h => q2 (by rw [h]; exact hv)
              have J' : okQ5 (up st to (st (qu i) + 1)) (up qu z to) (z + 1) := by
                refine ⟨by omega, by omega, ?_, fun c a b => ?_, fun j a b => ?_⟩
                · rw [cnt_up t0 t1 hv (by omega), ← z3]
                · by_cases hc : c = to
                  · rw [hc, up_eq]
                    omega
                  · rw [up_ne hc]
                    have := z4 c a b
                    omega
                · by_cases hj : j = z
                  · rw [hj, up_eq, up_eq]
                    exact ⟨t0, t1, by omega⟩
                  · rw [up_ne hj]
                    obtain ⟨x1, x2, x3⟩ := z5 j a (by omega)
                    refine ⟨x1, x2, ?_⟩
                    rw [up_ne (fun h => x3 (by rw [h]; exact hv))]
                    exact x3
              obtain ⟨st', g1, g2, g3⟩ := ih (10 * (64 - i) + (4 - (s + 1))).toNat (by omega) 1 (z + 1) i (s + 1) (up st to (st (qu i) + 1)) (up qu z to) J' i0 (Or.inr ⟨rfl, by omega, by omega, by omega, by omega⟩)
              have eqi : up qu z to i = qu i := up_ne (by omega)
              rw [eqi] at g2
              refine ⟨st', g1, fun m n c hn => ?_, fun r n c hn => ?_⟩
              · obtain ⟨n, rfl⟩ : ∃ q, n = q + 1 := ⟨n - 1, by omega⟩
                have C' : Cq A (up st to (st (qu i) + 1)) (up qu z to) (z + 1) (zup (zup m 98 to (st (qu i) + 1)) 99 z to) := by
                  refine ⟨vP_mem (fun q _ _ => by rw [zup_off (by omega), zup_off (by omega)]) c.1, vS_mem (fun q _ _ => by rw [zup_off (by omega), zup_off (by omega)]) c.2.1, fun d a b => ?_, fun j a b => ?_⟩
                  · rw [zup_off (by omega), zup_same]
                    unfold up
                    split
                    · rfl
                    · exact c.2.2.1 d a b
                  · rw [zup_same]
                    unfold up
                    split
                    · rfl
                    · rw [zup_off (by omega)]
                      exact c.2.2.2 j a (by omega)
                obtain ⟨m', h1, h2, h3⟩ := g2 _ n C' (by omega)
                refine ⟨m', ?_, h2, fun q a b => by rw [h3 q a b, zup_off b, zup_off a]⟩
                rw [← h1]
                show b_X10_spread_0 (f_X10_spread_0 n) 1 z i (qu i) s m = _
                simp only [b_X10_spread_0]
                rw [if_neg (by omega), sp m c.1]
                simp only [zbind]
                rw [if_neg hn1, j98 t0 t1, if_pos (by rw [c.2.2.1 to t0 t1]; exact hv), cHeightAt IL_20 c.1 c.2.1 o t0 t1]
                simp only
                rw [if_pos hh, if_neg (by omega), j98 q0 q1, j98 t0 t1, c.2.2.1 (qu i) q0 q1, hw1]
                simp only [pipe]
                rw [j99 (by omega) (by omega), hw2, ws]
                rfl
              · obtain ⟨n, rfl⟩ : ∃ q, n = q + 1 := ⟨n - 1, by omega⟩
                have C' : Rq A (up st to (st (qu i) + 1)) (up qu z to) (z + 1) (zup (zup r 149 to (st (qu i) + 1)) 150 z to) := by
                  refine ⟨by rw [zup_off (by omega), zup_off (by omega)]; exact c.1, fun d a b => ?_, fun j a b => ?_⟩
                  · rw [zup_off (by omega), zup_same]
                    unfold up
                    split
                    · unfold fr5
                      rw [if_neg (by omega)]
                    · exact c.2.1 d a b
                  · rw [zup_same]
                    unfold up
                    split
                    · rfl
                    · rw [zup_off (by omega)]
                      exact c.2.2 j a (by omega)
                obtain ⟨r', h1, h2, h3⟩ := g3 _ n C' (by omega)
                refine ⟨r', ?_, h2, fun q a b => by rw [h3 q a b, zup_off b, zup_off a]⟩
                rw [← h1]
                have ef : fr5 (st (qu i)) = st (qu i) := by unfold fr5; rw [if_neg (by omega)]
                show b_X12_layFar_0 (f_X12_layFar_0 n) 1 z i s r = _
                simp only [b_X12_layFar_0]
                rw [if_neg (by omega), j150 (by omega) (by omega), c.2.2 i i0 hi, nt r c.1]
                simp only [zbind]
                rw [if_neg hn1, op r c.1, if_pos hh]
                simp only
                rw [if_neg (by omega), j149 t0 t1, c.2.1 to t0 t1, if_pos (by unfold fr5; rw [if_pos hv]; omega), j150 (by omega) (by omega), c.2.2 i i0 hi, j149 q0 q1, j149 t0 t1, c.2.1 (qu i) q0 q1, ef, hw1]
                simp only [pipe]
                rw [j150 (by omega) (by omega), hw2, ws]
            · refine same (fun m n c => ?_) (fun r n c => ?_)
              · show b_X10_spread_0 (f_X10_spread_0 n) 1 z i (qu i) s m = _
                simp only [b_X10_spread_0]
                rw [if_neg (by omega), sp m c.1]
                simp only [zbind]
                rw [if_neg hn1, j98 t0 t1, if_pos (by rw [c.2.2.1 to t0 t1]; exact hv), cHeightAt IL_20 c.1 c.2.1 o t0 t1]
                simp only
                rw [if_neg hh, ws]
              · show b_X12_layFar_0 (f_X12_layFar_0 n) 1 z i s r = _
                simp only [b_X12_layFar_0]
                rw [if_neg (by omega), j150 (by omega) (by omega), c.2.2 i i0 hi, nt r c.1]
                simp only [zbind]
                rw [if_neg hn1, op r c.1, if_neg hh]
                simp only
                rw [if_pos trivial, ws]
          · refine same (fun m n c => ?_) (fun r n c => ?_)
            · show b_X10_spread_0 (f_X10_spread_0 n) 1 z i (qu i) s m = _
              simp only [b_X10_spread_0]
              rw [if_neg (by omega), sp m c.1]
              simp only [zbind]
              rw [if_neg hn1, j98 t0 t1, if_neg (by rw [c.2.2.1 to t0 t1]; exact hv), ws]
            · have hs := z4 to t0 t1
              show b_X12_layFar_0 (f_X12_layFar_0 n) 1 z i s r = _
              simp only [b_X12_layFar_0]
              rw [if_neg (by omega), j150 (by omega) (by omega), c.2.2 i i0 hi, nt r c.1]
              simp only [zbind]
              rw [if_neg hn1, op r c.1]
              simp only
              rw [ws, j149 t0 t1, c.2.1 to t0 t1, if_neg (c := fr5 (st to) ≥ 100000) (by unfold fr5; rw [if_neg hv]; omega)]
              split <;> rfl
