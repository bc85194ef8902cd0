theorem mImage_0 {mem : zMem} {k : Int} (h0 : 0 ≤ k) (h1 : k ≤ 1) : ∃ m', f_X12_image_0 zN k 0 mem = some (1, m') ∧ (∀ q, q ≠ 147 → q ≠ 148 → m' q = mem q) ∧ (∀ i, m' 147 i = if 11 * k ≤ i ∧ i < 11 * k + 11 then mem 145 (i - 11 * k) else mem 147 i) ∧ ∀ i, m' 148 i = if i = k then 1 else mem 148 i := by
  have L1 : sLen 145 = 11 := rfl
  have L2 : sLen 147 = 22 := rfl
  have L3 : sLen 148 = 2 := rfl
  obtain ⟨n', m', ⟨i1, i2⟩, e⟩ := lp_inv (F := fun n i m => f_X12_image_0 n k i m) (N := 11) (m := mem) (I := fun i m => (∀ q, q ≠ 147 → m q = mem q) ∧ ∀ j, m 147 j = if 11 * k ≤ j ∧ j < 11 * k + i then mem 145 (j - 11 * k) else mem 147 j) (by
    intro n i m a b ⟨c, d⟩
    show ∃ m', b_X12_image_0 (f_X12_image_0 n) k i m = _ ∧ _
    unfold b_X12_image_0
    rw [if_neg (by omega), if_pos (by omega), w32_id (x := 11 * k) ⟨by omega, by omega⟩, w32_id (x := 11 * k + i) ⟨by omega, by omega⟩, w32_id (x := i + 1) ⟨by omega, by omega⟩, if_pos (by omega), c 145 (by omega)]
    refine ⟨_, rfl, fun q hq => by rw [zup_off hq, c q hq], fun j => ?_⟩
    rw [zup_same, d j]
    by_cases hj : j = 11 * k + i
    · rw [if_pos hj, if_pos (by omega), hj]
      congr 1
      omega
    · rw [if_neg hj]
      by_cases hk : 11 * k ≤ j ∧ j < 11 * k + i
      · rw [if_pos hk, if_pos (by omega)]
      · rw [if_neg hk, if_neg (by omega)]) (by omega) (by omega) ⟨fun _ _ => rfl, fun j => by rw [if_neg (by omega)]⟩
  refine ⟨zup m' 148 k 1, ?_, fun q a b => by rw [zup_off b, i1 q a], fun i => by rw [zup_off (by omega), i2 i], fun i => by rw [zup_same, i1 148 (by omega)]⟩
  rw [show f_X12_image_0 zN k 0 mem = f_X12_image_0 (n' + 1) k 11 m' from e]
  show b_X12_image_0 (f_X12_image_0 n') k 11 m' = _
  unfold b_X12_image_0
  rw [if_pos (by omega), if_pos (by omega)]
  rfl
theorem mImage_1 {mem : zMem} {k : Int} (h0 : 0 ≤ k) (h1 : k ≤ 1) : ∃ m', f_X12_image_1 zN k 0 mem = some (1, m') ∧ (∀ q, q ≠ 142 → q ≠ 147 → q ≠ 148 → m' q = mem q) ∧ (∀ i, m' 142 i = if 434 * k ≤ i ∧ i < 434 * k + 434 then mem 140 (i - 434 * k) else mem 142 i) ∧ (∀ i, m' 147 i = if 11 * k ≤ i ∧ i < 11 * k + 11 then mem 145 (i - 11 * k) else mem 147 i) ∧ ∀ i, m' 148 i = if i = k then 1 else mem 148 i := by
  have L1 := l140
  have L2 : sLen 142 = 868 := rfl
  obtain ⟨n', m', ⟨i1, i2⟩, e⟩ := lp_inv (F := fun n i m => f_X12_image_1 n k i m) (N := 434) (m := mem) (I := fun i m => (∀ q, q ≠ 142 → m q = mem q) ∧ ∀ j, m 142 j = if 434 * k ≤ j ∧ j < 434 * k + i then mem 140 (j - 434 * k) else mem 142 j) (by
    intro n i m a b ⟨c, d⟩
    show ∃ m', b_X12_image_1 (f_X12_image_1 n) k i m = _ ∧ _
    unfold b_X12_image_1
    rw [if_neg (by omega), if_pos (by omega), w32_id (x := 434 * k) ⟨by omega, by omega⟩, w32_id (x := 434 * k + i) ⟨by omega, by omega⟩, w32_id (x := i + 1) ⟨by omega, by omega⟩, if_pos (by omega), c 140 (by omega)]
    refine ⟨_, rfl, fun q hq => by rw [zup_off hq, c q hq], fun j => ?_⟩
    rw [zup_same, d j]
    by_cases hj : j = 434 * k + i
    · rw [if_pos hj, if_pos (by omega), hj]
      congr 1
      omega
    · rw [if_neg hj]
      by_cases hk : 434 * k ≤ j ∧ j < 434 * k + i
      · rw [if_pos hk, if_pos (by omega)]
      · rw [if_neg hk, if_neg (by omega)]) (by omega) (by omega) ⟨fun _ _ => rfl, fun j => by rw [if_neg (by omega)]⟩
  obtain ⟨m2, a1, a2, a3, a4⟩ := mImage_0 (mem := m') h0 h1
  refine ⟨m2, ?_, fun q a b c => by rw [a2 q b c, i1 q a], fun i => by rw [a2 142 (by omega) (by omega), i2 i], fun i => by rw [a3 i, i1 145 (by omega), i1 147 (by omega)], fun i => by rw [a4 i, i1 148 (by omega)]⟩
  rw [show f_X12_image_1 zN k 0 mem = f_X12_image_1 (n' + 1) k 434 m' from e]
  show b_X12_image_1 (f_X12_image_1 n') k 434 m' = _
  unfold b_X12_image_1
  rw [if_pos (by omega), a1]
theorem mRestore_0 {mem : zMem} {k : Int} (h0 : 0 ≤ k) (h1 : k ≤ 1) : ∃ m', f_X12_restore_0 zN k 0 mem = some (1, m') ∧ (∀ q, q ≠ 145 → q ≠ 138 → m' q = mem q) ∧ (∀ i, 0 ≤ i → i < 11 → m' 145 i = mem 147 (11 * k + i)) ∧ ∀ i, m' 138 i = up (mem 138) 25 0 i := by
  have L1 : sLen 145 = 11 := rfl
  have L2 : sLen 147 = 22 := rfl
  obtain ⟨n', m', ⟨i1, i2⟩, e⟩ := lp_inv (F := fun n i m => f_X12_restore_0 n k i m) (N := 11) (m := mem) (I := fun i m => (∀ q, q ≠ 145 → m q = mem q) ∧ ∀ j, 0 ≤ j → j < i → m 145 j = mem 147 (11 * k + j)) (by
    intro n i m a b ⟨c, d⟩
    show ∃ m', b_X12_restore_0 (f_X12_restore_0 n) k i m = _ ∧ _
    unfold b_X12_restore_0
    rw [if_neg (by omega), w32_id (x := 11 * k) ⟨by omega, by omega⟩, w32_id (x := 11 * k + i) ⟨by omega, by omega⟩, w32_id (x := i + 1) ⟨by omega, by omega⟩, if_pos (by omega), if_pos (by omega), c 147 (by omega)]
    refine ⟨_, rfl, fun q hq => by rw [zup_off hq, c q hq], fun j j0 j1 => ?_⟩
    rw [zup_same]
    by_cases hj : j = i
    · rw [if_pos hj, hj]
    · rw [if_neg hj, d j j0 (by omega)]) (by omega) (by omega) ⟨fun _ _ => rfl, fun j a b => by omega⟩
  refine ⟨zup m' 138 25 0, ?_, fun q a b => by rw [zup_off b, i1 q a], fun i a b => by rw [zup_off (by omega), i2 i a b], fun i => by rw [zup_same, i1 138 (by omega)]; rfl⟩
  rw [show f_X12_restore_0 zN k 0 mem = f_X12_restore_0 (n' + 1) k 11 m' from e]
  show b_X12_restore_0 (f_X12_restore_0 n') k 11 m' = _
  unfold b_X12_restore_0
  rw [if_pos (by omega)]
  rfl
theorem mRestore_1 {mem : zMem} {k : Int} (h0 : 0 ≤ k) (h1 : k ≤ 1) : ∃ m', f_X12_restore_1 zN k 0 mem = some (1, m') ∧ (∀ q, q ≠ 140 → q ≠ 145 → q ≠ 138 → m' q = mem q) ∧ (∀ i, 0 ≤ i → i < 434 → m' 140 i = mem 142 (434 * k + i)) ∧ (∀ i, 0 ≤ i → i < 11 → m' 145 i = mem 147 (11 * k + i)) ∧ ∀ i, m' 138 i = up (mem 138) 25 0 i := by
  have L1 := l140
  have L2 : sLen 142 = 868 := rfl
  obtain ⟨n', m', ⟨i1, i2⟩, e⟩ := lp_inv (F := fun n i m => f_X12_restore_1 n k i m) (N := 434) (m := mem) (I := fun i m => (∀ q, q ≠ 140 → m q = mem q) ∧ ∀ j, 0 ≤ j → j < i → m 140 j = mem 142 (434 * k + j)) (by
    intro n i m a b ⟨c, d⟩
    show ∃ m', b_X12_restore_1 (f_X12_restore_1 n) k i m = _ ∧ _
    unfold b_X12_restore_1
    rw [if_neg (by omega), w32_id (x := 434 * k) ⟨by omega, by omega⟩, w32_id (x := 434 * k + i) ⟨by omega, by omega⟩, w32_id (x := i + 1) ⟨by omega, by omega⟩, if_pos (by omega), if_pos (by omega), c 142 (by omega)]
    refine ⟨_, rfl, fun q hq => by rw [zup_off hq, c q hq], fun j j0 j1 => ?_⟩
    rw [zup_same]
    by_cases hj : j = i
    · rw [if_pos hj, hj]
    · rw [if_neg hj, d j j0 (by omega)]) (by omega) (by omega) ⟨fun _ _ => rfl, fun j a b => by omega⟩
  obtain ⟨m2, a1, a2, a3, a4⟩ := mRestore_0 (mem := m') h0 h1
  refine ⟨m2, ?_, fun q a b c => by rw [a2 q b c, i1 q a], fun i a b => by rw [a2 140 (by omega) (by omega), i2 i a b], fun i a b => by rw [a3 i a b, i1 147 (by omega)], fun i => by rw [a4 i, i1 138 (by omega)]⟩
  rw [show f_X12_restore_1 zN k 0 mem = f_X12_restore_1 (n' + 1) k 434 m' from e]
  show b_X12_restore_1 (f_X12_restore_1 n') k 434 m' = _
  unfold b_X12_restore_1
  rw [if_pos (by omega), a1]
theorem qImage {mem : zMem} (R : Rel mem) (x : Int) : okC (f_X11_image x) (f_X12_image x) mem := by
  have L1 : sLen 95 = 2 := rfl
  have L2 : sLen 96 = 2 := rfl
  by_cases hx : 0 ≤ x ∧ x ≤ 1
  · obtain ⟨k, rfl⟩ : ∃ k : Nat, x = (k : Int) := ⟨x.toNat, by omega⟩
    have hk : k < 2 := by omega
    obtain ⟨a, b, t, vv, l, bb, g, kk⟩ := R
    obtain ⟨mc, c1, c2, c3, c4⟩ := cCopyI (IT_im hk) IT_20 (by omega) a
    have d1 : ∀ q, (q < 105 ∨ 137 < q) → mc q = mem q := fun q hq => c4 q (by omega) (by omega) (by omega)
    obtain ⟨mr, r1, r2, r3, r4, r5⟩ := mImage_1 (mem := m00 (zup mc 96 k 1)) (k := (k : Int)) (by omega) (by omega)
    have e1 : ∀ q, q ≠ 96 → q ≠ 142 → q ≠ 147 → q ≠ 148 → q ≠ 138 → mr q = mc q := fun q a b c d e => by rw [r2 q b c d, m00_off e, zup_off a]
    have e2 : ∀ q, q ≠ 96 → q ≠ 142 → q ≠ 147 → q ≠ 148 → q ≠ 138 → (q < 105 ∨ 137 < q) → mr q = mem q := fun q a b c d e f => by rw [e1 q a b c d e, d1 q f]
    have e3 : ∀ i, i ≠ 0 → mr 138 i = mem 138 i := fun i hi => by rw [r2 138 (by omega) (by omega) (by omega), m00_at hi, zup_off (by omega), d1 138 (by omega)]
    have e4 : mr 96 = fun i => if i = (k : Int) then 1 else mem 96 i := by
      funext i
      rw [r2 96 (by omega) (by omega) (by omega), m00_off (by omega), zup_same, d1 96 (by omega)]
    have e5 : mr 148 = fun i => if i = (k : Int) then 1 else mem 148 i := by
      funext i
      rw [r5 i, m00_off (by omega), zup_off (by omega), d1 148 (by omega)]
    have e6 : ∀ i, mr 142 i = if 434 * (k : Int) ≤ i ∧ i < 434 * k + 434 then mem 140 (i - 434 * k) else mem 142 i := fun i => by rw [r3 i, m00_off (by omega), m00_off (by omega), zup_off (by omega), zup_off (by omega), d1 140 (by omega), d1 142 (by omega)]
    have e7 : ∀ i, mr 147 i = if 11 * (k : Int) ≤ i ∧ i < 11 * k + 11 then mem 145 (i - 11 * k) else mem 147 i := fun i => by rw [r4 i, m00_off (by omega), m00_off (by omega), zup_off (by omega), zup_off (by omega), d1 145 (by omega), d1 147 (by omega)]
    refine ⟨1, zup mc 96 k 1, mr, ?_, ?_, ?_⟩
    · unfold f_X11_image
      rw [if_neg (by omega), if_pos (by omega), if_pos (by omega), Int.toNat_natCast, c1]
      simp only [zbind]
      rw [if_pos (by omega)]
      rfl
    · unfold f_X12_image
      simp only [pipe, m00_eq, mIsIn, zbind, bi0]
      rw [if_pos (by omega), r1]
    · have f : ∀ q, ((2 ≤ q ∧ q ≤ 18) ∨ q = 0 ∨ q = 1 ∨ q = 41 ∨ q = 45 ∨ (53 ≤ q ∧ q ≤ 94) ∨ q = 102 ∨ q = 103 ∨ q = 139 ∨ q = 140 ∨ q = 143 ∨ q = 145 ∨ q = 153 ∨ q = 155) → mr q = mem q := fun q hq => e2 q (by omega) (by omega) (by omega) (by omega) (by omega) (by omega)
      refine ⟨?_, ?_, rT_mem (by rw [f 1 (by omega)]) (f 2 (by omega)) (e3 2 (by omega)) (f 139 (by omega)) t, rV_mem (f 0 (by omega)) (fun i hi => e3 i (by omega)) vv, rL_mem (e3 36 (by omega)) (f 102 (by omega)) (f 103 (by omega)) (f 153 (by omega)) l, rB_mem (fun i _ => by rw [f 45 (by omega)]) (f 155 (by omega)) (e3 41 (by omega)) bb, ?_, rK_mem (f 3 (by omega)) (f 41 (by omega)) kk⟩
      · rw [f 140 (by omega), f 145 (by omega)]
        exact rI_mem (fun q _ _ => f q (by omega)) (fun q _ _ => f q (by omega)) (fun q _ _ => f q (by omega)) a
      · rw [f 140 (by omega)]
        exact rH_mem (fun q _ _ => f q (by omega)) (e3 25 (by omega)) (f 143 (by omega)) b
      · intro j hj
        rw [e4, e5]
        by_cases hjk : j = k
        · subst hjk
          refine ⟨by simp, Or.inr ⟨by simp, ?_⟩⟩
          refine rI_cg (A := mem 140) (N := mem 145) (fun i i0 i1 => ?_) (fun i i0 i1 => ?_) (rI_mem (mem := mc) (fun q _ _ => e1 q (by omega) (by omega) (by omega) (by omega) (by omega)) (fun q _ _ => e1 q (by omega) (by omega) (by omega) (by omega) (by omega)) (fun q _ _ => e1 q (by omega) (by omega) (by omega) (by omega) (by omega)) c2)
          · rw [e6, if_pos (by omega)]
            congr 1
            omega
          · rw [e7, if_pos (by omega)]
            congr 1
            omega
        · have hn : ¬ (j : Int) = (k : Int) := by omega
          obtain ⟨g1, g2⟩ := g j hj
          simp only [if_neg hn]
          refine ⟨g1, ?_⟩
          rcases g2 with g2 | ⟨g2, g3⟩
          · exact Or.inl g2
          · refine Or.inr ⟨g2, ?_⟩
            have same : ∀ q, (105 + 17 * j ≤ q ∧ q ≤ 119 + 17 * j) → mr q = mem q := fun q hq => by
              rw [e1 q (by omega) (by omega) (by omega) (by omega) (by omega), c4 q (by omega) (by omega) (by omega)]
            refine rI_cg (A := fun i => mem 142 (434 * j + i)) (N := fun i => mem 147 (11 * j + i)) (fun i i0 i1 => ?_) (fun i i0 i1 => ?_) (rI_mem (fun q _ _ => same q (by omega)) (fun q _ _ => same q (by omega)) (fun q _ _ => same q (by omega)) g3)
            · rw [e6, if_neg (by omega)]
            · rw [e7, if_neg (by omega)]
  · refine okQ R 0 ?_ ?_
    · unfold f_X11_image
      by_cases h : x < 0
      · rw [if_pos h]
      · rw [if_neg h, if_neg (by omega)]
    · unfold f_X12_image
      simp only [pipe, m00_eq, mIsIn, zbind, bi0]
      rw [if_neg hx]
theorem qRestore {mem : zMem} (R : Rel mem) (x : Int) : okC (f_X11_restore x) (f_X12_restore x) mem := by
  have L1 : sLen 95 = 2 := rfl
  have L2 : sLen 96 = 2 := rfl
  have L3 : sLen 148 = 2 := rfl
  by_cases hx : 0 ≤ x ∧ x ≤ 1
  · obtain ⟨k, rfl⟩ : ∃ k : Nat, x = (k : Int) := ⟨x.toNat, by omega⟩
    have hk : k < 2 := by omega
    have G := R.2.2.2.2.2.2.1 k hk
    rcases G with ⟨g1, g2 | ⟨g2, g3⟩⟩
    · refine okQ R 0 ?_ ?_
      · unfold f_X11_restore
        rw [if_neg (by omega), if_neg (by omega), if_pos (by omega), if_pos g2]
      · unfold f_X12_restore
        simp only [pipe, m00_eq, mIsIn, zbind, bi0]
        rw [if_pos (by omega), if_pos (by omega), m00_off (by omega), if_pos (by omega)]
    · obtain ⟨a, b, t, vv, l, bb, g, kk⟩ := R
      obtain ⟨mc, c1, c2, c3, c4⟩ := cCopyI IT_20 (IT_im hk) (by omega) g3
      have d1 : ∀ q, (q < 4 ∨ 18 < q) → mc q = mem q := fun q hq => c4 q (by omega) (by omega) (by omega)
      obtain ⟨mr, r1, r2, r3, r4, r5⟩ := mRestore_1 (mem := m00 (zup mc 53 2 0)) (k := (k : Int)) (by omega) (by omega)
      have e1 : ∀ q, q ≠ 53 → q ≠ 138 → q ≠ 140 → q ≠ 145 → mr q = mc q := fun q a b c d => by rw [r2 q c d b, m00_off b, zup_off a]
      have e2 : ∀ q, q ≠ 53 → q ≠ 138 → q ≠ 140 → q ≠ 145 → (q < 4 ∨ 18 < q) → mr q = mem q := fun q a b c d e => by rw [e1 q a b c d, d1 q e]
      have e3 : ∀ i, i ≠ 0 → i ≠ 25 → mr 138 i = mem 138 i := fun i h1 h2 => by rw [r5 i, up_ne h2, m00_at h1, zup_off (by omega), d1 138 (by omega)]
      refine ⟨1, zup mc 53 2 0, mr, ?_, ?_, ?_⟩
      · unfold f_X11_restore f_X2_clear
        rw [if_neg (by omega), if_neg (by omega), if_pos (by omega), if_neg (by omega), if_pos (by omega), Int.toNat_natCast, c1]
        rfl
      · unfold f_X12_restore
        simp only [pipe, m00_eq, mIsIn, zbind, bi0]
        rw [if_pos (by omega), if_pos (by omega), m00_off (by omega), zup_off (by omega), d1 148 (by omega), if_neg (by omega), r1]
      · refine ⟨?_, ?_, rO_mem ⟨fun q hq => e2 q (by omega) (by omega) (by omega) (by omega) (by omega), by rw [e2 1 (by omega) (by omega) (by omega) (by omega) (by omega)], fun i _ => by rw [e2 45 (by omega) (by omega) (by omega) (by omega) (by omega)], fun i hi => e3 i (by omega) (by omega)⟩ ⟨t, vv, l, bb, g, kk⟩⟩
        · refine rI_cg (fun i i0 i1 => ?_) (fun i i0 i1 => ?_) (rI_mem (fun q _ _ => e1 q (by omega) (by omega) (by omega) (by omega)) (fun q _ _ => e1 q (by omega) (by omega) (by omega) (by omega)) (fun q _ _ => e1 q (by omega) (by omega) (by omega) (by omega)) c2)
          · rw [r3 i i0 i1, m00_off (by omega), zup_off (by omega), d1 142 (by omega)]
          · rw [r4 i i0 i1, m00_off (by omega), zup_off (by omega), d1 147 (by omega)]
        · have h53 : ∀ i, mr 53 i = if i = 2 then 0 else mem 53 i := fun i => by rw [r2 53 (by omega) (by omega) (by omega), m00_off (by omega), zup_same, d1 53 (by omega)]
          have b1 := b.1
          refine ⟨⟨?_, ?_, ?_, ?_, ?_⟩, fun j j0 j1 => ?_⟩
          · rw [h53, if_neg (by omega)]; omega
          · rw [h53, if_neg (by omega)]; omega
          · rw [h53, if_pos rfl]; omega
          · rw [h53, if_pos rfl]; omega
          · rw [h53, if_pos rfl, r5 25, up_eq]
          · rw [h53, if_pos rfl] at j1
            omega
  · refine okQ R 0 ?_ ?_
    · unfold f_X11_restore
      by_cases h : x < 0
      · rw [if_pos h]
      · rw [if_neg h, if_pos (by omega)]
    · unfold f_X12_restore
      simp only [pipe, m00_eq, mIsIn, zbind, bi0]
      rw [if_neg hx]
