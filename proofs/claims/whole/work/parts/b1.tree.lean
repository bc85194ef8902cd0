/-! a sentence read by both: the row of parts and the row of nodes grow together -/
def Tr (B D X : Int → Int) (H : Int) : Nat → Int → Int → Nat → Prop
  | 0, _, _, _ => False
  | d + 1, i, j, n => (0 ≤ i ∧ i < j ∧ j ≤ 40 ∧ 1 ≤ n) ∧ (
      (X (4 * (j - 1)) = 1 ∧ X (4 * (j - 1) + 1) = j - 2 ∧ B (j - 1) = 15 ∧ Tr B D X H d i (j - 1) n) ∨
      (∃ m n1 n2, n = n1 + n2 ∧ ((X (4 * (j - 1)) = 2 ∧ B (j - 1) = 14) ∨ (X (4 * (j - 1)) = 3 ∧ B (j - 1) = 13)) ∧ X (4 * (j - 1) + 1) = m - 1 ∧ X (4 * (j - 1) + 2) = j - 2 ∧ Tr B D X H d i m n1 ∧ Tr B D X H d m (j - 1) n2) ∨
      (n = 1 ∧ j = i + 1 ∧ (
        (∃ w, 16 ≤ w ∧ w ≤ 18 ∧ X (4 * i) = 50 + w ∧ B i = w) ∨
        (X (4 * i) = 69 ∧ B i = 19 ∧ X (4 * i + 1) = D i ∧ 0 ≤ D i ∧ D i < H) ∨
        (∃ w s, 20 ≤ w ∧ w ≤ 23 ∧ 0 ≤ s ∧ s ≤ 2 ∧ X (4 * i) = 50 + w ∧ X (4 * i + 3) = 60 + s ∧ B i = 100 * (s + 1) + w ∧ X (4 * i + 2) = D i ∧ 0 ≤ D i ∧ D i ≤ 999))))
theorem Tr_b {B D X : Int → Int} {H : Int} {d : Nat} {i j : Int} {n : Nat} (t : Tr B D X H d i j n) : 0 ≤ i ∧ i < j ∧ j ≤ 40 ∧ 1 ≤ n := by
  cases d with
  | zero => exact absurd t (fun h => h)
  | succ d => exact t.1
theorem Tr_mono {B D X : Int → Int} {H : Int} : ∀ (d e : Nat) (i j : Int) (n : Nat), d ≤ e → Tr B D X H d i j n → Tr B D X H e i j n := by
  intro d
  induction d with
  | zero => intro e i j n _ t; exact absurd t (fun h => h)
  | succ d ih =>
    intro e i j n he t
    obtain ⟨e, rfl⟩ : ∃ g, e = g + 1 := ⟨e - 1, by omega⟩
    unfold Tr at t ⊢
    obtain ⟨hb, t⟩ := t
    refine ⟨hb, ?_⟩
    rcases t with ⟨a, b, c, t1⟩ | ⟨m, n1, n2, a, b, c, c', t1, t2⟩ | t
    · exact Or.inl ⟨a, b, c, ih e _ _ _ (by omega) t1⟩
    · exact Or.inr (Or.inl ⟨m, n1, n2, a, b, c, c', ih e _ _ _ (by omega) t1, ih e _ _ _ (by omega) t2⟩)
    · exact Or.inr (Or.inr t)
theorem Tr_cg {B D X B' D' X' : Int → Int} {H : Int} : ∀ (d : Nat) (i j : Int) (n : Nat), (∀ q, q < j → B' q = B q ∧ D' q = D q) → (∀ q, q < 4 * j → X' q = X q) → Tr B D X H d i j n → Tr B' D' X' H d i j n := by
  intro d
  induction d with
  | zero => intro i j n _ _ t; exact absurd t (fun h => h)
  | succ d ih =>
    intro i j n h1 h2 t
    unfold Tr at t ⊢
    obtain ⟨hb, t⟩ := t
    refine ⟨hb, ?_⟩
    rw [h2 (4 * (j - 1)) (by omega), h2 (4 * (j - 1) + 1) (by omega), h2 (4 * (j - 1) + 2) (by omega), (h1 (j - 1) (by omega)).1]
    rcases t with ⟨a, b, c, t1⟩ | ⟨m, n1, n2, a, b, c, c', t1, t2⟩ | ⟨a, b, t⟩
    · exact Or.inl ⟨a, b, c, ih _ _ _ (fun q hq => h1 q (by omega)) (fun q hq => h2 q (by omega)) t1⟩
    · have tb := Tr_b t2
      exact Or.inr (Or.inl ⟨m, n1, n2, a, b, c, c', ih _ _ _ (fun q hq => h1 q (by omega)) (fun q hq => h2 q (by omega)) t1, ih _ _ _ (fun q hq => h1 q (by omega)) (fun q hq => h2 q (by omega)) t2⟩)
    · refine Or.inr (Or.inr ⟨a, b, ?_⟩)
      rw [h2 (4 * i) (by omega), h2 (4 * i + 1) (by omega), h2 (4 * i + 2) (by omega), h2 (4 * i + 3) (by omega), (h1 i (by omega)).1, (h1 i (by omega)).2]
      exact t
theorem Tr_Rep {B D X A : Int → Int} (hx : ∀ q, 0 ≤ q → q < 240 → A (194 + q) = X q) : ∀ (d : Nat) (i j : Int) (n : Nat), Tr B D X (A 2) d i j n → Rep B D A d (j - 1) i j n := by
  intro d
  induction d with
  | zero => intro i j n t; exact absurd t (fun h => h)
  | succ d ih =>
    intro i j n t
    unfold Tr at t
    unfold Rep
    obtain ⟨hb, t⟩ := t
    have e0 : A (194 + 4 * (j - 1)) = X (4 * (j - 1)) := hx _ (by omega) (by omega)
    have e1 : A (195 + 4 * (j - 1)) = X (4 * (j - 1) + 1) := by rw [← hx _ (by omega) (by omega)]; congr 1; omega
    have e2 : A (196 + 4 * (j - 1)) = X (4 * (j - 1) + 2) := by rw [← hx _ (by omega) (by omega)]; congr 1; omega
    have e3 : A (197 + 4 * (j - 1)) = X (4 * (j - 1) + 3) := by rw [← hx _ (by omega) (by omega)]; congr 1; omega
    refine ⟨⟨by omega, by omega, hb.1, hb.2.1, hb.2.2.1, hb.2.2.2⟩, ?_⟩
    rw [e0, e1, e2, e3]
    rcases t with ⟨a, b, c, t1⟩ | ⟨m, n1, n2, a, b, c, c', t1, t2⟩ | ⟨a, b, t⟩
    · refine Or.inl ⟨a, c, ?_⟩
      rw [b]
      have := ih _ _ _ t1
      rw [show j - 2 = j - 1 - 1 by omega]
      exact this
    · refine Or.inr (Or.inl ⟨m, n1, n2, a, b, ?_, ?_⟩)
      · rw [c]
        exact ih _ _ _ t1
      · rw [c', show j - 2 = j - 1 - 1 by omega]
        exact ih _ _ _ t2
    · refine Or.inr (Or.inr ⟨a, b, ?_⟩)
      rw [show j - 1 = i by omega]
      exact t
/-! states and frames -/
def CS (m : zMem) (o z : Int) (B D : Int → Int) : Prop := m 49 4 = o ∧ m 49 3 = z ∧ m 50 = B ∧ m 51 = D
def RS (r : zMem) (z o w : Int) (X : Int → Int) : Prop := r 138 43 = z ∧ r 138 44 = o ∧ r 138 45 = w ∧ r 156 = X
def FS (m m' : zMem) : Prop := (∀ q, q ≠ 1 → (q < 49 ∨ 51 < q) → m' q = m q) ∧ ∀ i, (i < 4 ∨ 10 < i) → m' 1 i = m 1 i
def GS (r r' : zMem) : Prop := (∀ q, q ≠ 138 → q ≠ 156 → r' q = r q) ∧ ∀ i, (i < 5 ∨ (13 < i ∧ (i < 43 ∨ 46 < i))) → r' 138 i = r 138 i
theorem FS_t {a b c : zMem} (h1 : FS a b) (h2 : FS b c) : FS a c := ⟨fun q x y => (h2.1 q x y).trans (h1.1 q x y), fun i x => (h2.2 i x).trans (h1.2 i x)⟩
theorem GS_t {a b c : zMem} (h1 : GS a b) (h2 : GS b c) : GS a c := ⟨fun q x y => (h2.1 q x y).trans (h1.1 q x y), fun i x => (h2.2 i x).trans (h1.2 i x)⟩
theorem FS_r (a : zMem) : FS a a := ⟨fun _ _ _ => rfl, fun _ _ => rfl⟩
theorem GS_r (a : zMem) : GS a a := ⟨fun _ _ _ => rfl, fun _ _ => rfl⟩
theorem FXF_S {m m' : zMem} (h : FXF m m') : FS m m' := ⟨fun q x _ => h.1 q x, h.2⟩
theorem FYF_S {m m' : zMem} (h : FYF m m') : GS m m' := ⟨fun q x _ => h.1 q x, fun i hi => h.2 i (by omega)⟩
theorem FS_up {m : zMem} {q : Nat} {i v : Int} (h : 49 ≤ q ∧ q ≤ 51) : FS m (zup m q i v) := ⟨fun p _ hp => zup_off (by omega), fun j _ => by rw [zup_off (by omega)]⟩
theorem GS_up {m : zMem} {i v : Int} (h : 43 ≤ i ∧ i ≤ 46) : GS m (zup m 138 i v) := ⟨fun p hp _ => zup_off hp, fun j hj => by rw [zup_same, if_neg (by omega)]⟩
theorem GS_156 {m : zMem} {i v : Int} : GS m (zup m 156 i v) := ⟨fun p _ hp => zup_off hp, fun j _ => by rw [zup_off (by omega)]⟩
theorem CS_F {m m' : zMem} {o z : Int} {B D : Int → Int} (c : CS m o z B D) (h : FXF m m') : CS m' o z B D := by
  unfold CS
  rw [h.1 49 (by omega), h.1 50 (by omega), h.1 51 (by omega)]
  exact c
theorem RS_F {m m' : zMem} {z o w : Int} {X : Int → Int} (c : RS m z o w X) (h : FYF m m') : RS m' z o w X := by
  unfold RS
  rw [h.1 156 (by omega), h.2 43 (by omega), h.2 44 (by omega), h.2 45 (by omega)]
  exact c
theorem PC_S {m m' : zMem} {A N : Int → Int} (h : PC m A N) (f : FS m m') : PC m' A N := PC_f h (fun q _ _ => f.1 q (by omega) (by omega))
/-- a part more -/
theorem cAddE {T : Int → Int} {n lim p : Int} {m : zMem} {o z : Int} {B D : Int → Int} (x y : Int) (c : CT T n lim m p) (s : CS m o z B D) (h0 : 0 ≤ z) (h1 : z < 40) : ∃ m', f_X8_add 49 x y m = some (0, m') ∧ CT T n lim m' p ∧ CS m' o (z + 1) (up B z x) (up D z y) ∧ FS m m' := by
  have L50 : sLen (49 + 1) = 40 := rfl
  have L51 : sLen (49 + 2) = 40 := rfl
  obtain ⟨s1, s2, s3, s4⟩ := s
  refine ⟨zup (zup (zup m 50 z x) 51 z y) 49 3 (z + 1), ?_, CT_up (CT_up (CT_up c (by omega)) (by omega)) (by omega), ⟨?_, ?_, ?_, ?_⟩, FS_t (FS_t (FS_up (by omega)) (FS_up (by omega))) (FS_up (by omega))⟩
  · unfold f_X8_add
    rw [s2, if_neg (by omega), if_neg (by omega), if_pos (show ix (49 + 1) z from ⟨h0, by rw [L50]; exact h1⟩)]
    simp only [pipe]
    have e1 : zup m (49 + 1) z x 49 3 = z := by rw [zup_off (by omega), s2]
    rw [e1, if_pos (show ix (49 + 2) z from ⟨h0, by rw [L51]; exact h1⟩)]
    have e2 : zup (zup m (49 + 1) z x) (49 + 2) z y 49 3 = z := by rw [zup_off (by omega), e1]
    rw [e2, w32_id ⟨by omega, by omega⟩]
  · rw [zup_same, if_neg (by omega), zup_off (by omega), zup_off (by omega), s1]
  · rw [zup_same, if_pos rfl]
  · rw [zup_off (by omega), zup_off (by omega), zup_row, s3]
  · rw [zup_off (by omega), zup_row, zup_off (by omega), s4]
def up4 (X : Int → Int) (k a b c d : Int) : Int → Int := up (up (up (up X k a) (k + 1) b) (k + 2) c) (k + 3) d
theorem up4_at (X : Int → Int) (k a b c d : Int) : up4 X k a b c d k = a ∧ up4 X k a b c d (k + 1) = b ∧ up4 X k a b c d (k + 2) = c ∧ up4 X k a b c d (k + 3) = d := by
  unfold up4
  refine ⟨?_, ?_, ?_, ?_⟩
  · rw [up_ne (by omega), up_ne (by omega), up_ne (by omega), up_eq]
  · rw [up_ne (by omega), up_ne (by omega), up_eq]
  · rw [up_ne (by omega), up_eq]
  · rw [up_eq]
theorem up4_off {X : Int → Int} {k a b c d q : Int} (h : q < k) : up4 X k a b c d q = X q := by
  unfold up4
  rw [up_ne (by omega), up_ne (by omega), up_ne (by omega), up_ne (by omega)]
/-- a node more -/
theorem mSays {T : Int → Int} {n lim p : Int} {r : zMem} {z o w : Int} {X : Int → Int} (a b c d : Int) (u : RU T n lim r p) (s : RS r z o w X) (h0 : 0 ≤ z) (h1 : z < 40) : ∃ r', f_X12_saysOne a b c d r = some (z, r') ∧ RU T n lim r' p ∧ RS r' (z + 1) o w (up4 X (4 * z) a b c d) ∧ r' 138 46 = r 138 46 ∧ GS r r' := by
  have L : sLen 156 = 240 := rfl
  obtain ⟨s1, s2, s3, s4⟩ := s
  refine ⟨zup (zup (zup (zup (zup r 156 (4 * z) a) 156 (4 * z + 1) b) 156 (4 * z + 2) c) 156 (4 * z + 3) d) 138 43 (z + 1), ?_, RU_up (RU_up (RU_up (RU_up (RU_up u (by omega)) (by omega)) (by omega)) (by omega)) (by omega), ⟨?_, ?_, ?_, ?_⟩, ?_, GS_t (GS_t (GS_t (GS_t GS_156 GS_156) GS_156) GS_156) (GS_up (by omega))⟩
  · unfold f_X12_saysOne
    rw [s1, w32_id (x := 4 * z) ⟨by omega, by omega⟩]
    simp only [pipe]
    rw [w32_id (x := 4 * z + 1) ⟨by omega, by omega⟩, w32_id (x := 4 * z + 2) ⟨by omega, by omega⟩, w32_id (x := 4 * z + 3) ⟨by omega, by omega⟩, if_pos (show ix 156 (4 * z) from ⟨by omega, by omega⟩), if_pos (show ix 156 (4 * z + 1) from ⟨by omega, by omega⟩), if_pos (show ix 156 (4 * z + 2) from ⟨by omega, by omega⟩), if_pos (show ix 156 (4 * z + 3) from ⟨by omega, by omega⟩)]
    have e : zup (zup (zup (zup r 156 (4 * z) a) 156 (4 * z + 1) b) 156 (4 * z + 2) c) 156 (4 * z + 3) d 138 43 = z := by rw [zup_off (by omega), zup_off (by omega), zup_off (by omega), zup_off (by omega), s1]
    rw [e, w32_id (x := z + 1) ⟨by omega, by omega⟩, zup_same, if_pos rfl, w32_id ⟨by omega, by omega⟩, show z + 1 - 1 = z by omega]
  · rw [zup_same, if_pos rfl]
  · rw [zup_same, if_neg (by omega), zup_off (by omega), zup_off (by omega), zup_off (by omega), zup_off (by omega), s2]
  · rw [zup_same, if_neg (by omega), zup_off (by omega), zup_off (by omega), zup_off (by omega), zup_off (by omega), s3]
  · rw [zup_off (by omega), zup_row, zup_row, zup_row, zup_row, s4]
    rfl
  · rw [zup_same, if_neg (by omega), zup_off (by omega), zup_off (by omega), zup_off (by omega), zup_off (by omega)]
theorem cIsSign {T : Int → Int} {n lim p : Int} {m : zMem} (c : CT T n lim m p) (x : Int) : f_X6_isSign x m = some (bi ((lexT T n lim p).2.2.1 = 4 ∧ (lexT T n lim p).2.2.2.1 = x), m) := by
  obtain ⟨_, _, h6, _, _, h7⟩ := c.2.1
  have k6 : m 1 6 = 3 ↔ (lexT T n lim p).2.2.1 = 4 := by
    rw [h6]
    by_cases x0 : (lexT T n lim p).2.2.1 = 0
    · rw [if_pos x0]; omega
    · rw [if_neg x0]
      by_cases x1 : (lexT T n lim p).2.2.1 = 1
      · rw [if_pos x1]; omega
      · rw [if_neg x1]; omega
  unfold f_X6_isSign
  by_cases g1 : (lexT T n lim p).2.2.1 = 4
  · by_cases g2 : (lexT T n lim p).2.2.2.1 = x
    · rw [if_pos (k6.2 g1), if_pos (by rw [zcmp_0, h7 (Or.inr g1), g2]), bi_t ⟨g1, g2⟩]
    · rw [if_pos (k6.2 g1), if_neg (by rw [zcmp_0, h7 (Or.inr g1)]; exact g2), bi_f (fun h => g2 h.2)]
  · rw [if_neg (fun h => g1 (k6.1 h)), bi_f (fun h => g1 h.1)]
theorem RU_F {T : Int → Int} {n lim p : Int} {r : zMem} {i v : Int} (u : RU T n lim r p) (h : 43 ≤ i) : RU T n lim (zup r 138 i v) p := RU_up u (by omega)
def CG (m : zMem) (kk pl : Int) : Prop := CF m kk pl ∧ 0 ≤ m 49 3
theorem CG_F {m m' : zMem} {o z kk pl : Int} {B D : Int → Int} (s : CS m o z B D) (h : FXF m m') (z0 : 0 ≤ z) (c : CF m' kk pl) : CG m' kk pl := ⟨c, by rw [h.1 49 (by omega), s.2.1]; exact z0⟩
