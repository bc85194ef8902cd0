/-! worlds that grow: what the constructors make -/
def isR (p k : Nat) : Bool := if sK p < 13 then decide (k < sNf (sK p)) && decide (sFk (sK p) k = 2) else if sK p = 16 ∨ sK p = 17 then decide (k < sLen p) else false
def kI (Γ : zG) : Prop := ∀ p k, gF Γ p k = true → p < gN Γ ∧ sRf p k < gN Γ
def kS (Γ Γ' : zG) : Prop := (gC Γ' = gC Γ ∧ gI Γ' = gI Γ ∧ gY Γ' = gY Γ ∧ gB Γ' = gB Γ ∧ gS Γ' = gS Γ ∧ gV Γ' = gV Γ) ∧ gN Γ ≤ gN Γ' ∧ (∀ q, q < gN Γ → gD Γ' q = gD Γ q) ∧ ∀ p k, gF Γ p k = true → gF Γ' p k = true
theorem kS_r (Γ : zG) : kS Γ Γ := ⟨⟨rfl, rfl, rfl, rfl, rfl, rfl⟩, Nat.le_refl _, fun _ _ => rfl, fun _ _ h => h⟩
theorem kS_t {a b c : zG} (h1 : kS a b) (h2 : kS b c) : kS a c := by
  obtain ⟨⟨x1, x2, x3, x4, x5, x6⟩, x7, x8, x9⟩ := h1
  obtain ⟨⟨y1, y2, y3, y4, y5, y6⟩, y7, y8, y9⟩ := h2
  exact ⟨⟨y1.trans x1, y2.trans x2, y3.trans x3, y4.trans x4, y5.trans x5, y6.trans x6⟩, Nat.le_trans x7 y7, fun q hq => (y8 q (Nat.lt_of_lt_of_le hq x7)).trans (x8 q hq), fun p k h => y9 p k (x9 p k h)⟩
def gMk (Γ : zG) (n : Nat) (F : Nat → Nat → Bool) (D : Nat → Nat) : zG := (gC Γ, gI Γ, gY Γ, gB Γ, gS Γ, gV Γ, n, F, D)
theorem zInj_of {Γ : zG} {mem : zMem} (h : va_D (zA Γ) (zwl Γ mem)) : zInj Γ := ⟨fun i j hi hj e => h.1 i j _ _ (zwl_at mem hi) (zwl_at mem hj) e, fun i hi => h.2 i _ (zwl_at mem hi)⟩
/-- the machine behind a making: so many cells, so many slots -/
def kX (X : zM) (cs sl : Nat) : zM := match X with
  | (p, l, e, R, s, m, args, below, meth, c, _, _, Q) => (p, l, e, R, s, m, args, below, meth, c, cs, sl, Q)
def kR (X : zM) : Room := X.2.2.2.1
def kAO (X : zM) : Prop := va_AO "ShadowHeirs$Scene" X.2.2.2.2.1 ∧ va_AO "ShadowHeirs$Island" X.2.2.2.2.1
def kIn (X : zM) : Prop := X.2.2.2.2.2.2.2.2.1.name = "<init>"
def kC (X : zM) (Γ : zG) (own : String) (cc : ByteArray) (nL : Nat) : Prop := zC X Γ own cc nL ∧ kI Γ ∧ kAO X ∧ kIn X
theorem kC_x {X : zM} {Γ : zG} {own : String} {cc : ByteArray} {nL : Nat} (a b a' b' : Nat) (C : kC (kX X a b) Γ own cc nL) : kC (kX X a' b') Γ own cc nL := by
  obtain ⟨p, l, e, R, s, m, args, below, meth, c, cs0, sl0, Q⟩ := X
  exact C
theorem zC_s {X : zM} {Γ Γ' : zG} {own : String} {cc : ByteArray} {nL : Nat} (C : zC X Γ own cc nL) (h : kS Γ Γ') (hI : zInj Γ') : zC X Γ' own cc nL := by
  obtain ⟨c0, i0, y0, b0, s0, v0, n0, F0', D0⟩ := Γ
  obtain ⟨c1, i1, y1, b1, s1, v1, n1, F1, D1⟩ := Γ'
  obtain ⟨⟨e1, e2, e3, e4, e5, e6⟩, -⟩ := h
  have e1 : c1 = c0 := e1
  have e2 : i1 = i0 := e2
  have e3 : y1 = y0 := e3
  have e4 : b1 = b0 := e4
  have e5 : s1 = s0 := e5
  have e6 : v1 = v0 := e6
  subst e1; subst e2; subst e3; subst e4; subst e5; subst e6
  obtain ⟨p, l, e, R, s, m, args, below, meth, c, cs0, sl0, Q⟩ := X
  obtain ⟨x1, x2, x3, x4, x5, x6, x7, x8, x9⟩ := C
  exact ⟨x1, x2, x3, x4, x5, x6, x7, x8, hI⟩
theorem zcell_eq {Γ Γ' : zG} {mem : zMem} {q : Nat} (hY : gY Γ' = gY Γ) (h : ∀ k, zrf Γ' q k = zrf Γ q k) : zcell Γ' mem q = zcell Γ mem q := by
  have hf : ∀ c, zfv Γ' mem q c = zfv Γ mem q c := by
    intro c
    funext k
    unfold zfv
    rw [h k]
  unfold zcell
  simp only [hY, h, hf]
theorem zwl_new {Γ : zG} {mem : zMem} (a : Nat) (hI : kI Γ) : zwl (gMk Γ (gN Γ + 1) (gF Γ) (fun q => if q = gN Γ then a else gD Γ q)) mem = zwl Γ mem ++ [(a, zcell (gMk Γ (gN Γ + 1) (gF Γ) (fun q => if q = gN Γ then a else gD Γ q)) mem (gN Γ))] := by
  unfold zwl
  show (List.range (gN Γ + 1)).map _ = _
  rw [List.range_succ, List.map_append]
  congr 1
  · apply List.map_congr_left
    intro q hq
    have hq : q < gN Γ := List.mem_range.mp hq
    have e1 : zad (gMk Γ (gN Γ + 1) (gF Γ) (fun q => if q = gN Γ then a else gD Γ q)) q = zad Γ q := by
      show (if q = gN Γ then a else gD Γ q) = gD Γ q
      rw [if_neg (by omega)]
    have e2 : zcell (gMk Γ (gN Γ + 1) (gF Γ) (fun q => if q = gN Γ then a else gD Γ q)) mem q = zcell Γ mem q := by
      refine zcell_eq rfl (fun k => ?_)
      unfold zrf
      show (if gF Γ q k = true then some (if sRf q k = gN Γ then a else gD Γ (sRf q k)) else none) = _
      by_cases hf : gF Γ q k = true
      · have := (hI q k hf).2
        rw [if_pos hf, if_pos hf, if_neg (by omega)]
        rfl
      · rw [if_neg hf, if_neg hf]
    rw [e1, e2]
  · show [((if gN Γ = gN Γ then a else gD Γ (gN Γ)), _)] = _
    rw [if_pos rfl]
def zdf (ci k : Nat) : Value := match sFk ci k with
  | 0 => .int (i32 0)
  | 1 => .long (i64 0)
  | _ => .null
/-- a class that own may make by its row idx -/
def kCl (own : String) (idx ci : Nat) : Prop := ∃ (C : String) (T : u_T) (N : Nat) (ty : Nat → FieldType), vwCl[ci]? = some (C, T, N) ∧ ci < 13 ∧ N = sNf ci ∧ (∀ w ∈ u_ws C T N, w ∈ gw_tbl) ∧ (∀ k, k < N → parseFieldDescriptor (T k).2.2.1 = some (ty k)) ∧ Cond.classLink own idx C ∈ gw_tbl ∧ Cond.instantiable C N ∈ gw_tbl ∧ Cond.initialized C ∈ gw_tbl ∧ ∀ j, j < N → defaultValue (ty j) = vp_V ((List.range (sNf ci)).map (zdf ci)) j
section GROW
variable {X : zM} {Γ : zG} {own : String} {cc : ByteArray} {nL : Nat} {pc : Nat} {lv : List (Nat × Value)} {st : List Value} {mem : zMem} {cs sl : Nat}
theorem kI_new {n a : Nat} (hI : kI Γ) (hn : gN Γ = n) : kI (gMk Γ (n + 1) (gF Γ) (fun q => if q = n then a else gD Γ q)) := by
  intro p k h
  have := hI p k h
  show p < n + 1 ∧ sRf p k < n + 1
  omega
theorem kS_new {n a : Nat} (hn : gN Γ = n) : kS Γ (gMk Γ (n + 1) (gF Γ) (fun q => if q = n then a else gD Γ q)) := by
  refine ⟨⟨rfl, rfl, rfl, rfl, rfl, rfl⟩, ?_, fun q hq => ?_, fun _ _ h => h⟩
  · show gN Γ ≤ n + 1
    omega
  · show (if q = n then a else gD Γ q) = gD Γ q
    rw [if_neg (by omega)]
theorem kF_new {n : Nat} (hI : kI Γ) (hn : gN Γ = n) (k : Nat) : gF Γ n k = false := by
  cases h : gF Γ n k with
  | false => rfl
  | true => have := (hI n k h).1; omega
theorem kg_new (C : kC (kX X cs sl) Γ own cc nL) {n ci idx : Nat} (hn : gN Γ = n) (hk : sK n = ci) {L : Nat} (hLn : sNf ci = L) (hc : kCl own idx ci) (hm : ∀ j, mem n j = 0) (hr : cs + 1 ≤ (kR X).cells ∧ sl + L ≤ (kR X).slots) (d : decode cc pc = .ok (.new idx, 3)) (kk : ∀ (Γ' : zG) (a : Nat), kS Γ Γ' → gN Γ' = n + 1 → gD Γ' n = a → kC (kX X (cs + 1) (sl + L)) Γ' own cc nL → zg (kX X (cs + 1) (sl + L)) Γ' nL (pc + 3) lv (.ref a :: st) mem) : zg (kX X cs sl) Γ nL pc lv st mem := by
  subst hLn
  obtain ⟨p, l, e, R, s, m, args, below, meth, c, cs0, sl0, Q⟩ := X
  obtain ⟨C, hI, hao, hin⟩ := C
  obtain ⟨cn, tt, N, ty, h1, h2, h3, h4, h5, h6, h7, h8, h9⟩ := hc
  subst h3
  intro ls H locs hls hS hP hC
  refine va_new (ci := ci) (fs := (List.range (sNf ci)).map (zdf ci)) C.1 C.2.1 C.2.2.2.2.1 h4 ty h5 C.2.2.2.1 (C.2.2.2.2.1 _ h6) (C.2.2.2.2.1 _ h7) (C.2.2.2.2.1 _ h8) C.2.2.2.2.2.1 hP (zD C.2.2.2.2.2.2.2.2 mem) hS (fun q hq => Nat.le_trans C.2.2.2.2.2.2.2.1 hq) h1 h9 hr.1 hr.2 d (fun a H1 hP1 hD1 hS1 => ?_)
  have ew := zwl_new (mem := mem) a hI
  rw [hn] at ew
  have ec : zcell (gMk Γ (n + 1) (gF Γ) (fun q => if q = n then a else gD Γ q)) mem n = .inr (ci, (List.range (sNf ci)).map (zdf ci)) := by
    have ef : zfv (gMk Γ (n + 1) (gF Γ) (fun q => if q = n then a else gD Γ q)) mem n ci = zdf ci := by
      funext k
      have hf : zrf (gMk Γ (n + 1) (gF Γ) (fun q => if q = n then a else gD Γ q)) n k = none := by
        unfold zrf
        rw [if_neg (by show ¬ gF Γ n k = true; rw [kF_new hI hn k]; decide)]
      unfold zfv zdf
      rw [hm k, hf]
      rfl
    rw [zcell_obj hk h2, ef]
  rw [ec] at ew
  rw [← ew] at hP1 hD1
  exact kk _ a (kS_new hn) rfl (if_pos rfl) ⟨zC_s C (kS_new hn) (zInj_of hD1), kI_new hI hn, hao, hin⟩ ls H1 locs hls hS1 hP1 hC
theorem kg_row {n t : Nat} {ty : FieldType} {a0 : vp_A} {s : State} {H1 : Heap} {a : Nat} {cA : ClassId} (hI : kI Γ) (hn : gN Γ = n) (hK : va_K (gC Γ, gI Γ) vwCl (ztys Γ) s) (hK1 : va_K (gC Γ, gI Γ) vwCl (ztys Γ ++ [(cA, ty)]) s) (ht : (ztys Γ)[t]? = some (gY Γ t, ty)) (hty : ty = .int ∨ ty = .long ∨ ty = .boolean ∨ ∃ nm, ty = .object nm) (hz : zcell (gMk Γ (n + 1) (gF Γ) (fun q => if q = n then a else gD Γ q)) mem n = .inl (gY Γ t, a0)) (hP1 : va_P (gC Γ, gI Γ) vwCl (zwl Γ mem ++ [(a, .inl (cA, a0))]) H1) (hD1 : va_D (zA Γ) (zwl Γ mem ++ [(a, .inl (cA, a0))])) : va_P (gC Γ, gI Γ) vwCl (zwl (gMk Γ (n + 1) (gF Γ) (fun q => if q = n then a else gD Γ q)) mem) H1 ∧ va_D (zA Γ) (zwl (gMk Γ (n + 1) (gF Γ) (fun q => if q = n then a else gD Γ q)) mem) := by
  have ew := zwl_new (mem := mem) a hI
  rw [hn] at ew
  have e1 := (hK.2 t _ ht).2
  have e2 := (hK1.2 5 (cA, ty) rfl).2
  have ecA : cA = gY Γ t := by
    rcases hty with rfl | rfl | rfl | ⟨nm, rfl⟩
    · exact Option.some.inj (e2.symm.trans e1)
    · exact Option.some.inj (e2.symm.trans e1)
    · exact Option.some.inj (e2.symm.trans e1)
    · obtain ⟨_, _, _, _, _, e3⟩ := e2
      obtain ⟨_, _, _, _, _, e4⟩ := e1
      exact Option.some.inj (e3.symm.trans e4)
  rw [hz, ← ecA] at ew
  rw [← ew] at hP1 hD1
  exact ⟨hP1, hD1⟩
theorem kg_newI (C : kC (kX X cs sl) Γ own cc nL) {n : Nat} {x : Int} (hn : gN Γ = n) (hk : sK n = 13) {L : Nat} (hLn : sLen n = L) (hx : ((L : Nat) : Int) = x) (hxb : x ≤ 1000) (hm : ∀ j, mem n j = 0) (hr : cs + 1 ≤ (kR X).cells ∧ sl + L ≤ (kR X).slots) (ha : Cond.arrayClass .int ∈ gw_tbl) (d : decode cc pc = .ok (.newarray .int, 2)) (kk : ∀ (Γ' : zG) (a : Nat), kS Γ Γ' → gN Γ' = n + 1 → gD Γ' n = a → kC (kX X (cs + 1) (sl + L)) Γ' own cc nL → zg (kX X (cs + 1) (sl + L)) Γ' nL (pc + 2) lv (.ref a :: st) mem) : zg (kX X cs sl) Γ nL pc lv (.int (i32 x) :: st) mem := by
  subst hLn
  obtain ⟨p, l, e, R, s, m, args, below, meth, c, cs0, sl0, Q⟩ := X
  obtain ⟨C, hI, hao, hin⟩ := C
  intro ls H locs hls hS hP hC
  have hi : ir x := ⟨by omega, by omega⟩
  have en : (i32 x).toNatClampNeg = sLen n := by have := zn_nat hi (by omega); omega
  refine va_newa (atype := .int) (ty := .int) (N' := sLen n) (a0 := (sLen n, .inl fun _ => 0)) C.1 C.2.1 (C.2.2.2.2.1 _ ha) rfl C.2.2.2.2.2.1 hP (zD C.2.2.2.2.2.2.2.2 mem) hS (fun q hq => Nat.le_trans C.2.2.2.2.2.2.2.1 hq) (fun cA => rfl) (by rw [Int32.lt_iff_toInt_lt, i32_toInt hi]; show ¬ x < 0; omega) en (by show sLen n * 4 ≤ 536870912; omega) hr.1 hr.2 d (fun a cA H1 hK1 hP1 hD1 hS1 => ?_)
  have ec : zcell (gMk Γ (n + 1) (gF Γ) (fun q => if q = n then a else gD Γ q)) mem n = .inl (gY Γ 0, (sLen n, .inl fun _ => 0)) := by
    rw [zcell_13 hk]
    simp only [hm]
    rfl
  obtain ⟨hP2, hD2⟩ := kg_row (t := 0) hI hn C.2.2.2.2.2.1 hK1 rfl (Or.inl rfl) ec hP1 hD1
  exact kk _ a (kS_new hn) rfl (if_pos rfl) ⟨zC_s C (kS_new hn) (zInj_of hD2), kI_new hI hn, hao, hin⟩ ls H1 locs hls hS1 hP2 hC
theorem kg_newL (C : kC (kX X cs sl) Γ own cc nL) {n : Nat} {x : Int} (hn : gN Γ = n) (hk : sK n = 14) {L : Nat} (hLn : sLen n = L) (hx : ((L : Nat) : Int) = x) (hxb : x ≤ 1000) (hm : ∀ j, mem n j = 0) (hr : cs + 1 ≤ (kR X).cells ∧ sl + L ≤ (kR X).slots) (ha : Cond.arrayClass .long ∈ gw_tbl) (d : decode cc pc = .ok (.newarray .long, 2)) (kk : ∀ (Γ' : zG) (a : Nat), kS Γ Γ' → gN Γ' = n + 1 → gD Γ' n = a → kC (kX X (cs + 1) (sl + L)) Γ' own cc nL → zg (kX X (cs + 1) (sl + L)) Γ' nL (pc + 2) lv (.ref a :: st) mem) : zg (kX X cs sl) Γ nL pc lv (.int (i32 x) :: st) mem := by
  subst hLn
  obtain ⟨p, l, e, R, s, m, args, below, meth, c, cs0, sl0, Q⟩ := X
  obtain ⟨C, hI, hao, hin⟩ := C
  intro ls H locs hls hS hP hC
  have hi : ir x := ⟨by omega, by omega⟩
  have en : (i32 x).toNatClampNeg = sLen n := by have := zn_nat hi (by omega); omega
  refine va_newa (atype := .long) (ty := .long) (N' := sLen n) (a0 := (sLen n, .inr (.inl fun _ => 0))) C.1 C.2.1 (C.2.2.2.2.1 _ ha) rfl C.2.2.2.2.2.1 hP (zD C.2.2.2.2.2.2.2.2 mem) hS (fun q hq => Nat.le_trans C.2.2.2.2.2.2.2.1 hq) (fun cA => rfl) (by rw [Int32.lt_iff_toInt_lt, i32_toInt hi]; show ¬ x < 0; omega) en (by show sLen n * 8 ≤ 536870912; omega) hr.1 hr.2 d (fun a cA H1 hK1 hP1 hD1 hS1 => ?_)
  have ec : zcell (gMk Γ (n + 1) (gF Γ) (fun q => if q = n then a else gD Γ q)) mem n = .inl (gY Γ 1, (sLen n, .inr (.inl fun _ => 0))) := by
    rw [zcell_14 hk]
    simp only [hm]
    rfl
  obtain ⟨hP2, hD2⟩ := kg_row (t := 1) hI hn C.2.2.2.2.2.1 hK1 rfl (Or.inr (Or.inl rfl)) ec hP1 hD1
  exact kk _ a (kS_new hn) rfl (if_pos rfl) ⟨zC_s C (kS_new hn) (zInj_of hD2), kI_new hI hn, hao, hin⟩ ls H1 locs hls hS1 hP2 hC
theorem kg_newZ (C : kC (kX X cs sl) Γ own cc nL) {n : Nat} {x : Int} (hn : gN Γ = n) (hk : sK n = 15) {L : Nat} (hLn : sLen n = L) (hx : ((L : Nat) : Int) = x) (hxb : x ≤ 1000) (hm : ∀ j, mem n j = 0) (hr : cs + 1 ≤ (kR X).cells ∧ sl + L ≤ (kR X).slots) (ha : Cond.arrayClass .boolean ∈ gw_tbl) (d : decode cc pc = .ok (.newarray .boolean, 2)) (kk : ∀ (Γ' : zG) (a : Nat), kS Γ Γ' → gN Γ' = n + 1 → gD Γ' n = a → kC (kX X (cs + 1) (sl + L)) Γ' own cc nL → zg (kX X (cs + 1) (sl + L)) Γ' nL (pc + 2) lv (.ref a :: st) mem) : zg (kX X cs sl) Γ nL pc lv (.int (i32 x) :: st) mem := by
  subst hLn
  obtain ⟨p, l, e, R, s, m, args, below, meth, c, cs0, sl0, Q⟩ := X
  obtain ⟨C, hI, hao, hin⟩ := C
  intro ls H locs hls hS hP hC
  have hi : ir x := ⟨by omega, by omega⟩
  have en : (i32 x).toNatClampNeg = sLen n := by have := zn_nat hi (by omega); omega
  refine va_newa (atype := .boolean) (ty := .boolean) (N' := sLen n) (a0 := (sLen n, .inl fun _ => 0)) C.1 C.2.1 (C.2.2.2.2.1 _ ha) rfl C.2.2.2.2.2.1 hP (zD C.2.2.2.2.2.2.2.2 mem) hS (fun q hq => Nat.le_trans C.2.2.2.2.2.2.2.1 hq) (fun cA => rfl) (by rw [Int32.lt_iff_toInt_lt, i32_toInt hi]; show ¬ x < 0; omega) en (by show sLen n * 1 ≤ 536870912; omega) hr.1 hr.2 d (fun a cA H1 hK1 hP1 hD1 hS1 => ?_)
  have ec : zcell (gMk Γ (n + 1) (gF Γ) (fun q => if q = n then a else gD Γ q)) mem n = .inl (gY Γ 2, (sLen n, .inl fun _ => 0)) := by
    rw [zcell_15 hk]
    simp only [hm]
    rfl
  obtain ⟨hP2, hD2⟩ := kg_row (t := 2) hI hn C.2.2.2.2.2.1 hK1 rfl (Or.inr (Or.inr (Or.inl rfl))) ec hP1 hD1
  exact kk _ a (kS_new hn) rfl (if_pos rfl) ⟨zC_s C (kS_new hn) (zInj_of hD2), kI_new hI hn, hao, hin⟩ ls H1 locs hls hS1 hP2 hC
theorem kg_newQ (C : kC (kX X cs sl) Γ own cc nL) {n : Nat} {x : Int} {idx : Nat} (hn : gN Γ = n) (hk : sK n = 17) {L : Nat} (hLn : sLen n = L) (hx : ((L : Nat) : Int) = x) (hxb : x ≤ 1000) (hm : ∀ j, mem n j = 0) (hr : cs + 1 ≤ (kR X).cells ∧ sl + L ≤ (kR X).slots) (ha : Cond.classLink own idx "ShadowHeirs$Scene" ∈ gw_tbl) (d : decode cc pc = .ok (.anewarray idx, 3)) (kk : ∀ (Γ' : zG) (a : Nat), kS Γ Γ' → gN Γ' = n + 1 → gD Γ' n = a → kC (kX X (cs + 1) (sl + L)) Γ' own cc nL → zg (kX X (cs + 1) (sl + L)) Γ' nL (pc + 3) lv (.ref a :: st) mem) : zg (kX X cs sl) Γ nL pc lv (.int (i32 x) :: st) mem := by
  subst hLn
  obtain ⟨p, l, e, R, s, m, args, below, meth, c, cs0, sl0, Q⟩ := X
  obtain ⟨C, hI, hao, hin⟩ := C
  intro ls H locs hls hS hP hC
  have hi : ir x := ⟨by omega, by omega⟩
  have en : (i32 x).toNatClampNeg = sLen n := by have := zn_nat hi (by omega); omega
  refine va_newq (C := "ShadowHeirs$Scene") (N' := sLen n) C.1 C.2.1 C.2.2.2.1 (C.2.2.2.2.1 _ ha) hao.1 C.2.2.2.2.2.1 hP (zD C.2.2.2.2.2.2.2.2 mem) hS (fun q hq => Nat.le_trans C.2.2.2.2.2.2.2.1 hq) (by rw [Int32.lt_iff_toInt_lt, i32_toInt hi]; show ¬ x < 0; omega) en (by omega) hr.1 hr.2 d (fun a cA H1 hK1 hP1 hD1 hS1 => ?_)
  have ec : zcell (gMk Γ (n + 1) (gF Γ) (fun q => if q = n then a else gD Γ q)) mem n = .inl (gY Γ 4, (sLen n, .inr (.inr (.inr (.inr fun _ => none))))) := by
    rw [zcell_17 hk]
    have hf : ∀ k, zrf (gMk Γ (n + 1) (gF Γ) (fun q => if q = n then a else gD Γ q)) n k = none := fun k => by
      unfold zrf
      rw [if_neg (by show ¬ gF Γ n k = true; rw [kF_new hI hn k]; decide)]
    simp only [hf]
    rfl
  obtain ⟨hP2, hD2⟩ := kg_row (t := 4) hI hn C.2.2.2.2.2.1 hK1 rfl (Or.inr (Or.inr (Or.inr ⟨_, rfl⟩))) ec hP1 hD1
  exact kk _ a (kS_new hn) rfl (if_pos rfl) ⟨zC_s C (kS_new hn) (zInj_of hD2), kI_new hI hn, hao, hin⟩ ls H1 locs hls hS1 hP2 hC
theorem kg_newW (C : kC (kX X cs sl) Γ own cc nL) {n : Nat} {x : Int} {idx : Nat} (hn : gN Γ = n) (hk : sK n = 16) {L : Nat} (hLn : sLen n = L) (hx : ((L : Nat) : Int) = x) (hxb : x ≤ 1000) (hm : ∀ j, mem n j = 0) (hr : cs + 1 ≤ (kR X).cells ∧ sl + L ≤ (kR X).slots) (ha : Cond.classLink own idx "ShadowHeirs$Island" ∈ gw_tbl) (d : decode cc pc = .ok (.anewarray idx, 3)) (kk : ∀ (Γ' : zG) (a : Nat), kS Γ Γ' → gN Γ' = n + 1 → gD Γ' n = a → kC (kX X (cs + 1) (sl + L)) Γ' own cc nL → zg (kX X (cs + 1) (sl + L)) Γ' nL (pc + 3) lv (.ref a :: st) mem) : zg (kX X cs sl) Γ nL pc lv (.int (i32 x) :: st) mem := by
  subst hLn
  obtain ⟨p, l, e, R, s, m, args, below, meth, c, cs0, sl0, Q⟩ := X
  obtain ⟨C, hI, hao, hin⟩ := C
  intro ls H locs hls hS hP hC
  have hi : ir x := ⟨by omega, by omega⟩
  have en : (i32 x).toNatClampNeg = sLen n := by have := zn_nat hi (by omega); omega
  refine va_newq (C := "ShadowHeirs$Island") (N' := sLen n) C.1 C.2.1 C.2.2.2.1 (C.2.2.2.2.1 _ ha) hao.2 C.2.2.2.2.2.1 hP (zD C.2.2.2.2.2.2.2.2 mem) hS (fun q hq => Nat.le_trans C.2.2.2.2.2.2.2.1 hq) (by rw [Int32.lt_iff_toInt_lt, i32_toInt hi]; show ¬ x < 0; omega) en (by omega) hr.1 hr.2 d (fun a cA H1 hK1 hP1 hD1 hS1 => ?_)
  have ec : zcell (gMk Γ (n + 1) (gF Γ) (fun q => if q = n then a else gD Γ q)) mem n = .inl (gY Γ 3, (sLen n, .inr (.inr (.inr (.inr fun _ => none))))) := by
    rw [zcell_16 hk]
    have hf : ∀ k, zrf (gMk Γ (n + 1) (gF Γ) (fun q => if q = n then a else gD Γ q)) n k = none := fun k => by
      unfold zrf
      rw [if_neg (by show ¬ gF Γ n k = true; rw [kF_new hI hn k]; decide)]
    simp only [hf]
    rfl
  obtain ⟨hP2, hD2⟩ := kg_row (t := 3) hI hn C.2.2.2.2.2.1 hK1 rfl (Or.inr (Or.inr (Or.inr ⟨_, rfl⟩))) ec hP1 hD1
  exact kk _ a (kS_new hn) rfl (if_pos rfl) ⟨zC_s C (kS_new hn) (zInj_of hD2), kI_new hI hn, hao, hin⟩ ls H1 locs hls hS1 hP2 hC
end GROW
