/-! Numbers: an int is told by its value, a whole number in 32 bits -/
def i32 (x : Int) : Int32 := Int32.ofInt x
def i64 (x : Int) : Int64 := Int64.ofInt x
def w32 (x : Int) : Int := (Int32.ofInt x).toInt
def w64 (x : Int) : Int := (Int64.ofInt x).toInt
abbrev ir (x : Int) : Prop := -2147483648 ≤ x ∧ x ≤ 2147483647
abbrev lr (x : Int) : Prop := -9223372036854775808 ≤ x ∧ x ≤ 9223372036854775807
theorem ir_toInt (a : Int32) : ir a.toInt := ⟨by have := a.le_toInt; simpa using this, by have := a.toInt_lt; omega⟩
theorem lr_toInt (a : Int64) : lr a.toInt := ⟨by have := a.le_toInt; simpa using this, by have := a.toInt_lt; omega⟩
theorem ir_w (x : Int) : ir (w32 x) := ir_toInt _
theorem lr_w (x : Int) : lr (w64 x) := lr_toInt _
theorem ir_lr {x : Int} (h : ir x) : lr x := by unfold ir at h; unfold lr; omega
theorem i32_toInt {x : Int} (h : ir x) : (i32 x).toInt = x := Int32.toInt_ofInt_of_le (by unfold ir at h; omega) (by unfold ir at h; omega)
theorem i64_toInt {x : Int} (h : lr x) : (i64 x).toInt = x := Int64.toInt_ofInt_of_le (by unfold lr at h; omega) (by unfold lr at h; omega)
theorem w32_id {x : Int} (h : ir x) : w32 x = x := i32_toInt h
theorem w64_id {x : Int} (h : lr x) : w64 x = x := i64_toInt h
theorem i32_w (x : Int) : i32 (w32 x) = i32 x := Int32.ofInt_toInt _
theorem i64_w (x : Int) : i64 (w64 x) = i64 x := Int64.ofInt_toInt _
theorem i32_of (a : Int32) : i32 a.toInt = a := Int32.ofInt_toInt _
theorem i64_of (a : Int64) : i64 a.toInt = a := Int64.ofInt_toInt _
theorem i32_lt {x y : Int} (hx : ir x) (hy : ir y) : i32 x < i32 y ↔ x < y := by rw [Int32.lt_iff_toInt_lt, i32_toInt hx, i32_toInt hy]
theorem i32_le {x y : Int} (hx : ir x) (hy : ir y) : i32 x ≤ i32 y ↔ x ≤ y := by rw [Int32.le_iff_toInt_le, i32_toInt hx, i32_toInt hy]
theorem i32_eq {x y : Int} (hx : ir x) (hy : ir y) : i32 x = i32 y ↔ x = y := by rw [← Int32.toInt_inj, i32_toInt hx, i32_toInt hy]
theorem i32_0 : i32 0 = 0 := rfl
theorem ir0 : ir 0 := by unfold ir; omega
theorem i32_add (x y : Int) : i32 x + i32 y = i32 (w32 (x + y)) := by rw [i32_w]; exact (Int32.ofInt_add _ _).symm
theorem i32_sub (x y : Int) : i32 x - i32 y = i32 (w32 (x - y)) := by rw [i32_w]; exact (Int32.ofInt_sub _ _).symm
theorem i32_mul (x y : Int) : i32 x * i32 y = i32 (w32 (x * y)) := by rw [i32_w]; exact (Int32.ofInt_mul _ _).symm
theorem i64_add (x y : Int) : i64 x + i64 y = i64 (w64 (x + y)) := by rw [i64_w]; exact (Int64.ofInt_add _ _).symm
theorem i64_sub (x y : Int) : i64 x - i64 y = i64 (w64 (x - y)) := by rw [i64_w]; exact (Int64.ofInt_sub _ _).symm
theorem i64_mul (x y : Int) : i64 x * i64 y = i64 (w64 (x * y)) := by rw [i64_w]; exact (Int64.ofInt_mul _ _).symm
def zdiv (x y : Int) : Int := (i32 x / i32 y).toInt
def zrem (x y : Int) : Int := (i32 x - i32 x / i32 y * i32 y).toInt
def zand (x y : Int) : Int := (i32 x &&& i32 y).toInt
def zor (x y : Int) : Int := (i32 x ||| i32 y).toInt
def zxor (x y : Int) : Int := (i32 x ^^^ i32 y).toInt
def zshl (x y : Int) : Int := (i32 x <<< (i32 y &&& 31)).toInt
def zshr (x y : Int) : Int := (i32 x >>> (i32 y &&& 31)).toInt
def zush (x y : Int) : Int := ((i32 x).toUInt32 >>> ((i32 y).toUInt32 &&& Int32.toUInt32 31)).toInt32.toInt
def zdivL (x y : Int) : Int := (i64 x / i64 y).toInt
def zremL (x y : Int) : Int := (i64 x - i64 x / i64 y * i64 y).toInt
def zandL (x y : Int) : Int := (i64 x &&& i64 y).toInt
def zorL (x y : Int) : Int := (i64 x ||| i64 y).toInt
def zxorL (x y : Int) : Int := (i64 x ^^^ i64 y).toInt
def zshlL (x y : Int) : Int := (i64 x <<< ((i32 y).toInt64 &&& 63)).toInt
def zshrL (x y : Int) : Int := (i64 x >>> ((i32 y).toInt64 &&& 63)).toInt
def zcmp (x y : Int) : Int := if x < y then -1 else if x = y then 0 else 1
def zbool (x : Int) : Int := (vp_nar .boolean (i32 x)).toInt
/-! The heap that the system's own objects make: a value a slot -/
abbrev zMem : Type := Nat → Int → Int
def zup (mem : zMem) (a : Nat) (i v : Int) : zMem := fun q j => if q = a ∧ j = i then v else mem q j
def pipe {α β : Type} (x : α) (k : α → β) : β := k x
abbrev ix (a : Nat) (i : Int) : Prop := 0 ≤ i ∧ i < (sLen a : Int)
abbrev zG : Type := (Nat → ClassId) × (Nat → Nat → Nat) × (Nat → ClassId) × Nat × (Nat → Nat) × Value × Nat × (Nat → Nat → Bool) × (Nat → Nat)
def gC (Γ : zG) : Nat → ClassId := Γ.1
def gI (Γ : zG) : Nat → Nat → Nat := Γ.2.1
def gY (Γ : zG) : Nat → ClassId := Γ.2.2.1
def gB (Γ : zG) : Nat := Γ.2.2.2.1
def gS (Γ : zG) : Nat → Nat := Γ.2.2.2.2.1
def gV (Γ : zG) : Value := Γ.2.2.2.2.2.1
def gN (Γ : zG) : Nat := Γ.2.2.2.2.2.2.1
def gF (Γ : zG) : Nat → Nat → Bool := Γ.2.2.2.2.2.2.2.1
def gD (Γ : zG) : Nat → Nat := Γ.2.2.2.2.2.2.2.2
def zFull (Γ : zG) : Prop := 157 ≤ gN Γ ∧ ∀ q k, gF Γ q k = true
def zad (Γ : zG) (q : Nat) : Nat := gD Γ q
/-- the objects lie apart, behind what was there before -/
def zInj (Γ : zG) : Prop := (∀ i j, i < gN Γ → j < gN Γ → zad Γ i = zad Γ j → i = j) ∧ ∀ i, i < gN Γ → gB Γ ≤ zad Γ i
def zA (Γ : zG) : Nat → Prop := fun q => gB Γ ≤ q
def ztys (Γ : zG) : List (ClassId × FieldType) := [(gY Γ 0, .int), (gY Γ 1, .long), (gY Γ 2, .boolean), (gY Γ 3, .object "ShadowHeirs$Island"), (gY Γ 4, .object "ShadowHeirs$Scene")]
def zrf (Γ : zG) (q k : Nat) : Option Nat := if gF Γ q k = true then some (zad Γ (sRf q k)) else none
def zfv (Γ : zG) (mem : zMem) (q c k : Nat) : Value := match sFk c k with
  | 0 => .int (i32 (mem q k))
  | 1 => .long (i64 (mem q k))
  | _ => va_rf (zrf Γ q k)
def zcell (Γ : zG) (mem : zMem) (q : Nat) : va_E := match sK q with
  | 13 => .inl (gY Γ 0, sLen q, .inl fun j => i32 (mem q j))
  | 14 => .inl (gY Γ 1, sLen q, .inr (.inl fun j => i64 (mem q j)))
  | 15 => .inl (gY Γ 2, sLen q, .inl fun j => i32 (mem q j))
  | 16 => .inl (gY Γ 3, sLen q, .inr (.inr (.inr (.inr fun j => zrf Γ q j))))
  | 17 => .inl (gY Γ 4, sLen q, .inr (.inr (.inr (.inr fun j => zrf Γ q j))))
  | c => .inr (c, (List.range (sNf c)).map (zfv Γ mem q c))
def zwl (Γ : zG) (mem : zMem) : va_W := (List.range (gN Γ)).map fun q => (zad Γ q, zcell Γ mem q)
/-- is a slot a long? -/
def zlg (q : Nat) (j : Int) : Bool := if sK q = 14 then true else if sK q < 13 then sFk (sK q) j.toNat == 1 else false
def zrg (b : Bool) (x : Int) : Prop := if b = true then lr x else ir x
/-- every slot holds a number of its kind -/
def zCn (mem : zMem) : Prop := ∀ q j, zrg (zlg q j) (mem q j)
theorem zwl_at {Γ : zG} (mem : zMem) {q : Nat} (h : q < gN Γ) : (zwl Γ mem)[q]? = some (zad Γ q, zcell Γ mem q) := by
  unfold zwl
  rw [List.getElem?_map, List.getElem?_range h]
  rfl
theorem zwl_len (Γ : zG) (mem : zMem) : (zwl Γ mem).length = gN Γ := by simp [zwl]
theorem zwl_in {Γ : zG} {mem : zMem} {k : Nat} {e : Nat × va_E} (h : (zwl Γ mem)[k]? = some e) : k < gN Γ ∧ e = (zad Γ k, zcell Γ mem k) := by
  have hk : k < gN Γ := by
    have := (List.getElem?_eq_some_iff.mp h).1
    rwa [zwl_len] at this
  rw [zwl_at mem hk] at h
  exact ⟨hk, (Option.some.inj h).symm⟩
theorem zD {Γ : zG} (hI : zInj Γ) (mem : zMem) : va_D (zA Γ) (zwl Γ mem) := by
  refine ⟨fun i j p q hi hj e => ?_, fun k q hk => ?_⟩
  · obtain ⟨h1, rfl⟩ := zwl_in hi
    obtain ⟨h2, rfl⟩ := zwl_in hj
    exact hI.1 i j h1 h2 e
  · obtain ⟨h1, rfl⟩ := zwl_in hk
    exact hI.2 k h1
theorem zwl_set {Γ : zG} {mem mem' : zMem} {q : Nat} {e : va_E} (he : zcell Γ mem' q = e) (ho : ∀ p, p ≠ q → mem' p = mem p) : (zwl Γ mem).set q (zad Γ q, e) = zwl Γ mem' := by
  apply List.ext_getElem?
  intro k
  rw [List.getElem?_set]
  by_cases hk : k < gN Γ
  · rw [zwl_at mem' hk]
    by_cases hq : q = k
    · subst hq
      rw [if_pos rfl, if_pos (by rw [zwl_len]; exact hk), he]
    · rw [if_neg hq, zwl_at mem hk]
      congr 2
      unfold zcell zfv
      rw [ho k (Ne.symm hq)]
  · have h1 : (zwl Γ mem')[k]? = none := List.getElem?_eq_none (by rw [zwl_len]; omega)
    have h2 : (zwl Γ mem)[k]? = none := List.getElem?_eq_none (by rw [zwl_len]; omega)
    rw [h1, h2]
    by_cases hq : q = k
    · rw [if_pos hq, if_neg (by rw [zwl_len]; omega)]
    · rw [if_neg hq]
theorem zup_off {mem : zMem} {a : Nat} {i v : Int} {p : Nat} (h : p ≠ a) : zup mem a i v p = mem p := by
  funext j
  simp [zup, h]
theorem zCn_up {mem : zMem} {a : Nat} {i v : Int} (h : zCn mem) (hv : zrg (zlg a i) v) : zCn (zup mem a i v) := by
  intro q j
  unfold zup
  by_cases hq : q = a ∧ j = i
  · rw [if_pos hq, hq.1, hq.2]
    exact hv
  · rw [if_neg hq]
    exact h q j
/-! What stays: nest mates' words, static rows, constant texts -/
def isNest : Cond → Bool
  | .fieldLinkNest .. => true
  | .methodLinkNest .. => true
  | _ => false
def nw_tbl : List Cond := tables_1.filter isNest
def zStr : List (String × Nat × String) := [("ShadowHeirs$Reader", 48, "ground stones house person sun east south west north "), ("ShadowHeirs$Reader", 54, "lay tear bury hour "), ("ShadowHeirs$Reader", 56, "or and not shaded poor heir of wealth x y number "), ("ShadowHeirs$Slip", 44, " at "), ("ShadowHeirs$Slip", 54, " "), ("ShadowHeirs$Slip", 56, " has "), ("ShadowHeirs$Slip", 68, " of "), ("ShadowHeirs", 175, "no such house, or nothing such is told of it"), ("ShadowHeirs", 203, "no such person, or nothing such is told of him"), ("ShadowHeirs", 280, "no such share")]
def zSb (i : Nat) : List Nat := ((zStr.getD i ("", 0, "")).2.2.toList.map fun c => c.toNat)
def zSlen : List Nat := (List.range 10).map fun i => (zSb i).length
def zSbyt : List (List Int32) := (List.range 10).map fun i => (zSb i).map fun c => Int32.ofNat c
def zDir (b : Bool) (j : Nat) : Int := match b, j with
  | true, 0 => 1 | true, 2 => -1 | true, _ => 0
  | false, 1 => 1 | false, 3 => -1 | false, _ => 0
def zEs (Γ : zG) (U : State) (H : Heap) : Prop :=
  (va_Z "ShadowHeirs$Plan" "EASTWARD" "[I" (.ref (gS Γ 0)) (zA Γ) U H ∧ va_T .int (gS Γ 0) 4 (fun j => .int (i32 (zDir true j))) (zA Γ) U H) ∧
  (va_Z "ShadowHeirs$Plan" "SOUTHWARD" "[I" (.ref (gS Γ 1)) (zA Γ) U H ∧ va_T .int (gS Γ 1) 4 (fun j => .int (i32 (zDir false j))) (zA Γ) U H) ∧
  vk_S 10 zSlen zSbyt (fun i => gS Γ (10 + i)) (fun i => gS Γ (30 + i)) (zA Γ) U H ∧
  va_Z "java/lang/String" "COMPACT_STRINGS" "Z" (.int 1) (zA Γ) U H ∧
  va_Z "jdk/internal/util/Preconditions" "SIOOBE_FORMATTER" "Ljava/util/function/BiFunction;" (gV Γ) (zA Γ) U H ∧ (gV Γ = .null ∨ ∃ a, gV Γ = .ref a)
def zE (Γ : zG) (U : State) (H : Heap) : Prop := (∀ w ∈ nw_tbl, va_Nw w U) ∧ (∀ i, i < 10 → vk_R (zStr.getD i ("", 0, "")).1 (zStr.getD i ("", 0, "")).2.1 (zStr.getD i ("", 0, "")).2.2 (gS Γ (10 + i)) U) ∧ zEs Γ U H
theorem zEs.moved {Γ : zG} {u U : State} {H : Heap} (hvm : u.vm.Alike U.vm) (h : zEs Γ u H) : zEs Γ U H := by
  obtain ⟨⟨a, b⟩, ⟨c, d⟩, e, f, g, k⟩ := h
  exact ⟨⟨a.moved hvm, b.moved hvm⟩, ⟨c.moved hvm, d.moved hvm⟩, e.moved hvm, f.moved hvm, g.moved hvm, k⟩
theorem zEs.kept {Γ : zG} {U : State} {H H1 : Heap} (h : zEs Γ U H) (hq : ∀ a : Nat, a < H.size → ¬ zA Γ a → H1[a]? = H[a]?) : zEs Γ U H1 := by
  obtain ⟨⟨a, b⟩, ⟨c, d⟩, e, f, g, k⟩ := h
  exact ⟨⟨a.kept hq, b.kept hq⟩, ⟨c.kept hq, d.kept hq⟩, e.kept hq, f.kept hq, g.kept hq, k⟩
theorem zNw.warm {w : Cond} (hw : w ∈ nw_tbl) {s U : State} (hW : s.WarmedH U.vm) (h : va_Nw w s) : va_Nw w U := by
  have hn := (List.mem_filter.mp hw).2
  cases w <;> first | exact va_Nw.warmF hW h | exact va_Nw.warmM hW h | exact absurd hn (by simp [isNest])
theorem zNw.same {w : Cond} (hw : w ∈ nw_tbl) {s U : State} (hW : s.vm = U.vm) (h : va_Nw w s) : va_Nw w U := by
  have hn := (List.mem_filter.mp hw).2
  cases w <;> first | exact va_Nw.same rfl hW h | exact absurd hn (by simp [isNest])
theorem zE.warm {Γ : zG} {s U : State} {H : Heap} (hW : s.WarmedH U.vm) (h : zE Γ s H) : zE Γ U H := ⟨fun w hw => zNw.warm hw hW (h.1 w hw), fun i hi => vk_R.warm hW (h.2.1 i hi), h.2.2.moved hW.alike⟩
theorem zE.same {Γ : zG} {s U : State} {H : Heap} (hW : s.vm = U.vm) (h : zE Γ s H) : zE Γ U H := ⟨fun w hw => zNw.same hw hW (h.1 w hw), fun i hi => vk_R.same hW.symm (h.2.1 i hi), h.2.2.moved (hW ▸ Vm.Alike.refl _)⟩
theorem zE.kept {Γ : zG} {U : State} {H H1 : Heap} (h : zE Γ U H) (hq : ∀ a : Nat, a < H.size → ¬ zA Γ a → H1[a]? = H[a]?) : zE Γ U H1 := ⟨h.1, h.2.1, h.2.2.kept hq⟩
