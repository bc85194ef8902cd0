def R_law : String := "ShadowHeirsLaw"
def lw_P (b : Addr) (xs : List Int32) (args : Array Value) (s : State) : Prop := args = #[.ref b] ∧ s.IntsAt b xs ∧ xs.length ≤ 384 ∧ (Jvm.Cond.and given_1 narrow_1).before args s = true
def lw_Q (_ : Array Value) (s : State) (o : Outcome) (t : State) : Prop := o = .returned (some (.int 1)) ∧ Framed s o t [] 600128 7301098
def lw_Z (below : List Frame) (a : Array Value) (s : State) : State → Prop := fun t => ∃ o, t.status = .running ∧ Ended t below o ∧ lw_Q a s o t
/-- the law's own end, with 1 on the stack, nothing written that was there before, its room as the claim has it -/
theorem lw_ret {p : Program} {l : Launch} {e : Env} {s : State} {m : MethodId} {below : List Frame} {meth : Method} {c : Code} {b : Nat} (hx : p.tables.exec = Jvm.exec) (hb : c.code = code) (hr : meth.sig.returnType = ret) (hlocks : meth.locks = false) {pc : Nat} {H : Heap} {ls : Array Slot} (hdg : decode code pc = .ok (.ireturn, 1)) : W p l e room_1 s m #[Value.ref b] below meth c H [] 600128 7301098 (lw_Z below #[Value.ref b] s) (F0 m pc ls [.int 1]) := by
  intro T hT X
  obtain ⟨fs, hret, hrun, hended, hW, hframe⟩ := X.leave (v := some (.int 1)) (hlocks := hlocks) (fun h => by rw [hr] at h; cases h)
  have hmeth' : T.vm.method? m = some meth := X.method'
  refine ⟨T.setFrames fs, ?_, .returned (some (.int 1)), hrun, hended, rfl, ⟨_, rfl⟩, hW, hframe⟩
  jvm_step X.here [X.here.top, hx, hb, hdg, hmeth', hr, ret, narrow_b1]
  (try refine ⟨rfl, ?_⟩); (try refine ⟨rfl, ?_⟩)
  first | (intro acts; rw [hret _ acts rfl rfl rfl]) | rw [hret _ _ rfl rfl rfl]
  exact Steps.refl _
/-- what holds at the law's entry: the machine, the code, the tables' words (any of lw_tbl by 'hts w (by decide +kernel)'), the script of L ints xs at the cell b, what the Statement gives of the start (any of its parts by flat_of_before) -/
def lw_At (p : Program) (s : State) (m : MethodId) (meth : Method) (c : Code) (b L : Nat) (xs : Nat → Int32) : Prop :=
  p.tables.exec = Jvm.exec ∧ c.code = code ∧ meth.sig.returnType = ret ∧ c.maxLocals = 7 ∧ s.vm.findClass R_law = some m.cls ∧ (∀ w ∈ lw_tbl, w.before #[Value.ref b] s = true) ∧ va_X b L xs s s.heap ∧ b < s.heap.size ∧ meth.locks = false ∧ (Jvm.Cond.and given_1 narrow_1).before #[Value.ref b] s = true
/-! the law's start: what holds at its entry -/
def w0 : Cond := Jvm.Cond.and given_1 narrow_1
def fB : List Nat := [68, 125, 149, 204, 215, 224, 238, 252, 307, 365]
def fR : List Nat := [39, 93, 94, 980, 991, 992, 994, 1215, 1249, 1262]
def tmS (i : Nat) : Term := .string (zStr.getD i ("", 0, "")).1 (zStr.getD i ("", 0, "")).2.1
def fV (i : Nat) : Term := .field (tmS i) "java/lang/String" "value" "[B"
theorem fl_ex : ∀ i, i < 10 → (flatC w0)[fB.getD i 0]? = some (.exactly (tmS i) "java/lang/String") := by decide +kernel
theorem fl_co : ∀ i, i < 10 → (flatC w0)[fB.getD i 0 + 1]? = some (.eq (.field (tmS i) "java/lang/String" "coder" "B") (.int 0)) := by decide +kernel
theorem fl_ar : ∀ i, i < 10 → (flatC w0)[fB.getD i 0 + 2]? = some (.arrayOf (fV i) .byte) := by decide +kernel
theorem fl_le : ∀ i, i < 10 → (flatC w0)[fB.getD i 0 + 3]? = some (.eq (.length (fV i)) (.int (Int32.ofNat (zSlen.getD i 0)))) := by decide +kernel
theorem fl_el : ∀ i, i < 10 → ∀ j, j < zSlen.getD i 0 → (flatC w0)[fB.getD i 0 + 4 + j]? = some (.eq (.elem (fV i) (.int (Int32.ofNat j))) (.int ((zSbyt.getD i []).getD j 0))) := by decide +kernel
theorem fl_ne : ∀ j, j < 10 → ∀ i, i < j → (flatC w0)[fB.getD j 0 + 4 + zSlen.getD j 0 + i]? = some (.not (.eq (tmS i) (tmS j))) := by decide +kernel
theorem fl_nl : ∀ i, i < 10 → zSlen.getD i 0 < 2 ^ 31 := by decide +kernel
theorem fl_rf : ∀ i, i < 10 → tables_1[fR.getD i 0]? = some (.stringRef (zStr.getD i ("", 0, "")).1 (zStr.getD i ("", 0, "")).2.1 (zStr.getD i ("", 0, "")).2.2) := by decide +kernel
def tE : Term := .static "ShadowHeirs$Plan" "EASTWARD" "[I"
def tS' : Term := .static "ShadowHeirs$Plan" "SOUTHWARD" "[I"
theorem fl_E : ∀ j, j < 4 → (flatC w0)[19 + j]? = some (.eq (.elem tE (.int (Int32.ofNat j))) (.int (i32 (zDir true j)))) := by decide +kernel
theorem fl_S : ∀ j, j < 4 → (flatC w0)[12 + j]? = some (.eq (.elem tS' (.int (Int32.ofNat j))) (.int (i32 (zDir false j)))) := by decide +kernel
theorem fl_E1 : (flatC w0)[17]? = some (.arrayOf tE .int) ∧ (flatC w0)[18]? = some (.eq (.length tE) (.int (Int32.ofNat 4))) := by decide +kernel
theorem fl_S1 : (flatC w0)[10]? = some (.arrayOf tS' .int) ∧ (flatC w0)[11]? = some (.eq (.length tS') (.int (Int32.ofNat 4))) := by decide +kernel
theorem fl_c : (flatC w0)[4]? = some (.eq (.static "java/lang/String" "COMPACT_STRINGS" "Z") (.int 1)) ∧ (flatC w0)[5]? = some (.isRef (.static "jdk/internal/util/Preconditions" "SIOOBE_FORMATTER" "Ljava/util/function/BiFunction;")) := by decide +kernel
theorem fl_t : (flatC w0)[23]? = some (.isRef (.static Bundle.tN "UNASSIGNED_STACK" Bundle.steD)) ∧ (flatC w0)[24]? = some (.isRef (.static Bundle.tN "SUPPRESSED_SENTINEL" Bundle.listD)) := by decide +kernel
theorem tb_s : tables_1[730]? = some (.laysStatic "ShadowHeirs$Plan" "EASTWARD" "[I") ∧ tables_1[728]? = some (.laysStatic "ShadowHeirs$Plan" "SOUTHWARD" "[I") ∧ tables_1[53]? = some (.laysStatic "java/lang/String" "COMPACT_STRINGS" "Z") ∧ tables_1[69]? = some (.laysStatic "jdk/internal/util/Preconditions" "SIOOBE_FORMATTER" "Ljava/util/function/BiFunction;") ∧ tables_1[1203]? = some (.laysStatic Bundle.tN "UNASSIGNED_STACK" Bundle.steD) ∧ tables_1[1205]? = some (.laysStatic Bundle.tN "SUPPRESSED_SENTINEL" Bundle.listD) := by decide +kernel
theorem tb_i : tables_1[7]? = some (.initialized "ShadowHeirs$Plan") ∧ tables_1[3]? = some (.initialized "java/lang/String") ∧ tables_1[5]? = some (.initialized "jdk/internal/util/Preconditions") ∧ tables_1[20]? = some (.initialized Bundle.tN) := by decide +kernel
theorem tb_a : tables_1[141]? = some (.arrayClass .int) ∧ tables_1[142]? = some (.arrayClass .long) ∧ tables_1[451]? = some (.arrayClass .boolean) ∧ tables_1[431]? = some (.arrayOver (.object "ShadowHeirs$Island")) ∧ tables_1[418]? = some (.arrayOver (.object "ShadowHeirs$Scene")) := by decide +kernel
theorem tb_x : ∀ w ∈ xBad, w ∈ tables_1 := by decide +kernel
theorem ar_prim {s : State} {args : Array Value} {ty : FieldType} (h : (Cond.arrayClass ty).before args s = true) (hty : ty = .int ∨ ty = .long ∨ ty = .boolean) : ∃ c, ArrOfT s c ty ∧ va_RA s c ty := by
  obtain ⟨c, k, comp, h1, h2, h3⟩ := Cond.arrayClass_spec h
  refine ⟨c, fun n z => ⟨fun k h => (by cases h), k, h2, comp, h3⟩, ?_⟩
  rcases hty with rfl | rfl | rfl <;> exact h1
theorem ar_obj {s : State} {args : Array Value} {n : String} (h : (Cond.arrayOver (.object n)).before args s = true) : ∃ c, ArrOfT s c (.object n) ∧ va_RA s c (.object n) := by
  obtain ⟨comp, c, k, h1, -, h2, h3, h4⟩ := Cond.arrayOver_spec h
  exact ⟨c, fun n z => ⟨fun k h => (by cases h), k, h2, comp, h3⟩, k, comp, h2, h3, h1, h4⟩
theorem kn_all : ∀ (c : Nat) (q : vw_C), vwCl[c]? = some q → (∀ w ∈ u_ws q.1 q.2.1 q.2.2, w ∈ gw_tbl) ∧ ∃ n, Cond.instantiable q.1 n ∈ gw_tbl := by
  intro c q h
  match c, h with
  | 0, h => cases h; exact ⟨clw_0, 10, (gw_2 (List.mem_of_getElem? (i := 130) (by decide +kernel)) rfl)⟩
  | 1, h => cases h; exact ⟨clw_1, 1, (gw_2 (List.mem_of_getElem? (i := 213) (by decide +kernel)) rfl)⟩
  | 2, h => cases h; exact ⟨clw_2, 3, (gw_2 (List.mem_of_getElem? (i := 172) (by decide +kernel)) rfl)⟩
  | 3, h => cases h; exact ⟨clw_3, 3, (gw_2 (List.mem_of_getElem? (i := 66) (by decide +kernel)) rfl)⟩
  | 4, h => cases h; exact ⟨clw_4, 7, (gw_2 (List.mem_of_getElem? (i := 93) (by decide +kernel)) rfl)⟩
  | 5, h => cases h; exact ⟨clw_5, 11, (gw_1 (List.mem_of_getElem? (i := 145) (by decide +kernel)) rfl)⟩
  | 6, h => cases h; exact ⟨clw_6, 11, (gw_1 (List.mem_of_getElem? (i := 34) (by decide +kernel)) rfl)⟩
  | 7, h => cases h; exact ⟨clw_7, 9, (gw_1 (List.mem_of_getElem? (i := 220) (by decide +kernel)) rfl)⟩
  | 8, h => cases h; exact ⟨clw_8, 5, (gw_2 (List.mem_of_getElem? (i := 43) (by decide +kernel)) rfl)⟩
  | 9, h => cases h; exact ⟨clw_9, 2, (gw_2 (List.mem_of_getElem? (i := 223) (by decide +kernel)) rfl)⟩
  | 10, h => cases h; exact ⟨clw_10, 4, (gw_2 (List.mem_of_getElem? (i := 193) (by decide +kernel)) rfl)⟩
  | 11, h => cases h; exact ⟨clw_11, 20, (gw_1 (List.mem_of_getElem? (i := 26) (by decide +kernel)) rfl)⟩
  | 12, h => cases h; exact ⟨clw_12, 47, (gw_6 (List.mem_of_getElem? (i := 74) (by decide +kernel)) rfl)⟩
  | (n + 13), h => exact absurd h (by simp [vwCl])
theorem law_at {s : State} {b : Nat} (hts : ∀ w ∈ lw_tbl, w.before #[Value.ref b] s = true) (hgv : w0.before #[Value.ref b] s = true) : ∃ Γ : zG, gN Γ = 0 ∧ gB Γ = s.heap.size ∧ (∀ q k, gF Γ q k = false) ∧ va_K (gC Γ, gI Γ) vwCl (ztys Γ) s ∧ zE Γ s s.heap ∧ xE Γ s s.heap ∧ va_AO "ShadowHeirs$Scene" s ∧ va_AO "ShadowHeirs$Island" s := by
  have hA : ∀ a : Nat, a < s.heap.size → ¬ (fun q => s.heap.size ≤ q) a := fun a h h2 => absurd h2 (Nat.not_le.mpr h)
  have hs := flat_of_before w0 hgv
  have f : ∀ {i : Nat} {w : Cond}, (flatC w0)[i]? = some w → w.before #[Value.ref b] s = true := fun h => hs _ (List.mem_of_getElem? h)
  have tb : ∀ {i : Nat} {w : Cond}, tables_1[i]? = some w → w.before #[Value.ref b] s = true := fun h => hts _ (List.mem_append_right _ (List.mem_of_getElem? h))
  have gts : ∀ w ∈ gw_tbl, w.before #[Value.ref b] s = true := fun w hw => hts w (List.mem_filter.mp hw).1
  obtain ⟨aE, hE, TE⟩ := va_Tof (tm := tE) (ty := .int) (N := 4) (f := fun j => .int (i32 (zDir true j))) (by decide) (f fl_E1.1) (va_eqt (f fl_E1.2)) (fun j hj => va_eqt (f (fl_E j hj))) hA
  obtain ⟨aS, hS, TS⟩ := va_Tof (tm := tS') (ty := .int) (N := 4) (f := fun j => .int (i32 (zDir false j))) (by decide) (f fl_S1.1) (va_eqt (f fl_S1.2)) (fun j hj => va_eqt (f (fl_S j hj))) hA
  obtain ⟨adK, adV, VS, hK⟩ := vk_Sof (N := 10) (tm := tmS) (len := zSlen) (byt := zSbyt) fl_nl (fun i hi => f (fl_ex i hi)) (fun i hi => f (fl_co i hi)) (fun i hi => f (fl_ar i hi)) (fun i hi => f (fl_le i hi)) (fun i hi j hj => f (fl_el i hi j hj)) (fun i j hi hj hij => by
    rcases Nat.lt_or_gt_of_ne hij with h | h
    · exact Or.inl (f (fl_ne j hj i h))
    · exact Or.inr (f (fl_ne i hi j h))) hA
  have hF := va_Zqof (A := fun q => s.heap.size ≤ q) (tb tb_s.2.2.2.1) (tb tb_i.2.2.1) (f fl_c.2) hA
  obtain ⟨v, hv, hvr⟩ : ∃ v : Value, va_Z "jdk/internal/util/Preconditions" "SIOOBE_FORMATTER" "Ljava/util/function/BiFunction;" v (fun q => s.heap.size ≤ q) s s.heap ∧ (v = .null ∨ ∃ a, v = .ref a) := by
    rcases hF with h | ⟨t, h⟩
    · exact ⟨_, h, Or.inl rfl⟩
    · exact ⟨_, h, Or.inr ⟨t, rfl⟩⟩
  have hkn : ∀ c : Nat, ∃ q : ClassId × (Nat → Nat), ∀ x, vwCl[c]? = some x → u_Kn s x.1 x.2.1 x.2.2 q.1 q.2 := by
    intro c
    cases hc : vwCl[c]? with
    | none => exact ⟨(default, fun _ => 0), fun x hx => by cases hx⟩
    | some x =>
      obtain ⟨h1, n, h2⟩ := kn_all c x hc
      obtain ⟨cC, iS, h⟩ := u_known gts h1 (gts _ h2)
      exact ⟨(cC, iS), fun y hy => by cases hy; exact h⟩
  obtain ⟨kn, hkn⟩ := Classical.axiomOfChoice hkn
  obtain ⟨c0, y0⟩ := ar_prim (tb tb_a.1) (Or.inl rfl)
  obtain ⟨c1, y1⟩ := ar_prim (tb tb_a.2.1) (Or.inr (Or.inl rfl))
  obtain ⟨c2, y2⟩ := ar_prim (tb tb_a.2.2.1) (Or.inr (Or.inr rfl))
  obtain ⟨c3, y3⟩ := ar_obj (tb tb_a.2.2.2.1)
  obtain ⟨c4, y4⟩ := ar_obj (tb tb_a.2.2.2.2)
  refine ⟨(fun c => (kn c).1, fun c => (kn c).2, fun k => match k with | 0 => c0 | 1 => c1 | 2 => c2 | 3 => c3 | _ => c4, s.heap.size, fun n => if n = 0 then aE else if n = 1 then aS else if n < 30 then adK (n - 10) else adV (n - 30), v, 0, fun _ _ => false, fun _ => 0), rfl, rfl, fun _ _ => rfl, ⟨fun c q hq => hkn c q hq, fun k q hk => ?_⟩, ⟨fun w hw => ?_, fun i hi => ?_, ?_⟩, ⟨fun w hw => ?_, ?_, ?_⟩, va_AO.of (tb tb_a.2.2.2.2), va_AO.of (tb tb_a.2.2.2.1)⟩
  · match k, hk with
    | 0, hk => cases hk; exact y0
    | 1, hk => cases hk; exact y1
    | 2, hk => cases hk; exact y2
    | 3, hk => cases hk; exact y3
    | 4, hk => cases hk; exact y4
    | (n + 5), hk => exact absurd hk (by simp [ztys])
  · have hb := hts w (List.mem_append_right _ (List.mem_filter.mp hw).1)
    have hn := (List.mem_filter.mp hw).2
    cases w <;> first | exact va_Nw.of rfl hb | exact absurd hn (by simp [isNest])
  · have e : (fun n => if n = 0 then aE else if n = 1 then aS else if n < 30 then adK (n - 10) else adV (n - 30)) (10 + i) = adK i := by
      show (if 10 + i = 0 then aE else if 10 + i = 1 then aS else if 10 + i < 30 then adK (10 + i - 10) else adV (10 + i - 30)) = adK i
      rw [if_neg (by omega), if_neg (by omega), if_pos (by omega), Nat.add_sub_cancel_left]
    show vk_R _ _ _ ((fun n => if n = 0 then aE else if n = 1 then aS else if n < 30 then adK (n - 10) else adV (n - 30)) (10 + i)) s
    rw [e]
    exact vk_R.of (A := #[Value.ref b]) (tb (fl_rf i hi)) (hK i hi)
  · have eK : ∀ i, i < 10 → (fun n => if n = 0 then aE else if n = 1 then aS else if n < 30 then adK (n - 10) else adV (n - 30)) (10 + i) = adK i := by
      intro i hi
      show (if 10 + i = 0 then aE else if 10 + i = 1 then aS else if 10 + i < 30 then adK (10 + i - 10) else adV (10 + i - 30)) = adK i
      rw [if_neg (by omega), if_neg (by omega), if_pos (by omega), Nat.add_sub_cancel_left]
    have eV : ∀ i, i < 10 → (fun n => if n = 0 then aE else if n = 1 then aS else if n < 30 then adK (n - 10) else adV (n - 30)) (30 + i) = adV i := by
      intro i hi
      show (if 30 + i = 0 then aE else if 30 + i = 1 then aS else if 30 + i < 30 then adK (30 + i - 10) else adV (30 + i - 30)) = adV i
      rw [if_neg (by omega), if_neg (by omega), if_neg (by omega), Nat.add_sub_cancel_left]
    refine ⟨⟨va_Zref (tb tb_s.1) (tb tb_i.1) hE hA, TE⟩, ⟨va_Zref (tb tb_s.2.1) (tb tb_i.1) hS hA, TS⟩, ?_, va_Zof (tb tb_s.2.2.1) (tb tb_i.2.1) (va_eqt (f fl_c.1)) hA, hv, hvr⟩
    refine ⟨fun i hi => ?_, fun i j hi hj h => VS.2 i j hi hj ?_⟩
    · have h9 := VS.1 i hi
      rw [← eK i hi, ← eV i hi] at h9
      exact h9
    · exact (eK i hi).symm.trans (h.trans (eK j hj))
  · exact va_Nw.of (xBad_tab w hw) (hts w (List.mem_append_right _ (tb_x w hw)))
  · exact vx_Zqof (tb tb_s.2.2.2.2.1) (tb tb_i.2.2.2) (f fl_t.1) hA
  · exact vx_Zqof (tb tb_s.2.2.2.2.2) (tb tb_i.2.2.2) (f fl_t.2) hA
