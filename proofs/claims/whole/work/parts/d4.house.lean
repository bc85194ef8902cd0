/-! house, person, share where they throw -/
def xBad : List Cond := [.declares (Bundle.initS nRt), .declares (Bundle.initS "java/lang/Exception"), .declares (Bundle.initS Bundle.tN), .castable nEx nEx]
theorem xBad_tab : ∀ w ∈ xBad, w.onTables = true := by decide +kernel
theorem xBad_warm {w : Cond} (hw : w ∈ xBad) {s U : State} (hW : s.WarmedH U.vm) (h : va_Nw w s) : va_Nw w U := by
  simp only [xBad, List.mem_cons, List.not_mem_nil, or_false] at hw
  rcases hw with rfl | rfl | rfl | rfl
  · exact va_Nw.warmD hW h
  · exact va_Nw.warmD hW h
  · exact va_Nw.warmD hW h
  · exact va_Nw.warmC hW h
def xE (Γ : zG) (U : State) (H : Heap) : Prop := (∀ w ∈ xBad, va_Nw w U) ∧ vx_Zq Bundle.tN "UNASSIGNED_STACK" Bundle.steD (zA Γ) U H ∧ vx_Zq Bundle.tN "SUPPRESSED_SENTINEL" Bundle.listD (zA Γ) U H
theorem xE.warm {Γ : zG} {s U : State} {H : Heap} (hW : s.WarmedH U.vm) (h : xE Γ s H) : xE Γ U H := ⟨fun w hw => xBad_warm hw hW (h.1 w hw), vx_Zq.moved hW.alike h.2.1, vx_Zq.moved hW.alike h.2.2⟩
theorem xE.same {Γ : zG} {s U : State} {H : Heap} (hW : s.vm = U.vm) (h : xE Γ s H) : xE Γ U H := ⟨fun w hw => va_Nw.same (xBad_tab w hw) hW (h.1 w hw), vx_Zq.moved (hW ▸ Vm.Alike.refl _) h.2.1, vx_Zq.moved (hW ▸ Vm.Alike.refl _) h.2.2⟩
theorem xE.kept {Γ : zG} {U : State} {H H1 : Heap} (h : xE Γ U H) (hq : ∀ a : Nat, a < H.size → ¬ zA Γ a → H1[a]? = H[a]?) : xE Γ U H1 := ⟨h.1, vx_Zq.kept h.2.1 hq, vx_Zq.kept h.2.2 hq⟩
def xPre (Γ : zG) (av : List Value) (mem : zMem) : Array Value → State → Prop := fun v U => zPre Γ av mem v U ∧ xE Γ U U.heap
theorem xPre_blind {Γ : zG} {mem : zMem} (av : List Value) : FrameBlind (xPre Γ av mem) := fun a U g mk h => ⟨zPre_blind av a U g mk h.1, xE.same (s := U) rfl h.2⟩
def xPost (Γ : zG) (mem : zMem) : String → State → State → Prop := fun E st t => E = nEx ∧ va_P (gC Γ, gI Γ) vwCl (zwl Γ mem) t.heap ∧ va_F (zA Γ) st t
def tMet (l : Launch) (y : MethodName) (cc : ByteArray) (nL D : Nat) (Γ : zG) (av : List Value) (mem : zMem) : Prop := vx_Met l y (zws y cc nL (some .int)) (kRm D 1 6) (xPre Γ av mem) (fun _ _ _ _ => False) (xPost Γ mem) 1 6 (zA Γ)
def tRt (X : zM) (l : Launch) (Γ : zG) (D : Nat) (mem : zMem) : Prop := match X with
  | (_, l', _, R, s, _, args, below, meth, c, _, _, Q) => l' = l ∧ R = kRm D 1 6 ∧ meth.locks = false ∧ (∀ x ∈ c.exceptionTable.toList, False) ∧ Q = vx_MQ below (fun _ _ _ _ => False) (xPost Γ mem) args s 1 6 (zA Γ) ∧ xE Γ s s.heap
theorem tRt_l {X : zM} {l : Launch} {Γ : zG} {D : Nat} {mem : zMem} (Z : tRt X l Γ D mem) : X.2.1 = l := by
  obtain ⟨p, l, e, R, s, m, args, below, meth, c, cs0, sl0, Q⟩ := X
  exact Z.1
theorem tRt_R {X : zM} {l : Launch} {Γ : zG} {D : Nat} {mem : zMem} (Z : tRt X l Γ D mem) : kR X = kRm D 1 6 := by
  obtain ⟨p, l, e, R, s, m, args, below, meth, c, cs0, sl0, Q⟩ := X
  exact Z.2.1
theorem tMet_of {l : Launch} {y : MethodName} {own : String} {cc : ByteArray} {nL D : Nat} {Γ : zG} {av : List Value} {mem : zMem} (hy : plainName y.cls = true) (ho : y.cls = own) (hL : (lg_sl av).length ≤ nL) (body : ∀ X, zC (kX X 0 0) Γ own cc nL → tRt X l Γ D mem → zg (kX X 0 0) Γ nL 0 (lv_args 0 av) [] mem) : tMet l y cc nL D Γ av mem := by
  refine vx_ofW (cc := cc) (maxL := nL) (ret := some .int) (ws' := gw_tbl) hy rfl ?_
  intro p e s m args below meth c s₁ B hml ht hv
  obtain ⟨⟨rfl, hsz, hP, hC, hK, hE, hI⟩, hx⟩ := hv
  have hts := atoms_spec (ws := zws y cc nL (some .int)) B.pre
  have hl := lv_entry av (n := nL) hL
  rw [lg_entry_eq]
  exact body (p, l, e, (headSpec (zws y cc nL (some .int)) (kRm D 1 6)).room, s, m, av.toArray, below, meth, c, 0, 0, _) ⟨B.exec, B.bytes, hml, ho ▸ findClass_of_methodNamed B.named, fun w hw => hts w (List.mem_cons_of_mem _ hw), hK, hE, hsz, hI⟩ ⟨rfl, rfl, B.notSynchronized, ht, rfl, hx⟩ _ _ _ hl va_S.rf hP hC
theorem n_lw0 : ∀ w ∈ ((nAt "ShadowHeirs" 177).filter vx_no).filter goodWord, w ∈ lw_tbl := by decide +kernel
theorem n_lw {w : Cond} (h : w ∈ ((nAt "ShadowHeirs" 177).filter vx_no).filter goodWord) : w ∈ gw_tbl := List.mem_filter.mpr ⟨n_lw0 w h, (List.mem_filter.mp h).2⟩
theorem n_bad : ∀ w ∈ ((nAt "ShadowHeirs" 177).filter vx_no).filter (fun w => !goodWord w), w ∈ xBad := by decide +kernel
theorem n_ot : ∀ w ∈ (nAt "ShadowHeirs" 177).filter vx_no, vx_ot w = true := by decide +kernel
theorem n_k0 : Cond.classLink "ShadowHeirs" 173 nEx ∈ lw_tbl ∧ Cond.initialized nEx ∈ lw_tbl := by decide +kernel
theorem n_k : Cond.classLink "ShadowHeirs" 173 nEx ∈ gw_tbl ∧ Cond.initialized nEx ∈ gw_tbl := ⟨List.mem_filter.mpr ⟨n_k0.1, rfl⟩, List.mem_filter.mpr ⟨n_k0.2, rfl⟩⟩
theorem xg_throw {X : zM} {Γ : zG} {cc : ByteArray} {nL pc w is i D : Nat} {l : Launch} {lv : List (Nat × Value)} {mem : zMem} {text : String} (C : zC (kX X 0 0) Γ "ShadowHeirs" cc nL) (Z : tRt X l Γ D mem) (hl : l.stackTraces = false) (hi : i < 10) (hs : zStr.getD i ("", 0, "") = ("ShadowHeirs", is, text)) (hD : 6 ≤ D) (d0 : decode cc pc = .ok (.new 173, 3)) (d3 : decode cc (pc + 3) = .ok (.dup, 1)) (d4 : (decode cc (pc + 4) = .ok (.ldc is, 2) ∧ w = pc + 6) ∨ (decode cc (pc + 4) = .ok (.ldc_w is, 3) ∧ w = pc + 7)) (d6 : decode cc w = .ok (.invokespecial 177, 3)) (d9 : decode cc (w + 3) = .ok (.athrow, 1)) : zg (kX X 0 0) Γ nL pc lv [] mem := by
  obtain ⟨p, l', e, R, s, m, args, below, meth, c, cs0, sl0, Q⟩ := X
  obtain ⟨h1, hR, hlk, hex, hQ, hx⟩ := Z
  subst h1
  subst hR
  subst hQ
  obtain ⟨x1, x2, x3, x4, x5, x6, x7, x8, x9⟩ := C
  intro ls H locs hls hS hP hC T hT X
  have htr : e.platform.stackTraces = false := (show e.platform.stackTraces = l'.stackTraces by rw [X.admits.platform]).trans hl
  have Y := vx_rebase X (R' := { frames := D, locals := 60 * D, cells := 1, slots := 6 }) (Nat.le_refl _) (Nat.le_refl _) (Nat.le_refl 1) (Nat.le_refl 6)
  obtain ⟨s', hA⟩ : ∃ z, z = (T.setVm s.vm).setFrames (.invoking m args :: below) := ⟨_, rfl⟩
  rw [← hA] at Y
  have hvm : s'.vm = s.vm := by rw [hA]; rfl
  have hhp : s'.heap = H := by rw [hA]; exact hT
  have hW0 : s.WarmedH s'.vm := by rw [hvm]; exact State.WarmedH.refl s
  have hat : ∀ w ∈ (nAt "ShadowHeirs" 177).filter vx_no, w.before args s = true := vx_hat (fun w hw => x5 w (n_lw hw)) n_bad (fun w hw => va_Nw.use (xBad_tab w hw) (hx.1 w hw))
  have hat' : ∀ w ∈ (nAt "ShadowHeirs" 177).filter vx_no, w.before args s' = true := fun w hw => vx_ot_at hW0 hvm.symm (n_ot w hw) (hat w hw)
  have hk' : (Cond.classLink "ShadowHeirs" 173 nEx).before args s' = true := vx_ot_at hW0 hvm.symm rfl (x5 _ n_k.1)
  have hini' : (Cond.initialized nEx).before args s' = true := vx_ot_at hW0 hvm.symm rfl (x5 _ n_k.2)
  have hU' : vx_Zq Bundle.tN "UNASSIGNED_STACK" Bundle.steD (zA Γ) s' s'.heap := by rw [hhp]; exact vx_Zq.moved hW0.alike (hx.2.1.kept hS.2.1)
  have hN' : vx_Zq Bundle.tN "SUPPRESSED_SENTINEL" Bundle.listD (zA Γ) s' s'.heap := by rw [hhp]; exact vx_Zq.moved hW0.alike (hx.2.2.kept hS.2.1)
  have h : ∀ w ∈ nAt "ShadowHeirs" 177, w.before args s' = true := vx_own hat' (vx_isRefq hU'.1) (vx_isRefq hN'.1) hU'.2.word hN'.2.word
  have hown' : s'.vm.findClass "ShadowHeirs" = some m.cls := by rw [hvm]; exact x4
  have hins : (Cond.instantiable nEx 6).before args s' = true := h _ (List.mem_append_left _ (List.mem_cons_of_mem _ List.mem_cons_self))
  obtain ⟨vm₁, cX, kX, hfX, hkX, -, -, X₁, st1⟩ := Y.newCold x1 (own := "ShadowHeirs") (C := nEx) (index := 173) (n := 6) hown' hk' hins hini'
    (g := F0 m pc ls []) rfl (by rw [x2]; exact d0) (Nat.le_refl _) (Nat.le_refl _)
  generalize hT1 : (T.setVm vm₁).pushCell { cls := cX, slots := kX.instanceTypes.map defaultValue, vm := .none } = T1 at X₁ st1
  have hcellA : T1.heap[T.heap.size]? = some (freshCell cX kX) := by rw [← hT1]; exact State.heap_pushCell_size _ _
  have d3' : decode c.code (pc + 3) = .ok (.dup, 1) := by rw [x2]; exact d3
  have hr := x7.2.1 i hi
  rw [hs] at hr
  have hstr' := vk_R.warm hW0 hr
  obtain ⟨U, hsteps, hrun, hend, hW, hsame, ce, hce, hcc, hcv⟩ := n_throw X₁ x1 htr (own := "ShadowHeirs") (ic := 177) hown' h hfX hkX hcellA (by rw [hhp, hT]; exact Nat.le_refl _) (msg := .ref (gS Γ (10 + i))) rfl
    (g := { method := m, pc := w, locals := ls, stack := [.ref (gS Γ (10 + i)), .ref T.heap.size, .ref T.heap.size], locked := none }) rfl (hls.1.trans x3.symm) rfl rfl (rest := []) rfl
    (by rw [x2]; exact d6) (by rw [x2]; exact d9) (fun x hx => (hex x hx).elim) hD (show 2 * 0 + 1 + 81 ≤ 60 * D from Nat.le_trans (by decide) (Nat.mul_le_mul_left 60 hD)) hlk
  obtain ⟨f1, f2⟩ := vx_frame hsame
  rw [hhp] at f1 f2
  have f3 : ∀ q : Nat, q < H.size → U.heap[q]? = H[q]? := fun q hq => f2 q hq (fun z hz => nomatch hz)
  have hWs : s.WarmedH U.vm := State.WarmedH.trans hW0 hW
  have hcl : s.vm.findClass nEx = some ce.cls := by rw [← hvm, hcc]; exact hfX
  have hall : s.sameButNew ({ U with vm := s.vm } : State) locs 1 6 := by
    subst hA
    obtain ⟨e1, e2⟩ := hsame
    rw [State.setFrames_setFrames] at e1
    have h2 : (T.setVm s.vm).sameButNew ({ U with vm := s.vm } : State) [] (0 + 1) (0 + 6) := ⟨e1, e2⟩
    have h3 := X.same.trans h2
    rw [List.append_nil] at h3
    exact h3.mono (Nat.le_refl _) (Nat.le_refl _)
  refine ⟨U, ?_, .threw T.heap.size, hrun, hend, Or.inr ⟨T.heap.size, rfl, nEx, ce, locs, ⟨rfl, hP.kept (fun k q hk => f3 q.1 (vx_lt hP hk)), Nat.le_trans hS.1 f1, fun q hq hn => (f3 q (Nat.lt_of_lt_of_le hq hS.1)).trans (hS.2.1 q hq hn)⟩, hce, hcv, hcl, hWs, hall, hS.2.2⟩⟩
  refine st1 _ ?_
  show Steps p.tables e below (T1.setTop { method := m, pc := pc + 3, locals := ls, stack := [.ref T.heap.size], locked := none }) _
  jvm_step X₁.here [X₁.here.top, x1, d3', Value.category]
  rcases d4 with ⟨d4, rfl⟩ | ⟨d4, rfl⟩
  · exact X₁.ldcString x1 (own := "ShadowHeirs") (text := text) (index := is) (a := gS Γ (10 + i)) hown' hstr'.1 hstr'.2
      (g := { method := m, pc := pc + 4, locals := ls, stack := [.ref T.heap.size, .ref T.heap.size], locked := none }) rfl (by rw [x2]; exact d4) _ hsteps
  · exact X₁.ldcStringW x1 (own := "ShadowHeirs") (text := text) (index := is) (a := gS Γ (10 + i)) hown' hstr'.1 hstr'.2
      (g := { method := m, pc := pc + 4, locals := ls, stack := [.ref T.heap.size, .ref T.heap.size], locked := none }) rfl (by rw [x2]; exact d4) _ hsteps
