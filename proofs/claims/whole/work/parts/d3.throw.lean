/-! A NoSuchElementException thrown with a text. The library's row for this (Stand.ctorThrowS) asks that every constructor of the chain calls its super by pool index 7; this exception's own calls by 13. So here the same road with that one link its own: same library lemmas, less said of the cell that is thrown. -/
section Nse
def nEx : String := "java/util/NoSuchElementException"
def nRt : String := "java/lang/RuntimeException"
def nx : ByteArray := ⟨#[42, 43, 183, 0, 13, 177]⟩
def nObj : String := "Ljava/lang/Object;"
def nRest : List Cond := [.instantiable nEx 6, .selects nEx Bundle.tFill0 Bundle.tFill0, .selects nEx Bundle.tFill Bundle.tFill, .lays nEx Bundle.tN "cause" "Ljava/lang/Throwable;", .lays nEx Bundle.tN "stackTrace" Bundle.steD, .lays nEx Bundle.tN "suppressedExceptions" Bundle.listD, .lays nEx Bundle.tN "detailMessage" "Ljava/lang/String;", .lays nEx Bundle.tN "backtrace" nObj, .fieldLink Bundle.tN 198 Bundle.tN "backtrace" nObj, .lays Bundle.tN Bundle.tN "backtrace" nObj, .isRef (.static Bundle.tN "UNASSIGNED_STACK" Bundle.steD), .isRef (.static Bundle.tN "SUPPRESSED_SENTINEL" Bundle.listD)]
def nAt (own : String) (ic : Nat) : List Cond := (.methodLink own ic (Bundle.initS nEx) :: nRest) ++ (Bundle.passSAtoms nEx nRt 13 nx ++ (Bundle.chainSAtoms nRt ["java/lang/Exception"] ++ (Bundle.throwableSAtoms ++ Bundle.throwableAtoms)))
theorem n_fit : Bundle.fit nEx = true ∧ Bundle.fit nRt = true ∧ ∀ n ∈ ["java/lang/Exception"], Bundle.fit n = true := by decide +kernel
theorem n_sel {s : State} {args : Array Value} {l : Launch} {e : Env} (he : l.admits e) {x : MethodName} {c : ClassId} {f : MethodId} (hx : x.cls ≠ "java/lang/invoke/MethodHandle" ∧ x.cls ≠ "java/lang/invoke/VarHandle") (hc : s.vm.findClass nEx = some c) (hf : s.methodNamed? x = some f) (h : (Cond.selects nEx x x).before args s = true) : selectMethod e.platform s.vm c f = .method f := by
  obtain ⟨c2, r2, m2, q1, q2, q3, q4, -⟩ := Cond.selects_spec h
  cases Option.some.inj (q1.symm.trans hc)
  cases Option.some.inj (q2.symm.trans (State.methodFound?_of_named hf hx))
  cases Option.some.inj (q3.symm.trans hf)
  rw [Launch.admits_selectMethod he]
  exact q4
variable {p : Program} {l : Launch} {e : Env} {R : Room} {s : State} {m₀ : MethodId} {args : Array Value} {below : List Frame} {meth : Method} {c : Code} {W : State} {cells slots : Nat}
set_option maxHeartbeats 1000000 in
theorem n_throw (X : Stand p l e R s m₀ args below meth c W [] cells slots) (hexec : p.tables.exec = Jvm.exec) (htr : e.platform.stackTraces = false) {own : String} {ic : Nat}
    (hown : s.vm.findClass own = some m₀.cls) (h : ∀ a ∈ nAt own ic, a.before args s = true)
    {a : Addr} {cX : ClassId} {kX : Class} (hfX : s.vm.findClass nEx = some cX) (hkX : s.vm.classes[cX]? = some kX) (hcell : W.heap[a]? = some (freshCell cX kX)) (hnew : s.heap.size ≤ a)
    {msg : Value} (hmsg : msg.isRef = true) {g : JFrame} (hg : g.method = m₀) (hsize : g.locals.size = c.maxLocals) (hlk : g.locked = none) (hen : g.entered = []) {rest : List Value} (hst : g.stack = msg :: .ref a :: .ref a :: rest)
    (d6 : decode c.code g.pc = .ok (.invokespecial ic, 3)) (d9 : decode c.code (g.pc + 3) = .ok (.athrow, 1)) (hout : ∀ x ∈ c.exceptionTable.toList, covers x (g.pc + 3) = false)
    (hRf : 5 < R.frames) (hRl : 2 * g.monitorRoom + ((Value.ref a :: rest).map fun v => v.category).sum + 81 ≤ R.locals) (hlocks : meth.locks = false) :
    ∃ U : State, Steps p.tables e below (W.setTop g) U ∧ U.status = .running ∧ Ended U below (.threw a) ∧ s.WarmedH U.vm ∧ s.sameButNew ({ U with vm := s.vm } : State) [] cells slots ∧
      ∃ ce, U.heap[a]? = some ce ∧ ce.cls = cX ∧ ce.vm = .none := by
  have hpl : e.platform.magicAccessors = ({} : Platform).magicAccessors := by rw [X.admits.platform]
  have o : ∀ x ∈ Cond.methodLink own ic (Bundle.initS nEx) :: nRest, x.holds args s none s [] = true := fun x hx => h x (List.mem_append_left _ hx)
  have t := fun x hx => h x (List.mem_append_right _ hx)
  have t2 := fun x hx => t x (List.mem_append_right _ hx)
  have t3 := fun x hx => t2 x (List.mem_append_right _ hx)
  obtain ⟨T, Z0, L, -, Y⟩ := ThrowableC.of_atoms (args := args) (s := s) (pl := e.platform) (by rw [X.admits.platform]) (by rw [X.admits.platform]) hpl (fun x hx => t3 x (List.mem_append_right _ hx))
  obtain ⟨Z, M, LZ, LM, hnZ⟩ := Init0T.ofS_atoms (args := args) hpl L Y (fun x hx => t3 x (List.mem_append_left _ hx))
  obtain ⟨P1, Ps, hlen, L1, hL, hP1m, hl1, hl2⟩ := Bundle.chainS (args := args) hpl hnZ ["java/lang/Exception"] nRt n_fit.2.1 n_fit.2.2 (fun x hx => t2 x (List.mem_append_left _ hx))
  obtain ⟨P0, L0, hP0m, hP0s⟩ := PassC.ofS_atoms (args := args) (s := s) hpl (X := nEx) (Y := nRt) (index := 13) (bytes := nx) (Bundle.fit_spec n_fit.1).1 (Bundle.fit_spec n_fit.2.1).2 (by decide +kernel) (by decide +kernel) (by decide +kernel) (by decide +kernel) (fun x hx => t x (List.mem_append_left _ hx))
  have e0 : P0.sup = P1.m := Option.some.inj (hP0s.symm.trans hP1m)
  have hfd : s.vm.findClass nEx = some P0.m.cls := findClass_of_methodNamed hP0m
  cases Option.some.inj (hfX.symm.trans hfd)
  obtain ⟨c1, k1, hc1, hk, hord, -, -, -⟩ := Cond.instantiable_spec (o (.instantiable nEx 6) (by simp [nRest]))
  cases Option.some.inj (hc1.symm.trans hfd)
  cases Option.some.inj (hkX.symm.trans hk)
  have hs0 := n_sel X.admits (by decide) hfd Y.fill0 (o (.selects nEx Bundle.tFill0 Bundle.tFill0) (by simp [nRest]))
  have hsF := n_sel X.admits (by decide) hfd Y.fill (o (.selects nEx Bundle.tFill Bundle.tFill) (by simp [nRest]))
  obtain ⟨cS0, hcS0, hiss⟩ := Y.statics
  obtain ⟨u0, hu0⟩ := Cond.staticRefV Y.unassigned L.unassignedStatic L.statics hcS0 hiss (o (.isRef (.static Bundle.tN "UNASSIGNED_STACK" Bundle.steD)) (by simp [nRest]))
  obtain ⟨sen, hsen⟩ := Cond.staticRefV Y.sentinel L.sentinelStatic L.statics hcS0 hiss (o (.isRef (.static Bundle.tN "SUPPRESSED_SENTINEL" Bundle.listD)) (by simp [nRest]))
  obtain ⟨ci, i8, fB, b1, b2, b3, b4, -, hnB, htB, hfB⟩ := Cond.ownField (t := .object "java/lang/Object") Y.found L.cls (by decide +kernel) (o (.fieldLink Bundle.tN 198 Bundle.tN "backtrace" nObj) (by simp [nRest])) (o (.lays Bundle.tN Bundle.tN "backtrace" nObj) (by simp [nRest])) e.platform hpl
  obtain ⟨cS, hcS, heS, -, hkeep⟩ := X.same.2.2.2.2.2 T.aS cS0 hcS0
  have hcS' : W.heap[T.aS]? = some cS := hcS
  have hkn : cS.vm ≠ .unknown := by
    rw [heS]
    intro hu
    rw [show cS0.vm = .unknown from hu] at hiss
    cases hiss
  have hne : T.aS ≠ a := Nat.ne_of_lt (Nat.lt_of_lt_of_le (Array.getElem?_eq_some_iff.mp hcS0).1 hnew)
  obtain ⟨iM, hfM⟩ := Y.msg
  obtain ⟨tyC, dC, hdC, nC⟩ := Cond.laysAt hfd hk Y.cause (o (.lays nEx Bundle.tN "cause" "Ljava/lang/Throwable;") (by simp [nRest]))
  obtain ⟨tyS, dS, hdS, nS⟩ := Cond.laysAt hfd hk Y.stack (o (.lays nEx Bundle.tN "stackTrace" Bundle.steD) (by simp [nRest]))
  obtain ⟨tyP, dP, hdP, nP⟩ := Cond.laysAt hfd hk Y.supp (o (.lays nEx Bundle.tN "suppressedExceptions" Bundle.listD) (by simp [nRest]))
  obtain ⟨tyM, dM, hdM, nM⟩ := Cond.laysAt hfd hk hfM (o (.lays nEx Bundle.tN "detailMessage" "Ljava/lang/String;") (by simp [nRest]))
  obtain ⟨tyB, dB, hdB, nB⟩ := Cond.laysAt hfd hk hfB (o (.lays nEx Bundle.tN "backtrace" nObj) (by simp [nRest]))
  have bC := Cond.laysApart hdB hdC nB nC (by rw [hnB, Y.causeName]; decide)
  have bS := Cond.laysApart hdB hdS nB nS (by rw [hnB, Y.stackName]; decide)
  have bP := Cond.laysApart hdB hdP nB nP (by rw [hnB, Y.suppName]; decide)
  have hskip : SkipFacts T e.platform s (fun u => u) u0 ((preparedCellV T.toThrowableT (freshCell P0.m.cls kX) a u0 sen).withEntry W.cur) := by
    refine ⟨{ ci198 := ci, i198 := i8, fBack := fB }, ⟨b1, b2, b3, b4⟩, ?_, fun _ _ => rfl⟩
    have h9 := fresh_default (c := P0.m.cls) tyB
    rw [htB] at h9
    simpa [preparedCellV, Cell.setSlot, Cell.withEntry, Array.getElem?_setIfInBounds, bC, bS, bP, bC.symm, bS.symm, bP.symm, defaultValue] using h9
  obtain ⟨tm, methC, cdC, kC, vm₁, hnC, -, -, -, -, -, -, -, hW₁, st1⟩ := Steps.initColdS (tb := p.tables) (e := e) (below := below) (s := s) (U := W) X.here hexec X.warmed hpl hown (t := Bundle.initS nEx) rfl rfl (Bundle.fit_spec n_fit.1).2
    (o (.methodLink own ic (Bundle.initS nEx)) List.mem_cons_self) (t (.instanceMethod (Bundle.initS nEx)) (List.mem_append_left _ (by simp [Bundle.passSAtoms]))) (bytes := nx) (maxL := 2) (t (.code (Bundle.initS nEx) nx 2 none) (List.mem_append_left _ (by simp [Bundle.passSAtoms])))
    (f := g) hg (a := a) (msg := msg) (rest := .ref a :: rest) hst d6
  cases Option.some.inj (hnC.symm.trans hP0m)
  have X₁ := X.noted hW₁
  obtain ⟨vm₂, X₂, st2⟩ := X₁.ctorMessageOffV hexec (g := { g with stack := .ref a :: rest }) hg hsize T L Z LZ M LM (P0 :: P1 :: Ps)
    (fun P hP => by
      rcases List.mem_cons.mp hP with rfl | hP
      · exact L0
      · rcases List.mem_cons.mp hP with rfl | hP
        · exact L1
        · exact hL P hP) ⟨e0, hl1, hl2⟩ (u0 := u0) (sen := sen) (self := a) hmsg (cell := freshCell P0.m.cls kX) (cellS := cS)
    hcell (fun _ => by simp) (by simp) rfl rfl hs0 hsF hcS' hne hkn (by rw [hkeep _ (fun hm => nomatch hm)]; exact hu0) (by rw [hkeep _ (fun hm => nomatch hm)]; exact hsen)
    (Takes.of_laid hk hord tyC (by rw [Y.causeType]; rfl)) (Takes.of_laid hk hord tyS (by rw [Y.stackType]; exact fits_refV_array _ u0)) (Takes.of_laid hk hord tyP (by rw [Y.suppType]; exact fits_refV_object _ sen))
    (Takes.of_laid hk hord tyM (by rw [Y.msgType]; exact fits_refV_object _ ⟨msg, hmsg⟩)) Y.objLocals hskip htr [] d6
    (by simp only [List.length_cons, hlen, List.length_nil]; exact hRf) (by simp only [List.length_cons, hlen, List.length_nil]; exact hRl)
  obtain ⟨hwalk, hrun, hended, hWU, hsame⟩ := X₂.athrowLeaves hexec (g := { g with stack := .ref a :: rest, pc := g.pc + 3 }) hg hlk hen hout (a := a) (rest := rest) rfl d9
  have hlt : a < ((W.setVm vm₁).setVm vm₂).heap.size := (Array.getElem?_eq_some_iff.mp hcell).1
  have hU := heapAt_setCell_self (s := (W.setVm vm₁).setVm vm₂) (plainBareV T.toThrowableT (freshCell P0.m.cls kX) a u0 sen msg) hlt
  refine ⟨_, st1 _ (fun acts => ?_), hrun, hended, hWU, hsame.weaken (fun y hy hy' => ?_) (Nat.le_refl _) (Nat.le_refl _), _, hU, rfl, rfl⟩
  · rw [doInvoke_state]
    exact st2 _ hwalk
  · have hb : y.base = a := by
      simp only [List.nil_append, List.mem_cons, List.not_mem_nil, or_false] at hy
      rcases hy with rfl | rfl | rfl | rfl | rfl <;> rfl
    rw [hb] at hy'
    exact absurd hy' (Nat.not_lt.mpr hnew)
end Nse
