/-! house, person, share where they throw -/
def NSE : String := "java/util/NoSuchElementException"
def xNm : List String := ["java/lang/RuntimeException", "java/lang/Exception"]
def xE (Γ : zG) (U : State) (H : Heap) : Prop := va_Nw (.castable "java/util/NoSuchElementException" "java/util/NoSuchElementException") U ∧ vx_Zq Bundle.tN "UNASSIGNED_STACK" Bundle.steD (zA Γ) U H ∧ vx_Zq Bundle.tN "SUPPRESSED_SENTINEL" Bundle.listD (zA Γ) U H
theorem xE.warm {Γ : zG} {s U : State} {H : Heap} (hW : s.WarmedH U.vm) (h : xE Γ s H) : xE Γ U H := ⟨va_Nw.warmC hW h.1, vx_Zq.moved hW.alike h.2.1, vx_Zq.moved hW.alike h.2.2⟩
theorem xE.same {Γ : zG} {s U : State} {H : Heap} (hW : s.vm = U.vm) (h : xE Γ s H) : xE Γ U H := ⟨va_Nw.same rfl hW h.1, vx_Zq.moved (hW ▸ Vm.Alike.refl _) h.2.1, vx_Zq.moved (hW ▸ Vm.Alike.refl _) h.2.2⟩
theorem xE.kept {Γ : zG} {U : State} {H H1 : Heap} (h : xE Γ U H) (hq : ∀ a : Nat, a < H.size → ¬ zA Γ a → H1[a]? = H[a]?) : xE Γ U H1 := ⟨h.1, vx_Zq.kept h.2.1 hq, vx_Zq.kept h.2.2 hq⟩
def xPre (Γ : zG) (av : List Value) (mem : zMem) : Array Value → State → Prop := fun v U => zPre Γ av mem v U ∧ xE Γ U U.heap
theorem xPre_blind {Γ : zG} {mem : zMem} (av : List Value) : FrameBlind (xPre Γ av mem) := fun a U g mk h => ⟨zPre_blind av a U g mk h.1, xE.same (s := U) rfl h.2⟩
def xPost (Γ : zG) (mem : zMem) : String → State → State → Prop := fun E st t => E = "java/util/NoSuchElementException" ∧ va_P (gC Γ, gI Γ) vwCl (zwl Γ mem) t.heap ∧ va_F (zA Γ) st t
def tMet (l : Launch) (y : MethodName) (cc : ByteArray) (nL D : Nat) (Γ : zG) (av : List Value) (mem : zMem) : Prop := vx_Met l y (zws y cc nL (some .int)) (kRm D 1 6) (xPre Γ av mem) (fun _ _ _ _ => False) (xPost Γ mem) 1 6 (zA Γ)
def tRt (X : zM) (l : Launch) (Γ : zG) (D : Nat) (mem : zMem) : Prop := match X with
  | (_, l', _, R, s, _, args, below, meth, c, _, _, Q) => l' = l ∧ R = kRm D 1 6 ∧ meth.locks = false ∧ (∀ x ∈ c.exceptionTable.toList, False) ∧ Q = vx_MQ below (fun _ _ _ _ => False) (xPost Γ mem) args s 1 6 (zA Γ) ∧ xE Γ s s.heap
theorem tRt_l {X : zM} {l : Launch} {Γ : zG} {D : Nat} {mem : zMem} (Z : tRt X l Γ D mem) : X.2.1 = l := by
  obtain ⟨p, l, e, R, s, m, args, below, meth, c, cs0, sl0, Q⟩ := X
  exact Z.1
theorem tRt_R {X : zM} {l : Launch} {Γ : zG} {D : Nat} {mem : zMem} (Z : tRt X l Γ D mem) : kR X = kRm D 1 6 := by
  obtain ⟨p, l, e, R, s, m, args, below, meth, c, cs0, sl0, Q⟩ := X
  exact Z.2.1
theorem tMet_of {l : Launch} {y : MethodName} {own : String} {cc : ByteArray} {nL D : Nat} {Γ : zG} {av : List Value} {mem : zMem} (hy : plainName y.cls = true) (ho : y.cls = own) (hL : (lg_sl av).length ≤ nL) (body : ∀ X, zC (kX X 0 0) Γ own cc nL → tRt X l Γ D mem → zg (kX X 0 0) Γ nL 0 (lv_args 0 av) [] mem) : tMet l y cc nL D Γ av mem := by
  refine vx_ofW (cc := cc) (maxL := nL) (ret := some .int) (ws' := gw_tbl) hy rfl ?_
  intro p e s m args below meth c s₁ B hml ht hv
  obtain ⟨⟨rfl, hsz, hP, hC, hK, hE, hI⟩, hx⟩ := hv
  have hts := atoms_spec (ws := zws y cc nL (some .int)) B.pre
  have hl := lv_entry av (n := nL) hL
  rw [lg_entry_eq]
  exact body (p, l, e, (headSpec (zws y cc nL (some .int)) (kRm D 1 6)).room, s, m, av.toArray, below, meth, c, 0, 0, _) ⟨B.exec, B.bytes, hml, ho ▸ findClass_of_methodNamed B.named, fun w hw => hts w (List.mem_cons_of_mem _ hw), hK, hE, hsz, hI⟩ ⟨rfl, rfl, B.notSynchronized, ht, rfl, hx⟩ _ _ _ hl va_S.rf hP hC
theorem xat_lw : ∀ w ∈ (vx_atS "ShadowHeirs" 177 "java/util/NoSuchElementException" xNm).filter goodWord, w ∈ lw_tbl := by decide +kernel
theorem xat_no : ∀ w ∈ (vx_atS "ShadowHeirs" 177 "java/util/NoSuchElementException" xNm).filter (fun w => !goodWord w), w ∈ [Cond.castable "java/util/NoSuchElementException" "java/util/NoSuchElementException"] := by decide +kernel
theorem xat_ot : ∀ w ∈ Cond.classLink "ShadowHeirs" 173 "java/util/NoSuchElementException" :: Cond.initialized "java/util/NoSuchElementException" :: vx_atS "ShadowHeirs" 177 "java/util/NoSuchElementException" xNm, vx_ot w = true := by decide +kernel
