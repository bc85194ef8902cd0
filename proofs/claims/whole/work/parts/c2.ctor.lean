/-! fields and calls in worlds that grow -/
def kRm (D mc ms : Nat) : Room := { frames := D, cells := mc, slots := ms, locals := 60 * D }
def kPre (Γ : zG) (av : List Value) (mem : zMem) : Array Value → State → Prop := fun v U => zPre Γ av mem v U ∧ kI Γ ∧ va_AO "ShadowHeirs$Scene" U ∧ va_AO "ShadowHeirs$Island" U
def kFl (Γ Γ' : zG) (q N' : Nat) : Prop := ∀ p k, isR p k = true → (p = q ∨ (gN Γ ≤ p ∧ p < N')) → gF Γ' p k = true
def kPost (Γ : zG) (q N' : Nat) (mem' : zMem) : Array Value → State → Outcome → State → Prop := fun _ st oc t => oc = .returned none ∧ (∃ Γ', kS Γ Γ' ∧ gN Γ' = N' ∧ kI Γ' ∧ zInj Γ' ∧ kFl Γ Γ' q N' ∧ va_P (gC Γ', gI Γ') vwCl (zwl Γ' mem') t.heap) ∧ zCn mem' ∧ va_F (zA Γ) st t
def kMet (l : Launch) (y : MethodName) (cc : ByteArray) (nL D mc ms : Nat) (Γ : zG) (q N' : Nat) (av : List Value) (mem mem' : zMem) : Prop := Met l y (zws y cc nL none) (kRm D mc ms) (kPre Γ av mem) (kPost Γ q N' mem') mc ms (zA Γ)
def kRt (X : zM) (l : Launch) (Γ : zG) (D mc ms q N' : Nat) (mem' : zMem) : Prop := match X with
  | (_, l', _, R, s, _, args, below, meth, _, _, _, Q) => l' = l ∧ R = kRm D mc ms ∧ meth.sig.returnType = none ∧ meth.locks = false ∧ Q = MQ below (kPost Γ q N' mem') args s mc ms (zA Γ)
theorem kRt_R {X : zM} {l : Launch} {Γ : zG} {D mc ms q N' : Nat} {mem' : zMem} (Z : kRt X l Γ D mc ms q N' mem') : kR X = kRm D mc ms := by
  obtain ⟨p, l, e, R, s, m, args, below, meth, c, cs0, sl0, Q⟩ := X
  exact Z.2.1
section CTOR
variable {X : zM} {Γ : zG} {own : String} {cc : ByteArray} {nL : Nat} {pc : Nat} {lv : List (Nat × Value)} {st : List Value} {mem : zMem} {cs sl : Nat}
theorem kMet_of {l : Launch} {y : MethodName} {D mc ms q N' : Nat} {av : List Value} {mem' : zMem} (hy : plainName y.cls = true) (ho : y.cls = own) (hin : y.name = "<init>") (hL : (lg_sl av).length ≤ nL) (body : ∀ X, kC (kX X 0 0) Γ own cc nL → kRt X l Γ D mc ms q N' mem' → zg (kX X 0 0) Γ nL 0 (lv_args 0 av) [] mem) : kMet l y cc nL D mc ms Γ q N' av mem mem' := by
  refine Met.ofW (cc := cc) (maxL := nL) (ret := none) hy rfl ?_
  intro p e s m args below meth c s₁ B hml hv
  obtain ⟨⟨rfl, hsz, hP, hC, hK, hE, hI⟩, kI0, a1, a2⟩ := hv
  have hts := atoms_spec (ws := zws y cc nL none) B.pre
  have hl := lv_entry av (n := nL) hL
  have hnm : meth.name = "<init>" := by rw [← hin]; exact (name_of_methodNamed B.named B.method).1
  rw [lg_entry_eq]
  exact body (p, l, e, (headSpec (zws y cc nL none) (kRm D mc ms)).room, s, m, av.toArray, below, meth, c, 0, 0, _) ⟨⟨B.exec, B.bytes, hml, ho ▸ findClass_of_methodNamed B.named, fun w hw => hts w (List.mem_cons_of_mem _ hw), hK, hE, hsz, hI⟩, kI0, ⟨a1, a2⟩, hnm⟩ ⟨rfl, rfl, B.returns, B.notSynchronized, rfl⟩ _ _ _ hl va_S.rf hP hC
theorem kg_ret {l : Launch} {Γ0 : zG} {D mc ms q N' : Nat} (C : kC (kX X cs sl) Γ own cc nL) (Z : kRt X l Γ0 D mc ms q N' mem) (hS0 : kS Γ0 Γ) (hN : gN Γ = N') (hF : kFl Γ0 Γ q N') (hc : cs ≤ mc ∧ sl ≤ ms) (d : decode cc pc = .ok (.return_, 1)) : zg (kX X cs sl) Γ nL pc lv [] mem := by
  obtain ⟨p, l', e, R, s, m, args, below, meth, c, cs0, sl0, Q⟩ := X
  obtain ⟨rfl, rfl, h1, h2, rfl⟩ := Z
  obtain ⟨C, hI, hao, hin⟩ := C
  intro ls H locs hls hS hP hC
  have eA : zA Γ = zA Γ0 := by unfold zA; rw [hS0.1.2.2.2.1]
  rw [eA] at hS
  refine W.widen (k := mc) (n := ms) hc.1 hc.2 ?_
  exact W.vret C.1 C.2.1 h1 (fun t ht hW => ⟨rfl, ⟨Γ, hS0, hN, hI, C.2.2.2.2.2.2.2.2, hF, by rw [ht]; exact hP⟩, hC, hS.F ht⟩) hS.2.2 d h2
theorem kg_obj (C : kC (kX X cs sl) Γ own cc nL) {a idx : Nat} (hR : 1 ≤ (kR X).frames ∧ (st.map fun v => v.category).sum + 12 ≤ (kR X).locals) (hl : Cond.methodLink own idx objectInit ∈ gw_tbl) (h1 : Cond.instanceMethod objectInit ∈ gw_tbl) (h2 : Cond.code objectInit ⟨#[0xb1]⟩ 1 none ∈ gw_tbl) (d : decode cc pc = .ok (.invokespecial idx, 3)) (kk : zg (kX X cs sl) Γ nL (pc + 3) lv st mem) : zg (kX X cs sl) Γ nL pc lv (.ref a :: st) mem := by
  obtain ⟨p, l, e, R, s, m, args, below, meth, c, cs0, sl0, Q⟩ := X
  obtain ⟨C, hI, hao, hin⟩ := C
  intro ls H locs hls hS hP hC
  have h3 : (st.map fun v => v.category).sum + 12 ≤ R.locals := hR.2
  have h4 : 2 * (F0 m pc ls (.ref a :: st)).monitorRoom + (st.map fun v => v.category).sum + 12 ≤ R.locals := by
    simpa [F0] using h3
  exact W.objInit C.1 C.2.1 C.2.2.2.1 (C.2.2.2.2.1 _ hl) (C.2.2.2.2.1 _ h1) (C.2.2.2.2.1 _ h2) rfl (by rw [C.2.2.1]; exact hls.1) rfl d hR.1 h4 (kk ls H locs hls hS hP hC)
theorem kg_getR (C : kC (kX X cs sl) Γ own cc nL) {ci k idx q a b : Nat} (hq : q < gN Γ) (hk : sK q = ci) (ha : gD Γ q = a) (hl : zFl own idx ci k) (hf : sFk ci k = 2) (hF : gF Γ q k = true) (hb : gD Γ (sRf q k) = b) (d : decode cc pc = .ok (.getfield idx, 3)) (kk : zg (kX X cs sl) Γ nL (pc + 3) lv (.ref b :: st) mem) : zg (kX X cs sl) Γ nL pc lv (.ref a :: st) mem := by
  subst ha
  refine zg_get C.1 hq hk hl d (fun _ => ?_)
  have e : zfv Γ mem q ci k = .ref b := by
    unfold zfv
    rw [hf]
    show va_rf (zrf Γ q k) = _
    unfold zrf
    rw [if_pos hF, ← hb]
    rfl
  rw [e]
  exact kk
theorem kg_putI (C : kC (kX X cs sl) Γ own cc nL) {ci k idx q a : Nat} (j : Int) (hj : ((k : Nat) : Int) = j) {x : Int} (hq : q < gN Γ) (hk : sK q = ci) (ha : gD Γ q = a) (hl : zFl own idx ci k) (hf : sFk ci k = 0) (hp : zFp ci k .int) (hx : ir x) (d : decode cc pc = .ok (.putfield idx, 3)) (kk : zg (kX X cs sl) Γ nL (pc + 3) lv st (zup mem q j x)) : zg (kX X cs sl) Γ nL pc lv (.int (i32 x) :: .ref a :: st) mem := by
  subst hj
  subst ha
  exact zg_put C.1 hq hk hl hp (vp_nar_int _) rfl (by simp [zfv, hf, zup_at]) (zrg_mi (by rw [zlg_f hk (zFl_lt hl)]; simp [hf]) hx) d kk
theorem kg_putZ (C : kC (kX X cs sl) Γ own cc nL) {ci k idx q a : Nat} (j : Int) (hj : ((k : Nat) : Int) = j) {x : Int} (hq : q < gN Γ) (hk : sK q = ci) (ha : gD Γ q = a) (hl : zFl own idx ci k) (hf : sFk ci k = 0) (hp : zFp ci k .boolean) (hx : x = 0 ∨ x = 1) (d : decode cc pc = .ok (.putfield idx, 3)) (kk : zg (kX X cs sl) Γ nL (pc + 3) lv st (zup mem q j x)) : zg (kX X cs sl) Γ nL pc lv (.int (i32 x) :: .ref a :: st) mem := by
  subst hj
  subst ha
  exact zg_put C.1 hq hk hl hp (by rcases hx with rfl | rfl <;> rfl) (by rcases hx with rfl | rfl <;> rfl) (by simp [zfv, hf, zup_at]) (by rw [zlg_f hk (zFl_lt hl)]; rcases hx with rfl | rfl <;> simp [hf, zrg, ir]) d kk
theorem kg_putL (C : kC (kX X cs sl) Γ own cc nL) {ci k idx q a : Nat} (j : Int) (hj : ((k : Nat) : Int) = j) {x : Int} (hq : q < gN Γ) (hk : sK q = ci) (ha : gD Γ q = a) (hl : zFl own idx ci k) (hf : sFk ci k = 1) (hp : zFp ci k .long) (hx : lr x) (d : decode cc pc = .ok (.putfield idx, 3)) (kk : zg (kX X cs sl) Γ nL (pc + 3) lv st (zup mem q j x)) : zg (kX X cs sl) Γ nL pc lv (.long (i64 x) :: .ref a :: st) mem := by
  subst hj
  subst ha
  exact zg_put C.1 hq hk hl hp rfl rfl (by simp [zfv, hf, zup_at]) (zrg_ml (by rw [zlg_f hk (zFl_lt hl)]; simp [hf]) hx) d kk
def gSet (Γ : zG) (q k : Nat) : zG := gMk Γ (gN Γ) (fun p j => if p = q ∧ j = k then true else gF Γ p j) (gD Γ)
theorem kS_set (Γ : zG) (q k : Nat) : kS Γ (gSet Γ q k) := ⟨⟨rfl, rfl, rfl, rfl, rfl, rfl⟩, Nat.le_refl _, fun _ _ => rfl, fun p j h => by
  show (if p = q ∧ j = k then true else gF Γ p j) = true
  by_cases hc : p = q ∧ j = k
  · rw [if_pos hc]
  · rw [if_neg hc]; exact h⟩
theorem kI_set {q k : Nat} (hI : kI Γ) (hq : q < gN Γ) (hr : sRf q k < gN Γ) : kI (gSet Γ q k) := by
  intro p j h
  have h : (if p = q ∧ j = k then true else gF Γ p j) = true := h
  show p < gN Γ ∧ sRf p j < gN Γ
  by_cases hc : p = q ∧ j = k
  · rw [hc.1, hc.2]
    exact ⟨hq, hr⟩
  · rw [if_neg hc] at h
    exact hI p j h
theorem zwl_setF {q k : Nat} {e : va_E} (he : zcell (gSet Γ q k) mem q = e) : (zwl Γ mem).set q (gD Γ q, e) = zwl (gSet Γ q k) mem := by
  apply List.ext_getElem?
  intro j
  rw [List.getElem?_set]
  by_cases hk : j < gN Γ
  · rw [zwl_at (Γ := gSet Γ q k) mem hk]
    by_cases hq : q = j
    · subst hq
      rw [if_pos rfl, if_pos (by rw [zwl_len]; exact hk), he]
      rfl
    · rw [if_neg hq, zwl_at mem hk]
      have e2 : zcell (gSet Γ q k) mem j = zcell Γ mem j := by
        refine zcell_eq rfl (fun i => ?_)
        unfold zrf
        show (if (if j = q ∧ i = k then true else gF Γ j i) = true then some (gD Γ (sRf j i)) else none) = _
        rw [if_neg (show ¬ (j = q ∧ i = k) from fun h => hq h.1.symm)]
        rfl
      rw [e2]
      rfl
  · have h1 : (zwl (gSet Γ q k) mem)[j]? = none := List.getElem?_eq_none (by rw [zwl_len]; show gN Γ ≤ j; omega)
    have h2 : (zwl Γ mem)[j]? = none := List.getElem?_eq_none (by rw [zwl_len]; omega)
    rw [h1, h2]
    by_cases hq : q = j
    · rw [if_pos hq, if_neg (by rw [zwl_len]; omega)]
    · rw [if_neg hq]
def kFin (own : String) (ci k : Nat) : Prop := ∀ (T : u_T) (N : Nat) (C' : String), vwCl[ci]? = some (C', T, N) → (T k).2.2.2 = true ∧ (T k).1 = own ∧ ∃ ty, parseFieldDescriptor (T k).2.2.1 = some ty ∧ (∀ a, narrow ty (.ref a) = .ref a ∧ fits ty (.ref a) = true)
theorem kg_putR (C : kC (kX X cs sl) Γ own cc nL) {ci k idx q a b : Nat} (hq : q < gN Γ) (hk : sK q = ci) (ha : gD Γ q = a) (hl : zFl own idx ci k) (hl2 : ∃ (C' : String) (T : u_T) (N : Nat), vwCl[ci]? = some (C', T, N) ∧ Cond.fieldLink own idx C' (T k).2.1 (T k).2.2.1 ∈ gw_tbl) (hf : sFk ci k = 2) (hfin : kFin own ci k) (hr : sRf q k < gN Γ) (hb : gD Γ (sRf q k) = b) (d : decode cc pc = .ok (.putfield idx, 3)) (kk : ∀ Γ' : zG, kS Γ Γ' → gN Γ' = gN Γ → gF Γ' q k = true → kC (kX X cs sl) Γ' own cc nL → zg (kX X cs sl) Γ' nL (pc + 3) lv st mem) : zg (kX X cs sl) Γ nL pc lv (.ref b :: .ref a :: st) mem := by
  obtain ⟨p, l, e, R, s, m, args, below, meth, c, cs0, sl0, Q⟩ := X
  obtain ⟨C, hI, hao, hin⟩ := C
  obtain ⟨cn, tt, N, tyy, h1, h2, h3, h4, h5, h6, h7, h8, h9⟩ := hl
  obtain ⟨cn', tt', N', e1, e2⟩ := hl2
  cases Option.some.inj (e1.symm.trans h1)
  obtain ⟨f1, f2, ty, f3, f4⟩ := hfin _ _ _ h1
  subst h3
  subst ha
  intro ls H locs hls hS hP hC
  have he : (zwl Γ mem)[q]? = some (zad Γ q, .inr (ci, (List.range (sNf ci)).map (zfv Γ mem q ci))) := by rw [zwl_at mem hq, zcell_obj hk h2]
  refine va_putF C.1 C.2.1 C.2.2.2.2.1 h6 tyy h7 h8 C.2.2.2.1 C.2.2.2.2.2.1 hP (zD C.2.2.2.2.2.2.2.2 mem) hS q he h1 k h4 (C.2.2.2.2.1 _ e2) (fun x hx => by rw [h5] at hx; exact hx) f1 hin f2 f3 (f4 b).1 (f4 b).2 (by simpa using h4) d (fun H1 locs1 hP1 hD1 hS1 => ?_)
  have ec : zcell (gSet Γ q k) mem q = .inr (ci, ((List.range (sNf ci)).map (zfv Γ mem q ci)).set k (.ref b)) := by
    rw [zcell_obj hk h2]
    have hse : ((List.range (sNf ci)).map (zfv Γ mem q ci)).set k (.ref b) = (List.range (sNf ci)).map (zfv (gSet Γ q k) mem q ci) := by
      apply List.ext_getElem?
      intro j
      rw [List.getElem?_set]
      by_cases hj : k = j
      · subst hj
        rw [if_pos rfl, if_pos (by simpa using h4), zfs_at h4]
        have : zfv (gSet Γ q k) mem q ci k = .ref b := by
          unfold zfv
          rw [hf]
          show va_rf (if (if q = q ∧ k = k then true else gF Γ q k) = true then some (gD Γ (sRf q k)) else none) = _
          have e0 : (if q = q ∧ k = k then true else gF Γ q k) = true := if_pos ⟨rfl, rfl⟩
          rw [if_pos e0, hb]
          rfl
        rw [this]
      · rw [if_neg hj]
        by_cases hl : j < sNf ci
        · rw [zfs_at hl, zfs_at hl]
          congr 1
          unfold zfv
          have : zrf (gSet Γ q k) q j = zrf Γ q j := by
            unfold zrf
            show (if (if q = q ∧ j = k then true else gF Γ q j) = true then some (gD Γ (sRf q j)) else none) = _
            rw [if_neg (show ¬ (q = q ∧ j = k) from fun h => hj h.2.symm)]
            rfl
          rw [this]
        · rw [List.getElem?_eq_none (by simpa using hl), List.getElem?_eq_none (by simpa using hl)]
    rw [hse]
  have ew := zwl_setF (Γ := Γ) (mem := mem) ec
  have hP2 : va_P (gC Γ, gI Γ) vwCl (zwl (gSet Γ q k) mem) H1 := by rw [← ew]; exact hP1
  have hD2 : va_D (zA Γ) (zwl (gSet Γ q k) mem) := by rw [← ew]; exact hD1
  refine kk (gSet Γ q k) (kS_set Γ q k) rfl ?_ ⟨zC_s C (kS_set Γ q k) (zInj_of hD2), kI_set hI hq hr, hao, hin⟩ ls H1 locs1 hls hS1 hP2 hC
  show (if q = q ∧ k = k then true else gF Γ q k) = true
  rw [if_pos ⟨rfl, rfl⟩]
theorem kg_callI (C : kC (kX X cs sl) Γ own cc nL) {l : Launch} (hl0 : X.2.1 = l) {y : MethodName} {cy : ByteArray} {nY n idx b dd mc ms q N' : Nat} {As rest : List Value} {mem' : zMem} (hy : zCal y cy nY none n) (hyn : y.name = "<init>") (hyi : Cond.instanceMethod y ∈ gw_tbl) (hl : zMl own idx y) (hn : As.length = n) (hR : dd + 1 ≤ (kR X).frames ∧ 8 + (nY + 11) + 60 * dd ≤ (kR X).locals ∧ cs + mc ≤ (kR X).cells ∧ sl + ms ≤ (kR X).slots) (hrest : (rest.map fun v => v.category).sum ≤ 8) (d : decode cc pc = .ok (.invokespecial idx, 3)) (hM : kMet l y cy nY dd mc ms Γ q N' (.ref b :: As) mem mem') (hst : st = As.reverse ++ .ref b :: rest) (kk : ∀ Γ' : zG, kS Γ Γ' → gN Γ' = N' → kFl Γ Γ' q N' → kC (kX X (cs + mc) (sl + ms)) Γ' own cc nL → zg (kX X (cs + mc) (sl + ms)) Γ' nL (pc + 3) lv rest mem') : zg (kX X cs sl) Γ nL pc lv st mem := by
  subst hst
  obtain ⟨p, l', e, R, s, m, args, below, meth, c, cs0, sl0, Q⟩ := X
  have hl0 : l' = l := hl0
  subst hl0
  obtain ⟨C, hI, hao, hin⟩ := C
  intro ls H locs hls hS hP hC
  obtain ⟨x1, x2, x3, x4, x5, x6, x7, x8, x9⟩ := id C
  obtain ⟨y1, y2, y3⟩ := hy
  have hroom : (kRm dd mc ms).frames + 1 ≤ R.frames ∧ 8 + (nY + 11) + (kRm dd mc ms).locals ≤ R.locals := ⟨hR.1, hR.2.1⟩
  have hpre : PreS s H (kPre Γ (.ref b :: As) mem) (.ref b :: As) := ⟨fun a U g mk h => ⟨zPre_blind _ a U g mk h.1, h.2.1, va_AO.moved (u := U) (U := U.calling g mk a) (Vm.Alike.refl _) h.2.2.1, va_AO.moved (u := U) (U := U.calling g mk a) (Vm.Alike.refl _) h.2.2.2⟩, fun U hU hW => ⟨zPre_at x6 x7 x8 x9 hS hP hC hU hW, hI, va_AO.moved hW.alike hao.1, va_AO.moved hW.alike hao.2⟩⟩
  have hst : (F0 m pc ls (As.reverse ++ .ref b :: rest)).stack = As.reverse ++ .ref b :: rest := rfl
  have hr : va_Run p l' e R s m args below meth c H locs cs sl mc ms (F0 m pc ls (As.reverse ++ .ref b :: rest)) rest (kPost Γ q N' mem' (Value.ref b :: As).toArray) (zA Γ) := by
    rcases hl with hl | ⟨host, hl⟩
    · exact va_runI (rest := rest) ⟨x1, x2, x3, x4, x5⟩ hM ⟨callB_of n x5 (zws_good y1) rfl rfl rfl (x5 _ y2) (x5 _ hl) y3 hroom, hyn, x5 _ hyi⟩ hpre rfl hn hls.1 hst (lv_room hrest) d hR.2.2
    · exact va_runIN (rest := rest) ⟨x1, x2, x3, x4, x5⟩ hM ⟨va_cnB n x5 (zws_good y1) rfl rfl rfl (x7.1 _ hl) (x5 _ y2) y3 hroom, hyn, x5 _ hyi⟩ hpre rfl hn hls.1 hst (lv_room hrest) d hR.2.2
  intro T hT X
  obtain ⟨v, st₀, t, T', L, h0, X', hL, e1, e2, ⟨hv, ⟨Γ', g1, g2, g3, g4, g5, g6⟩, hC1, hz, hf⟩, stp⟩ := hr T hT X
  have hv : v = none := by cases hv; rfl
  subst hv
  rw [h0] at hz hf
  have eA : zA Γ' = zA Γ := by unfold zA; rw [g1.1.2.2.2.1]
  obtain ⟨t2, a1, b1⟩ := kk Γ' g1 g2 g5 ⟨zC_s C g1 g4, g3, hao, hin⟩ ls T'.heap (locs ++ L) hls (by
    rw [eA]
    exact ⟨Nat.le_trans hS.1 (by rw [e1]; exact hz), fun x h1 h2 => by rw [e1, hf x (Nat.lt_of_lt_of_le h1 hS.1) h2]; exact hS.2.1 x h1 h2, fun x hx => by
      rcases List.mem_append.mp hx with h | h
      · exact hS.2.2 x h
      · exact hL x h⟩) (by rw [e1]; exact g6) hC1 T' rfl X'
  exact ⟨t2, stp t2 a1, b1⟩
end CTOR
