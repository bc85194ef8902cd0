/-! The law's private house, person, share: the class's call with its throw caught -/
section HELP
variable {X : zM} {Γ : zG} {own : String} {cc : ByteArray} {nL pc cs sl : Nat} {lv : List (Nat × Value)} {st : List Value} {mem : zMem}
theorem xg_callT (C : zC (kX X cs sl) Γ own cc nL) {l : Launch} (hl0 : X.2.1 = l) (hx : xE Γ X.2.2.2.2.1 X.2.2.2.2.1.heap) {y : MethodName} {cy : ByteArray} {nY n idx b ci D : Nat} {As rest : List Value} (hy : zCal y cy nY (some .int) n) (hv : zCalV y) (hl : Cond.methodLink own idx y ∈ gw_tbl) (hb : b < gN Γ ∧ sK b = ci) (hci : (vwCl[ci]?).map (·.1) = some y.cls) (hn : As.length = n) (hR : D + 1 ≤ (kR X).frames ∧ 8 + (nY + 11) + 60 * D ≤ (kR X).locals ∧ cs + 1 ≤ (kR X).cells ∧ sl + 6 ≤ (kR X).slots) (hrest : (rest.map fun v => v.category).sum ≤ 8) (d : decode cc pc = .ok (.invokevirtual idx, 3)) (hM : tMet l y cy nY D Γ (.ref (zad Γ b) :: As) mem) (hst : st = As.reverse ++ .ref (zad Γ b) :: rest)
    (x : ExceptionTableEntry) (htab : X.2.2.2.2.2.2.2.2.2.1.exceptionTable.toList = [x]) (hcov : covers x pc = true) (h0 : x.catchType ≠ 0) (hlink : Cond.classLink own x.catchType nEx ∈ gw_tbl) (kk : ∀ q : Nat, zg (kX X (cs + 1) (sl + 6)) Γ nL x.handlerPc lv [.ref q] mem) : zg (kX X cs sl) Γ nL pc lv st mem := by
  subst hst
  obtain ⟨p, l', e, R, s, m, args, below, meth, c, cs0, sl0, Q⟩ := X
  have hl0 : l' = l := hl0
  subst hl0
  intro ls H locs hls hS hP hC
  obtain ⟨x1, x2, x3, x4, x5, x6, x7, x8, x9⟩ := C
  obtain ⟨y1, y2, y3⟩ := hy
  have hroom : (kRm D 1 6).frames + 1 ≤ R.frames ∧ 8 + (nY + 11) + (kRm D 1 6).locals ≤ R.locals := ⟨hR.1, hR.2.1⟩
  obtain ⟨cq, hcq, hcn⟩ : ∃ cq, vwCl[ci]? = some cq ∧ cq.1 = y.cls := by
    cases hh : vwCl[ci]? with
    | none => rw [hh] at hci; cases hci
    | some cq => rw [hh] at hci; exact ⟨cq, rfl, Option.some.inj hci⟩
  have hlt : ci < 13 := by have := (List.getElem?_eq_some_iff.mp hcq).1; simpa [vwCl] using this
  have he : (zwl Γ mem)[b]? = some (zad Γ b, .inr (ci, (List.range (sNf ci)).map (zfv Γ mem b ci))) := by rw [zwl_at mem hb.1, zcell_obj hb.2 hlt]
  have hrecv := va_recv x6 hP hcq he
  rw [hcn] at hrecv
  have hpre : PreV s H y.cls (zad Γ b) (xPre Γ (.ref (zad Γ b) :: As) mem) As := ⟨xPre_blind _, hrecv, fun U hU hW => ⟨zPre_at x6 x7 x8 x9 hS hP hC hU hW, xE.warm hW (xE.kept hx (fun a h1 h2 => by rw [hU]; exact hS.2.1 a h1 h2))⟩⟩
  have hst : (F0 m pc ls (As.reverse ++ .ref (zad Γ b) :: rest)).stack = As.reverse ++ .ref (zad Γ b) :: rest := rfl
  have hr : vx_Run p l' e R s m args below meth c H locs cs sl 1 6 (F0 m pc ls (As.reverse ++ .ref (zad Γ b) :: rest)) rest (fun _ _ _ => False) (xPost Γ mem) (zA Γ) := vx_runV (C := y.cls) (rest := rest) ⟨x1, x2, x3, x4, x5⟩ hM ⟨callB_of n x5 (zws_good y1) rfl rfl rfl (x5 _ y2) (x5 _ hl) y3 hroom, x5 _ hv.1, x5 _ hv.2⟩ hpre rfl hn hls.1 hst (lv_room hrest) d hR.2.2
  intro T hT XX
  rcases hr T hT XX with ⟨v, st₀, t, T', L, g0, X', hL, e1, e2, hq, stp⟩ | ⟨q, st₀, t, T', L, E, ce, g0, X', hL, e1, e2, ⟨hE, hP', hz, hf⟩, hce, hcv, hcl, stp⟩
  · exact hq.elim
  · subst hE
    rw [g0] at hz hf
    obtain ⟨t2, a1, b1⟩ := vx_catch (H := T'.heap) (own := own) (name := nEx) (E := nEx) (ce := ce) (q := q) (pc := pc) (rest := rest) x4 [] x [] htab (fun z hz => nomatch hz) hcov h0 (x5 _ hlink) (va_Nw.use rfl (hx.1 _ (by decide))) (by rw [e1]; exact hce) hcv hcl
      (kk q ls T'.heap (locs ++ L) hls ⟨Nat.le_trans hS.1 (by rw [e1]; exact hz), fun x h1 h2 => by rw [e1, hf x (Nat.lt_of_lt_of_le h1 hS.1) h2]; exact hS.2.1 x h1 h2, fun x hx => by
        rcases List.mem_append.mp hx with h | h
        · exact hS.2.2 x h
        · exact hL x h⟩ (by rw [e1]; exact hP') hC) T' rfl X'
    exact ⟨t2, stp.trans a1, b1⟩
theorem zC_x (a b a' b' : Nat) (C : zC (kX X a b) Γ own cc nL) : zC (kX X a' b') Γ own cc nL := by
  obtain ⟨p, l, e, R, s, m, args, below, meth, c, cs0, sl0, Q⟩ := X
  exact C
theorem kg_last (C : zC (kX X cs sl) Γ own cc nL) {q : Nat} {i x : Int} (hq : q < gN Γ ∧ sK q = 14) (hi : ir i) (hix : ix q i) (hx : lr x) (d : decode cc pc = .ok (.lastore, 1)) (kk : zg (kX X cs sl) Γ nL (pc + 1) lv st (zup mem q i x)) : zg (kX X cs sl) Γ nL pc lv (.long (i64 x) :: .int (i32 i) :: .ref (zad Γ q) :: st) mem := by
  obtain ⟨p, l, e, R, s, m, args, below, meth, c, cs0, sl0, Q⟩ := X
  intro ls H locs hls hS hP hC
  have he : (zwl Γ mem)[q]? = some (zad Γ q, .inl (gY Γ 1, sLen q, .inr (.inl fun j => i64 (mem q (j : Nat))))) := by rw [zwl_at mem hq.1, zcell_14 hq.2]
  refine va_last C.1 C.2.1 C.2.2.2.2.2.1 hP (zD C.2.2.2.2.2.2.2.2 mem) hS q 1 he rfl (ix_in hix hi) d (fun H1 locs1 hP1 _ hS1 => ?_)
  rw [← zupL hi hix.1, zwl_set (mem' := zup mem q i x) (zcell_14 hq.2) (fun p hp => zup_off hp)] at hP1
  exact kk ls H1 locs1 hls hS1 hP1 (zCn_up hC (zrg_ml (by simp [zlg, hq.2]) hx))
theorem kg_lald (C : zC (kX X cs sl) Γ own cc nL) {q : Nat} {i : Int} (hq : q < gN Γ ∧ sK q = 14) (hi : ir i) (hx : ix q i) (d : decode cc pc = .ok (.laload, 1)) (kk : lr (mem q i) → zg (kX X cs sl) Γ nL (pc + 1) lv (.long (i64 (mem q i)) :: st) mem) : zg (kX X cs sl) Γ nL pc lv (.int (i32 i) :: .ref (zad Γ q) :: st) mem := by
  obtain ⟨p, l, e, R, s, m, args, below, meth, c, cs0, sl0, Q⟩ := X
  intro ls H locs hls hS hP hC
  have he : (zwl Γ mem)[q]? = some (zad Γ q, .inl (gY Γ 1, sLen q, .inr (.inl fun j => i64 (mem q (j : Nat))))) := by rw [zwl_at mem hq.1, zcell_14 hq.2]
  refine va_lald C.1 C.2.1 C.2.2.2.2.2.1 hP q 1 he rfl (ix_in hx hi) d ?_
  rw [ix_nat hi hx.1]
  exact kk (zrg_l (by simp [zlg, hq.2]) (hC q i)) ls H locs hls hS hP hC
end HELP
abbrev xNo : String → State → State → Prop := fun _ _ _ => False
def hws (y : MethodName) (cc : ByteArray) (nL : Nat) (hh : List (Nat × Nat × Nat × Nat)) : List Cond := Cond.codeWith y cc nL (some .int) hh :: gw_tbl
def hMet (l : Launch) (y : MethodName) (cc : ByteArray) (nL : Nat) (hh : List (Nat × Nat × Nat × Nat)) (D : Nat) (Γ : zG) (av : List Value) (mem : zMem) (q : Int × zMem) : Prop := vx_Met l y (hws y cc nL hh) (kRm D 1 6) (xPre Γ av mem) (zPost Γ 1 q) xNo 1 6 (zA Γ)
def hRt (X : zM) (l : Launch) (Γ : zG) (hh : List (Nat × Nat × Nat × Nat)) (D : Nat) (q : Int × zMem) : Prop := match X with
  | (_, l', _, R, s, _, args, below, meth, c, _, _, Q) => l' = l ∧ R = kRm D 1 6 ∧ meth.sig.returnType = some .int ∧ meth.locks = false ∧ c.exceptionTable.toList = tableOf hh ∧ Q = vx_MQ below (zPost Γ 1 q) xNo args s 1 6 (zA Γ) ∧ xE Γ s s.heap
theorem hRt_l {X : zM} {l : Launch} {Γ : zG} {hh : List (Nat × Nat × Nat × Nat)} {D : Nat} {q : Int × zMem} (Z : hRt X l Γ hh D q) : X.2.1 = l := by
  obtain ⟨p, l, e, R, s, m, args, below, meth, c, cs0, sl0, Q⟩ := X
  exact Z.1
theorem hRt_R {X : zM} {l : Launch} {Γ : zG} {hh : List (Nat × Nat × Nat × Nat)} {D : Nat} {q : Int × zMem} (Z : hRt X l Γ hh D q) : kR X = kRm D 1 6 := by
  obtain ⟨p, l, e, R, s, m, args, below, meth, c, cs0, sl0, Q⟩ := X
  exact Z.2.1
theorem hRt_t {X : zM} {l : Launch} {Γ : zG} {hh : List (Nat × Nat × Nat × Nat)} {D : Nat} {q : Int × zMem} (Z : hRt X l Γ hh D q) : X.2.2.2.2.2.2.2.2.2.1.exceptionTable.toList = tableOf hh := by
  obtain ⟨p, l, e, R, s, m, args, below, meth, c, cs0, sl0, Q⟩ := X
  exact Z.2.2.2.2.1
theorem hRt_x {X : zM} {l : Launch} {Γ : zG} {hh : List (Nat × Nat × Nat × Nat)} {D : Nat} {q : Int × zMem} (Z : hRt X l Γ hh D q) : xE Γ X.2.2.2.2.1 X.2.2.2.2.1.heap := by
  obtain ⟨p, l, e, R, s, m, args, below, meth, c, cs0, sl0, Q⟩ := X
  exact Z.2.2.2.2.2.2
theorem hrt_i {X : zM} {l : Launch} {Γ : zG} {own : String} {cc : ByteArray} {nL pc cs sl D : Nat} {lv : List (Nat × Value)} {mem : zMem} {hh : List (Nat × Nat × Nat × Nat)} {x : Int} (C : zC (kX X cs sl) Γ own cc nL) (Z : hRt X l Γ hh D (x, mem)) (hx : ir x) (hc : cs ≤ 1 ∧ sl ≤ 6) (d : decode cc pc = .ok (.ireturn, 1)) : zg (kX X cs sl) Γ nL pc lv [.int (i32 x)] mem := by
  obtain ⟨p, l', e, R, s, m, args, below, meth, c, cs0, sl0, Q⟩ := X
  obtain ⟨h0, h9, h1, h2, h3, h4, -⟩ := Z
  subst h4
  intro ls H locs hls hS hP hC
  exact vx_ret (W.widen hc.1 hc.2 (W.iret C.1 C.2.1 h1 (fun t ht hW => ⟨rfl, hx, by rw [ht]; exact hP, hC, hS.F ht⟩) hS.2.2 d h2))
theorem hMet_of {l : Launch} {y : MethodName} {own : String} {cc : ByteArray} {nL D : Nat} {Γ : zG} {hh : List (Nat × Nat × Nat × Nat)} {av : List Value} {mem : zMem} {q : Int × zMem} (hy : plainName y.cls = true) (ho : y.cls = own) (hL : (lg_sl av).length ≤ nL) (body : ∀ X, zC (kX X 0 0) Γ own cc nL → hRt X l Γ hh D q → zg (kX X 0 0) Γ nL 0 (lv_args 0 av) [] mem) : hMet l y cc nL hh D Γ av mem q := by
  refine vx_ofWH (cc := cc) (maxL := nL) (ret := some .int) (ws' := gw_tbl) (hh := hh) hy rfl ?_
  intro p e s m args below meth c s₁ B hml hv
  obtain ⟨⟨rfl, hsz, hP, hC, hK, hE, hI⟩, hx⟩ := hv
  have hts := atoms_spec (ws := hws y cc nL hh) B.pre
  have hl := lv_entry av (n := nL) hL
  have ht := vx_table (x := y) B (hts _ List.mem_cons_self)
  have hret : meth.sig.returnType = some .int := B.returns
  rw [lg_entry_eq]
  exact body (p, l, e, (headSpec (hws y cc nL hh) (kRm D 1 6)).room, s, m, av.toArray, below, meth, c, 0, 0, _) ⟨B.exec, B.bytes, hml, ho ▸ findClass_of_methodNamed B.named, fun w hw => hts w (List.mem_cons_of_mem _ hw), hK, hE, hsz, hI⟩ ⟨rfl, rfl, hret, B.notSynchronized, ht, rfl, hx⟩ _ _ _ hl va_S.rf hP hC
