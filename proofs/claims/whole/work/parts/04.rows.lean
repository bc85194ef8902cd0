/-! The machine at a method's frame, the world of the objects at hand -/
abbrev zM : Type := Program × Launch × Env × Room × State × MethodId × Array Value × List Frame × Method × Code × Nat × Nat × (State → Prop)
def zC (X : zM) (Γ : zG) (own : String) (cc : ByteArray) (nL : Nat) : Prop := match X with
  | (p, _, _, _, s, m, args, _, _, c, _, _, _) => p.tables.exec = Jvm.exec ∧ c.code = cc ∧ c.maxLocals = nL ∧ s.vm.findClass own = some m.cls ∧ (∀ w ∈ gw_tbl, w.before args s = true) ∧ va_K (gC Γ, gI Γ) vwCl (ztys Γ) s ∧ zE Γ s s.heap ∧ gB Γ ≤ s.heap.size ∧ zInj Γ
/-- from a frame at pc with these locals and this stack, in any heap that holds the objects, the machine comes to its end -/
def zg (X : zM) (Γ : zG) (nL pc : Nat) (lv : List (Nat × Value)) (st : List Value) (mem : zMem) : Prop := match X with
  | (p, l, e, R, s, m, args, below, meth, c, cs, sl, Q) => ∀ (ls : Array Slot) (H : Heap) (locs : List Loc), lv_has ls nL lv → va_S (zA Γ) s.heap H locs → va_P (gC Γ, gI Γ) vwCl (zwl Γ mem) H → zCn mem → W p l e R s m args below meth c H locs cs sl Q (F0 m pc ls st)
def zJ {ρ : Type} (X : zM) (Γ : zG) (nL : Nat) (r : ρ) (T : Option ρ) (pc : Nat) (lv : List (Nat × Value)) (st : List Value) (mem : zMem) : Prop := T = some r → zg X Γ nL pc lv st mem
section ROWS
variable {ρ : Type} {X : zM} {Γ : zG} {own : String} {cc : ByteArray} {nL : Nat} {r : ρ} {T A B : Option ρ} {pc : Nat} {lv : List (Nat × Value)} {st : List Value} {mem : zMem}
theorem zj_iconst (C : zC X Γ own cc nL) (n : Int) (d : decode cc pc = .ok (.iconst n, 1)) (k : zJ X Γ nL r T (pc + 1) lv (.int (i32 n) :: st) mem) : zJ X Γ nL r T pc lv (st) mem := by
  obtain ⟨p, l, e, R, s, m, args, below, meth, c, cs, sl, Q⟩ := X
  exact fun h ls H locs hl hS hP hC => lv_iconst C.1 C.2.1 d rfl (k h ls H locs hl hS hP hC)
theorem zj_bipush (C : zC X Γ own cc nL) (n : Int) (hv : (Int8.ofInt n).toInt32 = i32 n) (d : decode cc pc = .ok (.bipush n, 2)) (k : zJ X Γ nL r T (pc + 2) lv (.int (i32 n) :: st) mem) : zJ X Γ nL r T pc lv (st) mem := by
  obtain ⟨p, l, e, R, s, m, args, below, meth, c, cs, sl, Q⟩ := X
  exact fun h ls H locs hl hS hP hC => lv_bipush C.1 C.2.1 d hv (k h ls H locs hl hS hP hC)
theorem zj_sipush (C : zC X Γ own cc nL) (n : Int) (hv : (Int16.ofInt n).toInt32 = i32 n) (d : decode cc pc = .ok (.sipush n, 3)) (k : zJ X Γ nL r T (pc + 3) lv (.int (i32 n) :: st) mem) : zJ X Γ nL r T pc lv (st) mem := by
  obtain ⟨p, l, e, R, s, m, args, below, meth, c, cs, sl, Q⟩ := X
  exact fun h ls H locs hl hS hP hC => lv_sipush C.1 C.2.1 d hv (k h ls H locs hl hS hP hC)
theorem zj_lconst (C : zC X Γ own cc nL) {n : Fin 2} (x : Int) (hv : Int64.ofNat (n : Nat) = i64 x) (d : decode cc pc = .ok (.lconst n, 1)) (k : zJ X Γ nL r T (pc + 1) lv (.long (i64 x) :: st) mem) : zJ X Γ nL r T pc lv (st) mem := by
  obtain ⟨p, l, e, R, s, m, args, below, meth, c, cs, sl, Q⟩ := X
  exact fun h ls H locs hl hS hP hC => lv_lconst C.1 C.2.1 d hv (k h ls H locs hl hS hP hC)
theorem zj_ldc (C : zC X Γ own cc nL) {idx : Nat} (x : Int) (hc : Cond.constant own idx (i32 x) ∈ gw_tbl) (d : decode cc pc = .ok (.ldc idx, 2)) (k : zJ X Γ nL r T (pc + 2) lv (.int (i32 x) :: st) mem) : zJ X Γ nL r T pc lv (st) mem := by
  obtain ⟨p, l, e, R, s, m, args, below, meth, c, cs, sl, Q⟩ := X
  exact fun h ls H locs hl hS hP hC => lv_ldc C.1 C.2.1 C.2.2.2.1 (C.2.2.2.2.1 _ hc) d (k h ls H locs hl hS hP hC)
theorem zj_ldcw (C : zC X Γ own cc nL) {idx : Nat} (x : Int) (hc : Cond.constant own idx (i32 x) ∈ gw_tbl) (d : decode cc pc = .ok (.ldc_w idx, 3)) (k : zJ X Γ nL r T (pc + 3) lv (.int (i32 x) :: st) mem) : zJ X Γ nL r T pc lv (st) mem := by
  obtain ⟨p, l, e, R, s, m, args, below, meth, c, cs, sl, Q⟩ := X
  exact fun h ls H locs hl hS hP hC => lv_ldcw C.1 C.2.1 C.2.2.2.1 (C.2.2.2.2.1 _ hc) d (k h ls H locs hl hS hP hC)
theorem zj_ldc2 (C : zC X Γ own cc nL) {idx : Nat} (x : Int) (hc : Cond.constantLong own idx (i64 x) ∈ gw_tbl) (d : decode cc pc = .ok (.ldc2_w idx, 3)) (k : zJ X Γ nL r T (pc + 3) lv (.long (i64 x) :: st) mem) : zJ X Γ nL r T pc lv (st) mem := by
  obtain ⟨p, l, e, R, s, m, args, below, meth, c, cs, sl, Q⟩ := X
  exact fun h ls H locs hl hS hP hC => lv_ldc2 C.1 C.2.1 C.2.2.2.1 (C.2.2.2.2.1 _ hc) d (k h ls H locs hl hS hP hC)
theorem zj_iload_n (C : zC X Γ own cc nL) {j : Fin 4} {i : Nat} {x : Int} (hi : (j : Nat) = i) (w : Nat) (hw : lv[w]? = some (i, .int (i32 x))) (d : decode cc pc = .ok (.iload_n j, 1)) (k : zJ X Γ nL r T (pc + 1) lv (.int (i32 x) :: st) mem) : zJ X Γ nL r T pc lv (st) mem := by
  obtain ⟨p, l, e, R, s, m, args, below, meth, c, cs, sl, Q⟩ := X
  exact fun h ls H locs hl hS hP hC => lv_iload_n C.1 C.2.1 d hi (lv_at hl w hw) (k h ls H locs hl hS hP hC)
theorem zj_iload (C : zC X Γ own cc nL) {i : Nat} {x : Int} (w : Nat) (hw : lv[w]? = some (i, .int (i32 x))) (d : decode cc pc = .ok (.iload i, 2)) (k : zJ X Γ nL r T (pc + 2) lv (.int (i32 x) :: st) mem) : zJ X Γ nL r T pc lv (st) mem := by
  obtain ⟨p, l, e, R, s, m, args, below, meth, c, cs, sl, Q⟩ := X
  exact fun h ls H locs hl hS hP hC => lv_iload C.1 C.2.1 d (lv_at hl w hw) (k h ls H locs hl hS hP hC)
theorem zj_istore_n (C : zC X Γ own cc nL) {i : Nat} {j : Fin 4} (hi : (j : Nat) = i) {x : Int} (lv' : List (Nat × Value)) (d : decode cc pc = .ok (.istore_n j, 1)) (hn : i < nL) (hv : (i, Value.int (i32 x)) :: lv.filter (fun q => !(q.1 == i) && !(q.1 + 1 == i && q.2.category == 2)) = lv') (k : zJ X Γ nL r T (pc + 1) lv' st mem) : zJ X Γ nL r T pc lv (.int (i32 x) :: st) mem := by
  obtain ⟨p, l, e, R, s, m, args, below, meth, c, cs, sl, Q⟩ := X
  exact fun h ls H locs hl hS hP hC => lv_istore_n C.1 C.2.1 d hi hl hn hv (fun ls' hl' => k h ls' H locs hl' hS hP hC)
theorem zj_istore (C : zC X Γ own cc nL) {i : Nat} {x : Int} (lv' : List (Nat × Value)) (d : decode cc pc = .ok (.istore i, 2)) (hn : i < nL) (hv : (i, Value.int (i32 x)) :: lv.filter (fun q => !(q.1 == i) && !(q.1 + 1 == i && q.2.category == 2)) = lv') (k : zJ X Γ nL r T (pc + 2) lv' st mem) : zJ X Γ nL r T pc lv (.int (i32 x) :: st) mem := by
  obtain ⟨p, l, e, R, s, m, args, below, meth, c, cs, sl, Q⟩ := X
  exact fun h ls H locs hl hS hP hC => lv_istore C.1 C.2.1 d hl hn hv (fun ls' hl' => k h ls' H locs hl' hS hP hC)
theorem zj_lload_n (C : zC X Γ own cc nL) {j : Fin 4} {i : Nat} {x : Int} (hi : (j : Nat) = i) (w : Nat) (hw : lv[w]? = some (i, .long (i64 x))) (d : decode cc pc = .ok (.lload_n j, 1)) (k : zJ X Γ nL r T (pc + 1) lv (.long (i64 x) :: st) mem) : zJ X Γ nL r T pc lv (st) mem := by
  obtain ⟨p, l, e, R, s, m, args, below, meth, c, cs, sl, Q⟩ := X
  exact fun h ls H locs hl hS hP hC => lv_lload_n C.1 C.2.1 d hi (lv_at hl w hw) (k h ls H locs hl hS hP hC)
theorem zj_lload (C : zC X Γ own cc nL) {i : Nat} {x : Int} (w : Nat) (hw : lv[w]? = some (i, .long (i64 x))) (d : decode cc pc = .ok (.lload i, 2)) (k : zJ X Γ nL r T (pc + 2) lv (.long (i64 x) :: st) mem) : zJ X Γ nL r T pc lv (st) mem := by
  obtain ⟨p, l, e, R, s, m, args, below, meth, c, cs, sl, Q⟩ := X
  exact fun h ls H locs hl hS hP hC => lv_lload C.1 C.2.1 d (lv_at hl w hw) (k h ls H locs hl hS hP hC)
theorem zj_lstore_n (C : zC X Γ own cc nL) {i : Nat} {j : Fin 4} (hi : (j : Nat) = i) {x : Int} (lv' : List (Nat × Value)) (d : decode cc pc = .ok (.lstore_n j, 1)) (hn : i + 1 < nL) (hv : (i, Value.long (i64 x)) :: lv.filter (fun q => !(q.1 == i) && (!(q.1 == i + 1) && !(q.1 + 1 == i && q.2.category == 2))) = lv') (k : zJ X Γ nL r T (pc + 1) lv' st mem) : zJ X Γ nL r T pc lv (.long (i64 x) :: st) mem := by
  obtain ⟨p, l, e, R, s, m, args, below, meth, c, cs, sl, Q⟩ := X
  exact fun h ls H locs hl hS hP hC => lv_lstore_n C.1 C.2.1 d hi hl hn hv (fun ls' hl' => k h ls' H locs hl' hS hP hC)
theorem zj_lstore (C : zC X Γ own cc nL) {i : Nat} {x : Int} (lv' : List (Nat × Value)) (d : decode cc pc = .ok (.lstore i, 2)) (hn : i + 1 < nL) (hv : (i, Value.long (i64 x)) :: lv.filter (fun q => !(q.1 == i) && (!(q.1 == i + 1) && !(q.1 + 1 == i && q.2.category == 2))) = lv') (k : zJ X Γ nL r T (pc + 2) lv' st mem) : zJ X Γ nL r T pc lv (.long (i64 x) :: st) mem := by
  obtain ⟨p, l, e, R, s, m, args, below, meth, c, cs, sl, Q⟩ := X
  exact fun h ls H locs hl hS hP hC => lv_lstore C.1 C.2.1 d hl hn hv (fun ls' hl' => k h ls' H locs hl' hS hP hC)
theorem zj_aload_n (C : zC X Γ own cc nL) {j : Fin 4} {i : Nat} {a : Nat} (hi : (j : Nat) = i) (w : Nat) (hw : lv[w]? = some (i, .ref a)) (d : decode cc pc = .ok (.aload_n j, 1)) (k : zJ X Γ nL r T (pc + 1) lv (.ref a :: st) mem) : zJ X Γ nL r T pc lv (st) mem := by
  obtain ⟨p, l, e, R, s, m, args, below, meth, c, cs, sl, Q⟩ := X
  exact fun h ls H locs hl hS hP hC => lv_aload_n C.1 C.2.1 d hi (lv_at hl w hw) (k h ls H locs hl hS hP hC)
theorem zj_aload (C : zC X Γ own cc nL) {i : Nat} {a : Nat} (w : Nat) (hw : lv[w]? = some (i, .ref a)) (d : decode cc pc = .ok (.aload i, 2)) (k : zJ X Γ nL r T (pc + 2) lv (.ref a :: st) mem) : zJ X Γ nL r T pc lv (st) mem := by
  obtain ⟨p, l, e, R, s, m, args, below, meth, c, cs, sl, Q⟩ := X
  exact fun h ls H locs hl hS hP hC => lv_aload C.1 C.2.1 d (lv_at hl w hw) (k h ls H locs hl hS hP hC)
theorem zj_astore_n (C : zC X Γ own cc nL) {i : Nat} {j : Fin 4} (hi : (j : Nat) = i) {a : Nat} (lv' : List (Nat × Value)) (d : decode cc pc = .ok (.astore_n j, 1)) (hn : i < nL) (hv : (i, Value.ref a) :: lv.filter (fun q => !(q.1 == i) && !(q.1 + 1 == i && q.2.category == 2)) = lv') (k : zJ X Γ nL r T (pc + 1) lv' st mem) : zJ X Γ nL r T pc lv (.ref a :: st) mem := by
  obtain ⟨p, l, e, R, s, m, args, below, meth, c, cs, sl, Q⟩ := X
  exact fun h ls H locs hl hS hP hC => lv_astore_n C.1 C.2.1 d hi hl hn hv (fun ls' hl' => k h ls' H locs hl' hS hP hC)
theorem zj_astore (C : zC X Γ own cc nL) {i : Nat} {a : Nat} (lv' : List (Nat × Value)) (d : decode cc pc = .ok (.astore i, 2)) (hn : i < nL) (hv : (i, Value.ref a) :: lv.filter (fun q => !(q.1 == i) && !(q.1 + 1 == i && q.2.category == 2)) = lv') (k : zJ X Γ nL r T (pc + 2) lv' st mem) : zJ X Γ nL r T pc lv (.ref a :: st) mem := by
  obtain ⟨p, l, e, R, s, m, args, below, meth, c, cs, sl, Q⟩ := X
  exact fun h ls H locs hl hS hP hC => lv_astore C.1 C.2.1 d hl hn hv (fun ls' hl' => k h ls' H locs hl' hS hP hC)
theorem zj_iinc (C : zC X Γ own cc nL) {i : Nat} {n x : Int} (w : Nat) (lv' : List (Nat × Value)) (hw : lv[w]? = some (i, .int (i32 x))) (d : decode cc pc = .ok (.iinc i n, 3)) (hn : i < nL) (hv : (i, Value.int (i32 (w32 (x + n)))) :: lv.filter (fun q => !(q.1 == i) && !(q.1 + 1 == i && q.2.category == 2)) = lv') (k : zJ X Γ nL r T (pc + 3) lv' st mem) : zJ X Γ nL r T pc lv st mem := by
  obtain ⟨p, l, e, R, s, m, args, below, meth, c, cs, sl, Q⟩ := X
  exact fun h ls H locs hl hS hP hC => lv_iinc C.1 C.2.1 d hl hw (i32_add x n) hn hv (fun ls' hl' => k h ls' H locs hl' hS hP hC)
theorem zj_sub (ks : List Nat) {lv' : List (Nat × Value)} (hv : lv_pick lv ks = lv') (k : zJ X Γ nL r T pc lv' st mem) : zJ X Γ nL r T pc lv st mem := by
  obtain ⟨p, l, e, R, s, m, args, below, meth, c, cs, sl, Q⟩ := X
  exact fun h ls H locs hl hS hP hC => k h ls H locs (lv_sub hl ks hv) hS hP hC
theorem zj_iadd (C : zC X Γ own cc nL) {x y : Int} (d : decode cc pc = .ok (.iadd, 1)) (k : zJ X Γ nL r T (pc + 1) lv (.int (i32 (w32 (x + y))) :: st) mem) : zJ X Γ nL r T pc lv (.int (i32 y) :: .int (i32 x) :: st) mem := by
  obtain ⟨p, l, e, R, s, m, args, below, meth, c, cs, sl, Q⟩ := X
  exact fun h ls H locs hl hS hP hC => lv_iadd C.1 C.2.1 d (by rw [i32_add]; exact k h ls H locs hl hS hP hC)
theorem zj_isub (C : zC X Γ own cc nL) {x y : Int} (d : decode cc pc = .ok (.isub, 1)) (k : zJ X Γ nL r T (pc + 1) lv (.int (i32 (w32 (x - y))) :: st) mem) : zJ X Γ nL r T pc lv (.int (i32 y) :: .int (i32 x) :: st) mem := by
  obtain ⟨p, l, e, R, s, m, args, below, meth, c, cs, sl, Q⟩ := X
  exact fun h ls H locs hl hS hP hC => lv_isub C.1 C.2.1 d (by rw [i32_sub]; exact k h ls H locs hl hS hP hC)
theorem zj_imul (C : zC X Γ own cc nL) {x y : Int} (d : decode cc pc = .ok (.imul, 1)) (k : zJ X Γ nL r T (pc + 1) lv (.int (i32 (w32 (x * y))) :: st) mem) : zJ X Γ nL r T pc lv (.int (i32 y) :: .int (i32 x) :: st) mem := by
  obtain ⟨p, l, e, R, s, m, args, below, meth, c, cs, sl, Q⟩ := X
  exact fun h ls H locs hl hS hP hC => lv_imul C.1 C.2.1 d (by rw [i32_mul]; exact k h ls H locs hl hS hP hC)
theorem zj_iand (C : zC X Γ own cc nL) {x y : Int} (d : decode cc pc = .ok (.iand, 1)) (k : zJ X Γ nL r T (pc + 1) lv (.int (i32 (zand x y)) :: st) mem) : zJ X Γ nL r T pc lv (.int (i32 y) :: .int (i32 x) :: st) mem := by
  obtain ⟨p, l, e, R, s, m, args, below, meth, c, cs, sl, Q⟩ := X
  exact fun h ls H locs hl hS hP hC => lv_iand C.1 C.2.1 d (by have q := k h ls H locs hl hS hP hC; unfold zand at q; rw [i32_of] at q; exact q)
theorem zj_ior (C : zC X Γ own cc nL) {x y : Int} (d : decode cc pc = .ok (.ior, 1)) (k : zJ X Γ nL r T (pc + 1) lv (.int (i32 (zor x y)) :: st) mem) : zJ X Γ nL r T pc lv (.int (i32 y) :: .int (i32 x) :: st) mem := by
  obtain ⟨p, l, e, R, s, m, args, below, meth, c, cs, sl, Q⟩ := X
  exact fun h ls H locs hl hS hP hC => lv_ior C.1 C.2.1 d (by have q := k h ls H locs hl hS hP hC; unfold zor at q; rw [i32_of] at q; exact q)
theorem zj_ixor (C : zC X Γ own cc nL) {x y : Int} (d : decode cc pc = .ok (.ixor, 1)) (k : zJ X Γ nL r T (pc + 1) lv (.int (i32 (zxor x y)) :: st) mem) : zJ X Γ nL r T pc lv (.int (i32 y) :: .int (i32 x) :: st) mem := by
  obtain ⟨p, l, e, R, s, m, args, below, meth, c, cs, sl, Q⟩ := X
  exact fun h ls H locs hl hS hP hC => lv_ixor C.1 C.2.1 d (by have q := k h ls H locs hl hS hP hC; unfold zxor at q; rw [i32_of] at q; exact q)
theorem zj_ishl (C : zC X Γ own cc nL) {x y : Int} (d : decode cc pc = .ok (.ishl, 1)) (k : zJ X Γ nL r T (pc + 1) lv (.int (i32 (zshl x y)) :: st) mem) : zJ X Γ nL r T pc lv (.int (i32 y) :: .int (i32 x) :: st) mem := by
  obtain ⟨p, l, e, R, s, m, args, below, meth, c, cs, sl, Q⟩ := X
  exact fun h ls H locs hl hS hP hC => lv_ishl C.1 C.2.1 d (by have q := k h ls H locs hl hS hP hC; unfold zshl at q; rw [i32_of] at q; exact q)
theorem zj_ishr (C : zC X Γ own cc nL) {x y : Int} (d : decode cc pc = .ok (.ishr, 1)) (k : zJ X Γ nL r T (pc + 1) lv (.int (i32 (zshr x y)) :: st) mem) : zJ X Γ nL r T pc lv (.int (i32 y) :: .int (i32 x) :: st) mem := by
  obtain ⟨p, l, e, R, s, m, args, below, meth, c, cs, sl, Q⟩ := X
  exact fun h ls H locs hl hS hP hC => lv_ishr C.1 C.2.1 d (by have q := k h ls H locs hl hS hP hC; unfold zshr at q; rw [i32_of] at q; exact q)
theorem zj_iushr (C : zC X Γ own cc nL) {x y : Int} (d : decode cc pc = .ok (.iushr, 1)) (k : zJ X Γ nL r T (pc + 1) lv (.int (i32 (zush x y)) :: st) mem) : zJ X Γ nL r T pc lv (.int (i32 y) :: .int (i32 x) :: st) mem := by
  obtain ⟨p, l, e, R, s, m, args, below, meth, c, cs, sl, Q⟩ := X
  exact fun h ls H locs hl hS hP hC => lv_iushr C.1 C.2.1 d (by unfold zush; rw [i32_of]) (k h ls H locs hl hS hP hC)
theorem zj_ladd (C : zC X Γ own cc nL) {x y : Int} (d : decode cc pc = .ok (.ladd, 1)) (k : zJ X Γ nL r T (pc + 1) lv (.long (i64 (w64 (x + y))) :: st) mem) : zJ X Γ nL r T pc lv (.long (i64 y) :: .long (i64 x) :: st) mem := by
  obtain ⟨p, l, e, R, s, m, args, below, meth, c, cs, sl, Q⟩ := X
  exact fun h ls H locs hl hS hP hC => lv_ladd C.1 C.2.1 d (by rw [i64_add]; exact k h ls H locs hl hS hP hC)
theorem zj_lsub (C : zC X Γ own cc nL) {x y : Int} (d : decode cc pc = .ok (.lsub, 1)) (k : zJ X Γ nL r T (pc + 1) lv (.long (i64 (w64 (x - y))) :: st) mem) : zJ X Γ nL r T pc lv (.long (i64 y) :: .long (i64 x) :: st) mem := by
  obtain ⟨p, l, e, R, s, m, args, below, meth, c, cs, sl, Q⟩ := X
  exact fun h ls H locs hl hS hP hC => lv_lsub C.1 C.2.1 d (by rw [i64_sub]; exact k h ls H locs hl hS hP hC)
theorem zj_lmul (C : zC X Γ own cc nL) {x y : Int} (d : decode cc pc = .ok (.lmul, 1)) (k : zJ X Γ nL r T (pc + 1) lv (.long (i64 (w64 (x * y))) :: st) mem) : zJ X Γ nL r T pc lv (.long (i64 y) :: .long (i64 x) :: st) mem := by
  obtain ⟨p, l, e, R, s, m, args, below, meth, c, cs, sl, Q⟩ := X
  exact fun h ls H locs hl hS hP hC => lv_lmul C.1 C.2.1 d (by rw [i64_mul]; exact k h ls H locs hl hS hP hC)
theorem zj_land (C : zC X Γ own cc nL) {x y : Int} (d : decode cc pc = .ok (.land, 1)) (k : zJ X Γ nL r T (pc + 1) lv (.long (i64 (zandL x y)) :: st) mem) : zJ X Γ nL r T pc lv (.long (i64 y) :: .long (i64 x) :: st) mem := by
  obtain ⟨p, l, e, R, s, m, args, below, meth, c, cs, sl, Q⟩ := X
  exact fun h ls H locs hl hS hP hC => lv_land C.1 C.2.1 d (by have q := k h ls H locs hl hS hP hC; unfold zandL at q; rw [i64_of] at q; exact q)
theorem zj_lor (C : zC X Γ own cc nL) {x y : Int} (d : decode cc pc = .ok (.lor, 1)) (k : zJ X Γ nL r T (pc + 1) lv (.long (i64 (zorL x y)) :: st) mem) : zJ X Γ nL r T pc lv (.long (i64 y) :: .long (i64 x) :: st) mem := by
  obtain ⟨p, l, e, R, s, m, args, below, meth, c, cs, sl, Q⟩ := X
  exact fun h ls H locs hl hS hP hC => lv_lor C.1 C.2.1 d (by have q := k h ls H locs hl hS hP hC; unfold zorL at q; rw [i64_of] at q; exact q)
theorem zj_lxor (C : zC X Γ own cc nL) {x y : Int} (d : decode cc pc = .ok (.lxor, 1)) (k : zJ X Γ nL r T (pc + 1) lv (.long (i64 (zxorL x y)) :: st) mem) : zJ X Γ nL r T pc lv (.long (i64 y) :: .long (i64 x) :: st) mem := by
  obtain ⟨p, l, e, R, s, m, args, below, meth, c, cs, sl, Q⟩ := X
  exact fun h ls H locs hl hS hP hC => lv_lxor C.1 C.2.1 d (by have q := k h ls H locs hl hS hP hC; unfold zxorL at q; rw [i64_of] at q; exact q)
theorem zj_lshl (C : zC X Γ own cc nL) {x y : Int} (d : decode cc pc = .ok (.lshl, 1)) (k : zJ X Γ nL r T (pc + 1) lv (.long (i64 (zshlL x y)) :: st) mem) : zJ X Γ nL r T pc lv (.int (i32 y) :: .long (i64 x) :: st) mem := by
  obtain ⟨p, l, e, R, s, m, args, below, meth, c, cs, sl, Q⟩ := X
  exact fun h ls H locs hl hS hP hC => lv_lshl C.1 C.2.1 d (by unfold zshlL; rw [i64_of]) (k h ls H locs hl hS hP hC)
theorem zj_lshr (C : zC X Γ own cc nL) {x y : Int} (d : decode cc pc = .ok (.lshr, 1)) (k : zJ X Γ nL r T (pc + 1) lv (.long (i64 (zshrL x y)) :: st) mem) : zJ X Γ nL r T pc lv (.int (i32 y) :: .long (i64 x) :: st) mem := by
  obtain ⟨p, l, e, R, s, m, args, below, meth, c, cs, sl, Q⟩ := X
  exact fun h ls H locs hl hS hP hC => lv_lshr C.1 C.2.1 d (by unfold zshrL; rw [i64_of]) (k h ls H locs hl hS hP hC)
theorem zj_idiv (C : zC X Γ own cc nL) {x y : Int} (hy : ir y) (d : decode cc pc = .ok (.idiv, 1)) (k : ¬ y = 0 → zJ X Γ nL r A (pc + 1) lv (.int (i32 (zdiv x y)) :: st) mem) : zJ X Γ nL r (if y = 0 then none else A) pc lv (.int (i32 y) :: .int (i32 x) :: st) mem := by
  obtain ⟨p, l, e, R, s, m, args, below, meth, c, cs, sl, Q⟩ := X
  intro h ls H locs hl hS hP hC
  have hy0 : ¬ y = 0 := fun q => by rw [if_pos q] at h; cases h
  rw [if_neg hy0] at h
  have hne : ¬ i32 y = 0 := fun q => hy0 (by have e := congrArg Int32.toInt q; rw [i32_toInt hy] at e; simpa using e)
  exact lv_idiv C.1 C.2.1 d hne (by have q := k hy0 h ls H locs hl hS hP hC; unfold zdiv at q; rw [i32_of] at q; exact q)
theorem zj_idivc (C : zC X Γ own cc nL) {x y : Int} (hne : ¬ i32 y = 0) (d : decode cc pc = .ok (.idiv, 1)) (k : zJ X Γ nL r T (pc + 1) lv (.int (i32 (zdiv x y)) :: st) mem) : zJ X Γ nL r T pc lv (.int (i32 y) :: .int (i32 x) :: st) mem := by
  obtain ⟨p, l, e, R, s, m, args, below, meth, c, cs, sl, Q⟩ := X
  exact fun h ls H locs hl hS hP hC => lv_idiv C.1 C.2.1 d hne (by have q := k h ls H locs hl hS hP hC; unfold zdiv at q; rw [i32_of] at q; exact q)
theorem zj_irem (C : zC X Γ own cc nL) {x y : Int} (hy : ir y) (d : decode cc pc = .ok (.irem, 1)) (k : ¬ y = 0 → zJ X Γ nL r A (pc + 1) lv (.int (i32 (zrem x y)) :: st) mem) : zJ X Γ nL r (if y = 0 then none else A) pc lv (.int (i32 y) :: .int (i32 x) :: st) mem := by
  obtain ⟨p, l, e, R, s, m, args, below, meth, c, cs, sl, Q⟩ := X
  intro h ls H locs hl hS hP hC
  have hy0 : ¬ y = 0 := fun q => by rw [if_pos q] at h; cases h
  rw [if_neg hy0] at h
  have hne : ¬ i32 y = 0 := fun q => hy0 (by have e := congrArg Int32.toInt q; rw [i32_toInt hy] at e; simpa using e)
  exact lv_irem C.1 C.2.1 d hne (by have q := k hy0 h ls H locs hl hS hP hC; unfold zrem at q; rw [i32_of] at q; exact q)
theorem zj_iremc (C : zC X Γ own cc nL) {x y : Int} (hne : ¬ i32 y = 0) (d : decode cc pc = .ok (.irem, 1)) (k : zJ X Γ nL r T (pc + 1) lv (.int (i32 (zrem x y)) :: st) mem) : zJ X Γ nL r T pc lv (.int (i32 y) :: .int (i32 x) :: st) mem := by
  obtain ⟨p, l, e, R, s, m, args, below, meth, c, cs, sl, Q⟩ := X
  exact fun h ls H locs hl hS hP hC => lv_irem C.1 C.2.1 d hne (by have q := k h ls H locs hl hS hP hC; unfold zrem at q; rw [i32_of] at q; exact q)
theorem zj_ldiv (C : zC X Γ own cc nL) {x y : Int} (hy : lr y) (d : decode cc pc = .ok (.ldiv, 1)) (k : ¬ y = 0 → zJ X Γ nL r A (pc + 1) lv (.long (i64 (zdivL x y)) :: st) mem) : zJ X Γ nL r (if y = 0 then none else A) pc lv (.long (i64 y) :: .long (i64 x) :: st) mem := by
  obtain ⟨p, l, e, R, s, m, args, below, meth, c, cs, sl, Q⟩ := X
  intro h ls H locs hl hS hP hC
  have hy0 : ¬ y = 0 := fun q => by rw [if_pos q] at h; cases h
  rw [if_neg hy0] at h
  have hne : ¬ i64 y = 0 := fun q => hy0 (by have e := congrArg Int64.toInt q; rw [i64_toInt hy] at e; simpa using e)
  exact lv_ldiv C.1 C.2.1 d hne (by have q := k hy0 h ls H locs hl hS hP hC; unfold zdivL at q; rw [i64_of] at q; exact q)
theorem zj_ldivc (C : zC X Γ own cc nL) {x y : Int} (hne : ¬ i64 y = 0) (d : decode cc pc = .ok (.ldiv, 1)) (k : zJ X Γ nL r T (pc + 1) lv (.long (i64 (zdivL x y)) :: st) mem) : zJ X Γ nL r T pc lv (.long (i64 y) :: .long (i64 x) :: st) mem := by
  obtain ⟨p, l, e, R, s, m, args, below, meth, c, cs, sl, Q⟩ := X
  exact fun h ls H locs hl hS hP hC => lv_ldiv C.1 C.2.1 d hne (by have q := k h ls H locs hl hS hP hC; unfold zdivL at q; rw [i64_of] at q; exact q)
theorem zj_lrem (C : zC X Γ own cc nL) {x y : Int} (hy : lr y) (d : decode cc pc = .ok (.lrem, 1)) (k : ¬ y = 0 → zJ X Γ nL r A (pc + 1) lv (.long (i64 (zremL x y)) :: st) mem) : zJ X Γ nL r (if y = 0 then none else A) pc lv (.long (i64 y) :: .long (i64 x) :: st) mem := by
  obtain ⟨p, l, e, R, s, m, args, below, meth, c, cs, sl, Q⟩ := X
  intro h ls H locs hl hS hP hC
  have hy0 : ¬ y = 0 := fun q => by rw [if_pos q] at h; cases h
  rw [if_neg hy0] at h
  have hne : ¬ i64 y = 0 := fun q => hy0 (by have e := congrArg Int64.toInt q; rw [i64_toInt hy] at e; simpa using e)
  exact lv_lrem C.1 C.2.1 d hne (by have q := k hy0 h ls H locs hl hS hP hC; unfold zremL at q; rw [i64_of] at q; exact q)
theorem zj_lremc (C : zC X Γ own cc nL) {x y : Int} (hne : ¬ i64 y = 0) (d : decode cc pc = .ok (.lrem, 1)) (k : zJ X Γ nL r T (pc + 1) lv (.long (i64 (zremL x y)) :: st) mem) : zJ X Γ nL r T pc lv (.long (i64 y) :: .long (i64 x) :: st) mem := by
  obtain ⟨p, l, e, R, s, m, args, below, meth, c, cs, sl, Q⟩ := X
  exact fun h ls H locs hl hS hP hC => lv_lrem C.1 C.2.1 d hne (by have q := k h ls H locs hl hS hP hC; unfold zremL at q; rw [i64_of] at q; exact q)
theorem zj_i2l (C : zC X Γ own cc nL) {x : Int} (hx : ir x) (d : decode cc pc = .ok (.i2l, 1)) (k : zJ X Γ nL r T (pc + 1) lv (.long (i64 x) :: st) mem) : zJ X Γ nL r T pc lv (.int (i32 x) :: st) mem := by
  obtain ⟨p, l, e, R, s, m, args, below, meth, c, cs, sl, Q⟩ := X
  exact fun h ls H locs hl hS hP hC => lv_i2l C.1 C.2.1 d (by rw [← Int64.toInt_inj, Int32.toInt_toInt64, i32_toInt hx, i64_toInt (ir_lr hx)]) (k h ls H locs hl hS hP hC)
theorem zj_l2i (C : zC X Γ own cc nL) {x : Int} (hx : lr x) (d : decode cc pc = .ok (.l2i, 1)) (k : zJ X Γ nL r T (pc + 1) lv (.int (i32 (w32 x)) :: st) mem) : zJ X Γ nL r T pc lv (.long (i64 x) :: st) mem := by
  obtain ⟨p, l, e, R, s, m, args, below, meth, c, cs, sl, Q⟩ := X
  exact fun h ls H locs hl hS hP hC => lv_l2i C.1 C.2.1 d (by rw [i32_w]; unfold i32; rw [← Int32.ofInt_int64ToInt, i64_toInt hx]) (k h ls H locs hl hS hP hC)
theorem i64_lt {x y : Int} (hx : lr x) (hy : lr y) : i64 x < i64 y ↔ x < y := by rw [Int64.lt_iff_toInt_lt, i64_toInt hx, i64_toInt hy]
theorem zcmp_eq {x y : Int} (hx : lr x) (hy : lr y) : lg_cmp (i64 x) (i64 y) = i32 (zcmp x y) := by
  unfold lg_cmp zcmp
  have e1 : i64 x > i64 y ↔ y < x := i64_lt hy hx
  have e2 : i64 x = i64 y ↔ x = y := by rw [← Int64.toInt_inj, i64_toInt hx, i64_toInt hy]
  by_cases h1 : y < x
  · rw [if_pos (e1.mpr h1), if_neg (by omega), if_neg (by omega)]; rfl
  · rw [if_neg (fun q => h1 (e1.mp q))]
    by_cases h2 : x = y
    · rw [if_pos (e2.mpr h2), if_neg (by omega), if_pos h2]; rfl
    · rw [if_neg (fun q => h2 (e2.mp q)), if_pos (by omega)]; rfl
theorem ir_cmp (x y : Int) : ir (zcmp x y) := by unfold zcmp; split <;> (try split) <;> (unfold ir; omega)
theorem zj_lcmp (C : zC X Γ own cc nL) {x y : Int} (hx : lr x) (hy : lr y) (d : decode cc pc = .ok (.lcmp, 1)) (k : zJ X Γ nL r T (pc + 1) lv (.int (i32 (zcmp x y)) :: st) mem) : zJ X Γ nL r T pc lv (.long (i64 y) :: .long (i64 x) :: st) mem := by
  obtain ⟨p, l, e, R, s, m, args, below, meth, c, cs, sl, Q⟩ := X
  exact fun h ls H locs hl hS hP hC => W.lcmp C.1 C.2.1 d (by rw [zcmp_eq hx hy]; exact k h ls H locs hl hS hP hC)
theorem zj_dup (C : zC X Γ own cc nL) {v : Value} (hc : v.category = 1) (d : decode cc pc = .ok (.dup, 1)) (k : zJ X Γ nL r T (pc + 1) lv (v :: v :: st) mem) : zJ X Γ nL r T pc lv (v :: st) mem := by
  obtain ⟨p, l, e, R, s, m, args, below, meth, c, cs, sl, Q⟩ := X
  exact fun h ls H locs hl hS hP hC => lv_dup C.1 C.2.1 d hc (k h ls H locs hl hS hP hC)
theorem zj_dup2 (C : zC X Γ own cc nL) {v u : Value} (hc : v.category = 1) (hu : u.category = 1) (d : decode cc pc = .ok (.dup2, 1)) (k : zJ X Γ nL r T (pc + 1) lv (v :: u :: v :: u :: st) mem) : zJ X Γ nL r T pc lv (v :: u :: st) mem := by
  obtain ⟨p, l, e, R, s, m, args, below, meth, c, cs, sl, Q⟩ := X
  exact fun h ls H locs hl hS hP hC => lv_dup2_11 C.1 C.2.1 d hc hu (k h ls H locs hl hS hP hC)
theorem zj_pop (C : zC X Γ own cc nL) {v : Value} (hc : v.category = 1) (d : decode cc pc = .ok (.pop, 1)) (k : zJ X Γ nL r T (pc + 1) lv (st) mem) : zJ X Γ nL r T pc lv (v :: st) mem := by
  obtain ⟨p, l, e, R, s, m, args, below, meth, c, cs, sl, Q⟩ := X
  exact fun h ls H locs hl hS hP hC => lv_pop C.1 C.2.1 d hc (k h ls H locs hl hS hP hC)
theorem zj_goto (C : zC X Γ own cc nL) {off : Int} {tgt : Nat} (d : decode cc pc = .ok (.goto off, 3)) (ht : (pc : Int) + off = (tgt : Int)) (k : zJ X Γ nL r T tgt lv st mem) : zJ X Γ nL r T pc lv st mem := by
  obtain ⟨p, l, e, R, s, m, args, below, meth, c, cs, sl, Q⟩ := X
  exact fun h ls H locs hl hS hP hC => lv_goto C.1 C.2.1 d ht (k h ls H locs hl hS hP hC)
theorem zj_pipeI {e : Int} {K : Int → Option ρ} (k : ∀ x : Int, x = e → zJ X Γ nL r (K x) pc lv (.int (i32 x) :: st) mem) : zJ X Γ nL r (pipe e K) pc lv (.int (i32 e) :: st) mem := k e rfl
theorem zj_pipeL {e : Int} {K : Int → Option ρ} (k : ∀ x : Int, x = e → zJ X Γ nL r (K x) pc lv (.long (i64 x) :: st) mem) : zJ X Γ nL r (pipe e K) pc lv (.long (i64 e) :: st) mem := k e rfl
theorem zj_pipeM {K : zMem → Option ρ} (k : ∀ m1 : zMem, m1 = mem → zJ X Γ nL r (K m1) pc lv st m1) : zJ X Γ nL r (pipe mem K) pc lv st mem := k mem rfl
theorem zj_split {c : Prop} [Decidable c] (kt : c → zJ X Γ nL r A pc lv st mem) (kf : ¬ c → zJ X Γ nL r B pc lv st mem) : zJ X Γ nL r (if c then A else B) pc lv st mem := fun h => by
  by_cases hc : c
  · exact kt hc (by rw [if_pos hc] at h; exact h)
  · exact kf hc (by rw [if_neg hc] at h; exact h)
theorem zj_chk {c : Prop} [Decidable c] (k : c → zJ X Γ nL r A pc lv st mem) : zJ X Γ nL r (if c then A else none) pc lv st mem := fun h => by
  by_cases hc : c
  · exact k hc (by rw [if_pos hc] at h; exact h)
  · rw [if_neg hc] at h; cases h
theorem zj_if_eq (C : zC X Γ own cc nL) {x : Int} {off : Int} (tgt : Nat) (hx : ir x) (d : decode cc pc = .ok (.ifCond .eq off, 3)) (ht : (pc : Int) + off = (tgt : Int)) (kt : x = 0 → zJ X Γ nL r A tgt lv st mem) (kf : ¬ (x = 0) → zJ X Γ nL r B (pc + 3) lv st mem) : zJ X Γ nL r (if x = 0 then A else B) pc lv (.int (i32 x) :: st) mem := by
  obtain ⟨p, l, e, R, s, m, args, below, meth, c, cs, sl, Q⟩ := X
  intro h ls H locs hl hS hP hC
  have e : i32 x = 0 ↔ x = 0 := i32_eq hx ir0
  refine lv_if_eq C.1 C.2.1 d ht (fun q => ?_) (fun q => ?_)
  · exact kt (e.mp q) (by rw [if_pos (e.mp q)] at h; exact h) ls H locs hl hS hP hC
  · exact kf (fun z => q (e.mpr z)) (by rw [if_neg (fun z => q (e.mpr z))] at h; exact h) ls H locs hl hS hP hC
theorem zj_icmp_eq (C : zC X Γ own cc nL) {x y : Int} {off : Int} (tgt : Nat) (hx : ir x) (hy : ir y) (d : decode cc pc = .ok (.if_icmp .eq off, 3)) (ht : (pc : Int) + off = (tgt : Int)) (kt : x = y → zJ X Γ nL r A tgt lv st mem) (kf : ¬ (x = y) → zJ X Γ nL r B (pc + 3) lv st mem) : zJ X Γ nL r (if x = y then A else B) pc lv (.int (i32 y) :: .int (i32 x) :: st) mem := by
  obtain ⟨p, l, e, R, s, m, args, below, meth, c, cs, sl, Q⟩ := X
  intro h ls H locs hl hS hP hC
  have e : i32 x = i32 y ↔ x = y := i32_eq hx hy
  refine lv_icmp_eq C.1 C.2.1 d ht (fun q => ?_) (fun q => ?_)
  · exact kt (e.mp q) (by rw [if_pos (e.mp q)] at h; exact h) ls H locs hl hS hP hC
  · exact kf (fun z => q (e.mpr z)) (by rw [if_neg (fun z => q (e.mpr z))] at h; exact h) ls H locs hl hS hP hC
theorem zj_if_ne (C : zC X Γ own cc nL) {x : Int} {off : Int} (tgt : Nat) (hx : ir x) (d : decode cc pc = .ok (.ifCond .ne off, 3)) (ht : (pc : Int) + off = (tgt : Int)) (kf : x = 0 → zJ X Γ nL r A (pc + 3) lv st mem) (kt : ¬ (x = 0) → zJ X Γ nL r B tgt lv st mem) : zJ X Γ nL r (if x = 0 then A else B) pc lv (.int (i32 x) :: st) mem := by
  obtain ⟨p, l, e, R, s, m, args, below, meth, c, cs, sl, Q⟩ := X
  intro h ls H locs hl hS hP hC
  have e : i32 x = 0 ↔ x = 0 := i32_eq hx ir0
  refine lv_if_ne C.1 C.2.1 d ht (fun q => ?_) (fun q => ?_)
  · exact kt (fun z => q (e.mpr z)) (by rw [if_neg (fun z => q (e.mpr z))] at h; exact h) ls H locs hl hS hP hC
  · exact kf (e.mp q) (by rw [if_pos (e.mp q)] at h; exact h) ls H locs hl hS hP hC
theorem zj_icmp_ne (C : zC X Γ own cc nL) {x y : Int} {off : Int} (tgt : Nat) (hx : ir x) (hy : ir y) (d : decode cc pc = .ok (.if_icmp .ne off, 3)) (ht : (pc : Int) + off = (tgt : Int)) (kf : x = y → zJ X Γ nL r A (pc + 3) lv st mem) (kt : ¬ (x = y) → zJ X Γ nL r B tgt lv st mem) : zJ X Γ nL r (if x = y then A else B) pc lv (.int (i32 y) :: .int (i32 x) :: st) mem := by
  obtain ⟨p, l, e, R, s, m, args, below, meth, c, cs, sl, Q⟩ := X
  intro h ls H locs hl hS hP hC
  have e : i32 x = i32 y ↔ x = y := i32_eq hx hy
  refine lv_icmp_ne C.1 C.2.1 d ht (fun q => ?_) (fun q => ?_)
  · exact kt (fun z => q (e.mpr z)) (by rw [if_neg (fun z => q (e.mpr z))] at h; exact h) ls H locs hl hS hP hC
  · exact kf (e.mp q) (by rw [if_pos (e.mp q)] at h; exact h) ls H locs hl hS hP hC
theorem zj_if_lt (C : zC X Γ own cc nL) {x : Int} {off : Int} (tgt : Nat) (hx : ir x) (d : decode cc pc = .ok (.ifCond .lt off, 3)) (ht : (pc : Int) + off = (tgt : Int)) (kt : x < 0 → zJ X Γ nL r A tgt lv st mem) (kf : ¬ (x < 0) → zJ X Γ nL r B (pc + 3) lv st mem) : zJ X Γ nL r (if x < 0 then A else B) pc lv (.int (i32 x) :: st) mem := by
  obtain ⟨p, l, e, R, s, m, args, below, meth, c, cs, sl, Q⟩ := X
  intro h ls H locs hl hS hP hC
  have e : i32 x < 0 ↔ x < 0 := i32_lt hx ir0
  refine lv_if_lt C.1 C.2.1 d ht (fun q => ?_) (fun q => ?_)
  · exact kt (e.mp q) (by rw [if_pos (e.mp q)] at h; exact h) ls H locs hl hS hP hC
  · exact kf (fun z => q (e.mpr z)) (by rw [if_neg (fun z => q (e.mpr z))] at h; exact h) ls H locs hl hS hP hC
theorem zj_icmp_lt (C : zC X Γ own cc nL) {x y : Int} {off : Int} (tgt : Nat) (hx : ir x) (hy : ir y) (d : decode cc pc = .ok (.if_icmp .lt off, 3)) (ht : (pc : Int) + off = (tgt : Int)) (kt : x < y → zJ X Γ nL r A tgt lv st mem) (kf : ¬ (x < y) → zJ X Γ nL r B (pc + 3) lv st mem) : zJ X Γ nL r (if x < y then A else B) pc lv (.int (i32 y) :: .int (i32 x) :: st) mem := by
  obtain ⟨p, l, e, R, s, m, args, below, meth, c, cs, sl, Q⟩ := X
  intro h ls H locs hl hS hP hC
  have e : i32 x < i32 y ↔ x < y := i32_lt hx hy
  refine lv_icmp_lt C.1 C.2.1 d ht (fun q => ?_) (fun q => ?_)
  · exact kt (e.mp q) (by rw [if_pos (e.mp q)] at h; exact h) ls H locs hl hS hP hC
  · exact kf (fun z => q (e.mpr z)) (by rw [if_neg (fun z => q (e.mpr z))] at h; exact h) ls H locs hl hS hP hC
theorem zj_if_ge (C : zC X Γ own cc nL) {x : Int} {off : Int} (tgt : Nat) (hx : ir x) (d : decode cc pc = .ok (.ifCond .ge off, 3)) (ht : (pc : Int) + off = (tgt : Int)) (kt : x ≥ 0 → zJ X Γ nL r A tgt lv st mem) (kf : ¬ (x ≥ 0) → zJ X Γ nL r B (pc + 3) lv st mem) : zJ X Γ nL r (if x ≥ 0 then A else B) pc lv (.int (i32 x) :: st) mem := by
  obtain ⟨p, l, e, R, s, m, args, below, meth, c, cs, sl, Q⟩ := X
  intro h ls H locs hl hS hP hC
  have e : 0 ≤ i32 x ↔ x ≥ 0 := i32_le ir0 hx
  refine lv_if_ge C.1 C.2.1 d ht (fun q => ?_) (fun q => ?_)
  · exact kt (e.mp q) (by rw [if_pos (e.mp q)] at h; exact h) ls H locs hl hS hP hC
  · exact kf (fun z => q (e.mpr z)) (by rw [if_neg (fun z => q (e.mpr z))] at h; exact h) ls H locs hl hS hP hC
theorem zj_icmp_ge (C : zC X Γ own cc nL) {x y : Int} {off : Int} (tgt : Nat) (hx : ir x) (hy : ir y) (d : decode cc pc = .ok (.if_icmp .ge off, 3)) (ht : (pc : Int) + off = (tgt : Int)) (kt : x ≥ y → zJ X Γ nL r A tgt lv st mem) (kf : ¬ (x ≥ y) → zJ X Γ nL r B (pc + 3) lv st mem) : zJ X Γ nL r (if x ≥ y then A else B) pc lv (.int (i32 y) :: .int (i32 x) :: st) mem := by
  obtain ⟨p, l, e, R, s, m, args, below, meth, c, cs, sl, Q⟩ := X
  intro h ls H locs hl hS hP hC
  have e : i32 y ≤ i32 x ↔ x ≥ y := i32_le hy hx
  refine lv_icmp_ge C.1 C.2.1 d ht (fun q => ?_) (fun q => ?_)
  · exact kt (e.mp q) (by rw [if_pos (e.mp q)] at h; exact h) ls H locs hl hS hP hC
  · exact kf (fun z => q (e.mpr z)) (by rw [if_neg (fun z => q (e.mpr z))] at h; exact h) ls H locs hl hS hP hC
theorem zj_if_gt (C : zC X Γ own cc nL) {x : Int} {off : Int} (tgt : Nat) (hx : ir x) (d : decode cc pc = .ok (.ifCond .gt off, 3)) (ht : (pc : Int) + off = (tgt : Int)) (kt : x > 0 → zJ X Γ nL r A tgt lv st mem) (kf : ¬ (x > 0) → zJ X Γ nL r B (pc + 3) lv st mem) : zJ X Γ nL r (if x > 0 then A else B) pc lv (.int (i32 x) :: st) mem := by
  obtain ⟨p, l, e, R, s, m, args, below, meth, c, cs, sl, Q⟩ := X
  intro h ls H locs hl hS hP hC
  have e : 0 < i32 x ↔ x > 0 := i32_lt ir0 hx
  refine lv_if_gt C.1 C.2.1 d ht (fun q => ?_) (fun q => ?_)
  · exact kt (e.mp q) (by rw [if_pos (e.mp q)] at h; exact h) ls H locs hl hS hP hC
  · exact kf (fun z => q (e.mpr z)) (by rw [if_neg (fun z => q (e.mpr z))] at h; exact h) ls H locs hl hS hP hC
theorem zj_icmp_gt (C : zC X Γ own cc nL) {x y : Int} {off : Int} (tgt : Nat) (hx : ir x) (hy : ir y) (d : decode cc pc = .ok (.if_icmp .gt off, 3)) (ht : (pc : Int) + off = (tgt : Int)) (kt : x > y → zJ X Γ nL r A tgt lv st mem) (kf : ¬ (x > y) → zJ X Γ nL r B (pc + 3) lv st mem) : zJ X Γ nL r (if x > y then A else B) pc lv (.int (i32 y) :: .int (i32 x) :: st) mem := by
  obtain ⟨p, l, e, R, s, m, args, below, meth, c, cs, sl, Q⟩ := X
  intro h ls H locs hl hS hP hC
  have e : i32 y < i32 x ↔ x > y := i32_lt hy hx
  refine lv_icmp_gt C.1 C.2.1 d ht (fun q => ?_) (fun q => ?_)
  · exact kt (e.mp q) (by rw [if_pos (e.mp q)] at h; exact h) ls H locs hl hS hP hC
  · exact kf (fun z => q (e.mpr z)) (by rw [if_neg (fun z => q (e.mpr z))] at h; exact h) ls H locs hl hS hP hC
theorem zj_if_le (C : zC X Γ own cc nL) {x : Int} {off : Int} (tgt : Nat) (hx : ir x) (d : decode cc pc = .ok (.ifCond .le off, 3)) (ht : (pc : Int) + off = (tgt : Int)) (kt : x ≤ 0 → zJ X Γ nL r A tgt lv st mem) (kf : ¬ (x ≤ 0) → zJ X Γ nL r B (pc + 3) lv st mem) : zJ X Γ nL r (if x ≤ 0 then A else B) pc lv (.int (i32 x) :: st) mem := by
  obtain ⟨p, l, e, R, s, m, args, below, meth, c, cs, sl, Q⟩ := X
  intro h ls H locs hl hS hP hC
  have e : i32 x ≤ 0 ↔ x ≤ 0 := i32_le hx ir0
  refine lv_if_le C.1 C.2.1 d ht (fun q => ?_) (fun q => ?_)
  · exact kt (e.mp q) (by rw [if_pos (e.mp q)] at h; exact h) ls H locs hl hS hP hC
  · exact kf (fun z => q (e.mpr z)) (by rw [if_neg (fun z => q (e.mpr z))] at h; exact h) ls H locs hl hS hP hC
theorem zj_icmp_le (C : zC X Γ own cc nL) {x y : Int} {off : Int} (tgt : Nat) (hx : ir x) (hy : ir y) (d : decode cc pc = .ok (.if_icmp .le off, 3)) (ht : (pc : Int) + off = (tgt : Int)) (kt : x ≤ y → zJ X Γ nL r A tgt lv st mem) (kf : ¬ (x ≤ y) → zJ X Γ nL r B (pc + 3) lv st mem) : zJ X Γ nL r (if x ≤ y then A else B) pc lv (.int (i32 y) :: .int (i32 x) :: st) mem := by
  obtain ⟨p, l, e, R, s, m, args, below, meth, c, cs, sl, Q⟩ := X
  intro h ls H locs hl hS hP hC
  have e : i32 x ≤ i32 y ↔ x ≤ y := i32_le hx hy
  refine lv_icmp_le C.1 C.2.1 d ht (fun q => ?_) (fun q => ?_)
  · exact kt (e.mp q) (by rw [if_pos (e.mp q)] at h; exact h) ls H locs hl hS hP hC
  · exact kf (fun z => q (e.mpr z)) (by rw [if_neg (fun z => q (e.mpr z))] at h; exact h) ls H locs hl hS hP hC
theorem zj_tableIn (C : zC X Γ own cc nL) {x : Int} {dflt lo hi : Int} {offs : Array Int} {len : Nat} {off : Int} (j : Int) (tgt : Nat) (hx : ir x) (ej : x = j) (d : decode cc pc = .ok (.tableswitch dflt lo hi offs, len)) (h1 : decide (lo ≤ j ∧ j ≤ hi ∧ offs[(j - lo).toNat]? = some off) = true) (ht : (pc : Int) + off = (tgt : Int)) (k : zJ X Γ nL r T tgt lv st mem) : zJ X Γ nL r T pc lv (.int (i32 x) :: st) mem := by
  obtain ⟨p, l, e, R, s, m, args, below, meth, c, cs, sl, Q⟩ := X
  subst ej
  obtain ⟨a, b, o⟩ := of_decide_eq_true h1
  exact fun h ls H locs hl hS hP hC => lv_tableIn C.1 C.2.1 d (by rw [i32_toInt hx]; omega) (by rw [i32_toInt hx]; omega) (by rw [i32_toInt hx]; exact o) ht (k h ls H locs hl hS hP hC)
theorem zj_tableOut (C : zC X Γ own cc nL) {x : Int} {dflt lo hi : Int} {offs : Array Int} {len : Nat} (tgt : Nat) (hx : ir x) (d : decode cc pc = .ok (.tableswitch dflt lo hi offs, len)) (h1 : x < lo ∨ hi < x) (ht : (pc : Int) + dflt = (tgt : Int)) (k : zJ X Γ nL r T tgt lv st mem) : zJ X Γ nL r T pc lv (.int (i32 x) :: st) mem := by
  obtain ⟨p, l, e, R, s, m, args, below, meth, c, cs, sl, Q⟩ := X
  exact fun h ls H locs hl hS hP hC => lv_tableOut C.1 C.2.1 d (by rw [i32_toInt hx]; exact h1) ht (k h ls H locs hl hS hP hC)
theorem zj_lookup (C : zC X Γ own cc nL) {x : Int} {dflt : Int} {ps : Array (Int × Int)} {len : Nat} {off : Int} (tgt : Nat) (hx : ir x) (d : decode cc pc = .ok (.lookupswitch dflt ps, len)) (hp : (ps.toList.zip (ps.toList.drop 1)).all (fun (a, next) => a.1 < next.1) = true) (ho : Op.lookupswitch.offset ps.toList dflt x = off) (ht : (pc : Int) + off = (tgt : Int)) (k : zJ X Γ nL r T tgt lv st mem) : zJ X Γ nL r T pc lv (.int (i32 x) :: st) mem := by
  obtain ⟨p, l, e, R, s, m, args, below, meth, c, cs, sl, Q⟩ := X
  exact fun h ls H locs hl hS hP hC => lv_lookup C.1 C.2.1 d hp (by rw [i32_toInt hx]; exact ho) ht (k h ls H locs hl hS hP hC)
/-- a field of a class by its place, linked from own at idx -/
def zFl (own : String) (idx ci k : Nat) : Prop := ∃ (C : String) (T : u_T) (N : Nat) (ty : Nat → FieldType), vwCl[ci]? = some (C, T, N) ∧ ci < 13 ∧ N = sNf ci ∧ k < N ∧ (T k).1 = C ∧ (∀ w ∈ u_ws C T N, w ∈ gw_tbl) ∧ (∀ k, k < N → parseFieldDescriptor (T k).2.2.1 = some (ty k)) ∧ (∀ a, a < N → ∀ b, b < N → a ≠ b → (T a).2.1 ≠ (T b).2.1) ∧ (Cond.fieldLink own idx C (T k).2.1 (T k).2.2.1 ∈ gw_tbl ∨ ∃ host, Cond.fieldLinkNest own idx C (T k).2.1 (T k).2.2.1 host ∈ nw_tbl)
theorem zcell_obj {mem : zMem} {q ci : Nat} (hq : sK q = ci) (hc : ci < 13) : zcell Γ mem q = .inr (ci, (List.range (sNf ci)).map (zfv Γ mem q ci)) := by
  subst hq
  unfold zcell
  split <;> first | rfl | omega
theorem zfs_at {mem : zMem} {q ci k : Nat} (hk : k < sNf ci) : ((List.range (sNf ci)).map (zfv Γ mem q ci))[k]? = some (zfv Γ mem q ci k) := by
  rw [List.getElem?_map, List.getElem?_range hk]
  rfl
theorem zg_get (C : zC X Γ own cc nL) {ci k idx q : Nat} (hq : q < gN Γ) (hk : sK q = ci) (hl : zFl own idx ci k) (d : decode cc pc = .ok (.getfield idx, 3)) (kk : zCn mem → zg X Γ nL (pc + 3) lv (zfv Γ mem q ci k :: st) mem) : zg X Γ nL pc lv (.ref (zad Γ q) :: st) mem := by
  obtain ⟨p, l, e, R, s, m, args, below, meth, c, cs, sl, Q⟩ := X
  intro ls H locs hls hS hP hC
  obtain ⟨cn, tt, N, ty, h1, h2, h3, h4, h5, h6, h7, h8, h9⟩ := hl
  subst h3
  have he : (zwl Γ mem)[q]? = some (zad Γ q, .inr (ci, (List.range (sNf ci)).map (zfv Γ mem q ci))) := by rw [zwl_at mem hq, zcell_obj hk h2]
  rcases h9 with h9 | ⟨host, h9⟩
  · exact va_get C.1 C.2.1 C.2.2.2.2.1 h6 C.2.2.2.1 C.2.2.2.2.2.1 hP q he h1 k h4 (C.2.2.2.2.1 _ h9) (fun x hx => by rw [h5] at hx; exact hx) (zfs_at h4) d (kk hC ls H locs hls hS hP hC)
  · exact va_getN C.1 C.2.1 C.2.2.2.2.1 h6 C.2.2.2.1 C.2.2.2.2.2.1 hP q he h1 k h4 (va_Nw.use rfl (C.2.2.2.2.2.2.1.1 _ h9)) (fun x hx => by rw [h5] at hx; exact hx) (zfs_at h4) d (kk hC ls H locs hls hS hP hC)
theorem zFl_lt {idx ci k : Nat} (hl : zFl own idx ci k) : ci < 13 := by obtain ⟨_, _, _, _, _, h2, _⟩ := hl; exact h2
theorem zrg_i {q : Nat} {j : Int} {x : Int} (h : zlg q j = false) (hx : zrg (zlg q j) x) : ir x := by rw [h] at hx; simpa [zrg] using hx
theorem zrg_l {q : Nat} {j : Int} {x : Int} (h : zlg q j = true) (hx : zrg (zlg q j) x) : lr x := by rw [h] at hx; simpa [zrg] using hx
theorem zrg_mi {b : Bool} {x : Int} (h : b = false) (hx : ir x) : zrg b x := by unfold zrg; rw [if_neg (by rw [h]; decide)]; exact hx
theorem zrg_ml {b : Bool} {x : Int} (h : b = true) (hx : lr x) : zrg b x := by unfold zrg; rw [if_pos h]; exact hx
theorem zlg_f {q ci k : Nat} (hq : sK q = ci) (hc : ci < 13) : zlg q (k : Int) = (sFk ci k == 1) := by
  unfold zlg
  rw [hq, if_neg (by omega), if_pos hc]
  rfl
theorem zj_getI (C : zC X Γ own cc nL) (F : zFull Γ) {ci k idx q : Nat} (j : Int) (hj : ((k : Nat) : Int) = j) (hq : zk q ci) (hl : zFl own idx ci k) (hf : sFk ci k = 0) (d : decode cc pc = .ok (.getfield idx, 3)) (kk : ir (mem q j) → zJ X Γ nL r T (pc + 3) lv (.int (i32 (mem q j)) :: st) mem) : zJ X Γ nL r T pc lv (.ref (zad Γ q) :: st) mem := by
  subst hj
  intro h
  refine zg_get C (Nat.lt_of_lt_of_le hq.1 F.1) hq.2 hl d (fun hC => ?_)
  have e : zfv Γ mem q ci k = .int (i32 (mem q k)) := by simp [zfv, hf]
  rw [e]
  exact kk (zrg_i (by rw [zlg_f hq.2 (zFl_lt hl)]; simp [hf]) (hC q k)) h
theorem zj_getL (C : zC X Γ own cc nL) (F : zFull Γ) {ci k idx q : Nat} (j : Int) (hj : ((k : Nat) : Int) = j) (hq : zk q ci) (hl : zFl own idx ci k) (hf : sFk ci k = 1) (d : decode cc pc = .ok (.getfield idx, 3)) (kk : lr (mem q j) → zJ X Γ nL r T (pc + 3) lv (.long (i64 (mem q j)) :: st) mem) : zJ X Γ nL r T pc lv (.ref (zad Γ q) :: st) mem := by
  subst hj
  intro h
  refine zg_get C (Nat.lt_of_lt_of_le hq.1 F.1) hq.2 hl d (fun hC => ?_)
  have e : zfv Γ mem q ci k = .long (i64 (mem q k)) := by simp [zfv, hf]
  rw [e]
  exact kk (zrg_l (by rw [zlg_f hq.2 (zFl_lt hl)]; simp [hf]) (hC q k)) h
theorem zj_getR (C : zC X Γ own cc nL) (F : zFull Γ) {ci k idx q a : Nat} (hq : zk q ci) (hl : zFl own idx ci k) (hf : sFk ci k = 2) (ha : sRf q k = a) (d : decode cc pc = .ok (.getfield idx, 3)) (kk : zJ X Γ nL r T (pc + 3) lv (.ref (zad Γ a) :: st) mem) : zJ X Γ nL r T pc lv (.ref (zad Γ q) :: st) mem := by
  intro h
  refine zg_get C (Nat.lt_of_lt_of_le hq.1 F.1) hq.2 hl d (fun hC => ?_)
  have e : zfv Γ mem q ci k = .ref (zad Γ a) := by simp [zfv, hf, zrf, F.2, va_rf, ha]
  rw [e]
  exact kk h
theorem zfs_set {mem mem' : zMem} {q ci k : Nat} {v : Value} (hk : k < sNf ci) (h1 : zfv Γ mem' q ci k = v) (h2 : ∀ j, j ≠ k → zfv Γ mem' q ci j = zfv Γ mem q ci j) : ((List.range (sNf ci)).map (zfv Γ mem q ci)).set k v = (List.range (sNf ci)).map (zfv Γ mem' q ci) := by
  apply List.ext_getElem?
  intro j
  rw [List.getElem?_set]
  by_cases hj : k = j
  · subst hj
    rw [if_pos rfl, if_pos (by simpa using hk), zfs_at hk, h1]
  · rw [if_neg hj]
    by_cases hl : j < sNf ci
    · rw [zfs_at hl, zfs_at hl, h2 j (Ne.symm hj)]
    · rw [List.getElem?_eq_none (by simpa using hl), List.getElem?_eq_none (by simpa using hl)]
theorem zg_put (C : zC X Γ own cc nL) {ci k idx q : Nat} {v : Value} {x : Int} {ty : FieldType} (hq : q < gN Γ) (hk : sK q = ci) (hl : zFl own idx ci k) (hfin : ∀ T : u_T, ∀ N C', vwCl[ci]? = some (C', T, N) → (T k).2.2.2 = false ∧ parseFieldDescriptor (T k).2.2.1 = some ty) (hn : narrow ty v = v) (hfit : fits ty v = true) (hv : zfv Γ (zup mem q (k : Nat) x) q ci k = v) (hr : zrg (zlg q (k : Nat)) x) (d : decode cc pc = .ok (.putfield idx, 3)) (kk : zg X Γ nL (pc + 3) lv st (zup mem q (k : Nat) x)) : zg X Γ nL pc lv (v :: .ref (zad Γ q) :: st) mem := by
  obtain ⟨p, l, e, R, s, m, args, below, meth, c, cs, sl, Q⟩ := X
  intro ls H locs hls hS hP hC
  obtain ⟨cn, tt, N, tyy, h1, h2, h3, h4, h5, h6, h7, h8, h9⟩ := hl
  subst h3
  have he : (zwl Γ mem)[q]? = some (zad Γ q, .inr (ci, (List.range (sNf ci)).map (zfv Γ mem q ci))) := by rw [zwl_at mem hq, zcell_obj hk h2]
  have hse : (zwl Γ mem).set q (zad Γ q, .inr (ci, ((List.range (sNf ci)).map (zfv Γ mem q ci)).set k v)) = zwl Γ (zup mem q (k : Nat) x) := by
    refine zwl_set ?_ (fun p hp => zup_off hp)
    rw [zcell_obj hk h2, zfs_set h4 hv (fun j hj => ?_)]
    have e : zup mem q (k : Nat) x q (j : Nat) = mem q (j : Nat) := by
      have : (j : Int) ≠ (k : Int) := by omega
      simp [zup, this]
    unfold zfv
    rw [e]
  obtain ⟨f1, f2⟩ := hfin _ _ _ h1
  rcases h9 with h9 | ⟨host, h9⟩
  · refine va_put C.1 C.2.1 C.2.2.2.2.1 h6 tyy h7 h8 C.2.2.2.1 C.2.2.2.2.2.1 hP (zD C.2.2.2.2.2.2.2.2 mem) hS q he h1 k h4 (C.2.2.2.2.1 _ h9) (fun x hx => by rw [h5] at hx; exact hx) f1 f2 hn hfit (by simpa using h4) d (fun H1 locs1 hP1 _ hS1 => ?_)
    rw [hse] at hP1
    exact kk ls H1 locs1 hls hS1 hP1 (zCn_up hC hr)
  · refine va_putN C.1 C.2.1 C.2.2.2.2.1 h6 tyy h7 h8 C.2.2.2.1 C.2.2.2.2.2.1 hP (zD C.2.2.2.2.2.2.2.2 mem) hS q he h1 k h4 (va_Nw.use rfl (C.2.2.2.2.2.2.1.1 _ h9)) (fun x hx => by rw [h5] at hx; exact hx) f1 f2 hn hfit (by simpa using h4) d (fun H1 locs1 hP1 _ hS1 => ?_)
    rw [hse] at hP1
    exact kk ls H1 locs1 hls hS1 hP1 (zCn_up hC hr)
def zFp (ci k : Nat) (ty : FieldType) : Prop := ∀ T : u_T, ∀ N C', vwCl[ci]? = some (C', T, N) → (T k).2.2.2 = false ∧ parseFieldDescriptor (T k).2.2.1 = some ty
theorem zup_at (mem : zMem) (a : Nat) (i v : Int) : zup mem a i v a i = v := by simp [zup]
theorem zj_putI (C : zC X Γ own cc nL) (F : zFull Γ) {ci k idx q : Nat} (j : Int) (hj : ((k : Nat) : Int) = j) {x : Int} (hq : zk q ci) (hl : zFl own idx ci k) (hf : sFk ci k = 0) (hp : zFp ci k .int) (hx : ir x) (d : decode cc pc = .ok (.putfield idx, 3)) (kk : zJ X Γ nL r T (pc + 3) lv st (zup mem q j x)) : zJ X Γ nL r T pc lv (.int (i32 x) :: .ref (zad Γ q) :: st) mem := by
  subst hj
  exact fun h => zg_put C (Nat.lt_of_lt_of_le hq.1 F.1) hq.2 hl hp (vp_nar_int _) rfl (by simp [zfv, hf, zup_at]) (zrg_mi (by rw [zlg_f hq.2 (zFl_lt hl)]; simp [hf]) hx) d (kk h)
theorem zj_putZ (C : zC X Γ own cc nL) (F : zFull Γ) {ci k idx q : Nat} (j : Int) (hj : ((k : Nat) : Int) = j) {x : Int} (hq : zk q ci) (hl : zFl own idx ci k) (hf : sFk ci k = 0) (hp : zFp ci k .boolean) (hx : x = 0 ∨ x = 1) (d : decode cc pc = .ok (.putfield idx, 3)) (kk : zJ X Γ nL r T (pc + 3) lv st (zup mem q j x)) : zJ X Γ nL r T pc lv (.int (i32 x) :: .ref (zad Γ q) :: st) mem := by
  subst hj
  exact fun h => zg_put C (Nat.lt_of_lt_of_le hq.1 F.1) hq.2 hl hp (by rcases hx with rfl | rfl <;> rfl) (by rcases hx with rfl | rfl <;> rfl) (by simp [zfv, hf, zup_at]) (by rw [zlg_f hq.2 (zFl_lt hl)]; rcases hx with rfl | rfl <;> simp [hf, zrg, ir]) d (kk h)
theorem zj_putL (C : zC X Γ own cc nL) (F : zFull Γ) {ci k idx q : Nat} (j : Int) (hj : ((k : Nat) : Int) = j) {x : Int} (hq : zk q ci) (hl : zFl own idx ci k) (hf : sFk ci k = 1) (hp : zFp ci k .long) (hx : lr x) (d : decode cc pc = .ok (.putfield idx, 3)) (kk : zJ X Γ nL r T (pc + 3) lv st (zup mem q j x)) : zJ X Γ nL r T pc lv (.long (i64 x) :: .ref (zad Γ q) :: st) mem := by
  subst hj
  exact fun h => zg_put C (Nat.lt_of_lt_of_le hq.1 F.1) hq.2 hl hp rfl rfl (by simp [zfv, hf, zup_at]) (zrg_ml (by rw [zlg_f hq.2 (zFl_lt hl)]; simp [hf]) hx) d (kk h)
/-! rows of numbers and of references -/
theorem ix_in {a : Nat} {i : Int} (h : ix a i) (hi : ir i) : vp_in (i32 i) (sLen a) := by
  rw [vp_in_iff, i32_toInt hi]
  exact h
theorem ix_nat {i : Int} (hi : ir i) (h0 : 0 ≤ i) : ((i32 i).toNatClampNeg : Int) = i := by
  show (((i32 i).toInt.toNat : Nat) : Int) = i
  rw [i32_toInt hi]
  omega
theorem zcell_13 {mem : zMem} {q : Nat} (hq : sK q = 13) : zcell Γ mem q = .inl (gY Γ 0, sLen q, .inl fun j => i32 (mem q (j : Nat))) := by simp [zcell, hq]
theorem zcell_14 {mem : zMem} {q : Nat} (hq : sK q = 14) : zcell Γ mem q = .inl (gY Γ 1, sLen q, .inr (.inl fun j => i64 (mem q (j : Nat)))) := by simp [zcell, hq]
theorem zcell_15 {mem : zMem} {q : Nat} (hq : sK q = 15) : zcell Γ mem q = .inl (gY Γ 2, sLen q, .inl fun j => i32 (mem q (j : Nat))) := by simp [zcell, hq]
theorem zcell_16 {mem : zMem} {q : Nat} (hq : sK q = 16) : zcell Γ mem q = .inl (gY Γ 3, sLen q, .inr (.inr (.inr (.inr fun j => zrf Γ q j)))) := by simp [zcell, hq]
theorem zcell_17 {mem : zMem} {q : Nat} (hq : sK q = 17) : zcell Γ mem q = .inl (gY Γ 4, sLen q, .inr (.inr (.inr (.inr fun j => zrf Γ q j)))) := by simp [zcell, hq]
theorem zj_iaload (C : zC X Γ own cc nL) (F : zFull Γ) {q : Nat} {i : Int} (hq : zk q 13) (hi : ir i) (d : decode cc pc = .ok (.iaload, 1)) (kk : ix q i → ir (mem q i) → zJ X Γ nL r A (pc + 1) lv (.int (i32 (mem q i)) :: st) mem) : zJ X Γ nL r (if ix q i then A else none) pc lv (.int (i32 i) :: .ref (zad Γ q) :: st) mem := by
  refine zj_chk (fun hx h => ?_)
  obtain ⟨p, l, e, R, s, m, args, below, meth, c, cs, sl, Q⟩ := X
  intro ls H locs hls hS hP hC
  have he : (zwl Γ mem)[q]? = some (zad Γ q, .inl (gY Γ 0, sLen q, .inl fun j => i32 (mem q (j : Nat)))) := by rw [zwl_at mem (Nat.lt_of_lt_of_le hq.1 F.1), zcell_13 hq.2]
  refine va_iald C.1 C.2.1 C.2.2.2.2.2.1 hP q 0 he rfl (ix_in hx hi) d ?_
  rw [ix_nat hi hx.1]
  exact kk hx (zrg_i (by simp [zlg, hq.2]) (hC q i)) h ls H locs hls hS hP hC
theorem zj_laload (C : zC X Γ own cc nL) (F : zFull Γ) {q : Nat} {i : Int} (hq : zk q 14) (hi : ir i) (d : decode cc pc = .ok (.laload, 1)) (kk : ix q i → lr (mem q i) → zJ X Γ nL r A (pc + 1) lv (.long (i64 (mem q i)) :: st) mem) : zJ X Γ nL r (if ix q i then A else none) pc lv (.int (i32 i) :: .ref (zad Γ q) :: st) mem := by
  refine zj_chk (fun hx h => ?_)
  obtain ⟨p, l, e, R, s, m, args, below, meth, c, cs, sl, Q⟩ := X
  intro ls H locs hls hS hP hC
  have he : (zwl Γ mem)[q]? = some (zad Γ q, .inl (gY Γ 1, sLen q, .inr (.inl fun j => i64 (mem q (j : Nat))))) := by rw [zwl_at mem (Nat.lt_of_lt_of_le hq.1 F.1), zcell_14 hq.2]
  refine va_lald C.1 C.2.1 C.2.2.2.2.2.1 hP q 1 he rfl (ix_in hx hi) d ?_
  rw [ix_nat hi hx.1]
  exact kk hx (zrg_l (by simp [zlg, hq.2]) (hC q i)) h ls H locs hls hS hP hC
theorem zj_baload (C : zC X Γ own cc nL) (F : zFull Γ) {q : Nat} {i : Int} (hq : zk q 15) (hi : ir i) (d : decode cc pc = .ok (.baload, 1)) (kk : ix q i → ir (mem q i) → zJ X Γ nL r A (pc + 1) lv (.int (i32 (mem q i)) :: st) mem) : zJ X Γ nL r (if ix q i then A else none) pc lv (.int (i32 i) :: .ref (zad Γ q) :: st) mem := by
  refine zj_chk (fun hx h => ?_)
  obtain ⟨p, l, e, R, s, m, args, below, meth, c, cs, sl, Q⟩ := X
  intro ls H locs hls hS hP hC
  have he : (zwl Γ mem)[q]? = some (zad Γ q, .inl (gY Γ 2, sLen q, .inl fun j => i32 (mem q (j : Nat)))) := by rw [zwl_at mem (Nat.lt_of_lt_of_le hq.1 F.1), zcell_15 hq.2]
  refine va_zald C.1 C.2.1 C.2.2.2.2.2.1 hP q 2 he rfl (ix_in hx hi) d ?_
  rw [ix_nat hi hx.1]
  exact kk hx (zrg_i (by simp [zlg, hq.2]) (hC q i)) h ls H locs hls hS hP hC
theorem zj_aaload16 (C : zC X Γ own cc nL) (F : zFull Γ) {q : Nat} {i : Int} (hq : zk q 16) (hi : ir i) (d : decode cc pc = .ok (.aaload, 1)) (kk : ix q i → zk (sRf q i.toNat) 3 → zJ X Γ nL r A (pc + 1) lv (.ref (zad Γ (sRf q i.toNat)) :: st) mem) : zJ X Γ nL r (if ix q i then A else none) pc lv (.int (i32 i) :: .ref (zad Γ q) :: st) mem := by
  refine zj_chk (fun hx h => ?_)
  obtain ⟨p, l, e, R, s, m, args, below, meth, c, cs, sl, Q⟩ := X
  intro ls H locs hls hS hP hC
  have he : (zwl Γ mem)[q]? = some (zad Γ q, .inl (gY Γ 3, sLen q, .inr (.inr (.inr (.inr fun j => zrf Γ q j))))) := by rw [zwl_at mem (Nat.lt_of_lt_of_le hq.1 F.1), zcell_16 hq.2]
  refine va_aldq C.1 C.2.1 C.2.2.2.2.2.1 hP q 3 he rfl (ix_in hx hi) d ?_
  have e1 : va_rf (zrf Γ q (i32 i).toNatClampNeg) = .ref (zad Γ (sRf q i.toNat)) := by
    have e2 : (i32 i).toNatClampNeg = i.toNat := by have := ix_nat hi hx.1; omega
    simp [zrf, F.2, va_rf, e2]
  rw [e1]
  exact kk hx (zta_16 hq (by have := hx.1; have := hx.2; omega)) h ls H locs hls hS hP hC
theorem zj_aaload17 (C : zC X Γ own cc nL) (F : zFull Γ) {q : Nat} {i : Int} (hq : zk q 17) (hi : ir i) (d : decode cc pc = .ok (.aaload, 1)) (kk : ix q i → zk (sRf q i.toNat) 7 → zJ X Γ nL r A (pc + 1) lv (.ref (zad Γ (sRf q i.toNat)) :: st) mem) : zJ X Γ nL r (if ix q i then A else none) pc lv (.int (i32 i) :: .ref (zad Γ q) :: st) mem := by
  refine zj_chk (fun hx h => ?_)
  obtain ⟨p, l, e, R, s, m, args, below, meth, c, cs, sl, Q⟩ := X
  intro ls H locs hls hS hP hC
  have he : (zwl Γ mem)[q]? = some (zad Γ q, .inl (gY Γ 4, sLen q, .inr (.inr (.inr (.inr fun j => zrf Γ q j))))) := by rw [zwl_at mem (Nat.lt_of_lt_of_le hq.1 F.1), zcell_17 hq.2]
  refine va_aldq C.1 C.2.1 C.2.2.2.2.2.1 hP q 4 he rfl (ix_in hx hi) d ?_
  have e1 : va_rf (zrf Γ q (i32 i).toNatClampNeg) = .ref (zad Γ (sRf q i.toNat)) := by
    have e2 : (i32 i).toNatClampNeg = i.toNat := by have := ix_nat hi hx.1; omega
    simp [zrf, F.2, va_rf, e2]
  rw [e1]
  exact kk hx (zta_17 hq (by have := hx.1; have := hx.2; omega)) h ls H locs hls hS hP hC
theorem zupf {mem : zMem} {q : Nat} {i x : Int} (hi : ir i) (h0 : 0 ≤ i) : (fun j : Nat => i32 (zup mem q i x q (j : Nat))) = upd (fun j : Nat => i32 (mem q (j : Nat))) (i32 i).toNatClampNeg (i32 x) := by
  funext j
  have e := ix_nat hi h0
  by_cases hj : j = (i32 i).toNatClampNeg
  · rw [hj, e, zup_at]
    simp [upd]
  · have : ¬ (j : Int) = i := by omega
    simp [upd, zup, this, hj]
theorem zupL {mem : zMem} {q : Nat} {i x : Int} (hi : ir i) (h0 : 0 ≤ i) : (fun j : Nat => i64 (zup mem q i x q (j : Nat))) = vp_updL (fun j : Nat => i64 (mem q (j : Nat))) (i32 i).toNatClampNeg (i64 x) := by
  funext j
  have e := ix_nat hi h0
  by_cases hj : j = (i32 i).toNatClampNeg
  · rw [hj, e, zup_at]
    simp [vp_updL]
  · have : ¬ (j : Int) = i := by omega
    simp [vp_updL, zup, this, hj]
theorem zj_iastore (C : zC X Γ own cc nL) (F : zFull Γ) {q : Nat} {i x : Int} (hq : zk q 13) (hi : ir i) (hx : ir x) (d : decode cc pc = .ok (.iastore, 1)) (kk : ix q i → zJ X Γ nL r A (pc + 1) lv st (zup mem q i x)) : zJ X Γ nL r (if ix q i then A else none) pc lv (.int (i32 x) :: .int (i32 i) :: .ref (zad Γ q) :: st) mem := by
  refine zj_chk (fun hix h => ?_)
  obtain ⟨p, l, e, R, s, m, args, below, meth, c, cs, sl, Q⟩ := X
  intro ls H locs hls hS hP hC
  have he : (zwl Γ mem)[q]? = some (zad Γ q, .inl (gY Γ 0, sLen q, .inl fun j => i32 (mem q (j : Nat)))) := by rw [zwl_at mem (Nat.lt_of_lt_of_le hq.1 F.1), zcell_13 hq.2]
  refine va_iast C.1 C.2.1 C.2.2.2.2.2.1 hP (zD C.2.2.2.2.2.2.2.2 mem) hS q 0 he rfl (ix_in hix hi) d (fun H1 locs1 hP1 _ hS1 => ?_)
  rw [← zupf hi hix.1, zwl_set (mem' := zup mem q i x) (zcell_13 hq.2) (fun p hp => zup_off hp)] at hP1
  exact kk hix h ls H1 locs1 hls hS1 hP1 (zCn_up hC (zrg_mi (by simp [zlg, hq.2]) hx))
theorem zj_lastore (C : zC X Γ own cc nL) (F : zFull Γ) {q : Nat} {i x : Int} (hq : zk q 14) (hi : ir i) (hx : lr x) (d : decode cc pc = .ok (.lastore, 1)) (kk : ix q i → zJ X Γ nL r A (pc + 1) lv st (zup mem q i x)) : zJ X Γ nL r (if ix q i then A else none) pc lv (.long (i64 x) :: .int (i32 i) :: .ref (zad Γ q) :: st) mem := by
  refine zj_chk (fun hix h => ?_)
  obtain ⟨p, l, e, R, s, m, args, below, meth, c, cs, sl, Q⟩ := X
  intro ls H locs hls hS hP hC
  have he : (zwl Γ mem)[q]? = some (zad Γ q, .inl (gY Γ 1, sLen q, .inr (.inl fun j => i64 (mem q (j : Nat))))) := by rw [zwl_at mem (Nat.lt_of_lt_of_le hq.1 F.1), zcell_14 hq.2]
  refine va_last C.1 C.2.1 C.2.2.2.2.2.1 hP (zD C.2.2.2.2.2.2.2.2 mem) hS q 1 he rfl (ix_in hix hi) d (fun H1 locs1 hP1 _ hS1 => ?_)
  rw [← zupL hi hix.1, zwl_set (mem' := zup mem q i x) (zcell_14 hq.2) (fun p hp => zup_off hp)] at hP1
  exact kk hix h ls H1 locs1 hls hS1 hP1 (zCn_up hC (zrg_ml (by simp [zlg, hq.2]) hx))
theorem zj_bastore (C : zC X Γ own cc nL) (F : zFull Γ) {q : Nat} {i x : Int} (hq : zk q 15) (hi : ir i) (hx : x = 0 ∨ x = 1) (d : decode cc pc = .ok (.bastore, 1)) (kk : ix q i → zJ X Γ nL r A (pc + 1) lv st (zup mem q i x)) : zJ X Γ nL r (if ix q i then A else none) pc lv (.int (i32 x) :: .int (i32 i) :: .ref (zad Γ q) :: st) mem := by
  refine zj_chk (fun hix h => ?_)
  obtain ⟨p, l, e, R, s, m, args, below, meth, c, cs, sl, Q⟩ := X
  intro ls H locs hls hS hP hC
  have he : (zwl Γ mem)[q]? = some (zad Γ q, .inl (gY Γ 2, sLen q, .inl fun j => i32 (mem q (j : Nat)))) := by rw [zwl_at mem (Nat.lt_of_lt_of_le hq.1 F.1), zcell_15 hq.2]
  have hnar : vp_nar .boolean (i32 x) = i32 x := by rcases hx with rfl | rfl <;> rfl
  refine va_zast C.1 C.2.1 C.2.2.2.2.2.1 hP (zD C.2.2.2.2.2.2.2.2 mem) hS q 2 he rfl (ix_in hix hi) d (fun H1 locs1 hP1 _ hS1 => ?_)
  rw [hnar, ← zupf hi hix.1, zwl_set (mem' := zup mem q i x) (zcell_15 hq.2) (fun p hp => zup_off hp)] at hP1
  exact kk hix h ls H1 locs1 hls hS1 hP1 (zCn_up hC (by rcases hx with rfl | rfl <;> simp [zlg, hq.2, zrg, ir]))
theorem zj_alen (C : zC X Γ own cc nL) (F : zFull Γ) {q k : Nat} (n : Int) (hq : zk q k) (hk : k = 13 ∨ k = 14 ∨ k = 15 ∨ k = 16 ∨ k = 17) (hn : (sLen q : Int) = n) (d : decode cc pc = .ok (.arraylength, 1)) (kk : zJ X Γ nL r T (pc + 1) lv (.int (i32 n) :: st) mem) : zJ X Γ nL r T pc lv (.ref (zad Γ q) :: st) mem := by
  intro h
  obtain ⟨p, l, e, R, s, m, args, below, meth, c, cs, sl, Q⟩ := X
  intro ls H locs hls hS hP hC
  have hN := zwl_at (Γ := Γ) mem (q := q) (Nat.lt_of_lt_of_le hq.1 F.1)
  have hv : Int32.ofNat (sLen q) = i32 n := by rw [← hn]; unfold i32; exact Int32.ofInt_eq_ofNat.symm
  have fin := kk h ls H locs hls hS hP hC
  rcases hk with rfl | rfl | rfl | rfl | rfl
  · exact va_alen C.1 C.2.1 C.2.2.2.2.2.1 hP q 0 (by rw [hN, zcell_13 hq.2]) rfl hv d fin
  · exact va_alen C.1 C.2.1 C.2.2.2.2.2.1 hP q 1 (by rw [hN, zcell_14 hq.2]) rfl hv d fin
  · exact va_alen C.1 C.2.1 C.2.2.2.2.2.1 hP q 2 (by rw [hN, zcell_15 hq.2]) rfl hv d fin
  · exact va_alen C.1 C.2.1 C.2.2.2.2.2.1 hP q 3 (by rw [hN, zcell_16 hq.2]) rfl hv d fin
  · exact va_alen C.1 C.2.1 C.2.2.2.2.2.1 hP q 4 (by rw [hN, zcell_17 hq.2]) rfl hv d fin
/-! the static rows EASTWARD (true), SOUTHWARD (false) -/
theorem zj_dir (C : zC X Γ own cc nL) {idx : Nat} (b : Bool) (hl : Cond.fieldLink own idx "ShadowHeirs$Plan" (if b = true then "EASTWARD" else "SOUTHWARD") "[I" ∈ gw_tbl) (d : decode cc pc = .ok (.getstatic idx, 3)) (kk : zJ X Γ nL r T (pc + 3) lv (.ref (gS Γ (if b = true then 0 else 1)) :: st) mem) : zJ X Γ nL r T pc lv st mem := by
  intro h
  obtain ⟨p, l, e, R, s, m, args, below, meth, c, cs, sl, Q⟩ := X
  intro ls H locs hls hS hP hC
  have fin := kk h ls H locs hls hS hP hC
  obtain ⟨⟨a1, a2⟩, ⟨b1, b2⟩, -⟩ := C.2.2.2.2.2.2.1.2.2
  cases b
  · exact va_gets C.1 C.2.1 b1 hS C.2.2.2.1 (C.2.2.2.2.1 _ hl) (fun x hx => hx) d fin
  · exact va_gets C.1 C.2.1 a1 hS C.2.2.2.1 (C.2.2.2.2.1 _ hl) (fun x hx => hx) d fin
theorem zj_diral (C : zC X Γ own cc nL) (b : Bool) {i : Int} (hi : ir i) (d : decode cc pc = .ok (.iaload, 1)) (kk : 0 ≤ i ∧ i < 4 → ir (zDir b i.toNat) → zJ X Γ nL r A (pc + 1) lv (.int (i32 (zDir b i.toNat)) :: st) mem) : zJ X Γ nL r (if 0 ≤ i ∧ i < 4 then A else none) pc lv (.int (i32 i) :: .ref (gS Γ (if b = true then 0 else 1)) :: st) mem := by
  refine zj_chk (fun hx h => ?_)
  obtain ⟨p, l, e, R, s, m, args, below, meth, c, cs, sl, Q⟩ := X
  intro ls H locs hls hS hP hC
  have hd : ir (zDir b i.toNat) := by
    have : i = 0 ∨ i = 1 ∨ i = 2 ∨ i = 3 := by omega
    rcases this with rfl | rfl | rfl | rfl <;> cases b <;> decide
  have fin := kk hx hd h ls H locs hls hS hP hC
  have hin : vp_in (i32 i) 4 := by rw [vp_in_iff, i32_toInt hi]; exact hx
  have e2 : (i32 i).toNatClampNeg = i.toNat := by have := ix_nat hi hx.1; omega
  obtain ⟨⟨a1, a2⟩, ⟨b1, b2⟩, -⟩ := C.2.2.2.2.2.2.1.2.2
  cases b
  · exact va_ti C.1 C.2.1 b2 hS hin (by rw [e2]) d fin
  · exact va_ti C.1 C.2.1 a2 hS hin (by rw [e2]) d fin
/-! contracts -/
def zrv (k : Nat) (x : Int) : Option Value := match k with
  | 0 => none
  | 1 => some (.int (i32 x))
  | _ => some (.long (i64 x))
def zrk (k : Nat) (x : Int) : Prop := match k with
  | 0 => True
  | 1 => ir x
  | _ => lr x
def zPre (Γ : zG) (av : List Value) (mem : zMem) : Array Value → State → Prop := fun v U => v = av.toArray ∧ gB Γ ≤ U.heap.size ∧ va_P (gC Γ, gI Γ) vwCl (zwl Γ mem) U.heap ∧ zCn mem ∧ va_K (gC Γ, gI Γ) vwCl (ztys Γ) U ∧ zE Γ U U.heap ∧ zInj Γ
def zPost (Γ : zG) (k : Nat) (q : Int × zMem) : Array Value → State → Outcome → State → Prop := fun _ st oc t => oc = .returned (zrv k q.1) ∧ zrk k q.1 ∧ va_P (gC Γ, gI Γ) vwCl (zwl Γ q.2) t.heap ∧ zCn q.2 ∧ va_F (zA Γ) st t
def zrm (d : Nat) : Room := { frames := d, cells := 0, slots := 0, locals := 60 * d }
def zws (y : MethodName) (cc : ByteArray) (nL : Nat) (ret : Option FieldType) : List Cond := Cond.code y cc nL ret :: gw_tbl
def zMet (l : Launch) (y : MethodName) (cc : ByteArray) (nL : Nat) (ret : Option FieldType) (d : Nat) (Γ : zG) (k : Nat) (av : List Value) (mem : zMem) (q : Int × zMem) : Prop := Met l y (zws y cc nL ret) (zrm d) (zPre Γ av mem) (zPost Γ k q) 0 0 (zA Γ)
/-- what is due at the method's end -/
def zRt (X : zM) (l : Launch) (Γ : zG) (d k : Nat) (ret : Option FieldType) (q : Int × zMem) : Prop := match X with
  | (_, l', _, R, s, _, args, below, meth, _, cs, sl, Q) => l' = l ∧ R = zrm d ∧ meth.sig.returnType = ret ∧ meth.locks = false ∧ cs = 0 ∧ sl = 0 ∧ Q = MQ below (zPost Γ k q) args s 0 0 (zA Γ)
theorem zMet_of {l : Launch} {y : MethodName} {ret : Option FieldType} {dd k : Nat} {av : List Value} {q : Int × zMem} (hy : plainName y.cls = true) (ho : y.cls = own) (hL : (lg_sl av).length ≤ nL) (body : ∀ X, zC X Γ own cc nL → zRt X l Γ dd k ret q → zg X Γ nL 0 (lv_args 0 av) [] mem) : zMet l y cc nL ret dd Γ k av mem q := by
  refine Met.ofW (cc := cc) (maxL := nL) (ret := ret) hy rfl ?_
  intro p e s m args below meth c s₁ B hml hv
  obtain ⟨rfl, hsz, hP, hC, hK, hE, hI⟩ := hv
  have hts := atoms_spec (ws := zws y cc nL ret) B.pre
  have hl := lv_entry av (n := nL) hL
  rw [lg_entry_eq]
  exact body (p, l, e, (headSpec (zws y cc nL ret) (zrm dd)).room, s, m, av.toArray, below, meth, c, 0, 0, _) ⟨B.exec, B.bytes, hml, ho ▸ findClass_of_methodNamed B.named, fun w hw => hts w (List.mem_cons_of_mem _ hw), hK, hE, hsz, hI⟩ ⟨rfl, rfl, B.returns, B.notSynchronized, rfl, rfl, rfl⟩ _ _ _ hl va_S.rf hP hC
theorem zrt_i {l : Launch} {dd : Nat} {q : Int × zMem} {x : Int} (C : zC X Γ own cc nL) (Z : zRt X l Γ dd 1 (some .int) q) (hx : ir x) (d : decode cc pc = .ok (.ireturn, 1)) : zJ X Γ nL q (some (x, mem)) pc lv [.int (i32 x)] mem := by
  intro h
  obtain rfl := Option.some.inj h
  obtain ⟨p, l', e, R, s, m, args, below, meth, c, cs, sl, Q⟩ := X
  obtain ⟨rfl, rfl, h1, h2, rfl, rfl, rfl⟩ := Z
  intro ls H locs hls hS hP hC
  exact W.iret C.1 C.2.1 h1 (fun t ht hW => ⟨rfl, hx, by rw [ht]; exact hP, hC, hS.F ht⟩) hS.2.2 d h2
theorem zrt_l {l : Launch} {dd : Nat} {q : Int × zMem} {x : Int} (C : zC X Γ own cc nL) (Z : zRt X l Γ dd 2 (some .long) q) (hx : lr x) (d : decode cc pc = .ok (.lreturn, 1)) : zJ X Γ nL q (some (x, mem)) pc lv [.long (i64 x)] mem := by
  intro h
  obtain rfl := Option.some.inj h
  obtain ⟨p, l', e, R, s, m, args, below, meth, c, cs, sl, Q⟩ := X
  obtain ⟨rfl, rfl, h1, h2, rfl, rfl, rfl⟩ := Z
  intro ls H locs hls hS hP hC
  exact W.lret C.1 C.2.1 h1 (fun t ht hW => ⟨rfl, hx, by rw [ht]; exact hP, hC, hS.F ht⟩) hS.2.2 d h2
theorem zrt_v {l : Launch} {dd : Nat} {q : Int × zMem} (C : zC X Γ own cc nL) (Z : zRt X l Γ dd 0 none q) (d : decode cc pc = .ok (.return_, 1)) : zJ X Γ nL q (some (0, mem)) pc lv [] mem := by
  intro h
  obtain rfl := Option.some.inj h
  obtain ⟨p, l', e, R, s, m, args, below, meth, c, cs, sl, Q⟩ := X
  obtain ⟨rfl, rfl, h1, h2, rfl, rfl, rfl⟩ := Z
  intro ls H locs hls hS hP hC
  exact W.vret C.1 C.2.1 h1 (fun t ht hW => ⟨rfl, trivial, by rw [ht]; exact hP, hC, hS.F ht⟩) hS.2.2 d h2
theorem zrt_z {l : Launch} {dd : Nat} {q : Int × zMem} {x : Int} (C : zC X Γ own cc nL) (Z : zRt X l Γ dd 1 (some .boolean) q) (hx : x = 0 ∨ x = 1) (d : decode cc pc = .ok (.ireturn, 1)) : zJ X Γ nL q (some (x, mem)) pc lv [.int (i32 x)] mem := by
  intro h
  obtain rfl := Option.some.inj h
  obtain ⟨p, l', e, R, s, m, args, below, meth, c, cs, sl, Q⟩ := X
  obtain ⟨rfl, rfl, h1, h2, rfl, rfl, rfl⟩ := Z
  intro ls H locs hls hS hP hC
  exact W.zret C.1 C.2.1 h1 (by rcases hx with rfl | rfl <;> rfl) (fun t ht hW => ⟨rfl, (by rcases hx with rfl | rfl <;> (show ir _; unfold ir; omega)), by rw [ht]; exact hP, hC, hS.F ht⟩) hS.2.2 d h2
theorem zrt_zc {l : Launch} {dd : Nat} {q : Int × zMem} {x : Int} (C : zC X Γ own cc nL) (Z : zRt X l Γ dd 1 (some .boolean) q) (d : decode cc pc = .ok (.ireturn, 1)) : zJ X Γ nL q (if x = 0 ∨ x = 1 then some (x, mem) else none) pc lv [.int (i32 x)] mem := zj_chk fun hx => zrt_z C Z hx d
/-! calls -/
theorem zPre_blind (av : List Value) : FrameBlind (zPre Γ av mem) := fun _ U g mk h => ⟨h.1, h.2.1, h.2.2.1, h.2.2.2.1, va_K.moved (u := U) (U := U.calling g mk _) (Vm.Alike.refl _) h.2.2.2.2.1, zE.same (s := U) rfl h.2.2.2.2.2.1, h.2.2.2.2.2.2⟩
theorem zPre_at {s U : State} {H : Heap} {locs : List Loc} {av : List Value} (hK : va_K (gC Γ, gI Γ) vwCl (ztys Γ) s) (hE : zE Γ s s.heap) (hB : gB Γ ≤ s.heap.size) (hI : zInj Γ) (hS : va_S (zA Γ) s.heap H locs) (hP : va_P (gC Γ, gI Γ) vwCl (zwl Γ mem) H) (hC : zCn mem) (hU : U.heap = H) (hW : s.WarmedH U.vm) : zPre Γ av mem av.toArray U :=
  ⟨rfl, by rw [hU]; exact Nat.le_trans hB hS.1, by rw [hU]; exact hP, hC, va_K.moved hW.alike hK, by rw [hU]; exact zE.kept (zE.warm hW hE) hS.2.1, hI⟩
theorem zg_run {k : Nat} {q : Int × zMem} {a : Array Value} {st0 rest : List Value} {p : Program} {l : Launch} {e : Env} {R : Room} {s : State} {m : MethodId} {args : Array Value} {below : List Frame} {meth : Method} {c : Code} {cs sl : Nat} {Q : State → Prop} {H : Heap} {ls : Array Slot} {locs : List Loc}
    (hr : va_Run p l e R s m args below meth c H locs cs sl 0 0 (F0 m pc ls st0) rest (zPost Γ k q a) (zA Γ)) (hls : lv_has ls nL lv) (hS : va_S (zA Γ) s.heap H locs)
    (kk : zrk k q.1 → zg (p, l, e, R, s, m, args, below, meth, c, cs, sl, Q) Γ nL (pc + 3) lv ((zrv k q.1).toList ++ rest) q.2) : W p l e R s m args below meth c H locs cs sl Q (F0 m pc ls st0) := by
  intro T hT X
  obtain ⟨v, st₀, t, T', L, h0, X', hL, e1, e2, ⟨hv, hk, hP1, hC1, hz, hf⟩, st⟩ := hr T hT X
  have hv : v = zrv k q.1 := by cases hv; rfl
  subst hv
  rw [h0] at hz hf
  obtain ⟨t2, a1, b1⟩ := kk hk ls T'.heap (locs ++ L) hls ⟨Nat.le_trans hS.1 (by rw [e1]; exact hz), fun x h1 h2 => by rw [e1, hf x (Nat.lt_of_lt_of_le h1 hS.1) h2]; exact hS.2.1 x h1 h2, fun x hx => by
      rcases List.mem_append.mp hx with h | h
      · exact hS.2.2 x h
      · exact hL x h⟩ (by rw [e1]; exact hP1) hC1 T' rfl X'
  exact ⟨t2, st t2 a1, b1⟩
/-- a callee: its words -/
def zCal (y : MethodName) (cc : ByteArray) (nL : Nat) (ret : Option FieldType) (n : Nat) : Prop := Cond.code y cc nL ret ∈ gw_tbl ∧ Cond.initialized y.cls ∈ gw_tbl ∧ (y.cls ≠ "java/lang/invoke/MethodHandle" ∧ y.cls ≠ "java/lang/invoke/VarHandle" ∧ (parseMethodDescriptor y.desc).map (fun d => d.parameters.length) = some n)
def zCalV (y : MethodName) : Prop := Cond.instanceMethod y ∈ gw_tbl ∧ Cond.selects y.cls y y ∈ gw_tbl
def zMl (own : String) (idx : Nat) (y : MethodName) : Prop := Cond.methodLink own idx y ∈ gw_tbl ∨ ∃ host, Cond.methodLinkNest own idx y host ∈ nw_tbl
theorem zws_good {y : MethodName} {ret : Option FieldType} (h : Cond.code y cc nL ret ∈ gw_tbl) : GoodIn gw_tbl (zws y cc nL ret) := by
  intro w hw
  rcases List.mem_cons.mp hw with rfl | hw
  · exact gw_good _ h
  · exact gw_good _ hw
theorem zg_callV (C : zC X Γ own cc nL) (F : zFull Γ) {l : Launch} {D k dd : Nat} {ret0 : Option FieldType} {q0 : Int × zMem} {kd : Nat} (Z : zRt X l Γ D kd ret0 q0) {y : MethodName} {cy : ByteArray} {nY n : Nat} {ret : Option FieldType} {idx b ci : Nat} {As rest : List Value} {q : Int × zMem} (hy : zCal y cy nY ret n) (hv : zCalV y) (hl : zMl own idx y) (hb : zk b ci) (hci : (vwCl[ci]?).map (·.1) = some y.cls) (hn : As.length = n) (hd : dd + 1 ≤ D ∧ nY ≤ 41) (hrest : (rest.map fun v => v.category).sum ≤ 8) (d : decode cc pc = .ok (.invokevirtual idx, 3)) (hM : zMet l y cy nY ret dd Γ k (.ref (zad Γ b) :: As) mem q) (kk : zrk k q.1 → zg X Γ nL (pc + 3) lv ((zrv k q.1).toList ++ rest) q.2) : zg X Γ nL pc lv (As.reverse ++ .ref (zad Γ b) :: rest) mem := by
  obtain ⟨p, l', e, R, s, m, args, below, meth, c, cs, sl, Q⟩ := X
  obtain ⟨rfl, rfl, z1, z2, rfl, rfl, zQ⟩ := Z
  intro ls H locs hls hS hP hC
  obtain ⟨x1, x2, x3, x4, x5, x6, x7, x8, x9⟩ := C
  obtain ⟨y1, y2, y3⟩ := hy
  have hroom : (zrm dd).frames + 1 ≤ (zrm D).frames ∧ 8 + (nY + 11) + (zrm dd).locals ≤ (zrm D).locals := by simp only [zrm]; omega
  obtain ⟨cq, hcq, hcn⟩ : ∃ cq, vwCl[ci]? = some cq ∧ cq.1 = y.cls := by
    cases hh : vwCl[ci]? with
    | none => rw [hh] at hci; cases hci
    | some cq => rw [hh] at hci; exact ⟨cq, rfl, Option.some.inj hci⟩
  have hlt : ci < 13 := by have := (List.getElem?_eq_some_iff.mp hcq).1; simpa [vwCl] using this
  have he : (zwl Γ mem)[b]? = some (zad Γ b, .inr (ci, (List.range (sNf ci)).map (zfv Γ mem b ci))) := by rw [zwl_at mem (Nat.lt_of_lt_of_le hb.1 F.1), zcell_obj hb.2 hlt]
  have hrecv := va_recv x6 hP hcq he
  rw [hcn] at hrecv
  have hpre : PreV s H y.cls (zad Γ b) (zPre Γ (.ref (zad Γ b) :: As) mem) As := ⟨zPre_blind _, hrecv, fun U hU hW => zPre_at x6 x7 x8 x9 hS hP hC hU hW⟩
  have hst : (F0 m pc ls (As.reverse ++ .ref (zad Γ b) :: rest)).stack = As.reverse ++ .ref (zad Γ b) :: rest := rfl
  rcases hl with hl | ⟨host, hl⟩
  · refine zg_run (va_runV (C := y.cls) (rest := rest) ⟨x1, x2, x3, x4, x5⟩ hM ⟨callB_of n x5 (zws_good y1) rfl rfl rfl (x5 _ y2) (x5 _ hl) y3 hroom, x5 _ hv.1, x5 _ hv.2⟩ hpre rfl hn hls.1 hst (lv_room hrest) d ⟨by simp [zrm], by simp [zrm]⟩) hls hS kk
  · refine zg_run (va_runVN (C := y.cls) (rest := rest) ⟨x1, x2, x3, x4, x5⟩ hM ⟨va_cnB n x5 (zws_good y1) rfl rfl rfl (x7.1 _ hl) (x5 _ y2) y3 hroom, x5 _ hv.1, x5 _ hv.2⟩ hpre rfl hn hls.1 hst (lv_room hrest) d ⟨by simp [zrm], by simp [zrm]⟩) hls hS kk
theorem zg_callS (C : zC X Γ own cc nL) {l : Launch} {D k dd : Nat} {ret0 : Option FieldType} {q0 : Int × zMem} {kd : Nat} (Z : zRt X l Γ D kd ret0 q0) {y : MethodName} {cy : ByteArray} {nY n : Nat} {ret : Option FieldType} {idx : Nat} {As rest : List Value} {q : Int × zMem} (hy : zCal y cy nY ret n) (hv : Cond.static y ∈ gw_tbl) (hl : zMl own idx y) (hn : As.length = n) (hd : dd + 1 ≤ D ∧ nY ≤ 41) (hrest : (rest.map fun v => v.category).sum ≤ 8) (d : decode cc pc = .ok (.invokestatic idx, 3)) (hM : zMet l y cy nY ret dd Γ k As mem q) (kk : zrk k q.1 → zg X Γ nL (pc + 3) lv ((zrv k q.1).toList ++ rest) q.2) : zg X Γ nL pc lv (As.reverse ++ rest) mem := by
  obtain ⟨p, l', e, R, s, m, args, below, meth, c, cs, sl, Q⟩ := X
  obtain ⟨rfl, rfl, z1, z2, rfl, rfl, zQ⟩ := Z
  intro ls H locs hls hS hP hC
  obtain ⟨x1, x2, x3, x4, x5, x6, x7, x8, x9⟩ := C
  obtain ⟨y1, y2, y3⟩ := hy
  have hroom : (zrm dd).frames + 1 ≤ (zrm D).frames ∧ 8 + (nY + 11) + (zrm dd).locals ≤ (zrm D).locals := by simp only [zrm]; omega
  have hpre : PreS s H (zPre Γ As mem) As := ⟨zPre_blind _, fun U hU hW => zPre_at x6 x7 x8 x9 hS hP hC hU hW⟩
  have hst : (F0 m pc ls (As.reverse ++ rest)).stack = As.reverse ++ rest := rfl
  rcases hl with hl | ⟨host, hl⟩
  · refine zg_run (va_runS (rest := rest) ⟨x1, x2, x3, x4, x5⟩ hM ⟨callB_of n x5 (zws_good y1) rfl rfl rfl (x5 _ y2) (x5 _ hl) y3 hroom, x5 _ hv⟩ hpre rfl hn hls.1 hst (lv_room hrest) d ⟨by simp [zrm], by simp [zrm]⟩) hls hS kk
  · refine zg_run (va_runSN (rest := rest) ⟨x1, x2, x3, x4, x5⟩ hM ⟨va_cnB n x5 (zws_good y1) rfl rfl rfl (x7.1 _ hl) (x5 _ y2) y3 hroom, x5 _ hv, trivial⟩ hpre rfl hn hls.1 hst (lv_room hrest) d ⟨by simp [zrm], by simp [zrm]⟩) hls hS kk
/-! calls by the kind of their answer -/
def zbind {ρ : Type} (f : Option (Int × zMem)) (K : Int → zMem → Option ρ) : Option ρ := match f with
  | none => none
  | some q => K q.1 q.2
theorem zj_none : zJ X Γ nL r none pc lv st mem := fun h => by cases h
theorem zj_bind {f : Option (Int × zMem)} {K : Int → zMem → Option ρ} (k : ∀ q, f = some q → zJ X Γ nL r (K q.1 q.2) pc lv st mem) : zJ X Γ nL r (zbind f K) pc lv st mem := by
  intro h
  cases hf : f with
  | none => rw [hf] at h; cases h
  | some q => rw [hf] at h; exact k q hf h
theorem zj_callVi (C : zC X Γ own cc nL) (F : zFull Γ) {l : Launch} {D dd : Nat} {ret0 : Option FieldType} {q0 : Int × zMem} {kd : Nat} (Z : zRt X l Γ D kd ret0 q0) {y : MethodName} {cy : ByteArray} {nY n : Nat} {ret : Option FieldType} {idx b ci : Nat} (As rest : List Value) {f : Option (Int × zMem)} {K : Int → zMem → Option ρ} (hy : zCal y cy nY ret n) (hv : zCalV y) (hl : zMl own idx y) (hb : zk b ci) (hci : (vwCl[ci]?).map (·.1) = some y.cls) (hn : As.length = n) (hd : dd + 1 ≤ D ∧ nY ≤ 41) (hrest : (rest.map fun v => v.category).sum ≤ 8) (hst : As.reverse ++ .ref (zad Γ b) :: rest = st) (d : decode cc pc = .ok (.invokevirtual idx, 3)) (hM : ∀ q, f = some q → zMet l y cy nY ret dd Γ 1 (.ref (zad Γ b) :: As) mem q) (kk : ∀ x m1, ir x → zJ X Γ nL r (K x m1) (pc + 3) lv (.int (i32 x) :: rest) m1) : zJ X Γ nL r (zbind f K) pc lv st mem := by
  subst hst
  exact zj_bind fun q hf h => zg_callV C F Z hy hv hl hb hci hn hd hrest d (hM q hf) (fun hk => kk q.1 q.2 hk h)
theorem zj_callVl (C : zC X Γ own cc nL) (F : zFull Γ) {l : Launch} {D dd : Nat} {ret0 : Option FieldType} {q0 : Int × zMem} {kd : Nat} (Z : zRt X l Γ D kd ret0 q0) {y : MethodName} {cy : ByteArray} {nY n : Nat} {ret : Option FieldType} {idx b ci : Nat} (As rest : List Value) {f : Option (Int × zMem)} {K : Int → zMem → Option ρ} (hy : zCal y cy nY ret n) (hv : zCalV y) (hl : zMl own idx y) (hb : zk b ci) (hci : (vwCl[ci]?).map (·.1) = some y.cls) (hn : As.length = n) (hd : dd + 1 ≤ D ∧ nY ≤ 41) (hrest : (rest.map fun v => v.category).sum ≤ 8) (hst : As.reverse ++ .ref (zad Γ b) :: rest = st) (d : decode cc pc = .ok (.invokevirtual idx, 3)) (hM : ∀ q, f = some q → zMet l y cy nY ret dd Γ 2 (.ref (zad Γ b) :: As) mem q) (kk : ∀ x m1, lr x → zJ X Γ nL r (K x m1) (pc + 3) lv (.long (i64 x) :: rest) m1) : zJ X Γ nL r (zbind f K) pc lv st mem := by
  subst hst
  exact zj_bind fun q hf h => zg_callV C F Z hy hv hl hb hci hn hd hrest d (hM q hf) (fun hk => kk q.1 q.2 hk h)
theorem zj_callVv (C : zC X Γ own cc nL) (F : zFull Γ) {l : Launch} {D dd : Nat} {ret0 : Option FieldType} {q0 : Int × zMem} {kd : Nat} (Z : zRt X l Γ D kd ret0 q0) {y : MethodName} {cy : ByteArray} {nY n : Nat} {ret : Option FieldType} {idx b ci : Nat} (As rest : List Value) {f : Option (Int × zMem)} {K : Int → zMem → Option ρ} (hy : zCal y cy nY ret n) (hv : zCalV y) (hl : zMl own idx y) (hb : zk b ci) (hci : (vwCl[ci]?).map (·.1) = some y.cls) (hn : As.length = n) (hd : dd + 1 ≤ D ∧ nY ≤ 41) (hrest : (rest.map fun v => v.category).sum ≤ 8) (hst : As.reverse ++ .ref (zad Γ b) :: rest = st) (d : decode cc pc = .ok (.invokevirtual idx, 3)) (hM : ∀ q, f = some q → zMet l y cy nY ret dd Γ 0 (.ref (zad Γ b) :: As) mem q) (kk : ∀ x m1, True → zJ X Γ nL r (K x m1) (pc + 3) lv (rest) m1) : zJ X Γ nL r (zbind f K) pc lv st mem := by
  subst hst
  exact zj_bind fun q hf h => zg_callV C F Z hy hv hl hb hci hn hd hrest d (hM q hf) (fun hk => kk q.1 q.2 hk h)
theorem zj_callSi (C : zC X Γ own cc nL) {l : Launch} {D dd : Nat} {ret0 : Option FieldType} {q0 : Int × zMem} {kd : Nat} (Z : zRt X l Γ D kd ret0 q0) {y : MethodName} {cy : ByteArray} {nY n : Nat} {ret : Option FieldType} {idx : Nat} (As rest : List Value) {f : Option (Int × zMem)} {K : Int → zMem → Option ρ} (hy : zCal y cy nY ret n) (hv : Cond.static y ∈ gw_tbl) (hl : zMl own idx y) (hn : As.length = n) (hd : dd + 1 ≤ D ∧ nY ≤ 41) (hrest : (rest.map fun v => v.category).sum ≤ 8) (hst : As.reverse ++ rest = st) (d : decode cc pc = .ok (.invokestatic idx, 3)) (hM : ∀ q, f = some q → zMet l y cy nY ret dd Γ 1 As mem q) (kk : ∀ x m1, ir x → zJ X Γ nL r (K x m1) (pc + 3) lv (.int (i32 x) :: rest) m1) : zJ X Γ nL r (zbind f K) pc lv st mem := by
  subst hst
  exact zj_bind fun q hf h => zg_callS C Z hy hv hl hn hd hrest d (hM q hf) (fun hk => kk q.1 q.2 hk h)
theorem zj_callSl (C : zC X Γ own cc nL) {l : Launch} {D dd : Nat} {ret0 : Option FieldType} {q0 : Int × zMem} {kd : Nat} (Z : zRt X l Γ D kd ret0 q0) {y : MethodName} {cy : ByteArray} {nY n : Nat} {ret : Option FieldType} {idx : Nat} (As rest : List Value) {f : Option (Int × zMem)} {K : Int → zMem → Option ρ} (hy : zCal y cy nY ret n) (hv : Cond.static y ∈ gw_tbl) (hl : zMl own idx y) (hn : As.length = n) (hd : dd + 1 ≤ D ∧ nY ≤ 41) (hrest : (rest.map fun v => v.category).sum ≤ 8) (hst : As.reverse ++ rest = st) (d : decode cc pc = .ok (.invokestatic idx, 3)) (hM : ∀ q, f = some q → zMet l y cy nY ret dd Γ 2 As mem q) (kk : ∀ x m1, lr x → zJ X Γ nL r (K x m1) (pc + 3) lv (.long (i64 x) :: rest) m1) : zJ X Γ nL r (zbind f K) pc lv st mem := by
  subst hst
  exact zj_bind fun q hf h => zg_callS C Z hy hv hl hn hd hrest d (hM q hf) (fun hk => kk q.1 q.2 hk h)
theorem zj_callSv (C : zC X Γ own cc nL) {l : Launch} {D dd : Nat} {ret0 : Option FieldType} {q0 : Int × zMem} {kd : Nat} (Z : zRt X l Γ D kd ret0 q0) {y : MethodName} {cy : ByteArray} {nY n : Nat} {ret : Option FieldType} {idx : Nat} (As rest : List Value) {f : Option (Int × zMem)} {K : Int → zMem → Option ρ} (hy : zCal y cy nY ret n) (hv : Cond.static y ∈ gw_tbl) (hl : zMl own idx y) (hn : As.length = n) (hd : dd + 1 ≤ D ∧ nY ≤ 41) (hrest : (rest.map fun v => v.category).sum ≤ 8) (hst : As.reverse ++ rest = st) (d : decode cc pc = .ok (.invokestatic idx, 3)) (hM : ∀ q, f = some q → zMet l y cy nY ret dd Γ 0 As mem q) (kk : ∀ x m1, True → zJ X Γ nL r (K x m1) (pc + 3) lv (rest) m1) : zJ X Γ nL r (zbind f K) pc lv st mem := by
  subst hst
  exact zj_bind fun q hf h => zg_callS C Z hy hv hl hn hd hrest d (hM q hf) (fun hk => kk q.1 q.2 hk h)
/-! loops: a body, so often -/
def zfuel {α : Type} (bot : α) (body : α → α) : Nat → α
  | 0 => bot
  | n + 1 => body (zfuel bot body n)
noncomputable def zN : Nat := Classical.choose (⟨1000000000000, Nat.le_refl _⟩ : ∃ n : Nat, 1000000000000 ≤ n)
theorem zN_ge : 1000000000000 ≤ zN := Classical.choose_spec (⟨1000000000000, Nat.le_refl _⟩ : ∃ n : Nat, 1000000000000 ≤ n)
/-- System.arraycopy from 0 to 0 -/
def zcpy (mem : zMem) (a b : Nat) (n : Int) : zMem := fun q j => if q = b ∧ 0 ≤ j ∧ j < n then mem a j else mem q j
theorem zcpy_off {a b : Nat} {n : Int} {p : Nat} (h : p ≠ b) : zcpy mem a b n p = mem p := by
  funext j
  simp [zcpy, h]
theorem zn_nat {n : Int} (hi : ir n) (h0 : 0 ≤ n) : (i32 n).toNatClampNeg = n.toNat := by have := ix_nat hi h0; omega
theorem ir_len (a : Nat) : ir ((sLen a : Nat) : Int) := by
  have h : ∀ a, a < 158 → sLen a ≤ 940 := by decide +kernel
  by_cases ha : a < 158
  · have := h a ha; constructor <;> omega
  · have : sLen a = 0 := by
      unfold sLen
      rw [List.getD_eq_getElem?_getD, List.getElem?_eq_none (by simp [sLl]; omega)]
      rfl
    rw [this]; decide
theorem zj_acopyI (C : zC X Γ own cc nL) (F : zFull Γ) {l : Launch} {D : Nat} {ret0 : Option FieldType} {q0 : Int × zMem} {kd : Nat} (Z : zRt X l Γ D kd ret0 q0) {idx a b : Nat} {n : Int} (hD : 1 ≤ D) (ha : zk a 13) (hb : zk b 13) (hn : ir n) (hl : Cond.methodLink own idx arraycopyName ∈ gw_tbl) (h1 : Cond.native arraycopyName ∈ gw_tbl) (h2 : Cond.static arraycopyName ∈ gw_tbl) (h3 : Cond.initialized "java/lang/System" ∈ gw_tbl) (d : decode cc pc = .ok (.invokestatic idx, 3)) (kk : zJ X Γ nL r A (pc + 3) lv [] (zcpy mem a b n)) : zJ X Γ nL r (if 0 ≤ n ∧ n ≤ (sLen a : Int) ∧ n ≤ (sLen b : Int) then A else none) pc lv [.int (i32 n), .int (i32 0), .ref (zad Γ b), .int (i32 0), .ref (zad Γ a)] mem := by
  refine zj_chk (fun hx h => ?_)
  obtain ⟨p, l', e, R, s, m, args, below, meth, c, cs, sl, Q⟩ := X
  obtain ⟨rfl, rfl, z1, z2, rfl, rfl, zQ⟩ := Z
  intro ls H locs hls hS hP hC
  obtain ⟨x1, x2, x3, x4, x5, x6, x7, x8, x9⟩ := C
  have ea : (zwl Γ mem)[a]? = some (zad Γ a, .inl (gY Γ 0, sLen a, .inl fun j => i32 (mem a (j : Nat)))) := by rw [zwl_at mem (Nat.lt_of_lt_of_le ha.1 F.1), zcell_13 ha.2]
  have eb : (zwl Γ mem)[b]? = some (zad Γ b, .inl (gY Γ 0, sLen b, .inl fun j => i32 (mem b (j : Nat)))) := by rw [zwl_at mem (Nat.lt_of_lt_of_le hb.1 F.1), zcell_13 hb.2]
  have en := zn_nat hn hx.1
  have e0 : (i32 0).toNatClampNeg = 0 := rfl
  refine va_copyi (ty := .int) x1 x2 (by rw [x3]; exact hls.1.symm) x4 (x5 _ hl) (x5 _ h1) (x5 _ h2) (x5 _ h3) x6 hP (zD x9 mem) hS a b 0 0 ea eb rfl rfl rfl (by decide) (by decide) (by rw [Int32.lt_iff_toInt_lt, i32_toInt hn]; show ¬ n < 0; omega) (by rw [en, e0]; omega) (by rw [en, e0]; omega) (fun _ _ => rfl) (show 1 ≤ D from hD) (show 0 + (nativeFrameWords "java/lang/System" "arraycopy" 5 + 11) ≤ 60 * D from Nat.le_trans (by decide) (Nat.mul_le_mul_left 60 hD)) d (fun H1 locs1 hP1 _ hS1 => ?_)
  have hse : va_cpy (fun j : Nat => i32 (mem a (j : Nat))) (fun j : Nat => i32 (mem b (j : Nat))) (i32 0).toNatClampNeg (i32 0).toNatClampNeg (i32 n).toNatClampNeg = fun j : Nat => i32 (zcpy mem a b n b (j : Nat)) := by
    funext j
    rw [en, e0]
    unfold va_cpy zcpy
    by_cases hj : (j : Int) < n
    · rw [if_pos ⟨Nat.zero_le _, by omega⟩, if_pos ⟨rfl, by omega, hj⟩]
      simp
    · rw [if_neg (by omega), if_neg (by omega)]
  rw [hse, zwl_set (mem' := zcpy mem a b n) (zcell_13 hb.2) (fun p hp => zcpy_off hp)] at hP1
  refine kk h ls H1 locs1 hls hS1 hP1 (fun q j => ?_)
  unfold zcpy
  by_cases hq : q = b ∧ 0 ≤ j ∧ j < n
  · rw [if_pos hq]
    have e1 : zlg q j = false := by rw [hq.1]; simp [zlg, hb.2]
    have e2 : zlg a j = false := by simp [zlg, ha.2]
    rw [e1, ← e2]
    exact hC a j
  · rw [if_neg hq]
    exact hC q j
theorem zj_acopyL (C : zC X Γ own cc nL) (F : zFull Γ) {l : Launch} {D : Nat} {ret0 : Option FieldType} {q0 : Int × zMem} {kd : Nat} (Z : zRt X l Γ D kd ret0 q0) {idx a b : Nat} {n : Int} (hD : 1 ≤ D) (ha : zk a 14) (hb : zk b 14) (hn : ir n) (hl : Cond.methodLink own idx arraycopyName ∈ gw_tbl) (h1 : Cond.native arraycopyName ∈ gw_tbl) (h2 : Cond.static arraycopyName ∈ gw_tbl) (h3 : Cond.initialized "java/lang/System" ∈ gw_tbl) (d : decode cc pc = .ok (.invokestatic idx, 3)) (kk : zJ X Γ nL r A (pc + 3) lv [] (zcpy mem a b n)) : zJ X Γ nL r (if 0 ≤ n ∧ n ≤ (sLen a : Int) ∧ n ≤ (sLen b : Int) then A else none) pc lv [.int (i32 n), .int (i32 0), .ref (zad Γ b), .int (i32 0), .ref (zad Γ a)] mem := by
  refine zj_chk (fun hx h => ?_)
  obtain ⟨p, l', e, R, s, m, args, below, meth, c, cs, sl, Q⟩ := X
  obtain ⟨rfl, rfl, z1, z2, rfl, rfl, zQ⟩ := Z
  intro ls H locs hls hS hP hC
  obtain ⟨x1, x2, x3, x4, x5, x6, x7, x8, x9⟩ := C
  have ea : (zwl Γ mem)[a]? = some (zad Γ a, .inl (gY Γ 1, sLen a, .inr (.inl fun j => i64 (mem a (j : Nat))))) := by rw [zwl_at mem (Nat.lt_of_lt_of_le ha.1 F.1), zcell_14 ha.2]
  have eb : (zwl Γ mem)[b]? = some (zad Γ b, .inl (gY Γ 1, sLen b, .inr (.inl fun j => i64 (mem b (j : Nat))))) := by rw [zwl_at mem (Nat.lt_of_lt_of_le hb.1 F.1), zcell_14 hb.2]
  have en := zn_nat hn hx.1
  have e0 : (i32 0).toNatClampNeg = 0 := rfl
  refine va_copyl x1 x2 (by rw [x3]; exact hls.1.symm) x4 (x5 _ hl) (x5 _ h1) (x5 _ h2) (x5 _ h3) x6 hP (zD x9 mem) hS a b 1 1 ea eb rfl rfl rfl (by decide) (by decide) (by rw [Int32.lt_iff_toInt_lt, i32_toInt hn]; show ¬ n < 0; omega) (by rw [en, e0]; omega) (by rw [en, e0]; omega) (fun _ _ => rfl) (show 1 ≤ D from hD) (show 0 + (nativeFrameWords "java/lang/System" "arraycopy" 5 + 11) ≤ 60 * D from Nat.le_trans (by decide) (Nat.mul_le_mul_left 60 hD)) d (fun H1 locs1 hP1 _ hS1 => ?_)
  have hse : va_cpy (fun j : Nat => i64 (mem a (j : Nat))) (fun j : Nat => i64 (mem b (j : Nat))) (i32 0).toNatClampNeg (i32 0).toNatClampNeg (i32 n).toNatClampNeg = fun j : Nat => i64 (zcpy mem a b n b (j : Nat)) := by
    funext j
    rw [en, e0]
    unfold va_cpy zcpy
    by_cases hj : (j : Int) < n
    · rw [if_pos ⟨Nat.zero_le _, by omega⟩, if_pos ⟨rfl, by omega, hj⟩]
      simp
    · rw [if_neg (by omega), if_neg (by omega)]
  rw [hse, zwl_set (mem' := zcpy mem a b n) (zcell_14 hb.2) (fun p hp => zcpy_off hp)] at hP1
  refine kk h ls H1 locs1 hls hS1 hP1 (fun q j => ?_)
  unfold zcpy
  by_cases hq : q = b ∧ 0 ≤ j ∧ j < n
  · rw [if_pos hq]
    have e1 : zlg q j = true := by rw [hq.1]; simp [zlg, hb.2]
    have e2 : zlg a j = true := by simp [zlg, ha.2]
    rw [e1, ← e2]
    exact hC a j
  · rw [if_neg hq]
    exact hC q j
/-! Math.max, Math.min -/
def zmax (x y : Int) : Int := if x < y then y else x
def zmin (x y : Int) : Int := if y < x then y else x
theorem ir_max {x y : Int} (hx : ir x) (hy : ir y) : ir (zmax x y) := by unfold zmax; split <;> assumption
theorem ir_min {x y : Int} (hx : ir x) (hy : ir y) : ir (zmin x y) := by unfold zmin; split <;> assumption
theorem zj_mmax (C : zC X Γ own cc nL) {l : Launch} {D : Nat} {ret0 : Option FieldType} {q0 : Int × zMem} {kd : Nat} (Z : zRt X l Γ D kd ret0 q0) {idx : Nat} {x y : Int} (hD : 1 ≤ D) (hx : ir x) (hy : ir y) (hst : (st.map fun v => v.category).sum ≤ 8) (hl : Cond.methodLink own idx Lib.Math.max.name ∈ gw_tbl) (h1 : Cond.static Lib.Math.max.name ∈ gw_tbl) (h2 : Cond.initialized "java/lang/Math" ∈ gw_tbl) (h3 : Cond.code Lib.Math.max.name Lib.Math.max.code 2 (some .int) ∈ gw_tbl) (d : decode cc pc = .ok (.invokestatic idx, 3)) (kk : zJ X Γ nL r T (pc + 3) lv (.int (i32 (zmax x y)) :: st) mem) : zJ X Γ nL r T pc lv (.int (i32 y) :: .int (i32 x) :: st) mem := by
  obtain ⟨p, l', e, R, s, m, args, below, meth, c, cs, sl, Q⟩ := X
  obtain ⟨rfl, rfl, z1, z2, rfl, rfl, zQ⟩ := Z
  intro h ls H locs hls hS hP hC
  refine va_mmax C.1 C.2.1 (by rw [C.2.2.1]; exact hls.1.symm) C.2.2.2.1 (C.2.2.2.2.1 _ hl) (C.2.2.2.2.1 _ h1) (C.2.2.2.2.1 _ h2) (C.2.2.2.2.1 _ h3) (show 1 ≤ D from hD) (show _ + 13 ≤ 60 * D by omega) (by simp) (by simp) d ?_
  have e1 : (if i32 x < i32 y then i32 y else i32 x) = i32 (zmax x y) := by
    unfold zmax
    by_cases hxy : x < y
    · rw [if_pos ((i32_lt hx hy).mpr hxy), if_pos hxy]
    · rw [if_neg (fun q => hxy ((i32_lt hx hy).mp q)), if_neg hxy]
  rw [e1]
  exact kk h ls H locs hls hS hP hC
theorem zj_mmin (C : zC X Γ own cc nL) {l : Launch} {D : Nat} {ret0 : Option FieldType} {q0 : Int × zMem} {kd : Nat} (Z : zRt X l Γ D kd ret0 q0) {idx : Nat} {x y : Int} (hD : 1 ≤ D) (hx : ir x) (hy : ir y) (hst : (st.map fun v => v.category).sum ≤ 8) (hl : Cond.methodLink own idx Lib.Math.min.name ∈ gw_tbl) (h1 : Cond.static Lib.Math.min.name ∈ gw_tbl) (h2 : Cond.initialized "java/lang/Math" ∈ gw_tbl) (h3 : Cond.code Lib.Math.min.name Lib.Math.min.code 2 (some .int) ∈ gw_tbl) (d : decode cc pc = .ok (.invokestatic idx, 3)) (kk : zJ X Γ nL r T (pc + 3) lv (.int (i32 (zmin x y)) :: st) mem) : zJ X Γ nL r T pc lv (.int (i32 y) :: .int (i32 x) :: st) mem := by
  obtain ⟨p, l', e, R, s, m, args, below, meth, c, cs, sl, Q⟩ := X
  obtain ⟨rfl, rfl, z1, z2, rfl, rfl, zQ⟩ := Z
  intro h ls H locs hls hS hP hC
  refine va_mmin C.1 C.2.1 (by rw [C.2.2.1]; exact hls.1.symm) C.2.2.2.1 (C.2.2.2.2.1 _ hl) (C.2.2.2.2.1 _ h1) (C.2.2.2.2.1 _ h2) (C.2.2.2.2.1 _ h3) (show 1 ≤ D from hD) (show _ + 13 ≤ 60 * D by omega) (by simp) (by simp) d ?_
  have e1 : (if i32 y < i32 x then i32 y else i32 x) = i32 (zmin x y) := by
    unfold zmin
    by_cases hxy : y < x
    · rw [if_pos ((i32_lt hy hx).mpr hxy), if_pos hxy]
    · rw [if_neg (fun q => hxy ((i32_lt hy hx).mp q)), if_neg hxy]
  rw [e1]
  exact kk h ls H locs hls hS hP hC
end ROWS
