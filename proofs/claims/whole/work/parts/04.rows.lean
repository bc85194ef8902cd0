/-! The machine at a method's frame, the world of the objects at hand -/
abbrev zM : Type := Program × Launch × Env × Room × State × MethodId × Array Value × List Frame × Method × Code × Nat × Nat × (State → Prop)
def zC (X : zM) (Γ : zG) (own : String) (cc : ByteArray) (nL : Nat) : Prop := match X with
  | (p, _, _, _, s, m, args, _, _, c, _, _, _) => p.tables.exec = Jvm.exec ∧ c.code = cc ∧ c.maxLocals = nL ∧ s.vm.findClass own = some m.cls ∧ (∀ w ∈ gw_tbl, w.before args s = true) ∧ va_K (gC Γ, gI Γ) vwCl (ztys Γ) s ∧ zE Γ s s.heap ∧ gB Γ ≤ s.heap.size
/-- from a frame at pc with these locals and this stack, in any heap that holds the objects, the machine comes to its end -/
def zg (X : zM) (Γ : zG) (nL pc : Nat) (lv : List (Nat × Value)) (st : List Value) (mem : zMem) : Prop := match X with
  | (p, l, e, R, s, m, args, below, meth, c, cs, sl, Q) => ∀ (ls : Array Slot) (H : Heap) (locs : List Loc), lv_has ls nL lv → va_S (zA Γ) s.heap H locs → va_P (gC Γ, gI Γ) vwCl (zwl Γ mem) H → zCn mem → W p l e R s m args below meth c H locs cs sl Q (F0 m pc ls st)
def zJ {ρ : Type} (X : zM) (Γ : zG) (nL : Nat) (r : ρ) (T : Option ρ) (pc : Nat) (lv : List (Nat × Value)) (st : List Value) (mem : zMem) : Prop := T = some r → zg X Γ nL pc lv st mem
section ROWS
variable {ρ : Type} {X : zM} {Γ : zG} {own : String} {cc : ByteArray} {nL : Nat} {r : ρ} {T A B : Option ρ} {pc : Nat} {lv : List (Nat × Value)} {st : List Value} {mem : zMem}
theorem zj_iconst (C : zC X Γ own cc nL) (n : Int) (d : decode cc pc = .ok (.iconst n, 1)) (k : zJ X Γ nL r T (pc + 1) lv (.int (i32 n) :: st) mem) : zJ X Γ nL r T pc lv st mem := by
  obtain ⟨p, l, e, R, s, m, args, below, meth, c, cs, sl, Q⟩ := X
  exact fun h ls H locs hl hS hP hC => lv_iconst C.1 C.2.1 d rfl (k h ls H locs hl hS hP hC)
theorem zj_bipush (C : zC X Γ own cc nL) (n : Int) (d : decode cc pc = .ok (.bipush n, 2)) (hv : (Int8.ofInt n).toInt32 = i32 n) (k : zJ X Γ nL r T (pc + 2) lv (.int (i32 n) :: st) mem) : zJ X Γ nL r T pc lv st mem := by
  obtain ⟨p, l, e, R, s, m, args, below, meth, c, cs, sl, Q⟩ := X
  exact fun h ls H locs hl hS hP hC => lv_bipush C.1 C.2.1 d hv (k h ls H locs hl hS hP hC)
theorem zj_sipush (C : zC X Γ own cc nL) (n : Int) (d : decode cc pc = .ok (.sipush n, 3)) (hv : (Int16.ofInt n).toInt32 = i32 n) (k : zJ X Γ nL r T (pc + 3) lv (.int (i32 n) :: st) mem) : zJ X Γ nL r T pc lv st mem := by
  obtain ⟨p, l, e, R, s, m, args, below, meth, c, cs, sl, Q⟩ := X
  exact fun h ls H locs hl hS hP hC => lv_sipush C.1 C.2.1 d hv (k h ls H locs hl hS hP hC)
theorem zj_iload_n (C : zC X Γ own cc nL) {j : Fin 4} {i : Nat} {x : Int} (d : decode cc pc = .ok (.iload_n j, 1)) (hi : (j : Nat) = i) (w : Nat) (hw : lv[w]? = some (i, .int (i32 x))) (k : zJ X Γ nL r T (pc + 1) lv (.int (i32 x) :: st) mem) : zJ X Γ nL r T pc lv st mem := by
  obtain ⟨p, l, e, R, s, m, args, below, meth, c, cs, sl, Q⟩ := X
  exact fun h ls H locs hl hS hP hC => lv_iload_n C.1 C.2.1 d hi (lv_at hl w hw) (k h ls H locs hl hS hP hC)
theorem zj_aload_n (C : zC X Γ own cc nL) {j : Fin 4} {i a : Nat} (d : decode cc pc = .ok (.aload_n j, 1)) (hi : (j : Nat) = i) (w : Nat) (hw : lv[w]? = some (i, .ref a)) (k : zJ X Γ nL r T (pc + 1) lv (.ref a :: st) mem) : zJ X Γ nL r T pc lv st mem := by
  obtain ⟨p, l, e, R, s, m, args, below, meth, c, cs, sl, Q⟩ := X
  exact fun h ls H locs hl hS hP hC => lv_aload_n C.1 C.2.1 d hi (lv_at hl w hw) (k h ls H locs hl hS hP hC)
theorem zj_goto (C : zC X Γ own cc nL) {off : Int} {tgt : Nat} (d : decode cc pc = .ok (.goto off, 3)) (ht : (pc : Int) + off = (tgt : Int)) (k : zJ X Γ nL r T tgt lv st mem) : zJ X Γ nL r T pc lv st mem := by
  obtain ⟨p, l, e, R, s, m, args, below, meth, c, cs, sl, Q⟩ := X
  exact fun h ls H locs hl hS hP hC => lv_goto C.1 C.2.1 d ht (k h ls H locs hl hS hP hC)
theorem zite {c : Prop} {inst : Decidable c} {A B : Option ρ} {r : ρ} {P : Prop} (h : (if c then A else B) = some r) (t : c → A = some r → P) (f : ¬ c → B = some r → P) : P := by
  by_cases hc : c
  · rw [if_pos hc] at h; exact t hc h
  · rw [if_neg hc] at h; exact f hc h
theorem zj_if_lt (C : zC X Γ own cc nL) {x : Int} {off : Int} {tgt : Nat} (hx : ir x) (d : decode cc pc = .ok (.ifCond .lt off, 3)) (ht : (pc : Int) + off = (tgt : Int)) (kt : x < 0 → zJ X Γ nL r A tgt lv st mem) (kf : ¬ x < 0 → zJ X Γ nL r B (pc + 3) lv st mem) : zJ X Γ nL r (if x < 0 then A else B) pc lv (.int (i32 x) :: st) mem := by
  obtain ⟨p, l, e, R, s, m, args, below, meth, c, cs, sl, Q⟩ := X
  intro h ls H locs hl hS hP hC
  have e : i32 x < 0 ↔ x < 0 := i32_lt hx ir0
  refine lv_if_lt C.1 C.2.1 d ht (fun q => ?_) (fun q => ?_)
  · exact kt (e.mp q) (by rw [if_pos (e.mp q)] at h; exact h) ls H locs hl hS hP hC
  · exact kf (fun z => q (e.mpr z)) (by rw [if_neg (fun z => q (e.mpr z))] at h; exact h) ls H locs hl hS hP hC
theorem zj_icmp_ge (C : zC X Γ own cc nL) {x y : Int} {off : Int} {tgt : Nat} (hx : ir x) (hy : ir y) (d : decode cc pc = .ok (.if_icmp .ge off, 3)) (ht : (pc : Int) + off = (tgt : Int)) (kt : x ≥ y → zJ X Γ nL r A tgt lv st mem) (kf : ¬ x ≥ y → zJ X Γ nL r B (pc + 3) lv st mem) : zJ X Γ nL r (if x ≥ y then A else B) pc lv (.int (i32 y) :: .int (i32 x) :: st) mem := by
  obtain ⟨p, l, e, R, s, m, args, below, meth, c, cs, sl, Q⟩ := X
  intro h ls H locs hl hS hP hC
  have e : i32 y ≤ i32 x ↔ x ≥ y := i32_le hy hx
  refine lv_icmp_ge C.1 C.2.1 d ht (fun q => ?_) (fun q => ?_)
  · exact kt (e.mp q) (by rw [if_pos (e.mp q)] at h; exact h) ls H locs hl hS hP hC
  · exact kf (fun z => q (e.mpr z)) (by rw [if_neg (fun z => q (e.mpr z))] at h; exact h) ls H locs hl hS hP hC
/-- a field of a class by its place, linked from own at idx -/
def zFl (own : String) (idx ci k : Nat) : Prop := ∃ (C : String) (T : u_T) (N : Nat) (ty : Nat → FieldType), vwCl[ci]? = some (C, T, N) ∧ ci < 13 ∧ N = sNf ci ∧ k < N ∧ (T k).1 = C ∧ (∀ w ∈ u_ws C T N, w ∈ gw_tbl) ∧ (∀ k, k < N → parseFieldDescriptor (T k).2.2.1 = some (ty k)) ∧ (∀ a, a < N → ∀ b, b < N → a ≠ b → (T a).2.1 ≠ (T b).2.1) ∧ (Cond.fieldLink own idx C (T k).2.1 (T k).2.2.1 ∈ gw_tbl ∨ ∃ host, Cond.fieldLinkNest own idx C (T k).2.1 (T k).2.2.1 host ∈ nw_tbl)
theorem zcell_obj {mem : zMem} {q ci : Nat} (hq : sK q = ci) (hc : ci < 13) : zcell Γ mem q = .inr (ci, (List.range (sNf ci)).map (zfv Γ mem q ci)) := by
  subst hq
  unfold zcell
  split <;> first | rfl | omega
theorem zfs_at {mem : zMem} {q ci k : Nat} (hk : k < sNf ci) : ((List.range (sNf ci)).map (zfv Γ mem q ci))[k]? = some (zfv Γ mem q ci k) := by
  rw [List.getElem?_map, List.getElem?_range hk]
  rfl
theorem zg_get (C : zC X Γ own cc nL) {ci k idx q : Nat} (hq : q < gN Γ) (hk : sK q = ci) (hl : zFl own idx ci k) (d : decode cc pc = .ok (.getfield idx, 3)) (kk : zg X Γ nL (pc + 3) lv (zfv Γ mem q ci k :: st) mem) : zg X Γ nL pc lv (.ref (zad Γ q) :: st) mem := by
  obtain ⟨p, l, e, R, s, m, args, below, meth, c, cs, sl, Q⟩ := X
  intro ls H locs hls hS hP hC
  obtain ⟨cn, tt, N, ty, h1, h2, h3, h4, h5, h6, h7, h8, h9⟩ := hl
  subst h3
  have he : (zwl Γ mem)[q]? = some (zad Γ q, .inr (ci, (List.range (sNf ci)).map (zfv Γ mem q ci))) := by rw [zwl_at mem hq, zcell_obj hk h2]
  rcases h9 with h9 | ⟨host, h9⟩
  · exact va_get C.1 C.2.1 C.2.2.2.2.1 h6 C.2.2.2.1 C.2.2.2.2.2.1 hP q he h1 k h4 (C.2.2.2.2.1 _ h9) (fun x hx => by rw [h5] at hx; exact hx) (zfs_at h4) d (kk ls H locs hls hS hP hC)
  · exact va_getN C.1 C.2.1 C.2.2.2.2.1 h6 C.2.2.2.1 C.2.2.2.2.2.1 hP q he h1 k h4 (va_Nw.use rfl (C.2.2.2.2.2.2.1.1 _ h9)) (fun x hx => by rw [h5] at hx; exact hx) (zfs_at h4) d (kk ls H locs hls hS hP hC)
theorem zrg_i {q : Nat} {j : Int} {x : Int} (h : zlg q j = false) (hx : zrg (zlg q j) x) : ir x := by rw [h] at hx; simpa [zrg] using hx
theorem zj_getI (C : zC X Γ own cc nL) (F : zFull Γ) {ci k idx q : Nat} (hq : zk q ci) (hl : zFl own idx ci k) (hf : sFk ci k = 0) (d : decode cc pc = .ok (.getfield idx, 3)) (kk : ir (mem q k) → zJ X Γ nL r T (pc + 3) lv (.int (i32 (mem q k)) :: st) mem) : zJ X Γ nL r T pc lv (.ref (zad Γ q) :: st) mem := by
  intro h
  have hlt : ci < 13 := by obtain ⟨_, _, _, _, _, h2, _⟩ := hl; exact h2
  have key : zCn mem → zg X Γ nL (pc + 3) lv (zfv Γ mem q ci k :: st) mem := fun hC => by
    have e : zfv Γ mem q ci k = .int (i32 (mem q k)) := by unfold zfv; rw [hf]
    rw [e]
    refine kk (zrg_i ?_ (hC q k)) h
    unfold zlg
    rw [hq.2, if_neg (by omega), if_pos hlt]
    simp [hf]
  have base := fun hC => zg_get C (by rw [F.1]; exact hq.1) hq.2 hl d (key hC)
  obtain ⟨p, l, e, R, s, m, args, below, meth, c, cs, sl, Q⟩ := X
  exact fun ls H locs hls hS hP hC => base hC ls H locs hls hS hP hC
end ROWS
