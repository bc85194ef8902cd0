/-! the law: its own rows (as the constructors', for a method that is no constructor) -/
section LAW
variable {X : zM} {Γ : zG} {own : String} {cc : ByteArray} {nL pc cs sl : Nat} {lv : List (Nat × Value)} {st : List Value} {mem : zMem}
def lC (X : zM) (Γ : zG) (own : String) (cc : ByteArray) (nL : Nat) : Prop := zC X Γ own cc nL ∧ kI Γ ∧ kAO X
theorem lg_new (C : lC (kX X cs sl) Γ own cc nL) {n ci idx : Nat} (hn : gN Γ = n) (hk : sK n = ci) {L : Nat} (hLn : sNf ci = L) (hc : kCl own idx ci) (hm : ∀ j, mem n j = 0) (hr : cs + 1 ≤ (kR X).cells ∧ sl + L ≤ (kR X).slots) (d : decode cc pc = .ok (.new idx, 3)) (kk : ∀ (Γ' : zG) (a : Nat), kS Γ Γ' → gN Γ' = n + 1 → gD Γ' n = a → lC (kX X (cs + 1) (sl + L)) Γ' own cc nL → zg (kX X (cs + 1) (sl + L)) Γ' nL (pc + 3) lv (.ref a :: st) mem) : zg (kX X cs sl) Γ nL pc lv st mem := by
  subst hLn
  obtain ⟨p, l, e, R, s, m, args, below, meth, c, cs0, sl0, Q⟩ := X
  obtain ⟨C, hI, hao⟩ := C
  obtain ⟨cn, tt, N, ty, h1, h2, h3, h4, h5, h6, h7, h8, h9⟩ := hc
  subst h3
  intro ls H locs hls hS hP hC
  refine va_new (ci := ci) (fs := (List.range (sNf ci)).map (zdf ci)) C.1 C.2.1 C.2.2.2.2.1 h4 ty h5 C.2.2.2.1 (C.2.2.2.2.1 _ h6) (C.2.2.2.2.1 _ h7) (C.2.2.2.2.1 _ h8) C.2.2.2.2.2.1 hP (zD C.2.2.2.2.2.2.2.2 mem) hS (fun q hq => Nat.le_trans C.2.2.2.2.2.2.2.1 hq) h1 h9 hr.1 hr.2 d (fun a H1 hP1 hD1 hS1 => ?_)
  have ew := zwl_new (mem := mem) a hI
  rw [hn] at ew
  have ec : zcell (gMk Γ (n + 1) (gF Γ) (fun q => if q = n then a else gD Γ q)) mem n = .inr (ci, (List.range (sNf ci)).map (zdf ci)) := by
    have ef : zfv (gMk Γ (n + 1) (gF Γ) (fun q => if q = n then a else gD Γ q)) mem n ci = zdf ci := by
      funext k
      have hf : zrf (gMk Γ (n + 1) (gF Γ) (fun q => if q = n then a else gD Γ q)) n k = none := by
        unfold zrf
        rw [if_neg (by show ¬ gF Γ n k = true; rw [kF_new hI hn k]; decide)]
      unfold zfv zdf
      rw [hm k, hf]
      rfl
    rw [zcell_obj hk h2, ef]
  rw [ec] at ew
  rw [← ew] at hP1 hD1
  exact kk _ a (kS_new hn) rfl (if_pos rfl) ⟨zC_s C (kS_new hn) (zInj_of hD1), kI_new hI hn, hao⟩ ls H1 locs hls hS1 hP1 hC
theorem lg_newL (C : lC (kX X cs sl) Γ own cc nL) {n : Nat} {x : Int} (hn : gN Γ = n) (hk : sK n = 14) {L : Nat} (hLn : sLen n = L) (hx : ((L : Nat) : Int) = x) (hxb : x ≤ 1000) (hm : ∀ j, mem n j = 0) (hr : cs + 1 ≤ (kR X).cells ∧ sl + L ≤ (kR X).slots) (ha : Cond.arrayClass .long ∈ gw_tbl) (d : decode cc pc = .ok (.newarray .long, 2)) (kk : ∀ (Γ' : zG) (a : Nat), kS Γ Γ' → gN Γ' = n + 1 → gD Γ' n = a → lC (kX X (cs + 1) (sl + L)) Γ' own cc nL → zg (kX X (cs + 1) (sl + L)) Γ' nL (pc + 2) lv (.ref a :: st) mem) : zg (kX X cs sl) Γ nL pc lv (.int (i32 x) :: st) mem := by
  subst hLn
  obtain ⟨p, l, e, R, s, m, args, below, meth, c, cs0, sl0, Q⟩ := X
  obtain ⟨C, hI, hao⟩ := C
  intro ls H locs hls hS hP hC
  have hi : ir x := ⟨by omega, by omega⟩
  have en : (i32 x).toNatClampNeg = sLen n := by have := zn_nat hi (by omega); omega
  refine va_newa (atype := .long) (ty := .long) (N' := sLen n) (a0 := (sLen n, .inr (.inl fun _ => 0))) C.1 C.2.1 (C.2.2.2.2.1 _ ha) rfl C.2.2.2.2.2.1 hP (zD C.2.2.2.2.2.2.2.2 mem) hS (fun q hq => Nat.le_trans C.2.2.2.2.2.2.2.1 hq) (fun cA => rfl) (by rw [Int32.lt_iff_toInt_lt, i32_toInt hi]; show ¬ x < 0; omega) en (by show sLen n * 8 ≤ 536870912; omega) hr.1 hr.2 d (fun a cA H1 hK1 hP1 hD1 hS1 => ?_)
  have ec : zcell (gMk Γ (n + 1) (gF Γ) (fun q => if q = n then a else gD Γ q)) mem n = .inl (gY Γ 1, (sLen n, .inr (.inl fun _ => 0))) := by
    rw [zcell_14 hk]
    simp only [hm]
    rfl
  obtain ⟨hP2, hD2⟩ := kg_row (t := 1) hI hn C.2.2.2.2.2.1 hK1 rfl (Or.inr (Or.inl rfl)) ec hP1 hD1
  exact kk _ a (kS_new hn) rfl (if_pos rfl) ⟨zC_s C (kS_new hn) (zInj_of hD2), kI_new hI hn, hao⟩ ls H1 locs hls hS1 hP2 hC
theorem lg_callI (C : lC (kX X cs sl) Γ own cc nL) {l : Launch} (hl0 : X.2.1 = l) {y : MethodName} {cy : ByteArray} {nY n idx b dd mc ms q N' : Nat} {As rest : List Value} {mem' : zMem} (hy : zCal y cy nY none n) (hyn : y.name = "<init>") (hyi : Cond.instanceMethod y ∈ gw_tbl) (hl : zMl own idx y) (hn : As.length = n) (hR : dd + 1 ≤ (kR X).frames ∧ 8 + (nY + 11) + 60 * dd ≤ (kR X).locals ∧ cs + mc ≤ (kR X).cells ∧ sl + ms ≤ (kR X).slots) (hrest : (rest.map fun v => v.category).sum ≤ 8) (d : decode cc pc = .ok (.invokespecial idx, 3)) (hM : kMet l y cy nY dd mc ms Γ q N' (.ref b :: As) mem mem') (hst : st = As.reverse ++ .ref b :: rest) (kk : ∀ Γ' : zG, kS Γ Γ' → gN Γ' = N' → kFl Γ Γ' q N' → lC (kX X (cs + mc) (sl + ms)) Γ' own cc nL → zg (kX X (cs + mc) (sl + ms)) Γ' nL (pc + 3) lv rest mem') : zg (kX X cs sl) Γ nL pc lv st mem := by
  subst hst
  obtain ⟨p, l', e, R, s, m, args, below, meth, c, cs0, sl0, Q⟩ := X
  have hl0 : l' = l := hl0
  subst hl0
  obtain ⟨C, hI, hao⟩ := C
  intro ls H locs hls hS hP hC
  obtain ⟨x1, x2, x3, x4, x5, x6, x7, x8, x9⟩ := id C
  obtain ⟨y1, y2, y3⟩ := hy
  have hroom : (kRm dd mc ms).frames + 1 ≤ R.frames ∧ 8 + (nY + 11) + (kRm dd mc ms).locals ≤ R.locals := ⟨hR.1, hR.2.1⟩
  have hpre : PreS s H (kPre Γ (.ref b :: As) mem) (.ref b :: As) := ⟨fun a U g mk h => ⟨zPre_blind _ a U g mk h.1, h.2.1, va_AO.moved (u := U) (U := U.calling g mk a) (Vm.Alike.refl _) h.2.2.1, va_AO.moved (u := U) (U := U.calling g mk a) (Vm.Alike.refl _) h.2.2.2⟩, fun U hU hW => ⟨zPre_at x6 x7 x8 x9 hS hP hC hU hW, hI, va_AO.moved hW.alike hao.1, va_AO.moved hW.alike hao.2⟩⟩
  have hst : (F0 m pc ls (As.reverse ++ .ref b :: rest)).stack = As.reverse ++ .ref b :: rest := rfl
  have hr : va_Run p l' e R s m args below meth c H locs cs sl mc ms (F0 m pc ls (As.reverse ++ .ref b :: rest)) rest (kPost Γ q N' mem' (Value.ref b :: As).toArray) (zA Γ) := by
    rcases hl with hl | ⟨host, hl⟩
    · exact va_runI (rest := rest) ⟨x1, x2, x3, x4, x5⟩ hM ⟨callB_of n x5 (zws_good y1) rfl rfl rfl (x5 _ y2) (x5 _ hl) y3 hroom, hyn, x5 _ hyi⟩ hpre rfl hn hls.1 hst (lv_room hrest) d hR.2.2
    · exact va_runIN (rest := rest) ⟨x1, x2, x3, x4, x5⟩ hM ⟨va_cnB n x5 (zws_good y1) rfl rfl rfl (x7.1 _ hl) (x5 _ y2) y3 hroom, hyn, x5 _ hyi⟩ hpre rfl hn hls.1 hst (lv_room hrest) d hR.2.2
  intro T hT X
  obtain ⟨v, st₀, t, T', L, h0, X', hL, e1, e2, ⟨hv, ⟨Γ', g1, g2, g3, g4, g5, g6⟩, hC1, hz, hf⟩, stp⟩ := hr T hT X
  have hv : v = none := by cases hv; rfl
  subst hv
  rw [h0] at hz hf
  have eA : zA Γ' = zA Γ := by unfold zA; rw [g1.1.2.2.2.1]
  obtain ⟨t2, a1, b1⟩ := kk Γ' g1 g2 g5 ⟨zC_s C g1 g4, g3, hao⟩ ls T'.heap (locs ++ L) hls (by
    rw [eA]
    exact ⟨Nat.le_trans hS.1 (by rw [e1]; exact hz), fun x h1 h2 => by rw [e1, hf x (Nat.lt_of_lt_of_le h1 hS.1) h2]; exact hS.2.1 x h1 h2, fun x hx => by
      rcases List.mem_append.mp hx with h | h
      · exact hS.2.2 x h
      · exact hL x h⟩) (by rw [e1]; exact g6) hC1 T' rfl X'
  exact ⟨t2, stp t2 a1, b1⟩
theorem zg_wide {cs' sl' : Nat} (h1 : cs ≤ cs') (h2 : sl ≤ sl') (h : zg (kX X cs' sl') Γ nL pc lv st mem) : zg (kX X cs sl) Γ nL pc lv st mem := by
  obtain ⟨p, l, e, R, s, m, args, below, meth, c, cs0, sl0, Q⟩ := X
  intro ls H locs a1 a2 a3 a4
  exact W.widen h1 h2 (h ls H locs a1 a2 a3 a4)
theorem zg_lv {lv' : List (Nat × Value)} (hv : ∀ x ∈ lv, x ∈ lv') (h : zg X Γ nL pc lv st mem) : zg X Γ nL pc lv' st mem := by
  obtain ⟨p, l, e, R, s, m, args, below, meth, c, cs0, sl0, Q⟩ := X
  intro ls H locs a1 a2 a3 a4
  exact h ls H locs ⟨a1.1, a1.2.1, fun x hx => a1.2.2 x (hv x hx)⟩ a2 a3 a4
/-- the script at b: L ints xs, older than all that the law makes -/
def sCx (X : zM) (Γ : zG) (b L : Nat) (xs : Nat → Int32) : Prop := va_X b L xs X.2.2.2.2.1 X.2.2.2.2.1.heap ∧ b < X.2.2.2.2.1.heap.size ∧ ¬ zA Γ b ∧ L ≤ 384
theorem sg_len {b L : Nat} {xs : Nat → Int32} (C : zC (kX X cs sl) Γ own cc nL) (S : sCx X Γ b L xs) (d : decode cc pc = .ok (.arraylength, 1)) (kk : zg (kX X cs sl) Γ nL (pc + 1) lv (.int (i32 (L : Int)) :: st) mem) : zg (kX X cs sl) Γ nL pc lv (.ref b :: st) mem := by
  obtain ⟨p, l, e, R, s, m, args, below, meth, c, cs0, sl0, Q⟩ := X
  intro ls H locs a1 a2 a3 a4
  refine va_slen C.1 C.2.1 S.1 S.2.1 S.2.2.1 a2 d ?_
  have e : Int32.ofNat L = i32 (L : Int) := by unfold i32; exact Int32.ofInt_eq_ofNat.symm
  rw [e]
  exact kk ls H locs a1 a2 a3 a4
theorem sg_ld {b L : Nat} {xs : Nat → Int32} (C : zC (kX X cs sl) Γ own cc nL) (S : sCx X Γ b L xs) (i : Nat) (hi : i < L) (d : decode cc pc = .ok (.iaload, 1)) (kk : zg (kX X cs sl) Γ nL (pc + 1) lv (.int (i32 (xs i).toInt) :: st) mem) : zg (kX X cs sl) Γ nL pc lv (.int (i32 (i : Int)) :: .ref b :: st) mem := by
  obtain ⟨p, l, e, R, s, m, args, below, meth, c, cs0, sl0, Q⟩ := X
  have hL := S.2.2.2
  have h0 : ir (i : Int) := ⟨by omega, by omega⟩
  have en : (i32 (i : Int)).toNatClampNeg = i := by have := zn_nat h0 (by omega); omega
  intro ls H locs a1 a2 a3 a4
  refine va_sld C.1 C.2.1 S.1 S.2.1 S.2.2.1 a2 (i := i32 (i : Int)) ?_ d ?_
  · rintro (h | h)
    · rw [Int32.lt_iff_toInt_lt, i32_toInt h0] at h
      have h : (i : Int) < 0 := h
      omega
    · rw [en] at h
      omega
  · rw [en, ← i32_of (xs i)]
    exact kk ls H locs a1 a2 a3 a4
theorem sg_arg {b L : Nat} {xs : Nat → Int32} (C : zC (kX X cs sl) Γ own cc nL) (S : sCx X Γ b L xs) (t j : Nat) (hj : t + j < L) (w0 w4 : Nat) (h0 : lv[w0]? = some (0, .ref b)) (h4 : lv[w4]? = some (4, .int (i32 (t : Int)))) (d0 : decode cc pc = .ok (.aload_n 0, 1)) (d1 : decode cc (pc + 1) = .ok (.iload 4, 2)) (d3 : decode cc (pc + 3) = .ok (.iconst ((j : Nat) : Int), 1)) (d4 : decode cc (pc + 4) = .ok (.iadd, 1)) (d5 : decode cc (pc + 5) = .ok (.iaload, 1)) (kk : zg (kX X cs sl) Γ nL (pc + 6) lv (.int (i32 (xs (t + j)).toInt) :: st) mem) : zg (kX X cs sl) Γ nL pc lv st mem := by
  have hL := S.2.2.2
  refine zg_j ?_
  refine zj_aload_n (j := 0) (i := 0) C rfl w0 h0 d0 ?_
  refine zj_iload C w4 h4 d1 ?_
  refine zj_iconst C _ d3 ?_
  refine zj_iadd C d4 ?_
  rw [w32_id (by constructor <;> omega), ← Int.natCast_add]
  exact j_zg (sg_ld C S (t + j) hj d5 kk)
end LAW
