/-! small steps of the constructors -/
theorem zg_j {X : zM} {Γ : zG} {nL pc : Nat} {lv : List (Nat × Value)} {st : List Value} {mem : zMem} (h : zJ X Γ nL () (some ()) pc lv st mem) : zg X Γ nL pc lv st mem := h rfl
theorem j_zg {X : zM} {Γ : zG} {nL pc : Nat} {lv : List (Nat × Value)} {st : List Value} {mem : zMem} (h : zg X Γ nL pc lv st mem) : zJ X Γ nL () (some ()) pc lv st mem := fun _ => h
def kZ (mem : zMem) (N : Nat) : Prop := ∀ p j, N ≤ p → mem p j = 0
theorem kZ_le {mem : zMem} {N M : Nat} (h : kZ mem N) (hl : N ≤ M) : kZ mem M := fun p j hp => h p j (Nat.le_trans hl hp)
theorem kZ_up {mem : zMem} {N q : Nat} {i v : Int} (h : kZ mem N) (hq : q < N) : kZ (zup mem q i v) N := fun p j hp => by
  rw [zup_off (by omega)]
  exact h p j hp
theorem isR_o {p ci k : Nat} (hp : sK p = ci) (hc : ci < 13) (h : isR p k = true) : k < sNf ci ∧ sFk ci k = 2 := by
  unfold isR at h
  rw [hp, if_pos hc] at h
  simpa using h
theorem isR_a {p ci k : Nat} (hp : sK p = ci) (hc : ci = 13 ∨ ci = 14 ∨ ci = 15) (h : isR p k = true) : False := by
  unfold isR at h
  rw [hp, if_neg (by omega), if_neg (by omega)] at h
  cases h
theorem isR_q {p ci k : Nat} (hp : sK p = ci) (hc : ci = 16 ∨ ci = 17) (h : isR p k = true) : k < sLen p := by
  unfold isR at h
  rw [hp, if_neg (by omega), if_pos (by omega)] at h
  simpa using h
section STEPS
variable {X : zM} {Γ : zG} {own : String} {cc : ByteArray} {nL : Nat} {pc : Nat} {lv : List (Nat × Value)} {st : List Value} {mem : zMem} {cs sl : Nat}
theorem kg_alen (C : kC (kX X cs sl) Γ own cc nL) {q k a : Nat} {n : Int} (hq : q < gN Γ) (hk : sK q = k) (hk2 : k = 14 ∨ k = 16 ∨ k = 17) (ha : gD Γ q = a) (hn : ((sLen q : Nat) : Int) = n) (d : decode cc pc = .ok (.arraylength, 1)) (kk : zg (kX X cs sl) Γ nL (pc + 1) lv (.int (i32 n) :: st) mem) : zg (kX X cs sl) Γ nL pc lv (.ref a :: st) mem := by
  subst ha
  obtain ⟨p, l, e, R, s, m, args, below, meth, c, cs0, sl0, Q⟩ := X
  obtain ⟨C, hI, hao, hin⟩ := C
  intro ls H locs hls hS hP hC
  have hN := zwl_at (Γ := Γ) mem hq
  have hv : Int32.ofNat (sLen q) = i32 n := by rw [← hn]; unfold i32; exact Int32.ofInt_eq_ofNat.symm
  have fin := kk ls H locs hls hS hP hC
  rcases hk2 with rfl | rfl | rfl
  · exact va_alen C.1 C.2.1 C.2.2.2.2.2.1 hP q 1 (by rw [hN, zcell_14 hk]; rfl) rfl hv d fin
  · exact va_alen C.1 C.2.1 C.2.2.2.2.2.1 hP q 3 (by rw [hN, zcell_16 hk]; rfl) rfl hv d fin
  · exact va_alen C.1 C.2.1 C.2.2.2.2.2.1 hP q 4 (by rw [hN, zcell_17 hk]; rfl) rfl hv d fin
theorem kg_upq {q i : Nat} {v : Nat} (hv : gD Γ (sRf q i) = v) : va_up (fun j => zrf Γ q j) i (some v) = fun j => zrf (gSet Γ q i) q j := by
  funext j
  unfold va_up zrf
  show _ = if (if q = q ∧ j = i then true else gF Γ q j) = true then some (gD Γ (sRf q j)) else none
  by_cases hj : j = i
  · subst hj
    have e0 : (if q = q ∧ j = j then true else gF Γ q j) = true := if_pos ⟨rfl, rfl⟩
    rw [if_pos e0, hv]
    simp
  · have e0 : (if q = q ∧ j = i then true else gF Γ q j) = gF Γ q j := if_neg (fun h => hj h.2)
    rw [e0]
    simp [hj]
    rfl
theorem kg_ast17 (C : kC (kX X cs sl) Γ own cc nL) {q i a v w : Nat} {x : Int} (hq : q < gN Γ) (hk : sK q = 17) (ha : gD Γ q = a) (hx : ((i : Nat) : Int) = x) (hi : i < sLen q) (hxb : x ≤ 1000) (hw : sRf q i = w) (hw1 : w < gN Γ) (hw2 : sK w = 7) (hv : gD Γ w = v) (d : decode cc pc = .ok (.aastore, 1)) (kk : ∀ Γ' : zG, kS Γ Γ' → gN Γ' = gN Γ → gF Γ' q i = true → kC (kX X cs sl) Γ' own cc nL → zg (kX X cs sl) Γ' nL (pc + 1) lv st mem) : zg (kX X cs sl) Γ nL pc lv (.ref v :: .int (i32 x) :: .ref a :: st) mem := by
  subst hw
  obtain ⟨p, l, e, R, s, m, args, below, meth, c, cs0, sl0, Q⟩ := X
  obtain ⟨C, hI, hao, hin⟩ := C
  intro ls H locs hls hS hP hC
  have hir : ir x := ⟨by omega, by omega⟩
  have en : (i32 x).toNatClampNeg = i := by have := zn_nat hir (by omega); omega
  have hN : (zwl Γ mem)[q]? = some (a, .inl (gY Γ 4, sLen q, .inr (.inr (.inr (.inr fun j => zrf Γ q j))))) := by rw [zwl_at mem hq, zcell_17 hk, ← ha]; rfl
  have hV : (zwl Γ mem)[sRf q i]? = some (v, .inr (7, (List.range (sNf 7)).map (zfv Γ mem (sRf q i) 7))) := by rw [zwl_at mem hw1, zcell_obj hw2 (by decide), ← hv]; rfl
  refine va_astq C.1 C.2.1 C.2.2.2.2.2.1 hP (zD C.2.2.2.2.2.2.2.2 mem) hS q 4 (sRf q i) 7 hN rfl hV rfl (by rw [vp_in_iff, i32_toInt hir]; omega) d (fun H1 locs1 hP1 hD1 hS1 => ?_)
  rw [en, kg_upq hv] at hP1 hD1
  have ew := zwl_setF (Γ := Γ) (mem := mem) (q := q) (k := i) (zcell_17 hk)
  rw [ha] at ew
  have hP2 : va_P (gC Γ, gI Γ) vwCl (zwl (gSet Γ q i) mem) H1 := by rw [← ew]; exact hP1
  have hD2 : va_D (zA Γ) (zwl (gSet Γ q i) mem) := by rw [← ew]; exact hD1
  refine kk (gSet Γ q i) (kS_set Γ q i) rfl ?_ ⟨zC_s C (kS_set Γ q i) (zInj_of hD2), kI_set hI hq hw1, hao, hin⟩ ls H1 locs1 hls hS1 hP2 hC
  show (if q = q ∧ i = i then true else gF Γ q i) = true
  rw [if_pos ⟨rfl, rfl⟩]
theorem kg_ast16 (C : kC (kX X cs sl) Γ own cc nL) {q i a v w : Nat} {x : Int} (hq : q < gN Γ) (hk : sK q = 16) (ha : gD Γ q = a) (hx : ((i : Nat) : Int) = x) (hi : i < sLen q) (hxb : x ≤ 1000) (hw : sRf q i = w) (hw1 : w < gN Γ) (hw2 : sK w = 3) (hv : gD Γ w = v) (d : decode cc pc = .ok (.aastore, 1)) (kk : ∀ Γ' : zG, kS Γ Γ' → gN Γ' = gN Γ → gF Γ' q i = true → kC (kX X cs sl) Γ' own cc nL → zg (kX X cs sl) Γ' nL (pc + 1) lv st mem) : zg (kX X cs sl) Γ nL pc lv (.ref v :: .int (i32 x) :: .ref a :: st) mem := by
  subst hw
  obtain ⟨p, l, e, R, s, m, args, below, meth, c, cs0, sl0, Q⟩ := X
  obtain ⟨C, hI, hao, hin⟩ := C
  intro ls H locs hls hS hP hC
  have hir : ir x := ⟨by omega, by omega⟩
  have en : (i32 x).toNatClampNeg = i := by have := zn_nat hir (by omega); omega
  have hN : (zwl Γ mem)[q]? = some (a, .inl (gY Γ 3, sLen q, .inr (.inr (.inr (.inr fun j => zrf Γ q j))))) := by rw [zwl_at mem hq, zcell_16 hk, ← ha]; rfl
  have hV : (zwl Γ mem)[sRf q i]? = some (v, .inr (3, (List.range (sNf 3)).map (zfv Γ mem (sRf q i) 3))) := by rw [zwl_at mem hw1, zcell_obj hw2 (by decide), ← hv]; rfl
  refine va_astq C.1 C.2.1 C.2.2.2.2.2.1 hP (zD C.2.2.2.2.2.2.2.2 mem) hS q 3 (sRf q i) 3 hN rfl hV rfl (by rw [vp_in_iff, i32_toInt hir]; omega) d (fun H1 locs1 hP1 hD1 hS1 => ?_)
  rw [en, kg_upq hv] at hP1 hD1
  have ew := zwl_setF (Γ := Γ) (mem := mem) (q := q) (k := i) (zcell_16 hk)
  rw [ha] at ew
  have hP2 : va_P (gC Γ, gI Γ) vwCl (zwl (gSet Γ q i) mem) H1 := by rw [← ew]; exact hP1
  have hD2 : va_D (zA Γ) (zwl (gSet Γ q i) mem) := by rw [← ew]; exact hD1
  refine kk (gSet Γ q i) (kS_set Γ q i) rfl ?_ ⟨zC_s C (kS_set Γ q i) (zInj_of hD2), kI_set hI hq hw1, hao, hin⟩ ls H1 locs1 hls hS1 hP2 hC
  show (if q = q ∧ i = i then true else gF Γ q i) = true
  rw [if_pos ⟨rfl, rfl⟩]
theorem kg_iast (C : kC (kX X cs sl) Γ own cc nL) {q i a : Nat} {x v : Int} (hq : q < gN Γ) (hk : sK q = 13) (ha : gD Γ q = a) (hx : ((i : Nat) : Int) = x) (hi : i < sLen q) (hxb : x ≤ 1000) (hv : ir v) (d : decode cc pc = .ok (.iastore, 1)) (kk : zg (kX X cs sl) Γ nL (pc + 1) lv st (zup mem q x v)) : zg (kX X cs sl) Γ nL pc lv (.int (i32 v) :: .int (i32 x) :: .ref a :: st) mem := by
  subst ha
  obtain ⟨p, l, e, R, s, m, args, below, meth, c, cs0, sl0, Q⟩ := X
  obtain ⟨C, hI, hao, hin⟩ := C
  intro ls H locs hls hS hP hC
  have hir : ir x := ⟨by omega, by omega⟩
  have hix : ix q x := ⟨by omega, by omega⟩
  have he : (zwl Γ mem)[q]? = some (zad Γ q, .inl (gY Γ 0, sLen q, .inl fun j => i32 (mem q (j : Nat)))) := by rw [zwl_at mem hq, zcell_13 hk]
  refine va_iast C.1 C.2.1 C.2.2.2.2.2.1 hP (zD C.2.2.2.2.2.2.2.2 mem) hS q 0 he rfl (ix_in hix hir) d (fun H1 locs1 hP1 _ hS1 => ?_)
  rw [← zupf hir hix.1, zwl_set (mem' := zup mem q x v) (zcell_13 hk) (fun p hp => zup_off hp)] at hP1
  exact kk ls H1 locs1 hls hS1 hP1 (zCn_up hC (zrg_mi (by simp [zlg, hk]) hv))
end STEPS
