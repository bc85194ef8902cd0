/-! calls from a frame with room of its own; the full world and the one that grew -/
section CALLS
variable {X : zM} {Γ : zG} {own : String} {cc : ByteArray} {nL : Nat} {pc : Nat} {lv : List (Nat × Value)} {st : List Value} {mem : zMem} {cs sl : Nat}
theorem yg_callV (C : zC (kX X cs sl) Γ own cc nL) {l : Launch} (hl0 : X.2.1 = l) {y : MethodName} {cy : ByteArray} {nY n idx b ci dd k : Nat} {ret : Option FieldType} {As rest : List Value} {q : Int × zMem} (hy : zCal y cy nY ret n) (hv : zCalV y) (hl : zMl own idx y) (hb : b < gN Γ ∧ sK b = ci) (hci : (vwCl[ci]?).map (·.1) = some y.cls) (hn : As.length = n) (hR : dd + 1 ≤ (kR X).frames ∧ 8 + (nY + 11) + 60 * dd ≤ (kR X).locals ∧ cs ≤ (kR X).cells ∧ sl ≤ (kR X).slots) (hrest : (rest.map fun v => v.category).sum ≤ 8) (d : decode cc pc = .ok (.invokevirtual idx, 3)) (hM : zMet l y cy nY ret dd Γ k (.ref (zad Γ b) :: As) mem q) (hst : st = As.reverse ++ .ref (zad Γ b) :: rest) (kk : zrk k q.1 → zg (kX X cs sl) Γ nL (pc + 3) lv ((zrv k q.1).toList ++ rest) q.2) : zg (kX X cs sl) Γ nL pc lv st mem := by
  subst hst
  obtain ⟨p, l', e, R, s, m, args, below, meth, c, cs0, sl0, Q⟩ := X
  have hl0 : l' = l := hl0
  subst hl0
  intro ls H locs hls hS hP hC
  obtain ⟨x1, x2, x3, x4, x5, x6, x7, x8, x9⟩ := C
  obtain ⟨y1, y2, y3⟩ := hy
  have hroom : (zrm dd).frames + 1 ≤ R.frames ∧ 8 + (nY + 11) + (zrm dd).locals ≤ R.locals := ⟨hR.1, hR.2.1⟩
  obtain ⟨cq, hcq, hcn⟩ : ∃ cq, vwCl[ci]? = some cq ∧ cq.1 = y.cls := by
    cases hh : vwCl[ci]? with
    | none => rw [hh] at hci; cases hci
    | some cq => rw [hh] at hci; exact ⟨cq, rfl, Option.some.inj hci⟩
  have hlt : ci < 13 := by have := (List.getElem?_eq_some_iff.mp hcq).1; simpa [vwCl] using this
  have he : (zwl Γ mem)[b]? = some (zad Γ b, .inr (ci, (List.range (sNf ci)).map (zfv Γ mem b ci))) := by rw [zwl_at mem hb.1, zcell_obj hb.2 hlt]
  have hrecv := va_recv x6 hP hcq he
  rw [hcn] at hrecv
  have hpre : PreV s H y.cls (zad Γ b) (zPre Γ (.ref (zad Γ b) :: As) mem) As := ⟨zPre_blind _, hrecv, fun U hU hW => zPre_at x6 x7 x8 x9 hS hP hC hU hW⟩
  have hst : (F0 m pc ls (As.reverse ++ .ref (zad Γ b) :: rest)).stack = As.reverse ++ .ref (zad Γ b) :: rest := rfl
  rcases hl with hl | ⟨host, hl⟩
  · exact zg_run (va_runV (C := y.cls) (rest := rest) ⟨x1, x2, x3, x4, x5⟩ hM ⟨callB_of n x5 (zws_good y1) rfl rfl rfl (x5 _ y2) (x5 _ hl) y3 hroom, x5 _ hv.1, x5 _ hv.2⟩ hpre rfl hn hls.1 hst (lv_room hrest) d hR.2.2) hls hS kk
  · exact zg_run (va_runVN (C := y.cls) (rest := rest) ⟨x1, x2, x3, x4, x5⟩ hM ⟨va_cnB n x5 (zws_good y1) rfl rfl rfl (x7.1 _ hl) (x5 _ y2) y3 hroom, x5 _ hv.1, x5 _ hv.2⟩ hpre rfl hn hls.1 hst (lv_room hrest) d hR.2.2) hls hS kk
def gFull (Γ : zG) : zG := gMk Γ (gN Γ) (fun _ _ => true) (gD Γ)
theorem gFull_ok {N : Nat} (h : gN Γ = N) (hN : 157 ≤ N) : zFull (gFull Γ) := ⟨by show 157 ≤ gN Γ; omega, fun _ _ => rfl⟩
theorem at_full {H : Heap} {q : Nat} (hq : q < 158) (hf : ∀ k, isR q k = true → gF Γ q k = true) : va_at (gC Γ, gI Γ) vwCl (zad Γ q, zcell Γ mem q) H ↔ va_at (gC Γ, gI Γ) vwCl (zad Γ q, zcell (gFull Γ) mem q) H := by
  have hz : ∀ k, isR q k = true → zrf (gFull Γ) q k = zrf Γ q k := by
    intro k hk
    unfold zrf
    rw [if_pos (hf k hk), if_pos (show gF (gFull Γ) q k = true from rfl)]
    rfl
  by_cases h13 : sK q < 13
  · have e : zcell Γ mem q = zcell (gFull Γ) mem q := by
      rw [zcell_obj rfl h13, zcell_obj rfl h13]
      congr 2
      apply List.map_congr_left
      intro k hk
      have hk : k < sNf (sK q) := List.mem_range.mp hk
      unfold zfv
      by_cases h2 : sFk (sK q) k = 2
      · rw [h2]
        have : isR q k = true := by
          unfold isR
          rw [if_pos h13]
          simp [hk, h2]
        show va_rf (zrf Γ q k) = va_rf (zrf (gFull Γ) q k)
        rw [hz k this]
      · have h3 : sFk (sK q) k = 0 ∨ sFk (sK q) k = 1 := by
          have h4 : ∀ c, c < 13 → ∀ k, k < sNf c → sFk c k = 0 ∨ sFk c k = 1 ∨ sFk c k = 2 := by decide +kernel
          rcases h4 _ h13 _ hk with h | h | h
          · exact Or.inl h
          · exact Or.inr h
          · exact absurd h h2
        rcases h3 with h3 | h3
        · rw [h3]; rfl
        · rw [h3]; rfl
    rw [e]
  · have hc : sK q = 13 ∨ sK q = 14 ∨ sK q = 15 ∨ sK q = 16 ∨ sK q = 17 ∨ 17 < sK q := by omega
    rcases hc with h | h | h | h | h | h
    · rw [zcell_13 h, zcell_13 h]; exact Iff.rfl
    · rw [zcell_14 h, zcell_14 h]; exact Iff.rfl
    · rw [zcell_15 h, zcell_15 h]; exact Iff.rfl
    · rw [zcell_16 h, zcell_16 h]
      have e : vp_cell (gY Γ 3) (sLen q, .inr (.inr (.inr (.inr fun j => zrf Γ q j)))) = vp_cell (gY Γ 3) (sLen q, .inr (.inr (.inr (.inr fun j => zrf (gFull Γ) q j)))) := by
        rw [vp_cell_q, vp_cell_q]
        unfold arrV
        congr 2
        funext j
        have : isR q j.val = true := by
          unfold isR
          rw [h, if_neg (by omega), if_pos (by omega)]
          simp
        show va_rf (zrf Γ q j) = va_rf (zrf (gFull Γ) q j)
        rw [hz _ this]
      show _ = some (vp_cell (gY Γ 3) _) ↔ _ = some (vp_cell (gY Γ 3) _)
      rw [e]
    · rw [zcell_17 h, zcell_17 h]
      have e : vp_cell (gY Γ 4) (sLen q, .inr (.inr (.inr (.inr fun j => zrf Γ q j)))) = vp_cell (gY Γ 4) (sLen q, .inr (.inr (.inr (.inr fun j => zrf (gFull Γ) q j)))) := by
        rw [vp_cell_q, vp_cell_q]
        unfold arrV
        congr 2
        funext j
        have : isR q j.val = true := by
          unfold isR
          rw [h, if_neg (by omega), if_pos (by omega)]
          simp
        show va_rf (zrf Γ q j) = va_rf (zrf (gFull Γ) q j)
        rw [hz _ this]
      show _ = some (vp_cell (gY Γ 4) _) ↔ _ = some (vp_cell (gY Γ 4) _)
      rw [e]
    · have h4 : ∀ q, q < 158 → sK q ≤ 17 := by decide +kernel
      have := h4 q hq
      omega
theorem P_full {H : Heap} (hN : gN Γ ≤ 158) (hf : ∀ p k, p < gN Γ → isR p k = true → gF Γ p k = true) : va_P (gC Γ, gI Γ) vwCl (zwl Γ mem) H ↔ va_P (gC Γ, gI Γ) vwCl (zwl (gFull Γ) mem) H := by
  constructor
  · intro h k q hk
    obtain ⟨h1, rfl⟩ := zwl_in hk
    have h1 : k < gN Γ := h1
    exact (at_full (by omega) (fun j hj => hf k j h1 hj)).mp (h k _ (zwl_at mem h1))
  · intro h k q hk
    obtain ⟨h1, rfl⟩ := zwl_in hk
    exact (at_full (by omega) (fun j hj => hf k j h1 hj)).mpr (h k _ (zwl_at (Γ := gFull Γ) mem h1))
theorem zg_full (hN : gN Γ ≤ 158) (hf : ∀ p k, p < gN Γ → isR p k = true → gF Γ p k = true) : zg X Γ nL pc lv st mem ↔ zg X (gFull Γ) nL pc lv st mem := by
  obtain ⟨p, l', e, R, s, m, args, below, meth, c, cs0, sl0, Q⟩ := X
  constructor
  · intro h ls H locs hls hS hP hC
    exact h ls H locs hls hS ((P_full hN hf).mpr hP) hC
  · intro h ls H locs hls hS hP hC
    exact h ls H locs hls hS ((P_full hN hf).mp hP) hC
theorem zC_full (C : zC X Γ own cc nL) : zC X (gFull Γ) own cc nL := by
  obtain ⟨p, l', e, R, s, m, args, below, meth, c, cs0, sl0, Q⟩ := X
  exact C
end CALLS
