/-! the law's loop -/
theorem dL_40 : decode code 40 = .ok (.tableswitch 1398 0 36 #[164, 237, 262, 275, 288, 337, 405, 473, 498, 535, 572, 609, 634, 659, 672, 709, 746, 838, 875, 924, 937, 986, 1035, 1048, 1061, 1074, 1099, 1124, 1149, 1186, 1235, 1260, 1285, 1298, 1323, 1348, 1373], 164) := by decide +kernel
theorem zand_63 (x : Int) : 0 ≤ zand x 63 ∧ zand x 63 ≤ 63 := by
  have h : (i32 x &&& i32 63).toBitVec.toNat ≤ 63 := by
    rw [Int32.toBitVec_and, BitVec.toNat_and]
    exact Nat.and_le_right
  have e : zand x 63 = ((i32 x &&& i32 63).toBitVec.toNat : Int) := by
    unfold zand
    exact BitVec.toInt_eq_toNat_of_lt (by omega)
  omega
theorem law_head {X : zM} {Γ : zG} {b L k cs sl : Nat} {xs : Nat → Int32} {mem : zMem} (C : zC (kX X 0 0) Γ "ShadowHeirsLaw" code 7) (S : sCx X Γ b L xs) (h9 : k ≤ 65) (hc : cs ≤ 900 ∧ sl ≤ 10000) (hend : ∀ (cs sl : Nat) (lv : List (Nat × Value)) (mem : zMem), cs ≤ 900 → sl ≤ 10000 → zg (kX X cs sl) Γ 7 1444 lv [] mem) (kk : 6 * k + 6 ≤ L → zg (kX X cs sl) Γ 7 40 (lLv Γ b (6 * k)) [.int (i32 (zand (xs (6 * k)).toInt 63))] mem) : zg (kX X cs sl) Γ 7 23 (lLv Γ b (6 * k)) [] mem := by
  have hL := S.2.2.2
  have C1 := zC_x 0 0 cs sl C
  refine zg_j ?_
  refine zj_iload (i := 4) C1 4 rfl (by decide +kernel) ?_
  refine zj_aload_n (j := 0) (i := 0) C1 rfl 0 rfl (by decide +kernel) ?_
  refine j_zg (sg_len C1 S (by decide +kernel) ?_)
  refine zg_j ?_
  refine zj_bipush C1 6 rfl (by decide +kernel) ?_
  refine zj_isub C1 (by decide +kernel) ?_
  rw [w32_id (x := (L : Int) - 6) ⟨by omega, by omega⟩]
  refine j_zg (zj_icmp_gt (A := some ()) (B := some ()) (off := 1414) C1 1444 ⟨by omega, by omega⟩ ⟨by omega, by omega⟩ (by decide +kernel) rfl (fun _ => j_zg (hend _ _ _ _ hc.1 hc.2)) (fun hle => ?_) (by split <;> rfl))
  refine zj_aload_n (j := 0) (i := 0) C1 rfl 0 rfl (by decide +kernel) ?_
  refine zj_iload (i := 4) C1 4 rfl (by decide +kernel) ?_
  refine j_zg (sg_ld C1 S (6 * k) (by omega) (by decide +kernel) ?_)
  refine zg_j ?_
  refine zj_bipush C1 63 rfl (by decide +kernel) ?_
  refine zj_iand C1 (by decide +kernel) ?_
  exact j_zg (kk (by omega))
theorem law_loop {X : zM} {Γ : zG} {l : Launch} {b L : Nat} {xs : Nat → Int32} (C : zC (kX X 0 0) Γ "ShadowHeirsLaw" code 7) (hl : X.2.1 = l) (hR : kR X = room_1) (F : zFull Γ) (S : sCx X Γ b L xs) (hx : xE Γ X.2.2.2.2.1 X.2.2.2.2.1.heap) (hN : 157 < gN Γ) (hs : l.stackTraces = false) (hend : ∀ (cs sl : Nat) (lv : List (Nat × Value)) (mem : zMem), cs ≤ 900 → sl ≤ 10000 → zg (kX X cs sl) Γ 7 1444 lv [] mem) : ∀ (n k : Nat) (mem : zMem), k + n = 65 → Rel mem → zg (kX X (200 + k) (9000 + 6 * k)) Γ 7 23 (lLv Γ b (6 * k)) [] mem := by
  intro n
  induction n with
  | zero =>
    intro k mem hk R
    exact law_head C S (by omega) (by omega) hend (fun h => absurd h (by have := S.2.2.2; omega))
  | succ n ih =>
    intro k mem hk R
    have hL := S.2.2.2
    refine law_head C S (by omega) (by omega) hend (fun hi => ?_)
    have C1 := zC_x 0 0 (200 + k) (9000 + 6 * k) C
    have hc : 200 + k ≤ 900 ∧ 9000 + 6 * k ≤ 10000 := by omega
    have ht : 6 * k + 5 < L := by omega
    have nxt : ∀ m2, Rel m2 → zg (kX X (200 + k + 1) (9000 + 6 * k + 6)) Γ 7 1438 (lLv Γ b (6 * k)) [] m2 := by
      intro m2 R2
      have C2 := zC_x 0 0 (200 + k + 1) (9000 + 6 * k + 6) C
      have e6 : w32 (((6 * k : Nat) : Int) + 6) = ((6 * (k + 1) : Nat) : Int) := by rw [w32_id ⟨by omega, by omega⟩]; omega
      have h1 := ih (k + 1) m2 (by omega) R2
      rw [show 200 + (k + 1) = 200 + k + 1 by omega, show 9000 + 6 * (k + 1) = 9000 + 6 * k + 6 by omega] at h1
      refine zg_j ?_
      refine zj_iinc (i := 4) (n := 6) C2 4 [(4, .int (i32 (w32 (((6 * k : Nat) : Int) + 6)))), (0, .ref b), (1, .ref (zad Γ 0)), (2, .ref (zad Γ 138)), (3, .ref (zad Γ 157))] rfl (by decide +kernel) (by decide) rfl ?_
      refine zj_goto (tgt := 23) (off := -1418) C2 (by decide +kernel) rfl ?_
      rw [e6]
      refine j_zg (zg_lv (fun x h => ?_) h1)
      simp only [lLv, List.mem_cons, List.not_mem_nil, or_false] at h ⊢
      rcases h with h | h | h | h | h
      · exact Or.inr (Or.inl h)
      · exact Or.inr (Or.inr (Or.inl h))
      · exact Or.inr (Or.inr (Or.inr (Or.inl h)))
      · exact Or.inr (Or.inr (Or.inr (Or.inr h)))
      · exact Or.inl h
    have nx2 : ∀ m2, Rel m2 → zg (kX X (200 + k) (9000 + 6 * k)) Γ 7 1438 (lLv Γ b (6 * k)) [] m2 := fun m2 R2 => zg_wide (Nat.le_succ _) (Nat.le_add_right _ _) (nxt m2 R2)
    have hz := zand_63 (xs (6 * k)).toInt
    have iz : ir (zand (xs (6 * k)).toInt 63) := ⟨by omega, by omega⟩
    generalize zand (xs (6 * k)).toInt 63 = z at hz iz
    refine zg_j ?_
    rcases (by omega : z = 0 ∨ z = 1 ∨ z = 2 ∨ z = 3 ∨ z = 4 ∨ z = 5 ∨ z = 6 ∨ z = 7 ∨ z = 8 ∨ z = 9 ∨ z = 10 ∨ z = 11 ∨ z = 12 ∨ z = 13 ∨ z = 14 ∨ z = 15 ∨ z = 16 ∨ z = 17 ∨ z = 18 ∨ z = 19 ∨ z = 20 ∨ z = 21 ∨ z = 22 ∨ z = 23 ∨ z = 24 ∨ z = 25 ∨ z = 26 ∨ z = 27 ∨ z = 28 ∨ z = 29 ∨ z = 30 ∨ z = 31 ∨ z = 32 ∨ z = 33 ∨ z = 34 ∨ z = 35 ∨ z = 36 ∨ 37 ≤ z) with h | h | h | h | h | h | h | h | h | h | h | h | h | h | h | h | h | h | h | h | h | h | h | h | h | h | h | h | h | h | h | h | h | h | h | h | h | h
    · exact zj_tableIn (off := 164) C1 0 204 iz h dL_40 rfl rfl (j_zg (case_0 C1 hl hR F S ht hc R nx2))
    · exact zj_tableIn (off := 237) C1 1 277 iz h dL_40 rfl rfl (j_zg (case_1 C1 hl hR F S ht hc R nx2))
    · exact zj_tableIn (off := 262) C1 2 302 iz h dL_40 rfl rfl (j_zg (case_2 C1 hl hR F S ht hc R nx2))
    · exact zj_tableIn (off := 275) C1 3 315 iz h dL_40 rfl rfl (j_zg (case_3 C1 hl hR F S ht hc R nx2))
    · exact zj_tableIn (off := 288) C1 4 328 iz h dL_40 rfl rfl (j_zg (case_4 C1 hl hR F S ht hc R nx2))
    · exact zj_tableIn (off := 337) C1 5 377 iz h dL_40 rfl rfl (j_zg (case_5 C1 hl hR F S ht hc R hx hN hs nxt))
    · exact zj_tableIn (off := 405) C1 6 445 iz h dL_40 rfl rfl (j_zg (case_6 C1 hl hR F S ht hc R hx hN hs nxt))
    · exact zj_tableIn (off := 473) C1 7 513 iz h dL_40 rfl rfl (j_zg (case_7 C1 hl hR F S ht hc R nx2))
    · exact zj_tableIn (off := 498) C1 8 538 iz h dL_40 rfl rfl (j_zg (case_8 C1 hl hR F S ht hc R nx2))
    · exact zj_tableIn (off := 535) C1 9 575 iz h dL_40 rfl rfl (j_zg (case_9 C1 hl hR F S ht hc R nx2))
    · exact zj_tableIn (off := 572) C1 10 612 iz h dL_40 rfl rfl (j_zg (case_10 C1 hl hR F S ht hc R nx2))
    · exact zj_tableIn (off := 609) C1 11 649 iz h dL_40 rfl rfl (j_zg (case_11 C1 hl hR F S ht hc R nx2))
    · exact zj_tableIn (off := 634) C1 12 674 iz h dL_40 rfl rfl (j_zg (case_12 C1 hl hR F S ht hc R nx2))
    · exact zj_tableIn (off := 659) C1 13 699 iz h dL_40 rfl rfl (j_zg (case_13 C1 hl hR F S ht hc R nx2))
    · exact zj_tableIn (off := 672) C1 14 712 iz h dL_40 rfl rfl (j_zg (case_14 C1 hl hR F S ht hc R nx2))
    · exact zj_tableIn (off := 709) C1 15 749 iz h dL_40 rfl rfl (j_zg (case_15 C1 hl hR F S ht hc R nx2))
    · exact zj_tableIn (off := 746) C1 16 786 iz h dL_40 rfl rfl (j_zg (case_16 C1 hl hR F S ht hc R hx hN hs nxt))
    · exact zj_tableIn (off := 838) C1 17 878 iz h dL_40 rfl rfl (j_zg (case_17 C1 hl hR F S ht hc R nx2))
    · exact zj_tableIn (off := 875) C1 18 915 iz h dL_40 rfl rfl (j_zg (case_18 C1 hl hR F S ht hc R nx2))
    · exact zj_tableIn (off := 924) C1 19 964 iz h dL_40 rfl rfl (j_zg (case_19 C1 hl hR F S ht hc R nx2))
    · exact zj_tableIn (off := 937) C1 20 977 iz h dL_40 rfl rfl (j_zg (case_20 C1 hl hR F S ht hc R nx2))
    · exact zj_tableIn (off := 986) C1 21 1026 iz h dL_40 rfl rfl (j_zg (case_21 C1 hl hR F S ht hc R nx2))
    · exact zj_tableIn (off := 1035) C1 22 1075 iz h dL_40 rfl rfl (j_zg (case_22 C1 hl hR F S ht hc R nx2))
    · exact zj_tableIn (off := 1048) C1 23 1088 iz h dL_40 rfl rfl (j_zg (case_23 C1 hl hR F S ht hc R nx2))
    · exact zj_tableIn (off := 1061) C1 24 1101 iz h dL_40 rfl rfl (j_zg (case_24 C1 hl hR F S ht hc R nx2))
    · exact zj_tableIn (off := 1074) C1 25 1114 iz h dL_40 rfl rfl (j_zg (case_25 C1 hl hR F S ht hc R nx2))
    · exact zj_tableIn (off := 1099) C1 26 1139 iz h dL_40 rfl rfl (j_zg (case_26 C1 hl hR F S ht hc R nx2))
    · exact zj_tableIn (off := 1124) C1 27 1164 iz h dL_40 rfl rfl (j_zg (case_27 C1 hl hR F S ht hc R nx2))
    · exact zj_tableIn (off := 1149) C1 28 1189 iz h dL_40 rfl rfl (j_zg (case_28 C1 hl hR F S ht hc R nx2))
    · exact zj_tableIn (off := 1186) C1 29 1226 iz h dL_40 rfl rfl (j_zg (case_29 C1 hl hR F S ht hc R nx2))
    · exact zj_tableIn (off := 1235) C1 30 1275 iz h dL_40 rfl rfl (j_zg (case_30 C1 hl hR F S ht hc R nx2))
    · exact zj_tableIn (off := 1260) C1 31 1300 iz h dL_40 rfl rfl (j_zg (case_31 C1 hl hR F S ht hc R nx2))
    · exact zj_tableIn (off := 1285) C1 32 1325 iz h dL_40 rfl rfl (j_zg (case_32 C1 hl hR F S ht hc R nx2))
    · exact zj_tableIn (off := 1298) C1 33 1338 iz h dL_40 rfl rfl (j_zg (case_33 C1 hl hR F S ht hc R nx2))
    · exact zj_tableIn (off := 1323) C1 34 1363 iz h dL_40 rfl rfl (j_zg (case_34 C1 hl hR F S ht hc R nx2))
    · exact zj_tableIn (off := 1348) C1 35 1388 iz h dL_40 rfl rfl (j_zg (case_35 C1 hl hR F S ht hc R nx2))
    · exact zj_tableIn (off := 1373) C1 36 1413 iz h dL_40 rfl rfl (j_zg (case_36 C1 hl hR F S ht hc R nx2))
    · exact zj_tableOut C1 1438 iz dL_40 (Or.inr (by omega)) rfl (j_zg (nx2 mem R))
