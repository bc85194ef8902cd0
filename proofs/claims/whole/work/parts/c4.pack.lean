abbrev cX6_packWords : ByteArray := prog_8_method_2_code
def yX6_packWords : MethodName := ⟨RX6, "packWords", "(Ljava/lang/String;I)I"⟩
theorem ml_X6_58 : zMl "ShadowHeirs$Reader" 58 yJ0_length_8abf5 := Or.inl (gw_1 (List.mem_of_getElem? (i := 44) (by decide +kernel)) rfl)
theorem ml_X6_64 : zMl "ShadowHeirs$Reader" 64 yJ0_charAt_5068e := Or.inl (gw_1 (List.mem_of_getElem? (i := 54) (by decide +kernel)) rfl)
theorem dX6_packWords_0 : decode cX6_packWords 0 = .ok (.iload_n 2, 1) := by decide +kernel
theorem dX6_packWords_1 : decode cX6_packWords 1 = .ok (.istore_n 3, 1) := by decide +kernel
theorem dX6_packWords_2 : decode cX6_packWords 2 = .ok (.lconst 0, 1) := by decide +kernel
theorem dX6_packWords_3 : decode cX6_packWords 3 = .ok (.lstore 4, 2) := by decide +kernel
theorem dX6_packWords_5 : decode cX6_packWords 5 = .ok (.iconst 0, 1) := by decide +kernel
theorem dX6_packWords_6 : decode cX6_packWords 6 = .ok (.istore 6, 2) := by decide +kernel
theorem dX6_packWords_8 : decode cX6_packWords 8 = .ok (.iload 6, 2) := by decide +kernel
theorem dX6_packWords_10 : decode cX6_packWords 10 = .ok (.aload_n 1, 1) := by decide +kernel
theorem dX6_packWords_11 : decode cX6_packWords 11 = .ok (.invokevirtual 58, 3) := by decide +kernel
theorem dX6_packWords_14 : decode cX6_packWords 14 = .ok (.if_icmp .ge 67, 3) := by decide +kernel
theorem dX6_packWords_17 : decode cX6_packWords 17 = .ok (.iload_n 3, 1) := by decide +kernel
theorem dX6_packWords_18 : decode cX6_packWords 18 = .ok (.aload_n 0, 1) := by decide +kernel
theorem dX6_packWords_19 : decode cX6_packWords 19 = .ok (.getfield 15, 3) := by decide +kernel
theorem dX6_packWords_22 : decode cX6_packWords 22 = .ok (.arraylength, 1) := by decide +kernel
theorem dX6_packWords_23 : decode cX6_packWords 23 = .ok (.if_icmp .ge 58, 3) := by decide +kernel
theorem dX6_packWords_26 : decode cX6_packWords 26 = .ok (.aload_n 1, 1) := by decide +kernel
theorem dX6_packWords_27 : decode cX6_packWords 27 = .ok (.iload 6, 2) := by decide +kernel
theorem dX6_packWords_29 : decode cX6_packWords 29 = .ok (.invokevirtual 64, 3) := by decide +kernel
theorem dX6_packWords_32 : decode cX6_packWords 32 = .ok (.bipush 32, 2) := by decide +kernel
theorem dX6_packWords_34 : decode cX6_packWords 34 = .ok (.if_icmp .ne 20, 3) := by decide +kernel
theorem dX6_packWords_37 : decode cX6_packWords 37 = .ok (.aload_n 0, 1) := by decide +kernel
theorem dX6_packWords_38 : decode cX6_packWords 38 = .ok (.getfield 15, 3) := by decide +kernel
theorem dX6_packWords_41 : decode cX6_packWords 41 = .ok (.iload_n 3, 1) := by decide +kernel
theorem dX6_packWords_42 : decode cX6_packWords 42 = .ok (.lload 4, 2) := by decide +kernel
theorem dX6_packWords_44 : decode cX6_packWords 44 = .ok (.lastore, 1) := by decide +kernel
theorem dX6_packWords_45 : decode cX6_packWords 45 = .ok (.iinc 3 1, 3) := by decide +kernel
theorem dX6_packWords_48 : decode cX6_packWords 48 = .ok (.lconst 0, 1) := by decide +kernel
theorem dX6_packWords_49 : decode cX6_packWords 49 = .ok (.lstore 4, 2) := by decide +kernel
theorem dX6_packWords_51 : decode cX6_packWords 51 = .ok (.goto 24, 3) := by decide +kernel
theorem dX6_packWords_54 : decode cX6_packWords 54 = .ok (.lload 4, 2) := by decide +kernel
theorem dX6_packWords_56 : decode cX6_packWords 56 = .ok (.ldc2_w 68, 3) := by decide +kernel
theorem dX6_packWords_59 : decode cX6_packWords 59 = .ok (.lmul, 1) := by decide +kernel
theorem dX6_packWords_60 : decode cX6_packWords 60 = .ok (.aload_n 1, 1) := by decide +kernel
theorem dX6_packWords_61 : decode cX6_packWords 61 = .ok (.iload 6, 2) := by decide +kernel
theorem dX6_packWords_63 : decode cX6_packWords 63 = .ok (.invokevirtual 64, 3) := by decide +kernel
theorem dX6_packWords_66 : decode cX6_packWords 66 = .ok (.bipush 97, 2) := by decide +kernel
theorem dX6_packWords_68 : decode cX6_packWords 68 = .ok (.isub, 1) := by decide +kernel
theorem dX6_packWords_69 : decode cX6_packWords 69 = .ok (.iconst 1, 1) := by decide +kernel
theorem dX6_packWords_70 : decode cX6_packWords 70 = .ok (.iadd, 1) := by decide +kernel
theorem dX6_packWords_71 : decode cX6_packWords 71 = .ok (.i2l, 1) := by decide +kernel
theorem dX6_packWords_72 : decode cX6_packWords 72 = .ok (.ladd, 1) := by decide +kernel
theorem dX6_packWords_73 : decode cX6_packWords 73 = .ok (.lstore 4, 2) := by decide +kernel
theorem dX6_packWords_75 : decode cX6_packWords 75 = .ok (.iinc 6 1, 3) := by decide +kernel
theorem dX6_packWords_78 : decode cX6_packWords 78 = .ok (.goto (-70), 3) := by decide +kernel
theorem dX6_packWords_81 : decode cX6_packWords 81 = .ok (.iload_n 3, 1) := by decide +kernel
theorem dX6_packWords_82 : decode cX6_packWords 82 = .ok (.ireturn, 1) := by decide +kernel
/-! packWords, in the world of the Reader alone -/
def zPw (Γ : zG) : Prop := 4 ≤ gN Γ ∧ gF Γ 1 1 = true
section PACK
variable {ρ : Type} {X : zM} {Γ : zG} {own : String} {cc : ByteArray} {nL : Nat} {r : ρ} {T A B : Option ρ} {pc : Nat} {lv : List (Nat × Value)} {st : List Value} {mem : zMem}
theorem zp_getR (C : zC X Γ own cc nL) (F : zPw Γ) {idx : Nat} (hl : zFl own idx 6 1) (d : decode cc pc = .ok (.getfield idx, 3)) (kk : zJ X Γ nL r T (pc + 3) lv (.ref (zad Γ 3) :: st) mem) : zJ X Γ nL r T pc lv (.ref (zad Γ 1) :: st) mem := by
  intro h
  refine zg_get C (q := 1) (ci := 6) (by have := F.1; omega) zk_1.2 hl d (fun hC => ?_)
  have hf : sFk 6 1 = 2 := rfl
  have e : zfv Γ mem 1 6 1 = .ref (zad Γ 3) := by
    unfold zfv
    rw [hf]
    show va_rf (zrf Γ 1 1) = _
    unfold zrf
    rw [if_pos F.2, rf_1_1]
    rfl
  rw [e]
  exact kk h
theorem zp_alen (C : zC X Γ own cc nL) (F : zPw Γ) (d : decode cc pc = .ok (.arraylength, 1)) (kk : zJ X Γ nL r T (pc + 1) lv (.int (i32 24) :: st) mem) : zJ X Γ nL r T pc lv (.ref (zad Γ 3) :: st) mem := by
  intro h
  obtain ⟨p, l, e, R, s, m, args, below, meth, c, cs, sl, Q⟩ := X
  intro ls H locs hls hS hP hC
  have hN := zwl_at (Γ := Γ) mem (q := 3) (by have := F.1; omega)
  have hv : Int32.ofNat (sLen 3) = i32 24 := by rw [← len_3]; unfold i32; exact Int32.ofInt_eq_ofNat.symm
  exact va_alen C.1 C.2.1 C.2.2.2.2.2.1 hP 3 1 (by rw [hN, zcell_14 zk_3.2]) rfl hv d (kk h ls H locs hls hS hP hC)
theorem zp_lastore (C : zC X Γ own cc nL) (F : zPw Γ) {i x : Int} (hi : ir i) (hx : lr x) (d : decode cc pc = .ok (.lastore, 1)) (kk : ix 3 i → zJ X Γ nL r A (pc + 1) lv st (zup mem 3 i x)) : zJ X Γ nL r (if ix 3 i then A else none) pc lv (.long (i64 x) :: .int (i32 i) :: .ref (zad Γ 3) :: st) mem := by
  refine zj_chk (fun hix h => ?_)
  obtain ⟨p, l, e, R, s, m, args, below, meth, c, cs, sl, Q⟩ := X
  intro ls H locs hls hS hP hC
  have he : (zwl Γ mem)[3]? = some (zad Γ 3, .inl (gY Γ 1, sLen 3, .inr (.inl fun j => i64 (mem 3 (j : Nat))))) := by rw [zwl_at mem (by have := F.1; omega), zcell_14 zk_3.2]
  refine va_last C.1 C.2.1 C.2.2.2.2.2.1 hP (zD C.2.2.2.2.2.2.2.2 mem) hS 3 1 he rfl (ix_in hix hi) d (fun H1 locs1 hP1 _ hS1 => ?_)
  rw [← zupL hi hix.1, zwl_set (mem' := zup mem 3 i x) (zcell_14 zk_3.2) (fun p hp => zup_off hp)] at hP1
  exact kk hix h ls H1 locs1 hls hS1 hP1 (zCn_up hC (zrg_ml (by simp [zlg, zk_3.2]) hx))
end PACK
-- GENERATED
noncomputable def b_X6_packWords_0 (rec : Nat → Int → Int → Int → zMem → Option (Int × zMem)) (s1 : Nat) (v3 : Int) (w4 : Int) (v6 : Int) (mem : zMem) : Option (Int × zMem) := zbind (f_J0_length_8abf5 s1 mem) fun y1 m2 => if v6 ≥ y1 then (some (v3, m2)) else (if v3 ≥ 24 then (some (v3, m2)) else (zbind (f_J0_charAt_5068e s1 v6 m2) fun y5 m6 => if y5 = 32 then (if ix 3 v3 then pipe (zup m6 3 v3 w4) fun m9 => rec s1 (w32 (v3 + 1)) 0 (w32 (v6 + 1)) m9 else none) else (zbind (f_J0_charAt_5068e s1 v6 m6) fun y10 m11 => pipe (w64 ((w64 (w4 * 32)) + (w32 ((w32 (y10 - 97)) + 1)))) fun y12 => rec s1 v3 y12 (w32 (v6 + 1)) m11)))
noncomputable def f_X6_packWords_0 : Nat → Nat → Int → Int → Int → zMem → Option (Int × zMem) := zfuel (fun _ _ _ _ _ => none) (b_X6_packWords_0)
set_option maxHeartbeats 4000000 in
theorem L_X6_packWords_0 (l : Launch) {Γ : zG} (F : zPw Γ) {X : zM} {q : Int × zMem} (C : zC X Γ "ShadowHeirs$Reader" cX6_packWords 7) (Z : zRt X l Γ 5 1 (some .int) q) : ∀ n : Nat, ∀ (s1 : Nat) (v3 : Int) (w4 : Int) (v6 : Int) (h_s1 : s1 < 10) (h_v3 : ir v3) (h_w4 : lr w4) (h_v6 : ir v6) (mem : zMem), zJ X Γ 7 q (f_X6_packWords_0 n s1 v3 w4 v6 mem) 8 [(0, .ref (zad Γ 1)), (1, .ref (gS Γ (10 + s1))), (3, .int (i32 v3)), (4, .long (i64 w4)), (6, .int (i32 v6))] [] mem := by
  intro n
  induction n with
  | zero => intros; exact zj_none
  | succ n ih =>
    intro s1 v3 w4 v6 h_s1 h_v3 h_w4 h_v6 mem
    show zJ X Γ 7 q (b_X6_packWords_0 (f_X6_packWords_0 n) s1 v3 w4 v6 mem) _ _ _ _
    unfold b_X6_packWords_0
    refine zj_iload C 4 rfl dX6_packWords_8 ?_
    refine zj_aload_n (j := 1) (i := 1) C rfl 1 rfl dX6_packWords_10 ?_
    refine zj_callTi C Z [] [.int (i32 v6)] cal_J0_length_8abf5 calv_J0_length_8abf5 ml_X6_58 h_s1 rfl rfl (by decide) (Nat.le_of_ble_eq_true rfl) rfl dX6_packWords_11 (fun q h => M_J0_length_8abf5 l Γ h_s1 mem q h) (fun y1 m2 h_y1 => ?_)
    refine zj_icmp_ge C 81 h_v6 h_y1 dX6_packWords_14 rfl (fun c3 => ?_) (fun c3 => ?_)
    · refine zj_iload_n (j := 3) (i := 3) C rfl 2 rfl dX6_packWords_81 ?_
      exact zrt_i C Z h_v3 dX6_packWords_82
    · refine zj_iload_n (j := 3) (i := 3) C rfl 2 rfl dX6_packWords_17 ?_
      refine zj_aload_n (j := 0) (i := 0) C rfl 0 rfl dX6_packWords_18 ?_
      refine zp_getR C F fl_X6_15 dX6_packWords_19 ?_
      refine zp_alen C F dX6_packWords_22 ?_
      refine zj_icmp_ge C 81 h_v3 irc_24 dX6_packWords_23 rfl (fun c4 => ?_) (fun c4 => ?_)
      · refine zj_iload_n (j := 3) (i := 3) C rfl 2 rfl dX6_packWords_81 ?_
        exact zrt_i C Z h_v3 dX6_packWords_82
      · refine zj_aload_n (j := 1) (i := 1) C rfl 1 rfl dX6_packWords_26 ?_
        refine zj_iload C 4 rfl dX6_packWords_27 ?_
        refine zj_callTi C Z [.int (i32 v6)] [] cal_J0_charAt_5068e calv_J0_charAt_5068e ml_X6_64 h_s1 rfl rfl (by decide) (Nat.le_of_ble_eq_true rfl) rfl dX6_packWords_29 (fun q h => M_J0_charAt_5068e l Γ h_s1 h_v6 m2 q h) (fun y5 m6 h_y5 => ?_)
        refine zj_bipush C 32 rfl dX6_packWords_32 ?_
        refine zj_icmp_ne C 54 h_y5 irc_32 dX6_packWords_34 rfl (fun c7 => ?_) (fun c7 => ?_)
        · refine zj_aload_n (j := 0) (i := 0) C rfl 0 rfl dX6_packWords_37 ?_
          refine zp_getR C F fl_X6_15 dX6_packWords_38 ?_
          refine zj_iload_n (j := 3) (i := 3) C rfl 2 rfl dX6_packWords_41 ?_
          refine zj_lload C 3 rfl dX6_packWords_42 ?_
          refine zp_lastore C F h_v3 h_w4 dX6_packWords_44 (fun c8 => ?_)
          refine zj_pipeM (fun m9 e_m9 => ?_)
          refine zj_iinc C 2 [(3, .int (i32 (w32 (v3 + 1)))), (0, .ref (zad Γ 1)), (1, .ref (gS Γ (10 + s1))), (4, .long (i64 w4)), (6, .int (i32 v6))] rfl dX6_packWords_45 (by decide) rfl ?_
          refine zj_lconst (n := 0) C 0 rfl dX6_packWords_48 ?_
          refine zj_lstore C [(4, .long (i64 0)), (3, .int (i32 (w32 (v3 + 1)))), (0, .ref (zad Γ 1)), (1, .ref (gS Γ (10 + s1))), (6, .int (i32 v6))] dX6_packWords_49 (by decide) rfl ?_
          refine zj_goto (tgt := 75) C dX6_packWords_51 rfl ?_
          refine zj_iinc C 4 [(6, .int (i32 (w32 (v6 + 1)))), (4, .long (i64 0)), (3, .int (i32 (w32 (v3 + 1)))), (0, .ref (zad Γ 1)), (1, .ref (gS Γ (10 + s1)))] rfl dX6_packWords_75 (by decide) rfl ?_
          refine zj_goto (tgt := 8) C dX6_packWords_78 rfl ?_
          exact zj_sub [3, 4, 2, 1, 0] rfl (ih s1 (w32 (v3 + 1)) 0 (w32 (v6 + 1)) h_s1 (ir_w _) lrc_0 (ir_w _) m9)
        · refine zj_lload C 3 rfl dX6_packWords_54 ?_
          refine zj_ldc2 C 32 kc_X6_68 dX6_packWords_56 ?_
          refine zj_lmul C dX6_packWords_59 ?_
          refine zj_aload_n (j := 1) (i := 1) C rfl 1 rfl dX6_packWords_60 ?_
          refine zj_iload C 4 rfl dX6_packWords_61 ?_
          refine zj_callTi C Z [.int (i32 v6)] [.long (i64 (w64 (w4 * 32)))] cal_J0_charAt_5068e calv_J0_charAt_5068e ml_X6_64 h_s1 rfl rfl (by decide) (Nat.le_of_ble_eq_true rfl) rfl dX6_packWords_63 (fun q h => M_J0_charAt_5068e l Γ h_s1 h_v6 m6 q h) (fun y10 m11 h_y10 => ?_)
          refine zj_bipush C 97 rfl dX6_packWords_66 ?_
          refine zj_isub C dX6_packWords_68 ?_
          refine zj_iconst C 1 dX6_packWords_69 ?_
          refine zj_iadd C dX6_packWords_70 ?_
          refine zj_i2l C (ir_w _) dX6_packWords_71 ?_
          refine zj_ladd C dX6_packWords_72 ?_
          refine zj_pipeL (fun y12 e_y12 => ?_)
          have h_y12 := lr_eq e_y12 (lr_w _)
          refine zj_lstore C [(4, .long (i64 y12)), (0, .ref (zad Γ 1)), (1, .ref (gS Γ (10 + s1))), (3, .int (i32 v3)), (6, .int (i32 v6))] dX6_packWords_73 (by decide) rfl ?_
          refine zj_iinc C 4 [(6, .int (i32 (w32 (v6 + 1)))), (4, .long (i64 y12)), (0, .ref (zad Γ 1)), (1, .ref (gS Γ (10 + s1))), (3, .int (i32 v3))] rfl dX6_packWords_75 (by decide) rfl ?_
          refine zj_goto (tgt := 8) C dX6_packWords_78 rfl ?_
          exact zj_sub [2, 3, 4, 1, 0] rfl (ih s1 v3 y12 (w32 (v6 + 1)) h_s1 h_v3 h_y12 (ir_w _) m11)
noncomputable def f_X6_packWords (t0 : Nat) (x1 : Int) (mem : zMem) : Option (Int × zMem) := f_X6_packWords_0 zN t0 x1 0 0 mem
set_option maxHeartbeats 4000000 in
theorem M_X6_packWords (l : Launch) (Γ : zG) (F : zPw Γ)  {t0 : Nat} {x1 : Int} (h_t0 : t0 < 10) (h_x1 : ir x1) (mem : zMem) (q : Int × zMem) (h : f_X6_packWords t0 x1 mem = some q) : zMet l yX6_packWords cX6_packWords 7 (some .int) 5 Γ 1 [.ref (zad Γ 1), .ref (gS Γ (10 + t0)), .int (i32 x1)] mem q := by
  refine zMet_of (own := "ShadowHeirs$Reader") (by decide) rfl (Nat.le_of_ble_eq_true rfl) (fun X C Z => ?_)
  revert h
  show zJ X Γ 7 q (f_X6_packWords t0 x1 mem) 0 [(0, .ref (zad Γ 1)), (1, .ref (gS Γ (10 + t0))), (2, .int (i32 x1))] [] mem
  unfold f_X6_packWords
  refine zj_iload_n (j := 2) (i := 2) C rfl 2 rfl dX6_packWords_0 ?_
  refine zj_istore_n (j := 3) (i := 3) C rfl [(3, .int (i32 x1)), (0, .ref (zad Γ 1)), (1, .ref (gS Γ (10 + t0))), (2, .int (i32 x1))] dX6_packWords_1 (by decide) rfl ?_
  refine zj_lconst (n := 0) C 0 rfl dX6_packWords_2 ?_
  refine zj_lstore C [(4, .long (i64 0)), (3, .int (i32 x1)), (0, .ref (zad Γ 1)), (1, .ref (gS Γ (10 + t0))), (2, .int (i32 x1))] dX6_packWords_3 (by decide) rfl ?_
  refine zj_iconst C 0 dX6_packWords_5 ?_
  refine zj_istore C [(6, .int (i32 0)), (4, .long (i64 0)), (3, .int (i32 x1)), (0, .ref (zad Γ 1)), (1, .ref (gS Γ (10 + t0))), (2, .int (i32 x1))] dX6_packWords_6 (by decide) rfl ?_
  exact zj_sub [3, 4, 2, 1, 0] rfl ((L_X6_packWords_0 l F C Z zN) t0 x1 0 0 h_t0 h_x1 lrc_0 irc_0 mem)
