/-! the law: a call of a helper; the facts of its calls -/
theorem lg_callH {X : zM} {Γ : zG} {own : String} {cc : ByteArray} {nL pc cs sl : Nat} {lv : List (Nat × Value)} {st : List Value} {mem : zMem} (C : zC (kX X cs sl) Γ own cc nL) {l : Launch} (hl0 : X.2.1 = l) (hx : xE Γ X.2.2.2.2.1 X.2.2.2.2.1.heap) {y : MethodName} {cy : ByteArray} {hh : List (Nat × Nat × Nat × Nat)} {nY n idx D : Nat} {As rest : List Value} {q : Int × zMem} (hw : ∀ w ∈ [Cond.methodLink own idx y, .static y, .initialized y.cls, .codeWith y cy nY (some .int) hh], w ∈ gw_tbl) (hd : y.cls ≠ "java/lang/invoke/MethodHandle" ∧ y.cls ≠ "java/lang/invoke/VarHandle" ∧ (parseMethodDescriptor y.desc).map (fun d => d.parameters.length) = some n) (hn : As.length = n) (hR : D + 1 ≤ (kR X).frames ∧ 8 + (nY + 11) + 60 * D ≤ (kR X).locals ∧ cs + 1 ≤ (kR X).cells ∧ sl + 6 ≤ (kR X).slots) (hrest : (rest.map fun v => v.category).sum ≤ 8) (d : decode cc pc = .ok (.invokestatic idx, 3)) (hM : hMet l y cy nY hh D Γ As mem q) (hst : st = As.reverse ++ rest) (kk : ir q.1 → zg (kX X (cs + 1) (sl + 6)) Γ nL (pc + 3) lv (.int (i32 q.1) :: rest) q.2) : zg (kX X cs sl) Γ nL pc lv st mem := by
  subst hst
  obtain ⟨p, l', e, R, s, m, args, below, meth, c, cs0, sl0, Q⟩ := X
  have hl0 : l' = l := hl0
  subst hl0
  intro ls H locs hls hS hP hC
  obtain ⟨x1, x2, x3, x4, x5, x6, x7, x8, x9⟩ := C
  have hroom : (kRm D 1 6).frames + 1 ≤ R.frames ∧ 8 + (nY + 11) + (kRm D 1 6).locals ≤ R.locals := ⟨hR.1, hR.2.1⟩
  have hG : GoodIn gw_tbl (va_wsS own idx y (hws y cy nY hh)) := by
    intro w h
    refine gw_good w ?_
    rcases List.mem_append.mp h with h | h
    · have h3 : w ∈ ([Cond.methodLink own idx y, .static y, .initialized y.cls] : List Cond) ++ [Cond.codeWith y cy nY (some .int) hh] := List.mem_append_left _ h
      exact hw w h3
    · rcases List.mem_cons.mp h with rfl | h
      · exact hw _ (by simp)
      · exact h
  have hpre : PreS s H (xPre Γ As mem) As := ⟨xPre_blind _, fun U hU hW => ⟨zPre_at x6 x7 x8 x9 hS hP hC hU hW, xE.warm hW (xE.kept hx (fun a h1 h2 => by rw [hU]; exact hS.2.1 a h1 h2))⟩⟩
  have hst : (F0 m pc ls (As.reverse ++ rest)).stack = As.reverse ++ rest := rfl
  have hr : vx_Run p l' e R s m args below meth c H locs cs sl 1 6 (F0 m pc ls (As.reverse ++ rest)) rest (zPost Γ 1 q As.toArray) xNo (zA Γ) := vx_runSX (rest := rest) ⟨x1, x2, x3, x4, x5⟩ hM (vx_cwSW n x5 hG rfl rfl rfl hd hroom) hpre rfl hn hls.1 hst (lv_room hrest) d hR.2.2
  intro T hT XX
  rcases hr T hT XX with ⟨v, st₀, t, T', L, g0, X', hL, e1, e2, ⟨hv, hi, hP', hC', hz, hf⟩, stp⟩ | ⟨q, st₀, t, T', L, E, ce, g0, X', hL, e1, e2, hE, -⟩
  · have hv : v = some (.int (i32 q.1)) := by cases hv; rfl
    subst hv
    rw [g0] at hz hf
    obtain ⟨t2, a1, b1⟩ := kk hi ls T'.heap (locs ++ L) hls ⟨Nat.le_trans hS.1 (by rw [e1]; exact hz), fun x h1 h2 => by rw [e1, hf x (Nat.lt_of_lt_of_le h1 hS.1) h2]; exact hS.2.1 x h1 h2, fun x hx => by
      rcases List.mem_append.mp hx with h | h
      · exact hS.2.2 x h
      · exact hL x h⟩ (by rw [e1]; exact hP') hC' T' rfl X'
    exact ⟨t2, stp t2 a1, b1⟩
  · exact hE.elim
abbrev lLv (Γ : zG) (b t : Nat) : List (Nat × Value) := [(0, .ref b), (1, .ref (zad Γ 0)), (2, .ref (zad Γ 138)), (3, .ref (zad Γ 157)), (4, .int (i32 (t : Int)))]
theorem sK138 : sK 138 = 12 := by decide +kernel
theorem sK0 : sK 0 = 11 := by decide +kernel
theorem lt5 {t L : Nat} (h : t + 5 < L) (j : Nat) (hj : j ≤ 5) : t + j < L := Nat.lt_of_le_of_lt (Nat.add_le_add_left hj t) h
theorem room_ok {X : zM} (hR : kR X = room_1) {cs sl nY dd : Nat} (h : dd ≤ 100 ∧ nY ≤ 41) (hc : cs ≤ 1000 ∧ sl ≤ 20000) : dd + 1 ≤ (kR X).frames ∧ 8 + (nY + 11) + 60 * dd ≤ (kR X).locals ∧ cs ≤ (kR X).cells ∧ sl ≤ (kR X).slots := by
  rw [hR]
  show dd + 1 ≤ 2048 ∧ 8 + (nY + 11) + 60 * dd ≤ 84000 ∧ cs ≤ 600128 ∧ sl ≤ 7301098
  omega
set_option maxRecDepth 100000 in
theorem cal_X11_feed : zCal yX11_feed cX11_feed 6 (some .int) 5 := ⟨(gw_3 (List.mem_of_getElem? (i := 60) rfl) rfl), (gw_1 (List.mem_of_getElem? (i := 1) (by decide +kernel)) rfl), by decide +kernel⟩
theorem calv_X11_feed : zCalV yX11_feed := ⟨(gw_3 (List.mem_of_getElem? (i := 58) (by decide +kernel)) rfl), (gw_3 (List.mem_of_getElem? (i := 59) (by decide +kernel)) rfl)⟩
theorem ml_ShadowHeirsLaw_26 : zMl "ShadowHeirsLaw" 26 yX11_feed := Or.inl (gw_3 (List.mem_of_getElem? (i := 57) (by decide +kernel)) rfl)
set_option maxRecDepth 100000 in
theorem cal_X12_feed : zCal yX12_feed cX12_feed 6 (some .int) 5 := ⟨(gw_6 (List.mem_of_getElem? (i := 70) rfl) rfl), (gw_1 (List.mem_of_getElem? (i := 17) (by decide +kernel)) rfl), by decide +kernel⟩
theorem calv_X12_feed : zCalV yX12_feed := ⟨(gw_6 (List.mem_of_getElem? (i := 68) (by decide +kernel)) rfl), (gw_6 (List.mem_of_getElem? (i := 69) (by decide +kernel)) rfl)⟩
theorem ml_ShadowHeirsLaw_30 : zMl "ShadowHeirsLaw" 30 yX12_feed := Or.inl (gw_6 (List.mem_of_getElem? (i := 67) (by decide +kernel)) rfl)
set_option maxRecDepth 100000 in
theorem cal_X11_end : zCal yX11_end cX11_end 2 (some .boolean) 1 := ⟨(gw_3 (List.mem_of_getElem? (i := 72) rfl) rfl), (gw_1 (List.mem_of_getElem? (i := 1) (by decide +kernel)) rfl), by decide +kernel⟩
theorem calv_X11_end : zCalV yX11_end := ⟨(gw_3 (List.mem_of_getElem? (i := 70) (by decide +kernel)) rfl), (gw_3 (List.mem_of_getElem? (i := 71) (by decide +kernel)) rfl)⟩
theorem ml_ShadowHeirsLaw_31 : zMl "ShadowHeirsLaw" 31 yX11_end := Or.inl (gw_3 (List.mem_of_getElem? (i := 69) (by decide +kernel)) rfl)
set_option maxRecDepth 100000 in
theorem cal_X12_end : zCal yX12_end cX12_end 2 (some .boolean) 1 := ⟨(gw_6 (List.mem_of_getElem? (i := 79) rfl) rfl), (gw_1 (List.mem_of_getElem? (i := 17) (by decide +kernel)) rfl), by decide +kernel⟩
theorem calv_X12_end : zCalV yX12_end := ⟨(gw_6 (List.mem_of_getElem? (i := 77) (by decide +kernel)) rfl), (gw_6 (List.mem_of_getElem? (i := 78) (by decide +kernel)) rfl)⟩
theorem ml_ShadowHeirsLaw_35 : zMl "ShadowHeirsLaw" 35 yX12_end := Or.inl (gw_6 (List.mem_of_getElem? (i := 76) (by decide +kernel)) rfl)
set_option maxRecDepth 100000 in
theorem cal_X11_island : zCal yX11_island cX11_island 2 (some .int) 0 := ⟨(gw_3 (List.mem_of_getElem? (i := 76) rfl) rfl), (gw_1 (List.mem_of_getElem? (i := 1) (by decide +kernel)) rfl), by decide +kernel⟩
theorem calv_X11_island : zCalV yX11_island := ⟨(gw_3 (List.mem_of_getElem? (i := 74) (by decide +kernel)) rfl), (gw_3 (List.mem_of_getElem? (i := 75) (by decide +kernel)) rfl)⟩
theorem ml_ShadowHeirsLaw_36 : zMl "ShadowHeirsLaw" 36 yX11_island := Or.inl (gw_3 (List.mem_of_getElem? (i := 73) (by decide +kernel)) rfl)
set_option maxRecDepth 100000 in
theorem cal_X12_island : zCal yX12_island cX12_island 3 (some .int) 0 := ⟨(gw_6 (List.mem_of_getElem? (i := 234) rfl) rfl), (gw_1 (List.mem_of_getElem? (i := 17) (by decide +kernel)) rfl), by decide +kernel⟩
theorem calv_X12_island : zCalV yX12_island := ⟨(gw_6 (List.mem_of_getElem? (i := 232) (by decide +kernel)) rfl), (gw_6 (List.mem_of_getElem? (i := 233) (by decide +kernel)) rfl)⟩
theorem ml_ShadowHeirsLaw_40 : zMl "ShadowHeirsLaw" 40 yX12_island := Or.inl (gw_6 (List.mem_of_getElem? (i := 231) (by decide +kernel)) rfl)
set_option maxRecDepth 100000 in
theorem cal_X11_fault : zCal yX11_fault cX11_fault 1 (some .int) 0 := ⟨(gw_3 (List.mem_of_getElem? (i := 216) rfl) rfl), (gw_1 (List.mem_of_getElem? (i := 1) (by decide +kernel)) rfl), by decide +kernel⟩
theorem calv_X11_fault : zCalV yX11_fault := ⟨(gw_3 (List.mem_of_getElem? (i := 214) (by decide +kernel)) rfl), (gw_3 (List.mem_of_getElem? (i := 215) (by decide +kernel)) rfl)⟩
theorem ml_ShadowHeirsLaw_41 : zMl "ShadowHeirsLaw" 41 yX11_fault := Or.inl (gw_3 (List.mem_of_getElem? (i := 213) (by decide +kernel)) rfl)
set_option maxRecDepth 100000 in
theorem cal_X12_fault : zCal yX12_fault cX12_fault 1 (some .int) 0 := ⟨(gw_7 (List.mem_of_getElem? (i := 106) rfl) rfl), (gw_1 (List.mem_of_getElem? (i := 17) (by decide +kernel)) rfl), by decide +kernel⟩
theorem calv_X12_fault : zCalV yX12_fault := ⟨(gw_7 (List.mem_of_getElem? (i := 104) (by decide +kernel)) rfl), (gw_7 (List.mem_of_getElem? (i := 105) (by decide +kernel)) rfl)⟩
theorem ml_ShadowHeirsLaw_44 : zMl "ShadowHeirsLaw" 44 yX12_fault := Or.inl (gw_7 (List.mem_of_getElem? (i := 103) (by decide +kernel)) rfl)
set_option maxRecDepth 100000 in
theorem cal_X11_cell : zCal yX11_cell cX11_cell 5 (some .int) 3 := ⟨(gw_3 (List.mem_of_getElem? (i := 220) rfl) rfl), (gw_1 (List.mem_of_getElem? (i := 1) (by decide +kernel)) rfl), by decide +kernel⟩
theorem calv_X11_cell : zCalV yX11_cell := ⟨(gw_3 (List.mem_of_getElem? (i := 218) (by decide +kernel)) rfl), (gw_3 (List.mem_of_getElem? (i := 219) (by decide +kernel)) rfl)⟩
theorem ml_ShadowHeirsLaw_45 : zMl "ShadowHeirsLaw" 45 yX11_cell := Or.inl (gw_3 (List.mem_of_getElem? (i := 217) (by decide +kernel)) rfl)
set_option maxRecDepth 100000 in
theorem cal_X12_cell : zCal yX12_cell cX12_cell 5 (some .int) 3 := ⟨(gw_7 (List.mem_of_getElem? (i := 110) rfl) rfl), (gw_1 (List.mem_of_getElem? (i := 17) (by decide +kernel)) rfl), by decide +kernel⟩
theorem calv_X12_cell : zCalV yX12_cell := ⟨(gw_7 (List.mem_of_getElem? (i := 108) (by decide +kernel)) rfl), (gw_7 (List.mem_of_getElem? (i := 109) (by decide +kernel)) rfl)⟩
theorem ml_ShadowHeirsLaw_49 : zMl "ShadowHeirsLaw" 49 yX12_cell := Or.inl (gw_7 (List.mem_of_getElem? (i := 107) (by decide +kernel)) rfl)
set_option maxRecDepth 100000 in
theorem cal_X11_now : zCal yX11_now cX11_now 2 (some .int) 1 := ⟨(gw_4 (List.mem_of_getElem? (i := 24) rfl) rfl), (gw_1 (List.mem_of_getElem? (i := 1) (by decide +kernel)) rfl), by decide +kernel⟩
theorem calv_X11_now : zCalV yX11_now := ⟨(gw_4 (List.mem_of_getElem? (i := 22) (by decide +kernel)) rfl), (gw_4 (List.mem_of_getElem? (i := 23) (by decide +kernel)) rfl)⟩
theorem ml_ShadowHeirsLaw_62 : zMl "ShadowHeirsLaw" 62 yX11_now := Or.inl (gw_4 (List.mem_of_getElem? (i := 21) (by decide +kernel)) rfl)
set_option maxRecDepth 100000 in
theorem cal_X12_now : zCal yX12_now cX12_now 2 (some .int) 1 := ⟨(gw_7 (List.mem_of_getElem? (i := 188) rfl) rfl), (gw_1 (List.mem_of_getElem? (i := 17) (by decide +kernel)) rfl), by decide +kernel⟩
theorem calv_X12_now : zCalV yX12_now := ⟨(gw_7 (List.mem_of_getElem? (i := 186) (by decide +kernel)) rfl), (gw_7 (List.mem_of_getElem? (i := 187) (by decide +kernel)) rfl)⟩
theorem ml_ShadowHeirsLaw_66 : zMl "ShadowHeirsLaw" 66 yX12_now := Or.inl (gw_7 (List.mem_of_getElem? (i := 185) (by decide +kernel)) rfl)
set_option maxRecDepth 100000 in
theorem cal_X11_go : zCal yX11_go cX11_go 4 (some .int) 2 := ⟨(gw_4 (List.mem_of_getElem? (i := 37) rfl) rfl), (gw_1 (List.mem_of_getElem? (i := 1) (by decide +kernel)) rfl), by decide +kernel⟩
theorem calv_X11_go : zCalV yX11_go := ⟨(gw_4 (List.mem_of_getElem? (i := 35) (by decide +kernel)) rfl), (gw_4 (List.mem_of_getElem? (i := 36) (by decide +kernel)) rfl)⟩
theorem ml_ShadowHeirsLaw_67 : zMl "ShadowHeirsLaw" 67 yX11_go := Or.inl (gw_4 (List.mem_of_getElem? (i := 34) (by decide +kernel)) rfl)
set_option maxRecDepth 100000 in
theorem cal_X12_go_ : zCal yX12_go_ cX12_go_ 3 (some .int) 2 := ⟨(gw_7 (List.mem_of_getElem? (i := 196) rfl) rfl), (gw_1 (List.mem_of_getElem? (i := 17) (by decide +kernel)) rfl), by decide +kernel⟩
theorem calv_X12_go_ : zCalV yX12_go_ := ⟨(gw_7 (List.mem_of_getElem? (i := 194) (by decide +kernel)) rfl), (gw_7 (List.mem_of_getElem? (i := 195) (by decide +kernel)) rfl)⟩
theorem ml_ShadowHeirsLaw_70 : zMl "ShadowHeirsLaw" 70 yX12_go_ := Or.inl (gw_7 (List.mem_of_getElem? (i := 193) (by decide +kernel)) rfl)
set_option maxRecDepth 100000 in
theorem cal_X11_lay : zCal yX11_lay cX11_lay 5 (some .int) 2 := ⟨(gw_4 (List.mem_of_getElem? (i := 60) rfl) rfl), (gw_1 (List.mem_of_getElem? (i := 1) (by decide +kernel)) rfl), by decide +kernel⟩
theorem calv_X11_lay : zCalV yX11_lay := ⟨(gw_4 (List.mem_of_getElem? (i := 58) (by decide +kernel)) rfl), (gw_4 (List.mem_of_getElem? (i := 59) (by decide +kernel)) rfl)⟩
theorem ml_ShadowHeirsLaw_71 : zMl "ShadowHeirsLaw" 71 yX11_lay := Or.inl (gw_4 (List.mem_of_getElem? (i := 57) (by decide +kernel)) rfl)
set_option maxRecDepth 100000 in
theorem cal_X12_lay : zCal yX12_lay cX12_lay 3 (some .int) 2 := ⟨(gw_7 (List.mem_of_getElem? (i := 227) rfl) rfl), (gw_1 (List.mem_of_getElem? (i := 17) (by decide +kernel)) rfl), by decide +kernel⟩
theorem calv_X12_lay : zCalV yX12_lay := ⟨(gw_7 (List.mem_of_getElem? (i := 225) (by decide +kernel)) rfl), (gw_7 (List.mem_of_getElem? (i := 226) (by decide +kernel)) rfl)⟩
theorem ml_ShadowHeirsLaw_74 : zMl "ShadowHeirsLaw" 74 yX12_lay := Or.inl (gw_7 (List.mem_of_getElem? (i := 224) (by decide +kernel)) rfl)
set_option maxRecDepth 100000 in
theorem cal_X11_tear : zCal yX11_tear cX11_tear 5 (some .int) 2 := ⟨(gw_4 (List.mem_of_getElem? (i := 74) rfl) rfl), (gw_1 (List.mem_of_getElem? (i := 1) (by decide +kernel)) rfl), by decide +kernel⟩
theorem calv_X11_tear : zCalV yX11_tear := ⟨(gw_4 (List.mem_of_getElem? (i := 72) (by decide +kernel)) rfl), (gw_4 (List.mem_of_getElem? (i := 73) (by decide +kernel)) rfl)⟩
theorem ml_ShadowHeirsLaw_75 : zMl "ShadowHeirsLaw" 75 yX11_tear := Or.inl (gw_4 (List.mem_of_getElem? (i := 71) (by decide +kernel)) rfl)
set_option maxRecDepth 100000 in
theorem cal_X12_tear : zCal yX12_tear cX12_tear 3 (some .int) 2 := ⟨(gw_7 (List.mem_of_getElem? (i := 231) rfl) rfl), (gw_1 (List.mem_of_getElem? (i := 17) (by decide +kernel)) rfl), by decide +kernel⟩
theorem calv_X12_tear : zCalV yX12_tear := ⟨(gw_7 (List.mem_of_getElem? (i := 229) (by decide +kernel)) rfl), (gw_7 (List.mem_of_getElem? (i := 230) (by decide +kernel)) rfl)⟩
theorem ml_ShadowHeirsLaw_78 : zMl "ShadowHeirsLaw" 78 yX12_tear := Or.inl (gw_7 (List.mem_of_getElem? (i := 228) (by decide +kernel)) rfl)
set_option maxRecDepth 100000 in
theorem cal_X11_bury : zCal yX11_bury cX11_bury 3 (some .int) 1 := ⟨(gw_4 (List.mem_of_getElem? (i := 86) rfl) rfl), (gw_1 (List.mem_of_getElem? (i := 1) (by decide +kernel)) rfl), by decide +kernel⟩
theorem calv_X11_bury : zCalV yX11_bury := ⟨(gw_4 (List.mem_of_getElem? (i := 84) (by decide +kernel)) rfl), (gw_4 (List.mem_of_getElem? (i := 85) (by decide +kernel)) rfl)⟩
theorem ml_ShadowHeirsLaw_79 : zMl "ShadowHeirsLaw" 79 yX11_bury := Or.inl (gw_4 (List.mem_of_getElem? (i := 83) (by decide +kernel)) rfl)
set_option maxRecDepth 100000 in
theorem cal_X12_bury : zCal yX12_bury cX12_bury 2 (some .int) 1 := ⟨(gw_7 (List.mem_of_getElem? (i := 235) rfl) rfl), (gw_1 (List.mem_of_getElem? (i := 17) (by decide +kernel)) rfl), by decide +kernel⟩
theorem calv_X12_bury : zCalV yX12_bury := ⟨(gw_7 (List.mem_of_getElem? (i := 233) (by decide +kernel)) rfl), (gw_7 (List.mem_of_getElem? (i := 234) (by decide +kernel)) rfl)⟩
theorem ml_ShadowHeirsLaw_82 : zMl "ShadowHeirsLaw" 82 yX12_bury := Or.inl (gw_7 (List.mem_of_getElem? (i := 232) (by decide +kernel)) rfl)
set_option maxRecDepth 100000 in
theorem cal_X11_hours : zCal yX11_hours cX11_hours 3 (some .int) 1 := ⟨(gw_4 (List.mem_of_getElem? (i := 117) rfl) rfl), (gw_1 (List.mem_of_getElem? (i := 1) (by decide +kernel)) rfl), by decide +kernel⟩
theorem calv_X11_hours : zCalV yX11_hours := ⟨(gw_4 (List.mem_of_getElem? (i := 115) (by decide +kernel)) rfl), (gw_4 (List.mem_of_getElem? (i := 116) (by decide +kernel)) rfl)⟩
theorem ml_ShadowHeirsLaw_83 : zMl "ShadowHeirsLaw" 83 yX11_hours := Or.inl (gw_4 (List.mem_of_getElem? (i := 114) (by decide +kernel)) rfl)
set_option maxRecDepth 100000 in
theorem cal_X12_hours : zCal yX12_hours cX12_hours 2 (some .int) 1 := ⟨(gw_8 (List.mem_of_getElem? (i := 3) rfl) rfl), (gw_1 (List.mem_of_getElem? (i := 17) (by decide +kernel)) rfl), by decide +kernel⟩
theorem calv_X12_hours : zCalV yX12_hours := ⟨(gw_8 (List.mem_of_getElem? (i := 1) (by decide +kernel)) rfl), (gw_8 (List.mem_of_getElem? (i := 2) (by decide +kernel)) rfl)⟩
theorem ml_ShadowHeirsLaw_86 : zMl "ShadowHeirsLaw" 86 yX12_hours := Or.inl (gw_8 (List.mem_of_getElem? (i := 0) (by decide +kernel)) rfl)
set_option maxRecDepth 100000 in
theorem cal_X11_undo : zCal yX11_undo cX11_undo 1 (some .int) 0 := ⟨(gw_4 (List.mem_of_getElem? (i := 121) rfl) rfl), (gw_1 (List.mem_of_getElem? (i := 1) (by decide +kernel)) rfl), by decide +kernel⟩
theorem calv_X11_undo : zCalV yX11_undo := ⟨(gw_4 (List.mem_of_getElem? (i := 119) (by decide +kernel)) rfl), (gw_4 (List.mem_of_getElem? (i := 120) (by decide +kernel)) rfl)⟩
theorem ml_ShadowHeirsLaw_87 : zMl "ShadowHeirsLaw" 87 yX11_undo := Or.inl (gw_4 (List.mem_of_getElem? (i := 118) (by decide +kernel)) rfl)
set_option maxRecDepth 100000 in
theorem cal_X12_undo : zCal yX12_undo cX12_undo 2 (some .int) 0 := ⟨(gw_7 (List.mem_of_getElem? (i := 239) rfl) rfl), (gw_1 (List.mem_of_getElem? (i := 17) (by decide +kernel)) rfl), by decide +kernel⟩
theorem calv_X12_undo : zCalV yX12_undo := ⟨(gw_7 (List.mem_of_getElem? (i := 237) (by decide +kernel)) rfl), (gw_7 (List.mem_of_getElem? (i := 238) (by decide +kernel)) rfl)⟩
theorem ml_ShadowHeirsLaw_90 : zMl "ShadowHeirsLaw" 90 yX12_undo := Or.inl (gw_7 (List.mem_of_getElem? (i := 236) (by decide +kernel)) rfl)
set_option maxRecDepth 100000 in
theorem cal_X11_shadow : zCal yX11_shadow cX11_shadow 3 (some .int) 2 := ⟨(gw_4 (List.mem_of_getElem? (i := 129) rfl) rfl), (gw_1 (List.mem_of_getElem? (i := 1) (by decide +kernel)) rfl), by decide +kernel⟩
theorem calv_X11_shadow : zCalV yX11_shadow := ⟨(gw_4 (List.mem_of_getElem? (i := 127) (by decide +kernel)) rfl), (gw_4 (List.mem_of_getElem? (i := 128) (by decide +kernel)) rfl)⟩
theorem ml_ShadowHeirsLaw_91 : zMl "ShadowHeirsLaw" 91 yX11_shadow := Or.inl (gw_4 (List.mem_of_getElem? (i := 126) (by decide +kernel)) rfl)
theorem ml_ShadowHeirsLaw_94 : zMl "ShadowHeirsLaw" 94 yX12_shadow := Or.inl (gw_8 (List.mem_of_getElem? (i := 11) (by decide +kernel)) rfl)
set_option maxRecDepth 100000 in
theorem cal_X11_heirs : zCal yX11_heirs cX11_heirs 3 (some .int) 2 := ⟨(gw_4 (List.mem_of_getElem? (i := 135) rfl) rfl), (gw_1 (List.mem_of_getElem? (i := 1) (by decide +kernel)) rfl), by decide +kernel⟩
theorem calv_X11_heirs : zCalV yX11_heirs := ⟨(gw_4 (List.mem_of_getElem? (i := 133) (by decide +kernel)) rfl), (gw_4 (List.mem_of_getElem? (i := 134) (by decide +kernel)) rfl)⟩
theorem ml_ShadowHeirsLaw_95 : zMl "ShadowHeirsLaw" 95 yX11_heirs := Or.inl (gw_4 (List.mem_of_getElem? (i := 132) (by decide +kernel)) rfl)
set_option maxRecDepth 100000 in
theorem cal_X12_heirs : zCal yX12_heirs cX12_heirs 3 (some .int) 2 := ⟨(gw_8 (List.mem_of_getElem? (i := 22) rfl) rfl), (gw_1 (List.mem_of_getElem? (i := 17) (by decide +kernel)) rfl), by decide +kernel⟩
theorem calv_X12_heirs : zCalV yX12_heirs := ⟨(gw_8 (List.mem_of_getElem? (i := 20) (by decide +kernel)) rfl), (gw_8 (List.mem_of_getElem? (i := 21) (by decide +kernel)) rfl)⟩
theorem ml_ShadowHeirsLaw_98 : zMl "ShadowHeirsLaw" 98 yX12_heirs := Or.inl (gw_8 (List.mem_of_getElem? (i := 19) (by decide +kernel)) rfl)
set_option maxRecDepth 100000 in
theorem cal_X11_best : zCal yX11_best cX11_best 7 (some .int) 2 := ⟨(gw_4 (List.mem_of_getElem? (i := 140) rfl) rfl), (gw_1 (List.mem_of_getElem? (i := 1) (by decide +kernel)) rfl), by decide +kernel⟩
theorem calv_X11_best : zCalV yX11_best := ⟨(gw_4 (List.mem_of_getElem? (i := 138) (by decide +kernel)) rfl), (gw_4 (List.mem_of_getElem? (i := 139) (by decide +kernel)) rfl)⟩
theorem ml_ShadowHeirsLaw_103 : zMl "ShadowHeirsLaw" 103 yX11_best := Or.inl (gw_4 (List.mem_of_getElem? (i := 137) (by decide +kernel)) rfl)
set_option maxRecDepth 100000 in
theorem cal_X12_best : zCal yX12_best cX12_best 7 (some .int) 2 := ⟨(gw_8 (List.mem_of_getElem? (i := 30) rfl) rfl), (gw_1 (List.mem_of_getElem? (i := 17) (by decide +kernel)) rfl), by decide +kernel⟩
theorem calv_X12_best : zCalV yX12_best := ⟨(gw_8 (List.mem_of_getElem? (i := 28) (by decide +kernel)) rfl), (gw_8 (List.mem_of_getElem? (i := 29) (by decide +kernel)) rfl)⟩
theorem ml_ShadowHeirsLaw_106 : zMl "ShadowHeirsLaw" 106 yX12_best := Or.inl (gw_8 (List.mem_of_getElem? (i := 27) (by decide +kernel)) rfl)
set_option maxRecDepth 100000 in
theorem cal_X11_spare : zCal yX11_spare cX11_spare 6 (some .int) 3 := ⟨(gw_4 (List.mem_of_getElem? (i := 148) rfl) rfl), (gw_1 (List.mem_of_getElem? (i := 1) (by decide +kernel)) rfl), by decide +kernel⟩
theorem calv_X11_spare : zCalV yX11_spare := ⟨(gw_4 (List.mem_of_getElem? (i := 146) (by decide +kernel)) rfl), (gw_4 (List.mem_of_getElem? (i := 147) (by decide +kernel)) rfl)⟩
theorem ml_ShadowHeirsLaw_107 : zMl "ShadowHeirsLaw" 107 yX11_spare := Or.inl (gw_4 (List.mem_of_getElem? (i := 145) (by decide +kernel)) rfl)
set_option maxRecDepth 100000 in
theorem cal_X12_spare : zCal yX12_spare cX12_spare 8 (some .int) 3 := ⟨(gw_8 (List.mem_of_getElem? (i := 35) rfl) rfl), (gw_1 (List.mem_of_getElem? (i := 17) (by decide +kernel)) rfl), by decide +kernel⟩
theorem calv_X12_spare : zCalV yX12_spare := ⟨(gw_8 (List.mem_of_getElem? (i := 33) (by decide +kernel)) rfl), (gw_8 (List.mem_of_getElem? (i := 34) (by decide +kernel)) rfl)⟩
theorem ml_ShadowHeirsLaw_110 : zMl "ShadowHeirsLaw" 110 yX12_spare := Or.inl (gw_8 (List.mem_of_getElem? (i := 32) (by decide +kernel)) rfl)
set_option maxRecDepth 100000 in
theorem cal_X11_spareAt : zCal yX11_spareAt cX11_spareAt 1 (some .int) 0 := ⟨(gw_4 (List.mem_of_getElem? (i := 163) rfl) rfl), (gw_1 (List.mem_of_getElem? (i := 1) (by decide +kernel)) rfl), by decide +kernel⟩
theorem calv_X11_spareAt : zCalV yX11_spareAt := ⟨(gw_4 (List.mem_of_getElem? (i := 161) (by decide +kernel)) rfl), (gw_4 (List.mem_of_getElem? (i := 162) (by decide +kernel)) rfl)⟩
theorem ml_ShadowHeirsLaw_111 : zMl "ShadowHeirsLaw" 111 yX11_spareAt := Or.inl (gw_4 (List.mem_of_getElem? (i := 160) (by decide +kernel)) rfl)
set_option maxRecDepth 100000 in
theorem cal_X12_spareAt : zCal yX12_spareAt cX12_spareAt 1 (some .int) 0 := ⟨(gw_8 (List.mem_of_getElem? (i := 39) rfl) rfl), (gw_1 (List.mem_of_getElem? (i := 17) (by decide +kernel)) rfl), by decide +kernel⟩
theorem calv_X12_spareAt : zCalV yX12_spareAt := ⟨(gw_8 (List.mem_of_getElem? (i := 37) (by decide +kernel)) rfl), (gw_8 (List.mem_of_getElem? (i := 38) (by decide +kernel)) rfl)⟩
theorem ml_ShadowHeirsLaw_114 : zMl "ShadowHeirsLaw" 114 yX12_spareAt := Or.inl (gw_8 (List.mem_of_getElem? (i := 36) (by decide +kernel)) rfl)
set_option maxRecDepth 100000 in
theorem cal_X11_crowd : zCal yX11_crowd cX11_crowd 4 (some .int) 3 := ⟨(gw_4 (List.mem_of_getElem? (i := 167) rfl) rfl), (gw_1 (List.mem_of_getElem? (i := 1) (by decide +kernel)) rfl), by decide +kernel⟩
theorem calv_X11_crowd : zCalV yX11_crowd := ⟨(gw_4 (List.mem_of_getElem? (i := 165) (by decide +kernel)) rfl), (gw_4 (List.mem_of_getElem? (i := 166) (by decide +kernel)) rfl)⟩
theorem ml_ShadowHeirsLaw_115 : zMl "ShadowHeirsLaw" 115 yX11_crowd := Or.inl (gw_4 (List.mem_of_getElem? (i := 164) (by decide +kernel)) rfl)
set_option maxRecDepth 100000 in
theorem cal_X12_crowd : zCal yX12_crowd cX12_crowd 9 (some .int) 3 := ⟨(gw_8 (List.mem_of_getElem? (i := 51) rfl) rfl), (gw_1 (List.mem_of_getElem? (i := 17) (by decide +kernel)) rfl), by decide +kernel⟩
theorem calv_X12_crowd : zCalV yX12_crowd := ⟨(gw_8 (List.mem_of_getElem? (i := 49) (by decide +kernel)) rfl), (gw_8 (List.mem_of_getElem? (i := 50) (by decide +kernel)) rfl)⟩
theorem ml_ShadowHeirsLaw_118 : zMl "ShadowHeirsLaw" 118 yX12_crowd := Or.inl (gw_8 (List.mem_of_getElem? (i := 48) (by decide +kernel)) rfl)
set_option maxRecDepth 100000 in
theorem cal_X11_near : zCal yX11_near cX11_near 4 (some .int) 3 := ⟨(gw_4 (List.mem_of_getElem? (i := 200) rfl) rfl), (gw_1 (List.mem_of_getElem? (i := 1) (by decide +kernel)) rfl), by decide +kernel⟩
theorem calv_X11_near : zCalV yX11_near := ⟨(gw_4 (List.mem_of_getElem? (i := 198) (by decide +kernel)) rfl), (gw_4 (List.mem_of_getElem? (i := 199) (by decide +kernel)) rfl)⟩
theorem ml_ShadowHeirsLaw_119 : zMl "ShadowHeirsLaw" 119 yX11_near := Or.inl (gw_4 (List.mem_of_getElem? (i := 197) (by decide +kernel)) rfl)
set_option maxRecDepth 100000 in
theorem cal_X12_near : zCal yX12_near cX12_near 8 (some .int) 3 := ⟨(gw_8 (List.mem_of_getElem? (i := 43) rfl) rfl), (gw_1 (List.mem_of_getElem? (i := 17) (by decide +kernel)) rfl), by decide +kernel⟩
theorem calv_X12_near : zCalV yX12_near := ⟨(gw_8 (List.mem_of_getElem? (i := 41) (by decide +kernel)) rfl), (gw_8 (List.mem_of_getElem? (i := 42) (by decide +kernel)) rfl)⟩
theorem ml_ShadowHeirsLaw_122 : zMl "ShadowHeirsLaw" 122 yX12_near := Or.inl (gw_8 (List.mem_of_getElem? (i := 40) (by decide +kernel)) rfl)
set_option maxRecDepth 100000 in
theorem cal_X11_when : zCal yX11_when cX11_when 2 (some .int) 0 := ⟨(gw_4 (List.mem_of_getElem? (i := 208) rfl) rfl), (gw_1 (List.mem_of_getElem? (i := 1) (by decide +kernel)) rfl), by decide +kernel⟩
theorem calv_X11_when : zCalV yX11_when := ⟨(gw_4 (List.mem_of_getElem? (i := 206) (by decide +kernel)) rfl), (gw_4 (List.mem_of_getElem? (i := 207) (by decide +kernel)) rfl)⟩
theorem ml_ShadowHeirsLaw_123 : zMl "ShadowHeirsLaw" 123 yX11_when := Or.inl (gw_4 (List.mem_of_getElem? (i := 205) (by decide +kernel)) rfl)
set_option maxRecDepth 100000 in
theorem cal_X12_when : zCal yX12_when cX12_when 4 (some .int) 0 := ⟨(gw_8 (List.mem_of_getElem? (i := 60) rfl) rfl), (gw_1 (List.mem_of_getElem? (i := 17) (by decide +kernel)) rfl), by decide +kernel⟩
theorem calv_X12_when : zCalV yX12_when := ⟨(gw_8 (List.mem_of_getElem? (i := 58) (by decide +kernel)) rfl), (gw_8 (List.mem_of_getElem? (i := 59) (by decide +kernel)) rfl)⟩
theorem ml_ShadowHeirsLaw_126 : zMl "ShadowHeirsLaw" 126 yX12_when := Or.inl (gw_8 (List.mem_of_getElem? (i := 57) (by decide +kernel)) rfl)
set_option maxRecDepth 100000 in
theorem cal_X11_ask : zCal yX11_ask cX11_ask 1 (some .int) 0 := ⟨(gw_4 (List.mem_of_getElem? (i := 234) rfl) rfl), (gw_1 (List.mem_of_getElem? (i := 1) (by decide +kernel)) rfl), by decide +kernel⟩
theorem calv_X11_ask : zCalV yX11_ask := ⟨(gw_4 (List.mem_of_getElem? (i := 232) (by decide +kernel)) rfl), (gw_4 (List.mem_of_getElem? (i := 233) (by decide +kernel)) rfl)⟩
theorem ml_ShadowHeirsLaw_127 : zMl "ShadowHeirsLaw" 127 yX11_ask := Or.inl (gw_4 (List.mem_of_getElem? (i := 231) (by decide +kernel)) rfl)
set_option maxRecDepth 100000 in
theorem cal_X12_ask : zCal yX12_ask cX12_ask 1 (some .int) 0 := ⟨(gw_8 (List.mem_of_getElem? (i := 72) rfl) rfl), (gw_1 (List.mem_of_getElem? (i := 17) (by decide +kernel)) rfl), by decide +kernel⟩
theorem calv_X12_ask : zCalV yX12_ask := ⟨(gw_8 (List.mem_of_getElem? (i := 70) (by decide +kernel)) rfl), (gw_8 (List.mem_of_getElem? (i := 71) (by decide +kernel)) rfl)⟩
theorem ml_ShadowHeirsLaw_130 : zMl "ShadowHeirsLaw" 130 yX12_ask := Or.inl (gw_8 (List.mem_of_getElem? (i := 69) (by decide +kernel)) rfl)
set_option maxRecDepth 100000 in
theorem cal_X11_longest : zCal yX11_longest cX11_longest 5 (some .int) 0 := ⟨(gw_4 (List.mem_of_getElem? (i := 238) rfl) rfl), (gw_1 (List.mem_of_getElem? (i := 1) (by decide +kernel)) rfl), by decide +kernel⟩
theorem calv_X11_longest : zCalV yX11_longest := ⟨(gw_4 (List.mem_of_getElem? (i := 236) (by decide +kernel)) rfl), (gw_4 (List.mem_of_getElem? (i := 237) (by decide +kernel)) rfl)⟩
theorem ml_ShadowHeirsLaw_131 : zMl "ShadowHeirsLaw" 131 yX11_longest := Or.inl (gw_4 (List.mem_of_getElem? (i := 235) (by decide +kernel)) rfl)
set_option maxRecDepth 100000 in
theorem cal_X12_longest : zCal yX12_longest cX12_longest 5 (some .int) 0 := ⟨(gw_8 (List.mem_of_getElem? (i := 76) rfl) rfl), (gw_1 (List.mem_of_getElem? (i := 17) (by decide +kernel)) rfl), by decide +kernel⟩
theorem calv_X12_longest : zCalV yX12_longest := ⟨(gw_8 (List.mem_of_getElem? (i := 74) (by decide +kernel)) rfl), (gw_8 (List.mem_of_getElem? (i := 75) (by decide +kernel)) rfl)⟩
theorem ml_ShadowHeirsLaw_134 : zMl "ShadowHeirsLaw" 134 yX12_longest := Or.inl (gw_8 (List.mem_of_getElem? (i := 73) (by decide +kernel)) rfl)
set_option maxRecDepth 100000 in
theorem cal_X11_longestAt : zCal yX11_longestAt cX11_longestAt 2 (some .int) 1 := ⟨(gw_5 (List.mem_of_getElem? (i := 2) rfl) rfl), (gw_1 (List.mem_of_getElem? (i := 1) (by decide +kernel)) rfl), by decide +kernel⟩
theorem calv_X11_longestAt : zCalV yX11_longestAt := ⟨(gw_5 (List.mem_of_getElem? (i := 0) (by decide +kernel)) rfl), (gw_5 (List.mem_of_getElem? (i := 1) (by decide +kernel)) rfl)⟩
theorem ml_ShadowHeirsLaw_135 : zMl "ShadowHeirsLaw" 135 yX11_longestAt := Or.inl (gw_4 (List.mem_of_getElem? (i := 239) (by decide +kernel)) rfl)
set_option maxRecDepth 100000 in
theorem cal_X12_longestAt : zCal yX12_longestAt cX12_longestAt 2 (some .int) 1 := ⟨(gw_8 (List.mem_of_getElem? (i := 81) rfl) rfl), (gw_1 (List.mem_of_getElem? (i := 17) (by decide +kernel)) rfl), by decide +kernel⟩
theorem calv_X12_longestAt : zCalV yX12_longestAt := ⟨(gw_8 (List.mem_of_getElem? (i := 79) (by decide +kernel)) rfl), (gw_8 (List.mem_of_getElem? (i := 80) (by decide +kernel)) rfl)⟩
theorem ml_ShadowHeirsLaw_138 : zMl "ShadowHeirsLaw" 138 yX12_longestAt := Or.inl (gw_8 (List.mem_of_getElem? (i := 78) (by decide +kernel)) rfl)
set_option maxRecDepth 100000 in
theorem cal_X11_slip : zCal yX11_slip cX11_slip 2 (some .int) 1 := ⟨(gw_5 (List.mem_of_getElem? (i := 6) rfl) rfl), (gw_1 (List.mem_of_getElem? (i := 1) (by decide +kernel)) rfl), by decide +kernel⟩
theorem calv_X11_slip : zCalV yX11_slip := ⟨(gw_5 (List.mem_of_getElem? (i := 4) (by decide +kernel)) rfl), (gw_5 (List.mem_of_getElem? (i := 5) (by decide +kernel)) rfl)⟩
theorem ml_ShadowHeirsLaw_139 : zMl "ShadowHeirsLaw" 139 yX11_slip := Or.inl (gw_5 (List.mem_of_getElem? (i := 3) (by decide +kernel)) rfl)
set_option maxRecDepth 100000 in
theorem cal_X12_slip : zCal yX12_slip cX12_slip 4 (some .int) 1 := ⟨(gw_8 (List.mem_of_getElem? (i := 85) rfl) rfl), (gw_1 (List.mem_of_getElem? (i := 17) (by decide +kernel)) rfl), by decide +kernel⟩
theorem calv_X12_slip : zCalV yX12_slip := ⟨(gw_8 (List.mem_of_getElem? (i := 83) (by decide +kernel)) rfl), (gw_8 (List.mem_of_getElem? (i := 84) (by decide +kernel)) rfl)⟩
theorem ml_ShadowHeirsLaw_142 : zMl "ShadowHeirsLaw" 142 yX12_slip := Or.inl (gw_8 (List.mem_of_getElem? (i := 82) (by decide +kernel)) rfl)
set_option maxRecDepth 100000 in
theorem cal_X11_byteAt : zCal yX11_byteAt cX11_byteAt 2 (some .int) 1 := ⟨(gw_5 (List.mem_of_getElem? (i := 38) rfl) rfl), (gw_1 (List.mem_of_getElem? (i := 1) (by decide +kernel)) rfl), by decide +kernel⟩
theorem calv_X11_byteAt : zCalV yX11_byteAt := ⟨(gw_5 (List.mem_of_getElem? (i := 36) (by decide +kernel)) rfl), (gw_5 (List.mem_of_getElem? (i := 37) (by decide +kernel)) rfl)⟩
theorem ml_ShadowHeirsLaw_143 : zMl "ShadowHeirsLaw" 143 yX11_byteAt := Or.inl (gw_5 (List.mem_of_getElem? (i := 35) (by decide +kernel)) rfl)
set_option maxRecDepth 100000 in
theorem cal_X12_byteAt : zCal yX12_byteAt cX12_byteAt 2 (some .int) 1 := ⟨(gw_8 (List.mem_of_getElem? (i := 109) rfl) rfl), (gw_1 (List.mem_of_getElem? (i := 17) (by decide +kernel)) rfl), by decide +kernel⟩
theorem calv_X12_byteAt : zCalV yX12_byteAt := ⟨(gw_8 (List.mem_of_getElem? (i := 107) (by decide +kernel)) rfl), (gw_8 (List.mem_of_getElem? (i := 108) (by decide +kernel)) rfl)⟩
theorem ml_ShadowHeirsLaw_146 : zMl "ShadowHeirsLaw" 146 yX12_byteAt := Or.inl (gw_8 (List.mem_of_getElem? (i := 106) (by decide +kernel)) rfl)
set_option maxRecDepth 100000 in
theorem cal_X11_drawn : zCal yX11_drawn cX11_drawn 4 (some .int) 2 := ⟨(gw_5 (List.mem_of_getElem? (i := 46) rfl) rfl), (gw_1 (List.mem_of_getElem? (i := 1) (by decide +kernel)) rfl), by decide +kernel⟩
theorem calv_X11_drawn : zCalV yX11_drawn := ⟨(gw_5 (List.mem_of_getElem? (i := 44) (by decide +kernel)) rfl), (gw_5 (List.mem_of_getElem? (i := 45) (by decide +kernel)) rfl)⟩
theorem ml_ShadowHeirsLaw_147 : zMl "ShadowHeirsLaw" 147 yX11_drawn := Or.inl (gw_5 (List.mem_of_getElem? (i := 43) (by decide +kernel)) rfl)
set_option maxRecDepth 100000 in
theorem cal_X12_drawn : zCal yX12_drawn cX12_drawn 3 (some .int) 2 := ⟨(gw_8 (List.mem_of_getElem? (i := 113) rfl) rfl), (gw_1 (List.mem_of_getElem? (i := 17) (by decide +kernel)) rfl), by decide +kernel⟩
theorem calv_X12_drawn : zCalV yX12_drawn := ⟨(gw_8 (List.mem_of_getElem? (i := 111) (by decide +kernel)) rfl), (gw_8 (List.mem_of_getElem? (i := 112) (by decide +kernel)) rfl)⟩
theorem ml_ShadowHeirsLaw_150 : zMl "ShadowHeirsLaw" 150 yX12_drawn := Or.inl (gw_8 (List.mem_of_getElem? (i := 110) (by decide +kernel)) rfl)
set_option maxRecDepth 100000 in
theorem cal_X11_odds : zCal yX11_odds cX11_odds 6 (some .int) 3 := ⟨(gw_5 (List.mem_of_getElem? (i := 71) rfl) rfl), (gw_1 (List.mem_of_getElem? (i := 1) (by decide +kernel)) rfl), by decide +kernel⟩
theorem calv_X11_odds : zCalV yX11_odds := ⟨(gw_5 (List.mem_of_getElem? (i := 69) (by decide +kernel)) rfl), (gw_5 (List.mem_of_getElem? (i := 70) (by decide +kernel)) rfl)⟩
theorem ml_ShadowHeirsLaw_151 : zMl "ShadowHeirsLaw" 151 yX11_odds := Or.inl (gw_5 (List.mem_of_getElem? (i := 68) (by decide +kernel)) rfl)
set_option maxRecDepth 100000 in
theorem cal_X12_odds : zCal yX12_odds cX12_odds 6 (some .int) 3 := ⟨(gw_8 (List.mem_of_getElem? (i := 134) rfl) rfl), (gw_1 (List.mem_of_getElem? (i := 17) (by decide +kernel)) rfl), by decide +kernel⟩
theorem calv_X12_odds : zCalV yX12_odds := ⟨(gw_8 (List.mem_of_getElem? (i := 132) (by decide +kernel)) rfl), (gw_8 (List.mem_of_getElem? (i := 133) (by decide +kernel)) rfl)⟩
theorem ml_ShadowHeirsLaw_154 : zMl "ShadowHeirsLaw" 154 yX12_odds := Or.inl (gw_8 (List.mem_of_getElem? (i := 131) (by decide +kernel)) rfl)
set_option maxRecDepth 100000 in
theorem cal_X11_book : zCal yX11_book cX11_book 2 (some .int) 1 := ⟨(gw_5 (List.mem_of_getElem? (i := 75) rfl) rfl), (gw_1 (List.mem_of_getElem? (i := 1) (by decide +kernel)) rfl), by decide +kernel⟩
theorem calv_X11_book : zCalV yX11_book := ⟨(gw_5 (List.mem_of_getElem? (i := 73) (by decide +kernel)) rfl), (gw_5 (List.mem_of_getElem? (i := 74) (by decide +kernel)) rfl)⟩
theorem ml_ShadowHeirsLaw_155 : zMl "ShadowHeirsLaw" 155 yX11_book := Or.inl (gw_5 (List.mem_of_getElem? (i := 72) (by decide +kernel)) rfl)
set_option maxRecDepth 100000 in
theorem cal_X12_book : zCal yX12_book cX12_book 4 (some .int) 1 := ⟨(gw_8 (List.mem_of_getElem? (i := 146) rfl) rfl), (gw_1 (List.mem_of_getElem? (i := 17) (by decide +kernel)) rfl), by decide +kernel⟩
theorem calv_X12_book : zCalV yX12_book := ⟨(gw_8 (List.mem_of_getElem? (i := 144) (by decide +kernel)) rfl), (gw_8 (List.mem_of_getElem? (i := 145) (by decide +kernel)) rfl)⟩
theorem ml_ShadowHeirsLaw_158 : zMl "ShadowHeirsLaw" 158 yX12_book := Or.inl (gw_8 (List.mem_of_getElem? (i := 143) (by decide +kernel)) rfl)
set_option maxRecDepth 100000 in
theorem cal_X11_told : zCal yX11_told cX11_told 2 (some .int) 1 := ⟨(gw_5 (List.mem_of_getElem? (i := 131) rfl) rfl), (gw_1 (List.mem_of_getElem? (i := 1) (by decide +kernel)) rfl), by decide +kernel⟩
theorem calv_X11_told : zCalV yX11_told := ⟨(gw_5 (List.mem_of_getElem? (i := 129) (by decide +kernel)) rfl), (gw_5 (List.mem_of_getElem? (i := 130) (by decide +kernel)) rfl)⟩
theorem ml_ShadowHeirsLaw_159 : zMl "ShadowHeirsLaw" 159 yX11_told := Or.inl (gw_5 (List.mem_of_getElem? (i := 128) (by decide +kernel)) rfl)
set_option maxRecDepth 100000 in
theorem cal_X12_told : zCal yX12_told cX12_told 2 (some .int) 1 := ⟨(gw_8 (List.mem_of_getElem? (i := 174) rfl) rfl), (gw_1 (List.mem_of_getElem? (i := 17) (by decide +kernel)) rfl), by decide +kernel⟩
theorem calv_X12_told : zCalV yX12_told := ⟨(gw_8 (List.mem_of_getElem? (i := 172) (by decide +kernel)) rfl), (gw_8 (List.mem_of_getElem? (i := 173) (by decide +kernel)) rfl)⟩
theorem ml_ShadowHeirsLaw_162 : zMl "ShadowHeirsLaw" 162 yX12_told := Or.inl (gw_8 (List.mem_of_getElem? (i := 171) (by decide +kernel)) rfl)
set_option maxRecDepth 100000 in
theorem cal_X11_sentence : zCal yX11_sentence cX11_sentence 1 (some .int) 0 := ⟨(gw_5 (List.mem_of_getElem? (i := 135) rfl) rfl), (gw_1 (List.mem_of_getElem? (i := 1) (by decide +kernel)) rfl), by decide +kernel⟩
theorem calv_X11_sentence : zCalV yX11_sentence := ⟨(gw_5 (List.mem_of_getElem? (i := 133) (by decide +kernel)) rfl), (gw_5 (List.mem_of_getElem? (i := 134) (by decide +kernel)) rfl)⟩
theorem ml_ShadowHeirsLaw_163 : zMl "ShadowHeirsLaw" 163 yX11_sentence := Or.inl (gw_5 (List.mem_of_getElem? (i := 132) (by decide +kernel)) rfl)
set_option maxRecDepth 100000 in
theorem cal_X12_sentence : zCal yX12_sentence cX12_sentence 2 (some .int) 0 := ⟨(gw_8 (List.mem_of_getElem? (i := 178) rfl) rfl), (gw_1 (List.mem_of_getElem? (i := 17) (by decide +kernel)) rfl), by decide +kernel⟩
theorem calv_X12_sentence : zCalV yX12_sentence := ⟨(gw_8 (List.mem_of_getElem? (i := 176) (by decide +kernel)) rfl), (gw_8 (List.mem_of_getElem? (i := 177) (by decide +kernel)) rfl)⟩
theorem ml_ShadowHeirsLaw_166 : zMl "ShadowHeirsLaw" 166 yX12_sentence := Or.inl (gw_8 (List.mem_of_getElem? (i := 175) (by decide +kernel)) rfl)
set_option maxRecDepth 100000 in
theorem cal_X11_said : zCal yX11_said cX11_said 3 (some .int) 1 := ⟨(gw_5 (List.mem_of_getElem? (i := 175) rfl) rfl), (gw_1 (List.mem_of_getElem? (i := 1) (by decide +kernel)) rfl), by decide +kernel⟩
theorem calv_X11_said : zCalV yX11_said := ⟨(gw_5 (List.mem_of_getElem? (i := 173) (by decide +kernel)) rfl), (gw_5 (List.mem_of_getElem? (i := 174) (by decide +kernel)) rfl)⟩
theorem ml_ShadowHeirsLaw_167 : zMl "ShadowHeirsLaw" 167 yX11_said := Or.inl (gw_5 (List.mem_of_getElem? (i := 172) (by decide +kernel)) rfl)
set_option maxRecDepth 100000 in
theorem cal_X12_said : zCal yX12_said cX12_said 4 (some .int) 1 := ⟨(gw_8 (List.mem_of_getElem? (i := 218) rfl) rfl), (gw_1 (List.mem_of_getElem? (i := 17) (by decide +kernel)) rfl), by decide +kernel⟩
theorem calv_X12_said : zCalV yX12_said := ⟨(gw_8 (List.mem_of_getElem? (i := 216) (by decide +kernel)) rfl), (gw_8 (List.mem_of_getElem? (i := 217) (by decide +kernel)) rfl)⟩
theorem ml_ShadowHeirsLaw_170 : zMl "ShadowHeirsLaw" 170 yX12_said := Or.inl (gw_8 (List.mem_of_getElem? (i := 215) (by decide +kernel)) rfl)
set_option maxRecDepth 100000 in
theorem cal_X11_image : zCal yX11_image cX11_image 2 (some .boolean) 1 := ⟨(gw_5 (List.mem_of_getElem? (i := 199) rfl) rfl), (gw_1 (List.mem_of_getElem? (i := 1) (by decide +kernel)) rfl), by decide +kernel⟩
theorem calv_X11_image : zCalV yX11_image := ⟨(gw_5 (List.mem_of_getElem? (i := 197) (by decide +kernel)) rfl), (gw_5 (List.mem_of_getElem? (i := 198) (by decide +kernel)) rfl)⟩
theorem ml_ShadowHeirsLaw_171 : zMl "ShadowHeirsLaw" 171 yX11_image := Or.inl (gw_5 (List.mem_of_getElem? (i := 196) (by decide +kernel)) rfl)
set_option maxRecDepth 100000 in
theorem cal_X12_image : zCal yX12_image cX12_image 3 (some .boolean) 1 := ⟨(gw_8 (List.mem_of_getElem? (i := 226) rfl) rfl), (gw_1 (List.mem_of_getElem? (i := 17) (by decide +kernel)) rfl), by decide +kernel⟩
theorem calv_X12_image : zCalV yX12_image := ⟨(gw_8 (List.mem_of_getElem? (i := 224) (by decide +kernel)) rfl), (gw_8 (List.mem_of_getElem? (i := 225) (by decide +kernel)) rfl)⟩
theorem ml_ShadowHeirsLaw_174 : zMl "ShadowHeirsLaw" 174 yX12_image := Or.inl (gw_8 (List.mem_of_getElem? (i := 223) (by decide +kernel)) rfl)
set_option maxRecDepth 100000 in
theorem cal_X11_restore : zCal yX11_restore cX11_restore 2 (some .boolean) 1 := ⟨(gw_5 (List.mem_of_getElem? (i := 203) rfl) rfl), (gw_1 (List.mem_of_getElem? (i := 1) (by decide +kernel)) rfl), by decide +kernel⟩
theorem calv_X11_restore : zCalV yX11_restore := ⟨(gw_5 (List.mem_of_getElem? (i := 201) (by decide +kernel)) rfl), (gw_5 (List.mem_of_getElem? (i := 202) (by decide +kernel)) rfl)⟩
theorem ml_ShadowHeirsLaw_175 : zMl "ShadowHeirsLaw" 175 yX11_restore := Or.inl (gw_5 (List.mem_of_getElem? (i := 200) (by decide +kernel)) rfl)
set_option maxRecDepth 100000 in
theorem cal_X12_restore : zCal yX12_restore cX12_restore 3 (some .boolean) 1 := ⟨(gw_8 (List.mem_of_getElem? (i := 230) rfl) rfl), (gw_1 (List.mem_of_getElem? (i := 17) (by decide +kernel)) rfl), by decide +kernel⟩
theorem calv_X12_restore : zCalV yX12_restore := ⟨(gw_8 (List.mem_of_getElem? (i := 228) (by decide +kernel)) rfl), (gw_8 (List.mem_of_getElem? (i := 229) (by decide +kernel)) rfl)⟩
theorem ml_ShadowHeirsLaw_178 : zMl "ShadowHeirsLaw" 178 yX12_restore := Or.inl (gw_8 (List.mem_of_getElem? (i := 227) (by decide +kernel)) rfl)
set_option maxRecDepth 100000 in
theorem cal_X11_count : zCal yX11_count cX11_count 2 (some .int) 1 := ⟨(gw_5 (List.mem_of_getElem? (i := 207) rfl) rfl), (gw_1 (List.mem_of_getElem? (i := 1) (by decide +kernel)) rfl), by decide +kernel⟩
theorem calv_X11_count : zCalV yX11_count := ⟨(gw_5 (List.mem_of_getElem? (i := 205) (by decide +kernel)) rfl), (gw_5 (List.mem_of_getElem? (i := 206) (by decide +kernel)) rfl)⟩
theorem ml_ShadowHeirsLaw_179 : zMl "ShadowHeirsLaw" 179 yX11_count := Or.inl (gw_5 (List.mem_of_getElem? (i := 204) (by decide +kernel)) rfl)
set_option maxRecDepth 100000 in
theorem cal_X12_count : zCal yX12_count cX12_count 2 (some .int) 1 := ⟨(gw_8 (List.mem_of_getElem? (i := 234) rfl) rfl), (gw_1 (List.mem_of_getElem? (i := 17) (by decide +kernel)) rfl), by decide +kernel⟩
theorem calv_X12_count : zCalV yX12_count := ⟨(gw_8 (List.mem_of_getElem? (i := 232) (by decide +kernel)) rfl), (gw_8 (List.mem_of_getElem? (i := 233) (by decide +kernel)) rfl)⟩
theorem ml_ShadowHeirsLaw_182 : zMl "ShadowHeirsLaw" 182 yX12_count := Or.inl (gw_8 (List.mem_of_getElem? (i := 231) (by decide +kernel)) rfl)
set_option maxRecDepth 100000 in
theorem cal_X12_house : zCal yX12_house cX12_house 3 (some .int) 2 := ⟨(gw_7 (List.mem_of_getElem? (i := 149) rfl) rfl), (gw_1 (List.mem_of_getElem? (i := 17) (by decide +kernel)) rfl), by decide +kernel⟩
theorem calv_X12_house : zCalV yX12_house := ⟨(gw_7 (List.mem_of_getElem? (i := 147) (by decide +kernel)) rfl), (gw_7 (List.mem_of_getElem? (i := 148) (by decide +kernel)) rfl)⟩
theorem ml_ShadowHeirsLaw_55 : zMl "ShadowHeirsLaw" 55 yX12_house := Or.inl (gw_7 (List.mem_of_getElem? (i := 146) (by decide +kernel)) rfl)
set_option maxRecDepth 100000 in
theorem cal_X12_thrown : zCal yX12_thrown cX12_thrown 1 (some .int) 0 := ⟨(gw_6 (List.mem_of_getElem? (i := 66) rfl) rfl), (gw_1 (List.mem_of_getElem? (i := 17) (by decide +kernel)) rfl), by decide +kernel⟩
theorem calv_X12_thrown : zCalV yX12_thrown := ⟨(gw_6 (List.mem_of_getElem? (i := 64) (by decide +kernel)) rfl), (gw_6 (List.mem_of_getElem? (i := 65) (by decide +kernel)) rfl)⟩
theorem ml_ShadowHeirsLaw_56 : zMl "ShadowHeirsLaw" 56 yX12_thrown := Or.inl (gw_6 (List.mem_of_getElem? (i := 63) (by decide +kernel)) rfl)
set_option maxRecDepth 100000 in
theorem hw_house : ∀ w ∈ [Cond.methodLink "ShadowHeirsLaw" 50 yL_house, .static yL_house, .initialized "ShadowHeirsLaw", .codeWith yL_house cL_house 5 (some .int) [(0, 10, 13, 13)]], w ∈ gw_tbl := List.forall_mem_cons.mpr ⟨(gw_5 (List.mem_of_getElem? (i := 208) (by decide +kernel)) rfl), List.forall_mem_cons.mpr ⟨(gw_5 (List.mem_of_getElem? (i := 209) (by decide +kernel)) rfl), List.forall_mem_cons.mpr ⟨(gw_1 (List.mem_of_getElem? (i := 0) (by decide +kernel)) rfl), List.forall_mem_cons.mpr ⟨(gw_5 (List.mem_of_getElem? (i := 210) rfl) rfl), fun _ h => absurd h List.not_mem_nil⟩⟩⟩⟩
set_option maxRecDepth 100000 in
theorem cal_X12_person : zCal yX12_person cX12_person 5 (some .int) 2 := ⟨(gw_7 (List.mem_of_getElem? (i := 172) rfl) rfl), (gw_1 (List.mem_of_getElem? (i := 17) (by decide +kernel)) rfl), by decide +kernel⟩
theorem calv_X12_person : zCalV yX12_person := ⟨(gw_7 (List.mem_of_getElem? (i := 170) (by decide +kernel)) rfl), (gw_7 (List.mem_of_getElem? (i := 171) (by decide +kernel)) rfl)⟩
theorem ml_ShadowHeirsLaw_61 : zMl "ShadowHeirsLaw" 61 yX12_person := Or.inl (gw_7 (List.mem_of_getElem? (i := 169) (by decide +kernel)) rfl)
set_option maxRecDepth 100000 in
theorem hw_person : ∀ w ∈ [Cond.methodLink "ShadowHeirsLaw" 59 yL_person, .static yL_person, .initialized "ShadowHeirsLaw", .codeWith yL_person cL_person 5 (some .int) [(0, 10, 13, 13)]], w ∈ gw_tbl := List.forall_mem_cons.mpr ⟨(gw_6 (List.mem_of_getElem? (i := 42) (by decide +kernel)) rfl), List.forall_mem_cons.mpr ⟨(gw_6 (List.mem_of_getElem? (i := 43) (by decide +kernel)) rfl), List.forall_mem_cons.mpr ⟨(gw_1 (List.mem_of_getElem? (i := 0) (by decide +kernel)) rfl), List.forall_mem_cons.mpr ⟨(gw_6 (List.mem_of_getElem? (i := 44) rfl) rfl), fun _ h => absurd h List.not_mem_nil⟩⟩⟩⟩
set_option maxRecDepth 100000 in
theorem cal_X12_share : zCal yX12_share cX12_share 6 (some .int) 4 := ⟨(gw_8 (List.mem_of_getElem? (i := 26) rfl) rfl), (gw_1 (List.mem_of_getElem? (i := 17) (by decide +kernel)) rfl), by decide +kernel⟩
theorem calv_X12_share : zCalV yX12_share := ⟨(gw_8 (List.mem_of_getElem? (i := 24) (by decide +kernel)) rfl), (gw_8 (List.mem_of_getElem? (i := 25) (by decide +kernel)) rfl)⟩
theorem ml_ShadowHeirsLaw_102 : zMl "ShadowHeirsLaw" 102 yX12_share := Or.inl (gw_8 (List.mem_of_getElem? (i := 23) (by decide +kernel)) rfl)
set_option maxRecDepth 100000 in
theorem hw_share : ∀ w ∈ [Cond.methodLink "ShadowHeirsLaw" 99 yL_share, .static yL_share, .initialized "ShadowHeirsLaw", .codeWith yL_share cL_share 7 (some .int) [(0, 14, 17, 13)]], w ∈ gw_tbl := List.forall_mem_cons.mpr ⟨(gw_6 (List.mem_of_getElem? (i := 55) (by decide +kernel)) rfl), List.forall_mem_cons.mpr ⟨(gw_6 (List.mem_of_getElem? (i := 56) (by decide +kernel)) rfl), List.forall_mem_cons.mpr ⟨(gw_1 (List.mem_of_getElem? (i := 0) (by decide +kernel)) rfl), List.forall_mem_cons.mpr ⟨(gw_6 (List.mem_of_getElem? (i := 57) rfl) rfl), fun _ h => absurd h List.not_mem_nil⟩⟩⟩⟩
