/-! one thing said, to any depth -/
theorem one_all {T : Int → Int} {n lim w : Int} {A N : Int → Int} {sc : SelfC} {sr sr3 : Nat → zMem → Option (Int × zMem)} (ok : okTx T n) (hl : 0 ≤ lim) (oA : oP A) (w0 : 0 ≤ w) (w1 : w ≤ 8) (hs3 : ∀ r, sr 3 r = fb_X12_readNot sr3 r) (hs4 : ∀ r, sr 4 r = fb_X12_readBracket sr3 r) (hN : w < 8 → hOne T n lim A N (w + 1) (fun m => sc 1 49 4 (w + 1 + 1) m) (fun r => sr3 2 r)) (hB : w < 8 → hOne T n lim A N (w + 1) (fun m => sc 0 49 4 (w + 1 + 1) m) (fun r => sr3 0 r)) : hOne T n lim A N w (fun m => fb_X8_readOne sc 49 4 (w + 1) m) (fun r => fb_X12_readSaid sr r) := by
  intro p o z B D X p0 p1 o0 o1 z0 z1
  have lr := lexT_r (T := T) (n := n) (lim := lim) hl p0 p1
  by_cases hd : isHd (lexT T n lim p)
  · have k2 : 2 ≤ (lexT T n lim p).2.2.1 := by
      rcases hd with h | h <;> omega
    have lt := lr.2.2.2.1 k2
    by_cases hm : w = 8 ∨ o = 20
    · refine Or.inl ⟨4, (lexT T n lim p).1, by omega, fun m pm => ?_, fun r pr => ?_⟩
      · rcases hd with h | h
        · obtain ⟨m', a1, a2, a3⟩ := (one_many (T := T) (n := n) (lim := lim) (p := p) (v4 := -1) (v5 := 1) (u1 := 0) (u2 := 0) (sc := sc) (sr := sr) hm w1 o1 (by omega)).1 m pm.1 pm.2.2.1
          exact ⟨m', by dsimp only; rw [cOneBr pm.1 h, a1], CG_F pm.2.2 a3 z0 a2, FXF_S a3⟩
        · obtain ⟨m', a1, a2, a3⟩ := (one_many (T := T) (n := n) (lim := lim) (p := p) (v4 := kno (lexT T n lim p).2.2.2.2) (v5 := 0) (u1 := 0) (u2 := 0) (sc := sc) (sr := sr) hm w1 o1 (by omega)).1 m pm.1 pm.2.2.1
          exact ⟨m', by dsimp only; rw [cOneW pm.1 ⟨h.1, rfl⟩ h.2, a1], CG_F pm.2.2 a3 z0 a2, FXF_S a3⟩
      · rcases hd with h | h
        · obtain ⟨r', a1, a2, a3⟩ := (one_many (T := T) (n := n) (lim := lim) (p := p) (v4 := -1) (v5 := 1) (u1 := 1) (u2 := 24) (sc := sc) (sr := sr) hm w1 o1 (by omega)).2 r pr.1 pr.2.2.2.2.1 pr.2.2.2.2.2.1
          exact ⟨r', by dsimp only; rw [mSaidBr hl p0 p1 pr.1 h, a1], a2, FYF_S a3⟩
        · have kr := kno_r (lexT T n lim p).2.2.2.2
          obtain ⟨r', a1, a2, a3⟩ := (one_many (T := T) (n := n) (lim := lim) (p := p) (v4 := -1) (v5 := 1) (u1 := 0) (u2 := kno (lexT T n lim p).2.2.2.2) (sc := sc) (sr := sr) hm w1 o1 (by omega)).2 r pr.1 pr.2.2.2.2.1 pr.2.2.2.2.2.1
          exact ⟨r', by dsimp only; rw [mSaidWd hl p0 p1 pr.1 ⟨h.1, rfl⟩ h.2 (by omega), a1], a2, FYF_S a3⟩
    · have w8 : w < 8 := by omega
      have o20 : o < 20 := by omega
      have gr : ∀ r, PrT T n lim p z o w X A N r → ∃ r', PrT T n lim (lexT T n lim p).2.1 z (o + 1) (w + 1) X A N r' ∧ GS r r' ∧ f_X12_go (zup (zup r 138 44 (o + 1)) 138 45 (w + 1)) = some (0, r') := by
        rintro r ⟨u, eA, eN, s⟩
        obtain ⟨r', a1, a2, a3⟩ := mGoU ok hl p0 p1 (RU_F (v := w + 1) (i := 45) (RU_F (v := o + 1) (i := 44) u (by omega)) (by omega))
        have a3' := FY_F a3
        refine ⟨r', ⟨a2, ?_, ?_, RS_F ⟨?_, ?_, ?_, ?_⟩ a3'⟩, GS_t (GS_t (GS_up (by omega)) (GS_up (by omega))) (FYF_S a3'), a1⟩
        · rw [a3'.1 140 (by omega), zup_off (by omega), zup_off (by omega)]; exact eA
        · rw [a3'.1 145 (by omega), zup_off (by omega), zup_off (by omega)]; exact eN
        · rw [zup_same, if_neg (by omega), zup_same, if_neg (by omega)]; exact s.1
        · rw [zup_same, if_neg (by omega), zup_same, if_pos rfl]
        · rw [zup_same, if_pos rfl]
        · rw [zup_off (by omega), zup_off (by omega)]; exact s.2.2.2
      rcases hd with h | h
      · refine one_fin w0 w8 (one_br (sc := sc) (sr := sr3) ok hl p0 p1 lt o0 o20 z0 z1 (hB w8)) (fun m pm => ?_) (fun r pr => ?_)
        · try dsimp only
          rw [cOneBr pm.1 h, j32_eq w0 w8 pm.2.2.1 o0 o20]
          unfold oneC
          rw [if_neg (by omega), if_neg (by omega)]
        · obtain ⟨r', x1, x2, x3⟩ := gr r pr
          refine ⟨r', x1, x2, ?_⟩
          try dsimp only
          rw [mSaidBr hl p0 p1 pr.1 h, j46_eq pr.2.2.2.2.1 pr.2.2.2.2.2.1 o0 o20 w0 w8 x3]
          unfold oneR
          rw [if_neg (by omega), hs4]
      · have kr := kno_r (lexT T n lim p).2.2.2.2
        have ik : isK (lexT T n lim p) (kno (lexT T n lim p).2.2.2.2) := ⟨h.1, rfl⟩
        have h15 := h.2
        generalize kno (lexT T n lim p).2.2.2.2 = v at ik h15 kr
        have ec : ∀ m, PcT T n lim p o z B D A N m → fb_X8_readOne sc 49 4 (w + 1) m = oneC sc (w + 1) v 0 (zup m 49 4 (o + 1)) := fun m pm => by
          rw [cOneW pm.1 ik h15, j32_eq w0 w8 pm.2.2.1 o0 o20]
        have er : ∀ r, PrT T n lim p z o w X A N r → ∃ r', PrT T n lim (lexT T n lim p).2.1 z (o + 1) (w + 1) X A N r' ∧ GS r r' ∧ fb_X12_readSaid sr r = oneF (oneR sr 0 v r') := by
          intro r pr
          obtain ⟨r', x1, x2, x3⟩ := gr r pr
          exact ⟨r', x1, x2, by rw [mSaidWd hl p0 p1 pr.1 ik h15 (by omega), j46_eq pr.2.2.2.2.1 pr.2.2.2.2.2.1 o0 o20 w0 w8 x3]⟩
        by_cases v15 : v = 15
        · refine one_fin w0 w8 (one_not (sc := sc) (sr := sr3) ok hl p0 p1 lt o0 o20 z0 z1 (hN w8)) (fun m pm => ?_) (fun r pr => ?_)
          · try dsimp only
            rw [ec m pm]
            unfold oneC
            rw [if_pos v15]
          · obtain ⟨r', x1, x2, x3⟩ := er r pr
            refine ⟨r', x1, x2, ?_⟩
            try dsimp only
            rw [x3]
            unfold oneR
            rw [if_pos rfl, if_pos v15, hs3]
        · by_cases v18 : v ≤ 18
          · refine one_fin w0 w8 (leaf_word (N := N) ok hl p0 p1 lt o0 o20 z0 (by omega) (v := v) (by omega)) (fun m pm => ?_) (fun r pr => ?_)
            · try dsimp only
              rw [ec m pm]
              unfold oneC
              rw [if_neg v15, if_pos rfl, if_neg (by omega), if_pos (by omega)]
            · obtain ⟨r', x1, x2, x3⟩ := er r pr
              refine ⟨r', x1, x2, ?_⟩
              try dsimp only
              rw [x3]
              unfold oneR
              rw [if_pos rfl, if_neg v15, if_neg (by omega)]
          · by_cases v19 : v = 19
            · subst v19
              refine one_fin w0 w8 (leaf_of (N := N) ok hl p0 p1 lt oA o0 o20 z0 (by omega)) (fun m pm => ?_) (fun r pr => ?_)
              · try dsimp only
                rw [ec m pm]
                unfold oneC
                rw [if_neg v15, if_pos rfl, if_pos rfl]
              · obtain ⟨r', x1, x2, x3⟩ := er r pr
                refine ⟨r', x1, x2, ?_⟩
                try dsimp only
                rw [x3]
                unfold oneR
                rw [if_pos rfl, if_neg v15, if_pos (by omega), if_neg (by omega)]
            · refine one_fin w0 w8 (leaf_cmp (N := N) ok hl p0 p1 lt o0 o20 z0 (by omega) (v := v) (by omega)) (fun m pm => ?_) (fun r pr => ?_)
              · try dsimp only
                rw [ec m pm]
                unfold oneC
                rw [if_neg v15, if_pos rfl, if_neg v19, if_neg (by omega)]
              · obtain ⟨r', x1, x2, x3⟩ := er r pr
                refine ⟨r', x1, x2, ?_⟩
                try dsimp only
                rw [x3]
                unfold oneR
                rw [if_pos rfl, if_neg v15, if_pos (by omega), if_pos (by omega)]
  · refine Or.inl ⟨1, (lexT T n lim p).1, by omega, fun m pm => ?_, fun r pr => ?_⟩
    · obtain ⟨m', a1, a2, a3⟩ := cOneBad (sc := sc) (dp := w + 1) pm.1 hd
      exact ⟨m', a1, CG_F pm.2.2 a3 z0 a2, FXF_S a3⟩
    · obtain ⟨r', a1, a2, a3⟩ := mSaidBad (sr := sr) hl p0 p1 pr.1 hd
      exact ⟨r', a1, a2, FYF_S a3⟩
theorem cond_s (f t : Nat) (a b : Nat) (x : Int) (m : zMem) : fg_cond (f + 1) t a b x m = bg_cond (fg_cond f) t a b x m := rfl
theorem says_s (f t : Nat) (m : zMem) : fg_says (f + 1) t m = bg_says (fg_says f) t m := rfl
theorem deep {T : Int → Int} {n lim : Int} {A N : Int → Int} (ok : okTx T n) (hl : 0 ≤ lim) (oA : oP A) : ∀ (e : Nat) (w : Int), w + e = 8 → 0 ≤ w → (∀ fc fr : Nat, 2 * e + 1 ≤ fc → 4 * e + 2 ≤ fr → hOne T n lim A N w (fun m => fg_cond fc 1 49 4 (w + 1) m) (fun r => fg_says fr 2 r)) := by
  intro e
  induction e with
  | zero =>
    intro w hw w0 fc fr h1 h2
    obtain ⟨fc, rfl⟩ : ∃ g, fc = g + 1 := ⟨fc - 1, by omega⟩
    obtain ⟨fr, rfl⟩ : ∃ g, fr = g + 1 := ⟨fr - 1, by omega⟩
    obtain ⟨fr, rfl⟩ : ∃ g, fr = g + 1 := ⟨fr - 1, by omega⟩
    exact one_all (sc := fg_cond fc) (sr := fg_says (fr + 1)) (sr3 := fg_says fr) ok hl oA w0 (by omega) (fun r => rfl) (fun r => rfl) (fun h => by omega) (fun h => by omega)
  | succ e ih =>
    intro w hw w0 fc fr h1 h2
    obtain ⟨fc, rfl⟩ : ∃ g, fc = g + 2 := ⟨fc - 2, by omega⟩
    obtain ⟨fr, rfl⟩ : ∃ g, fr = g + 4 := ⟨fr - 4, by omega⟩
    have i1 := ih (w + 1) (by omega) (by omega)
    refine one_all (sc := fg_cond (fc + 1)) (sr := fg_says (fr + 3)) (sr3 := fg_says (fr + 2)) ok hl oA w0 (by omega) (fun r => rfl) (fun r => rfl) (fun h => i1 (fc + 1) (fr + 2) (by omega) (by omega)) (fun h => ?_)
    exact cond_all (dp := w + 1 + 1) (sc := fg_cond fc) (sr := fg_says fr) (sr' := fg_says (fr + 1)) (fun r => rfl) ok hl (i1 fc fr (by omega) (by omega))
