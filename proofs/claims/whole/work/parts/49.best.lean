/-! shadow, heirs, best -/
theorem mk_count {A : Int → Int} (o : oP A) {h s : Int} (hs : 0 ≤ s ∧ s < A 4) : sumF (fun d => bi (mk A h s (rc A h s).toNat d = true)) 64 0 0 = rc A h s := by
  sorry
