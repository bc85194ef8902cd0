/-! a set of cells, as 64 bits -/
theorem sh64 : ∀ d : Nat, d < 64 → (((i32 (d : Int)).toInt64 &&& 63).toBitVec.smod 64).toNat = d := by decide +kernel
theorem and1L (v : Int64) : ((v &&& 1).toInt = 1) ↔ v.toBitVec.getLsbD 0 = true := by
  have h : (v &&& 1).toBitVec = BitVec.setWidth 64 (BitVec.ofBool (v.toBitVec.getLsbD 0)) := by
    rw [Int64.toBitVec_and]
    exact BitVec.and_one_eq_setWidth_ofBool_getLsbD
  have h2 : (v &&& 1).toInt = (v &&& 1).toBitVec.toInt := rfl
  rw [h2, h]
  cases v.toBitVec.getLsbD 0 <;> decide
theorem cast_bit (M : Int) {d : Nat} (hd : d < 64) : castB M (d : Int) = (i64 M).toBitVec.getLsbD d := by
  have hs := sh64 d hd
  have h1 : castB M (d : Int) = decide ((i64 M >>> ((i32 (d : Int)).toInt64 &&& 63) &&& 1).toInt = 1) := by
    unfold castB zandL zshrL
    rw [i64_of, show i64 1 = 1 from rfl]
    unfold zcmp
    by_cases h : ((i64 M >>> ((i32 (d : Int)).toInt64 &&& 63) &&& 1).toInt = 1)
    · simp [h]
    · by_cases h3 : (i64 M >>> ((i32 (d : Int)).toInt64 &&& 63) &&& 1).toInt < 1
      · simp [h, h3]
      · simp [h, h3]
  rw [h1, Bool.eq_iff_iff, decide_eq_true_iff, and1L, Int64.toBitVec_shiftRight, BitVec.sshiftRight', hs, BitVec.getLsbD_sshiftRight]
  simp [hd]
theorem cast_or (M : Int) {c d : Nat} (hc : c < 64) (hd : d < 64) : castB (zorL M (zshlL 1 (c : Int))) (d : Int) = (castB M (d : Int) || decide (d = c)) := by
  have hs := sh64 c hc
  rw [cast_bit _ hd, cast_bit _ hd]
  unfold zorL zshlL
  rw [i64_of, i64_of, Int64.toBitVec_or, BitVec.getLsbD_or, Int64.toBitVec_shiftLeft, BitVec.shiftLeft_eq', hs, BitVec.getLsbD_shiftLeft]
  have : (i64 1).toBitVec = 1#64 := rfl
  rw [this, BitVec.getLsbD_one]
  congr 1
  by_cases h : d = c
  · simp [h, hc]
  · simp [hd, h]; omega
theorem cast_0 {d : Nat} (hd : d < 64) : castB 0 (d : Int) = false := by
  rw [cast_bit _ hd]
  have : (i64 0).toBitVec = 0#64 := rfl
  rw [this]; simp
