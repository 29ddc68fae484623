/-! BYTES OF A WORD: as an int and as a long -/
theorem p1_a32 (x : Int32) : (x &&& 255).toInt = ((x.toBitVec.toNat % 256 : Nat) : Int) := by
  have e1 : (x &&& 255).toBitVec = x.toBitVec &&& 255#32 := rfl
  have e2 : (x &&& 255).toBitVec.toNat = x.toBitVec.toNat % 256 := by
    rw [e1, BitVec.toNat_and]
    exact Nat.and_two_pow_sub_one_eq_mod _ 8
  show (x &&& 255).toBitVec.toInt = _
  rw [BitVec.toInt_eq_toNat_of_lt (by rw [e2]; omega), e2]
theorem p1_a64 (x : Int64) : (x &&& 255).toInt = ((x.toBitVec.toNat % 256 : Nat) : Int) := by
  have e1 : (x &&& 255).toBitVec = x.toBitVec &&& 255#64 := rfl
  have e2 : (x &&& 255).toBitVec.toNat = x.toBitVec.toNat % 256 := by
    rw [e1, BitVec.toNat_and]
    exact Nat.and_two_pow_sub_one_eq_mod _ 8
  show (x &&& 255).toBitVec.toInt = _
  rw [BitVec.toInt_eq_toNat_of_lt (by rw [e2]; omega), e2]
theorem p1_em (t : Int64) : (Int64.toInt32 t &&& 255).toInt = (t &&& 255).toInt := by
  rw [p1_a32, p1_a64, Int64.toBitVec_toInt32, BitVec.signExtend_eq_setWidth_of_le _ (by decide), BitVec.toNat_setWidth]
  congr 1
  omega
theorem q_33 : (33 : Int32).toInt = 33 := rfl
theorem q_126 : (126 : Int32).toInt = 126 := rfl
theorem q_255 : (255 : Int32).toInt = 255 := rfl
theorem q_33l : (33 : Int64).toInt = 33 := rfl
theorem q_126l : (126 : Int64).toInt = 126 := rfl
theorem p1_mlt33 {t : Int64} : mj_c2 .lt ((Int64.toInt32 t) &&& 255) 33 = mj_c1 .lt (lg_cmp (t &&& 255) 33) := by
  show decide (_ < _) = decide (_ < _)
  apply decide_eq_decide.mpr
  rw [lg_cmp_lt, Int32.lt_iff_toInt_lt, Int64.lt_iff_toInt_lt, p1_em, q_33, q_33l]
theorem p1_mle126 {t : Int64} : mj_c2 .le ((Int64.toInt32 t) &&& 255) 126 = mj_c1 .le (lg_cmp (t &&& 255) 126) := by
  show decide (_ ≤ _) = decide (_ ≤ _)
  apply decide_eq_decide.mpr
  rw [lg_cmp_le, Int32.le_iff_toInt_le, Int64.le_iff_toInt_le, p1_em, q_126, q_126l]
theorem p1_enc (x : Int32) : mj_c2 .gt (UInt32.toInt32 (Int32.toUInt32 (x &&& 255) % 65536)) 255 = false := by
  show decide (_ < _) = false
  apply decide_eq_false
  rw [Int32.lt_iff_toInt_lt, q_255]
  have e1 : (UInt32.toInt32 (Int32.toUInt32 (x &&& 255) % 65536)).toBitVec = (x.toBitVec &&& 255#32) % 65536#32 := rfl
  have e2 : (UInt32.toInt32 (Int32.toUInt32 (x &&& 255) % 65536)).toBitVec.toNat = x.toBitVec.toNat % 256 := by
    rw [e1, BitVec.toNat_umod, BitVec.toNat_and, show (255#32).toNat = 2 ^ 8 - 1 from rfl, Nat.and_two_pow_sub_one_eq_mod]
    show x.toBitVec.toNat % 256 % 65536 = _
    omega
  show ¬ 255 < (UInt32.toInt32 (Int32.toUInt32 (x &&& 255) % 65536)).toBitVec.toInt
  rw [BitVec.toInt_eq_toNat_of_lt (by rw [e2]; omega), e2]
  omega
theorem p1_eight (x : Int32) : mj_c2 .lt x 1 = true ∨ mj_c2 .gt x 8 = true ∨ x = 1 ∨ x = 2 ∨ x = 3 ∨ x = 4 ∨ x = 5 ∨ x = 6 ∨ x = 7 ∨ x = 8 := by
  have e : x.toInt < 1 ∨ 8 < x.toInt ∨ x.toInt = 1 ∨ x.toInt = 2 ∨ x.toInt = 3 ∨ x.toInt = 4 ∨ x.toInt = 5 ∨ x.toInt = 6 ∨ x.toInt = 7 ∨ x.toInt = 8 := by omega
  rcases e with h | h | h | h | h | h | h | h | h | h
  · exact Or.inl (decide_eq_true (Int32.lt_iff_toInt_lt.mpr h))
  · exact Or.inr (Or.inl (decide_eq_true (Int32.lt_iff_toInt_lt.mpr h)))
  · exact Or.inr (Or.inr (Or.inl (Int32.toInt_inj.mp h)))
  · exact Or.inr (Or.inr (Or.inr (Or.inl (Int32.toInt_inj.mp h))))
  · exact Or.inr (Or.inr (Or.inr (Or.inr (Or.inl (Int32.toInt_inj.mp h)))))
  · exact Or.inr (Or.inr (Or.inr (Or.inr (Or.inr (Or.inl (Int32.toInt_inj.mp h))))))
  · exact Or.inr (Or.inr (Or.inr (Or.inr (Or.inr (Or.inr (Or.inl (Int32.toInt_inj.mp h)))))))
  · exact Or.inr (Or.inr (Or.inr (Or.inr (Or.inr (Or.inr (Or.inr (Or.inl (Int32.toInt_inj.mp h))))))))
  · exact Or.inr (Or.inr (Or.inr (Or.inr (Or.inr (Or.inr (Or.inr (Or.inr (Or.inl (Int32.toInt_inj.mp h)))))))))
  · exact Or.inr (Or.inr (Or.inr (Or.inr (Or.inr (Or.inr (Or.inr (Or.inr (Or.inr (Int32.toInt_inj.mp h)))))))))
/-- the law's choice of a call -/
theorem p1_31 (x : Int32) : ∃ n : Nat, n < 32 ∧ x &&& 31 = Int32.ofNat n := by
  have e1 : (x &&& 31).toBitVec = x.toBitVec &&& 31#32 := rfl
  have e2 : (x &&& 31).toBitVec.toNat = x.toBitVec.toNat % 32 := by
    rw [e1, BitVec.toNat_and]
    exact Nat.and_two_pow_sub_one_eq_mod _ 5
  refine ⟨x.toBitVec.toNat % 32, Nat.mod_lt _ (by decide), ?_⟩
  apply Int32.toBitVec_inj.mp
  apply BitVec.eq_of_toNat_eq
  rw [e2]
  show _ = (BitVec.ofNat 32 (x.toBitVec.toNat % 32)).toNat
  rw [BitVec.toNat_ofNat]
  omega
