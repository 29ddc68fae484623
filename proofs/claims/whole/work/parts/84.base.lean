/-! READING OF WHAT IS KNOWN -/
section OFS
variable {xt : mj_X} {H : mj_H} {a c n : Nat} {fs xs : List Value} {ty : FieldType} {v : Value}
theorem gF_of (h : H.1 a = some (.inr (c, fs))) : gF H a c n = fs[n]? := by
  unfold gF
  rw [h]
  exact if_pos rfl
theorem gI_of {x : Int32} (h : H.1 a = some (.inr (c, fs))) (hv : fs[n]? = some (.int x)) : gI H a c n = some x := by
  unfold gI
  rw [gF_of h, hv]
  rfl
theorem gL_of {x : Int64} (h : H.1 a = some (.inr (c, fs))) (hv : fs[n]? = some (.long x)) : gL H a c n = some x := by
  unfold gL
  rw [gF_of h, hv]
  rfl
theorem gA_of {x : Nat} (h : H.1 a = some (.inr (c, fs))) (hv : fs[n]? = some (.ref x)) : gA H a c n = some x := by
  unfold gA
  rw [gF_of h, hv]
  rfl
theorem gR_of {x : Option Nat} (h : H.1 a = some (.inr (c, fs))) (hv : fs[n]? = some (rv x)) : gR H a c n = some x := by
  unfold gR
  rw [gF_of h, hv]
  cases x <;> rfl
theorem gC_of (h : H.1 a = some (.inr (c, fs))) : gC H a = some c := by
  unfold gC
  rw [h]
theorem gK_of (h : H.1 a = some (.inr (c, fs))) : gK H a c = some () := by
  unfold gK
  rw [gC_of h]
  exact if_pos rfl
theorem uF_of (h : H.1 a = some (.inr (c, fs))) : uF H a c n v = some (mj_put H a (.inr (c, fs.set n v))) := by
  unfold uF
  rw [h]
  exact if_pos rfl
theorem arr_of (h : H.1 a = some (.inl (ty, xs))) : mj_arr xt H a = some (ty, xs) := by
  unfold mj_arr
  rw [h]
theorem aN_of (h : H.1 a = some (.inl (ty, xs))) : aN xt H a = some (Int32.ofNat xs.length) := by
  unfold aN
  rw [arr_of h]
  rfl
theorem aV_of {ok : FieldType → Bool} {i : Int32} (h : H.1 a = some (.inl (ty, xs))) (hk : ok ty = true) (hi : 0 ≤ i.toInt) : aV xt H ok a i = xs[i.toInt.toNat]? := by
  unfold aV
  rw [arr_of h]
  exact if_pos ⟨hk, hi⟩
theorem aB_of {i x : Int32} (h : H.1 a = some (.inl (.byte, xs))) (hi : 0 ≤ i.toInt) (hv : xs[i.toInt.toNat]? = some (.int x)) : aB xt H a i = some x := by
  unfold aB
  rw [aV_of h rfl hi, hv]
  rfl
theorem aI_of {i x : Int32} (h : H.1 a = some (.inl (.int, xs))) (hi : 0 ≤ i.toInt) (hv : xs[i.toInt.toNat]? = some (.int x)) : aI xt H a i = some x := by
  unfold aI
  rw [aV_of h rfl hi, hv]
  rfl
theorem aL_of {i : Int32} {x : Int64} (h : H.1 a = some (.inl (.long, xs))) (hi : 0 ≤ i.toInt) (hv : xs[i.toInt.toNat]? = some (.long x)) : aL xt H a i = some x := by
  unfold aL
  rw [aV_of h rfl hi, hv]
  rfl
theorem aC_of {i x : Int32} (h : H.1 a = some (.inl (.char, xs))) (hi : 0 ≤ i.toInt) (hv : xs[i.toInt.toNat]? = some (.int x)) : aC xt H a i = some x := by
  unfold aC
  rw [aV_of h rfl hi, hv]
  rfl
theorem aA_of {i : Int32} {x : Nat} (h : H.1 a = some (.inl (ty, xs))) (ht : ty.isReference = true) (hi : 0 ≤ i.toInt) (hv : xs[i.toInt.toNat]? = some (.ref x)) : aA xt H a i = some x := by
  unfold aA
  rw [aV_of (ok := kA) h ht hi, hv]
  rfl
theorem sN_of {i x : Int32} (h : H.1 a = some (.inl (ty, xs))) (hi : 0 ≤ i.toInt) (hl : i.toInt.toNat < xs.length) : sN ty H a i x = some (mj_put H a (.inl (ty, xs.set i.toInt.toNat (narrow ty (.int x))))) := by
  unfold sN
  rw [h]
  exact if_pos ⟨rfl, hi, hl⟩
theorem sL_of {i : Int32} {x : Int64} (h : H.1 a = some (.inl (.long, xs))) (hi : 0 ≤ i.toInt) (hl : i.toInt.toNat < xs.length) : sL H a i x = some (mj_put H a (.inl (.long, xs.set i.toInt.toNat (.long x)))) := by
  unfold sL
  rw [h]
  exact if_pos ⟨rfl, hi, hl⟩
end OFS
/-! INTS THAT DO NOT WRAP ROUND -/
theorem i_bm {x : Int} (h1 : -2147483648 ≤ x) (h2 : x < 2147483648) : Int.bmod x 4294967296 = x := by
  rw [Int.bmod_def]
  split <;> omega
theorem i_add {x y : Int32} (h1 : -2147483648 ≤ x.toInt + y.toInt) (h2 : x.toInt + y.toInt < 2147483648) : (x + y).toInt = x.toInt + y.toInt := by
  rw [Int32.toInt_add]
  exact i_bm h1 h2
theorem i_sub {x y : Int32} (h1 : -2147483648 ≤ x.toInt - y.toInt) (h2 : x.toInt - y.toInt < 2147483648) : (x - y).toInt = x.toInt - y.toInt := by
  rw [Int32.toInt_sub]
  exact i_bm h1 h2
theorem i_mul {x y : Int32} (h1 : -2147483648 ≤ x.toInt * y.toInt) (h2 : x.toInt * y.toInt < 2147483648) : (x * y).toInt = x.toInt * y.toInt := by
  rw [Int32.toInt_mul]
  exact i_bm h1 h2
theorem i_nat {n : Nat} (h : n < 2147483648) : (Int32.ofNat n).toInt = n := Int32.toInt_ofNat_of_lt h
theorem i_c1 {c : ClassFile.Cond} {x : Int32} {b : Bool} (h : (match c with | .eq => decide (x.toInt = 0) | .ne => decide (¬ x.toInt = 0) | .lt => decide (x.toInt < 0) | .ge => decide (0 ≤ x.toInt) | .gt => decide (0 < x.toInt) | .le => decide (x.toInt ≤ 0)) = b) : mj_c1 c x = b := by
  rw [← h]
  cases c <;> simp only [mj_c1, Int32.lt_iff_toInt_lt, Int32.le_iff_toInt_le, ← Int32.toInt_inj, q_0]
theorem i_c2 {c : ClassFile.Cond} {x y : Int32} {b : Bool} (h : (match c with | .eq => decide (x.toInt = y.toInt) | .ne => decide (¬ x.toInt = y.toInt) | .lt => decide (x.toInt < y.toInt) | .ge => decide (y.toInt ≤ x.toInt) | .gt => decide (y.toInt < x.toInt) | .le => decide (x.toInt ≤ y.toInt)) = b) : mj_c2 c x y = b := by
  rw [← h]
  cases c <;> simp only [mj_c2, Int32.lt_iff_toInt_lt, Int32.le_iff_toInt_le, ← Int32.toInt_inj]
theorem i_shr0 (x : Int32) : x >>> ((0 : Int32) &&& 31) = x := by
  rw [show ((0 : Int32) &&& 31) = 0 from by decide]
  exact Int32.shiftRight_zero
theorem i_shl0 (x : Int32) : x <<< ((0 : Int32) &&& 31) = x := by
  rw [show ((0 : Int32) &&& 31) = 0 from by decide]
  exact Int32.shiftLeft_zero
