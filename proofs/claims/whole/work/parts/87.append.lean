section APQ
variable {xt : mj_X} {ct : Nat → Value} {O : OR} {N : Nat} {H : mj_H} {t v : Nat} {bs : List Value} {tx : List Int32}
theorem i_byte {c : Int32} (h : 0 ≤ c.toInt ∧ c.toInt ≤ 127) : c.toInt8.toInt32 = c := by
  apply Int32.toInt_inj.mp
  rw [Int8.toInt_toInt32, Int32.toInt_toInt8, Int.bmod_def]
  split <;> omega
theorem C22_sb (h : sb H t v bs tx) : C22 xt ct O N t H = some (1, H) := by
  obtain ⟨⟨m, h1⟩, -⟩ := h
  have g1 : gI H t 0 1 = some 0 := gI_of h1 rfl
  have b : mj_c1 .ne 0 = false := by decide
  simp only [C22, J22_18, g1, b, Option.bind_some, cond_false]
  rfl
/-- a character where there is room -/
theorem C14_put (h : sb H t v bs tx) (hr : tx.length < bs.length) {c : Int32} (hc : 0 ≤ c.toInt ∧ c.toInt ≤ 127) : ∃ H', (bif mj_c1 .eq 1 then J14_45 xt ct O N t c H else (C23 xt ct O N c H).bind fun r35 => bif mj_c1 .eq r35.1 then J14_45 xt ct O N t c r35.2 else (gA r35.2 t 0 0).bind fun r40 => (gI r35.2 t 0 3).bind fun r43 => (uF r35.2 t 0 3 (.int (r43 + 1))).bind fun H46 => (sN .byte H46 r40 r43 (c : Int32).toInt8.toInt32).bind fun H49 => J14_75 xt ct O N t H49) = some (t, H') ∧ sb H' t v (bs.set tx.length (.int c)) (tx ++ [c]) ∧ (∀ q, q ≠ t → q ≠ v → H'.1 q = H.1 q) ∧ H'.2 = H.2 := by
  obtain ⟨⟨m, h1⟩, h2, h3, h4, h5, h6, h7⟩ := h
  have e1 : (Int32.ofNat tx.length).toInt = tx.length := i_nat (by omega)
  have e2 : Int32.ofNat tx.length + 1 = Int32.ofNat (tx.length + 1) := by
    apply Int32.toInt_inj.mp
    rw [i_add (by rw [q_1]; omega) (by rw [q_1]; omega), q_1, e1, i_nat (by omega)]
    omega
  have b1 : mj_c1 .eq 1 = false := by decide
  have b2 : mj_c2 .gt c 255 = false := i_c2 (by show decide _ = false; apply decide_eq_false; rw [q_255]; omega)
  have c23 : C23 xt ct O N c H = some (1, H) := by
    simp only [C23, J23_12, b2, cond_false]
    rfl
  have g0 : gA H t 0 0 = some v := gA_of h1 rfl
  have g3 : gI H t 0 3 = some (Int32.ofNat tx.length) := gI_of h1 rfl
  have u : uF H t 0 3 (.int (Int32.ofNat tx.length + 1)) = some (mj_put H t (.inr (0, [.ref v, .int 0, .int m, .int (Int32.ofNat (tx.length + 1))]))) := by
    rw [uF_of h1, e2]
    rfl
  have K : (mj_put H t (.inr (0, [.ref v, .int 0, .int m, .int (Int32.ofNat (tx.length + 1))]))).1 v = some (.inl (.byte, bs)) := by
    rw [mj_put_ne (fun z => h3 z.symm)]
    exact h2
  have s := sN_of (i := Int32.ofNat tx.length) (x := c) K (by omega) (by omega)
  have n1 : narrow .byte (.int c) = .int c := by
    show Value.int c.toInt8.toInt32 = _
    rw [i_byte hc]
  have n2 : (Int32.ofNat tx.length).toInt.toNat = tx.length := by omega
  rw [n1, n2] at s
  refine ⟨mj_put (mj_put H t (.inr (0, [.ref v, .int 0, .int m, .int (Int32.ofNat (tx.length + 1))]))) v (.inl (.byte, bs.set tx.length (.int c))), ?_, ⟨⟨m, ?_⟩, mj_put_eq, h3, ?_, ?_, ?_, ?_⟩, ?_, rfl⟩
  · simp only [b1, c23, g0, g3, u, i_byte hc, s, J14_75, Option.bind_some, cond_false]
  · rw [mj_put_ne h3, mj_put_eq, List.length_append]
    rfl
  · rw [List.length_append, List.length_set]
    exact hr
  · rw [List.length_set]
    exact h5
  · rw [List.all_eq_true] at h6 ⊢
    intro w hw
    rcases List.mem_or_eq_of_mem_set hw with hw | hw
    · exact h6 w hw
    · subst hw
      show (decide (-128 ≤ c) && decide (c ≤ 127)) = true
      rw [decide_eq_true (Int32.le_iff_toInt_le.mpr (by rw [show (-128 : Int32).toInt = -128 from rfl]; omega)), decide_eq_true (Int32.le_iff_toInt_le.mpr (by rw [show (127 : Int32).toInt = 127 from rfl]; omega))]
      rfl
  · rw [List.length_append, List.map_append, ← h7]
    show List.take (tx.length + 1) (bs.set tx.length (.int c)) = List.take tx.length bs ++ [.int c]
    rw [List.take_add_one, List.take_set_of_le (Nat.le_refl _), List.getElem?_set_self hr]
    rfl
  · intro q q1 q2
    rw [mj_put_ne q2, mj_put_ne q1]
theorem C13_sb (h : sb H t v bs tx) (hv : v < H.2.1) (ht : t < H.2.1) (hl : tx.length ≤ 40000) {c : Int32} (hc : 0 ≤ c.toInt ∧ c.toInt ≤ 127) : ∃ H' v' bs', C13 xt ct O N t c H = some (t, H') ∧ sb H' t v' bs' (tx ++ [c]) ∧ (∀ q, q ≠ t → q ≠ v → q ≠ H.2.1 → H'.1 q = H.1 q) ∧ v' < H'.2.1 ∧ (v' = v ∨ v' = H.2.1) ∧ ((H'.2 = H.2 ∧ bs'.length = bs.length) ∨ (bs.length = tx.length ∧ H'.2 = (H.2.1 + 1, H.2.2 + (2 * bs.length + 2)) ∧ bs'.length = 2 * bs.length + 2 ∧ v' = H.2.1 ∧ H'.1 v = H.1 v)) := by
  have h0 := h
  obtain ⟨⟨m, h1⟩, h2, h3, h4, h5, h6, h7⟩ := h
  have e1 : (Int32.ofNat tx.length).toInt = tx.length := i_nat (by omega)
  have g3 : gI H t 0 3 = some (Int32.ofNat tx.length) := gI_of h1 rfl
  by_cases hr : tx.length < bs.length
  · have c15 := C15_ok' (xt := xt) (ct := ct) (O := O) (N := N) (x1 := Int32.ofNat tx.length + 1) h0 (by rw [i_add (by rw [q_1]; omega) (by rw [q_1]; omega), q_1, e1]; omega) (by rw [i_add (by rw [q_1]; omega) (by rw [q_1]; omega), q_1, e1]; omega)
    obtain ⟨H', p1, p2, p3, p4⟩ := C14_put (xt := xt) (ct := ct) (O := O) (N := N) h0 hr hc
    refine ⟨H', v, _, ?_, p2, fun q q1 q2 _ => p3 q q1 q2, by rw [p4]; exact hv, Or.inl rfl, Or.inl ⟨p4, List.length_set⟩⟩
    have c14 : C14 xt ct O N t c H = some (t, H') := by
      simp only [C14, g3, gK_of h1, c15, C22_sb h0, Option.bind_some]
      exact p1
    simp only [C13, gC_of h1, c14, Option.bind_some]
  · have hb : bs.length = tx.length := by omega
    obtain ⟨G, bs1, c15, w1, w2, w3, w4⟩ := C15_grow (xt := xt) (ct := ct) (O := O) (N := N) h0 hv ht (by omega)
    rw [hb] at c15
    obtain ⟨H', p1, p2, p3, p4⟩ := C14_put (xt := xt) (ct := ct) (O := O) (N := N) w1 (by omega) hc
    obtain ⟨⟨m', w1'⟩, -⟩ := id w1
    refine ⟨H', H.2.1, _, ?_, p2, fun q q1 _ q3 => (p3 q q1 q3).trans (w3 q q1 q3), by rw [p4, w4]; exact Nat.lt_succ_self _, Or.inr rfl, Or.inr ⟨hb, p4.trans w4, by rw [List.length_set]; exact w2, rfl, (p3 v (fun e => h3 e.symm) (by omega)).trans (w3 v (fun e => h3 e.symm) (by omega))⟩⟩
    have c14 : C14 xt ct O N t c H = some (t, H') := by
      simp only [C14, g3, gK_of h1, c15, gK_of w1', C22_sb w1, Option.bind_some]
      exact p1
    simp only [C13, gC_of h1, c14, Option.bind_some]
/-- the character at a place -/
theorem C73_sb (hf : ∃ o, vtO (ct 1) = some o) (h : sb H t v bs tx) {j : Int32} {c : Int32} (hj : 0 ≤ j.toInt) (hv : tx[j.toInt.toNat]? = some c) (hc : 0 ≤ c.toInt ∧ c.toInt ≤ 127) : C73 xt ct O N t j H = some (c, H) := by
  obtain ⟨⟨m, h1⟩, h2, h3, h4, h5, h6, h7⟩ := h
  obtain ⟨o, hf⟩ := hf
  have hlt : j.toInt.toNat < tx.length := (List.getElem?_eq_some_iff.mp hv).1
  have e1 : (Int32.ofNat tx.length).toInt = tx.length := i_nat (by omega)
  have e2 : (Int32.ofNat bs.length).toInt = bs.length := i_nat (by omega)
  have g0 : gA H t 0 0 = some v := gA_of h1 rfl
  have g1 : gI H t 0 1 = some 0 := gI_of h1 rfl
  have g3 : gI H t 0 3 = some (Int32.ofNat tx.length) := gI_of h1 rfl
  have gn : aN xt H v = some (Int32.ofNat bs.length) := aN_of h2
  have b1 : mj_c2 .gt (Int32.ofNat tx.length) (Int32.ofNat bs.length) = false := i_c2 (by show decide _ = false; apply decide_eq_false; omega)
  have b2 : mj_c1 .lt j = false := i_c1 (by show decide _ = false; apply decide_eq_false; omega)
  have b3 : mj_c2 .lt j (Int32.ofNat tx.length) = true := i_c2 (by show decide _ = true; apply decide_eq_true; omega)
  have b4 : mj_c1 .ne 0 = false := by decide
  have hb : bs[j.toInt.toNat]? = some (.int c) := by
    have := congrArg (fun l => l[j.toInt.toNat]?) h7
    rw [List.getElem?_take, if_pos hlt, List.getElem?_map, hv] at this
    exact this
  have ab : aB xt H v j = some c := aB_of h2 hj hb
  have hcc : ((((c &&& 255) : Int32).toUInt32 % 65536).toInt32) = c := by
    apply Int32.toInt_inj.mp
    have w1 : (((c &&& 255) : Int32).toUInt32 % 65536).toInt32.toBitVec.toNat = c.toBitVec.toNat % 256 := by
      show (((c.toBitVec &&& 255#32) % 65536#32)).toNat = _
      rw [BitVec.toNat_umod, BitVec.toNat_and, show (255#32).toNat = 2 ^ 8 - 1 from rfl, Nat.and_two_pow_sub_one_eq_mod]
      show c.toBitVec.toNat % 256 % 65536 = _
      omega
    show (((c &&& 255) : Int32).toUInt32 % 65536).toInt32.toBitVec.toInt = _
    rw [BitVec.toInt_eq_toNat_of_lt (by rw [w1]; omega), w1]
    have w2 : c.toBitVec.toInt = c.toInt := rfl
    have w3 := BitVec.toInt_eq_toNat_cond c.toBitVec
    have w4 : c.toBitVec.toNat < 2 ^ 32 := c.toBitVec.isLt
    rw [w2] at w3
    split at w3 <;> omega
  have nc : narrow .char (.int c) = .int c := by
    show Value.int (c.toUInt32.toUInt16.toUInt32.toInt32) = _
    congr 1
    apply Int32.toInt_inj.mp
    have w4 : c.toBitVec.toNat < 2 ^ 32 := c.toBitVec.isLt
    have w3 := BitVec.toInt_eq_toNat_cond c.toBitVec
    have w2 : c.toBitVec.toInt = c.toInt := rfl
    rw [w2] at w3
    have w1 : c.toUInt32.toUInt16.toUInt32.toInt32.toBitVec.toNat = c.toBitVec.toNat % 65536 := by
      show ((c.toBitVec.setWidth 16).setWidth 32).toNat = _
      rw [BitVec.toNat_setWidth, BitVec.toNat_setWidth]
      omega
    show c.toUInt32.toUInt16.toUInt32.toInt32.toBitVec.toInt = _
    rw [BitVec.toInt_eq_toNat_of_lt (by rw [w1]; omega), w1]
    split at w3 <;> omega
  simp only [C73, C74, C34, C35, C21, J21_10, gC_of h1, g0, g1, g3, gn, i_shr0, b1, b2, b3, b4, hf, ab, Option.bind_some, cond_false, cond_true, hcc, nc, if_true]
end APQ
