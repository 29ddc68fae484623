theorem p1_k1_1 : p1_chk [(4, .float 0, .int 31, .int 1)] [] [.float 0, .float 1, .float 2, .float 3] = true := by decide +kernel
theorem p1_c1 {b base : Nat} {xs : Nat → Int32} {xt : mj_X} {ct : Nat → Value} {w0 w1 w2 w3 : Int32} (hk : kX b 4 xs base xt ct) (h0 : xs 0 = w0) (h1 : xs 1 = w1) (h2 : xs 2 = w2) (h3 : xs 3 = w3) (hw : w0 &&& 31 = 1) : p1_G b base xt ct := by
  exact p1_use hk (fun n => ([w0, w1, w2, w3] : List Int32).getD n 0) (fun n => ([] : List Int64).getD n 0) p1_k1_1 (by show [Value.int w0, .int w1, .int w2, .int w3] = [.int (xs 0), .int (xs 1), .int (xs 2), .int (xs 3)]; rw [h0, h1, h2, h3]) (p1_okT1 (congrArg (fun z => some (Value.int z)) hw) p1_okT0) p1_okC0
theorem p1_k2_2 : p1_chk [(4, .float 0, .int 31, .int 2)] [(12, .float 1, .null, true)] [.float 0, .float 1, .float 2, .float 3] = true := by decide +kernel
theorem p1_k2_3 : p1_chk [(4, .float 0, .int 31, .int 2)] [(12, .float 1, .null, false), (3, .float 1, .int 0, true)] [.float 0, .float 1, .float 2, .float 3] = true := by decide +kernel
theorem p1_c2 {b base : Nat} {xs : Nat → Int32} {xt : mj_X} {ct : Nat → Value} {w0 w1 w2 w3 : Int32} (hk : kX b 4 xs base xt ct) (h0 : xs 0 = w0) (h1 : xs 1 = w1) (h2 : xs 2 = w2) (h3 : xs 3 = w3) (hw : w0 &&& 31 = 2) : p1_G b base xt ct := by
  cases q1 : mj_c1 .lt w1 with
  | true =>
    exact p1_use hk (fun n => ([w0, w1, w2, w3] : List Int32).getD n 0) (fun n => ([] : List Int64).getD n 0) p1_k2_2 (by show [Value.int w0, .int w1, .int w2, .int w3] = [.int (xs 0), .int (xs 1), .int (xs 2), .int (xs 3)]; rw [h0, h1, h2, h3]) (p1_okT1 (congrArg (fun z => some (Value.int z)) hw) p1_okT0) (p1_okC1 (congrArg some q1) p1_okC0)
  | false =>
    have q2 : mj_c2 .ge w1 0 = true := by (simp only [mj_c1, mj_c2, decide_eq_true_eq, decide_eq_false_iff_not, Int32.lt_iff_toInt_lt, Int32.le_iff_toInt_le, ← Int32.toInt_inj, q_0, q_1, q_2, q_3, q_8, q_m1, q_1000] at *; omega)
    exact p1_use hk (fun n => ([w0, w1, w2, w3] : List Int32).getD n 0) (fun n => ([] : List Int64).getD n 0) p1_k2_3 (by show [Value.int w0, .int w1, .int w2, .int w3] = [.int (xs 0), .int (xs 1), .int (xs 2), .int (xs 3)]; rw [h0, h1, h2, h3]) (p1_okT1 (congrArg (fun z => some (Value.int z)) hw) p1_okT0) (p1_okC1 (congrArg some q1) (p1_okC1 (congrArg some q2) p1_okC0))
theorem p1_k4_4 : p1_chk [(4, .float 0, .int 31, .int 4)] [] [.float 0, .float 1, .float 2, .float 3] = true := by decide +kernel
theorem p1_c4 {b base : Nat} {xs : Nat → Int32} {xt : mj_X} {ct : Nat → Value} {w0 w1 w2 w3 : Int32} (hk : kX b 4 xs base xt ct) (h0 : xs 0 = w0) (h1 : xs 1 = w1) (h2 : xs 2 = w2) (h3 : xs 3 = w3) (hw : w0 &&& 31 = 4) : p1_G b base xt ct := by
  exact p1_use hk (fun n => ([w0, w1, w2, w3] : List Int32).getD n 0) (fun n => ([] : List Int64).getD n 0) p1_k4_4 (by show [Value.int w0, .int w1, .int w2, .int w3] = [.int (xs 0), .int (xs 1), .int (xs 2), .int (xs 3)]; rw [h0, h1, h2, h3]) (p1_okT1 (congrArg (fun z => some (Value.int z)) hw) p1_okT0) p1_okC0
theorem p1_k5_5 : p1_chk [(4, .float 0, .int 31, .int 5)] [(12, .float 1, .null, true), (2, .float 1, .int 0, true)] [.float 0, .float 1, .float 2, .float 3] = true := by decide +kernel
theorem p1_k5_6 : p1_chk [(4, .float 0, .int 31, .int 5)] [(12, .float 1, .null, false), (3, .float 1, .int 3, true), (2, .float 1, .int 0, false), (4, .float 1, .int 2, true)] [.float 0, .float 1, .float 2, .float 3] = true := by decide +kernel
theorem p1_k5_7 : p1_chk [(4, .float 0, .int 31, .int 5)] [] [.float 0, .int 0, .float 2, .float 3] = true := by decide +kernel
theorem p1_k5_8 : p1_chk [(4, .float 0, .int 31, .int 5)] [] [.float 0, .int 1, .float 2, .float 3] = true := by decide +kernel
theorem p1_k5_9 : p1_chk [(4, .float 0, .int 31, .int 5)] [] [.float 0, .int 2, .float 2, .float 3] = true := by decide +kernel
theorem p1_c5 {b base : Nat} {xs : Nat → Int32} {xt : mj_X} {ct : Nat → Value} {w0 w1 w2 w3 : Int32} (hk : kX b 4 xs base xt ct) (h0 : xs 0 = w0) (h1 : xs 1 = w1) (h2 : xs 2 = w2) (h3 : xs 3 = w3) (hw : w0 &&& 31 = 5) : p1_G b base xt ct := by
  cases q3 : mj_c1 .lt w1 with
  | true =>
    have q4 : mj_c2 .lt w1 0 = true := by (simp only [mj_c1, mj_c2, decide_eq_true_eq, decide_eq_false_iff_not, Int32.lt_iff_toInt_lt, Int32.le_iff_toInt_le, ← Int32.toInt_inj, q_0, q_1, q_2, q_3, q_8, q_m1, q_1000] at *; omega)
    exact p1_use hk (fun n => ([w0, w1, w2, w3] : List Int32).getD n 0) (fun n => ([] : List Int64).getD n 0) p1_k5_5 (by show [Value.int w0, .int w1, .int w2, .int w3] = [.int (xs 0), .int (xs 1), .int (xs 2), .int (xs 3)]; rw [h0, h1, h2, h3]) (p1_okT1 (congrArg (fun z => some (Value.int z)) hw) p1_okT0) (p1_okC1 (congrArg some q3) (p1_okC1 (congrArg some q4) p1_okC0))
  | false =>
    cases q5 : mj_c2 .ge w1 3 with
    | true =>
      have q6 : mj_c2 .lt w1 0 = false := by (simp only [mj_c1, mj_c2, decide_eq_true_eq, decide_eq_false_iff_not, Int32.lt_iff_toInt_lt, Int32.le_iff_toInt_le, ← Int32.toInt_inj, q_0, q_1, q_2, q_3, q_8, q_m1, q_1000] at *; omega)
      have q7 : mj_c2 .gt w1 2 = true := by (simp only [mj_c1, mj_c2, decide_eq_true_eq, decide_eq_false_iff_not, Int32.lt_iff_toInt_lt, Int32.le_iff_toInt_le, ← Int32.toInt_inj, q_0, q_1, q_2, q_3, q_8, q_m1, q_1000] at *; omega)
      exact p1_use hk (fun n => ([w0, w1, w2, w3] : List Int32).getD n 0) (fun n => ([] : List Int64).getD n 0) p1_k5_6 (by show [Value.int w0, .int w1, .int w2, .int w3] = [.int (xs 0), .int (xs 1), .int (xs 2), .int (xs 3)]; rw [h0, h1, h2, h3]) (p1_okT1 (congrArg (fun z => some (Value.int z)) hw) p1_okT0) (p1_okC1 (congrArg some q3) (p1_okC1 (congrArg some q5) (p1_okC1 (congrArg some q6) (p1_okC1 (congrArg some q7) p1_okC0))))
    | false =>
      rcases p1_three (x := w1) (by (simp only [mj_c1, mj_c2, decide_eq_true_eq, decide_eq_false_iff_not, Int32.lt_iff_toInt_lt, Int32.le_iff_toInt_le, ← Int32.toInt_inj, q_0, q_1, q_2, q_3, q_8, q_m1, q_1000] at *; omega)) (by (simp only [mj_c1, mj_c2, decide_eq_true_eq, decide_eq_false_iff_not, Int32.lt_iff_toInt_lt, Int32.le_iff_toInt_le, ← Int32.toInt_inj, q_0, q_1, q_2, q_3, q_8, q_m1, q_1000] at *; omega)) with rfl | rfl | rfl
      · skip
        exact p1_use hk (fun n => ([w0, 0, w2, w3] : List Int32).getD n 0) (fun n => ([] : List Int64).getD n 0) p1_k5_7 (by show [Value.int w0, .int 0, .int w2, .int w3] = [.int (xs 0), .int (xs 1), .int (xs 2), .int (xs 3)]; rw [h0, h1, h2, h3]) (p1_okT1 (congrArg (fun z => some (Value.int z)) hw) p1_okT0) p1_okC0
      · skip
        exact p1_use hk (fun n => ([w0, 0, w2, w3] : List Int32).getD n 0) (fun n => ([] : List Int64).getD n 0) p1_k5_8 (by show [Value.int w0, .int 1, .int w2, .int w3] = [.int (xs 0), .int (xs 1), .int (xs 2), .int (xs 3)]; rw [h0, h1, h2, h3]) (p1_okT1 (congrArg (fun z => some (Value.int z)) hw) p1_okT0) p1_okC0
      · skip
        exact p1_use hk (fun n => ([w0, 0, w2, w3] : List Int32).getD n 0) (fun n => ([] : List Int64).getD n 0) p1_k5_9 (by show [Value.int w0, .int 2, .int w2, .int w3] = [.int (xs 0), .int (xs 1), .int (xs 2), .int (xs 3)]; rw [h0, h1, h2, h3]) (p1_okT1 (congrArg (fun z => some (Value.int z)) hw) p1_okT0) p1_okC0
theorem p1_k6_10 : p1_chk [(4, .float 0, .int 31, .int 6)] [(12, .float 1, .null, true), (2, .float 1, .int 0, true)] [.float 0, .float 1, .float 2, .float 3] = true := by decide +kernel
theorem p1_k6_11 : p1_chk [(4, .float 0, .int 31, .int 6)] [(12, .float 1, .null, false), (3, .float 1, .int 3, true), (2, .float 1, .int 0, false), (4, .float 1, .int 2, true)] [.float 0, .float 1, .float 2, .float 3] = true := by decide +kernel
theorem p1_k6_12 : p1_chk [(4, .float 0, .int 31, .int 6)] [] [.float 0, .int 0, .float 2, .float 3] = true := by decide +kernel
theorem p1_k6_13 : p1_chk [(4, .float 0, .int 31, .int 6)] [] [.float 0, .int 1, .float 2, .float 3] = true := by decide +kernel
theorem p1_k6_14 : p1_chk [(4, .float 0, .int 31, .int 6)] [] [.float 0, .int 2, .float 2, .float 3] = true := by decide +kernel
theorem p1_c6 {b base : Nat} {xs : Nat → Int32} {xt : mj_X} {ct : Nat → Value} {w0 w1 w2 w3 : Int32} (hk : kX b 4 xs base xt ct) (h0 : xs 0 = w0) (h1 : xs 1 = w1) (h2 : xs 2 = w2) (h3 : xs 3 = w3) (hw : w0 &&& 31 = 6) : p1_G b base xt ct := by
  cases q8 : mj_c1 .lt w1 with
  | true =>
    have q9 : mj_c2 .lt w1 0 = true := by (simp only [mj_c1, mj_c2, decide_eq_true_eq, decide_eq_false_iff_not, Int32.lt_iff_toInt_lt, Int32.le_iff_toInt_le, ← Int32.toInt_inj, q_0, q_1, q_2, q_3, q_8, q_m1, q_1000] at *; omega)
    exact p1_use hk (fun n => ([w0, w1, w2, w3] : List Int32).getD n 0) (fun n => ([] : List Int64).getD n 0) p1_k6_10 (by show [Value.int w0, .int w1, .int w2, .int w3] = [.int (xs 0), .int (xs 1), .int (xs 2), .int (xs 3)]; rw [h0, h1, h2, h3]) (p1_okT1 (congrArg (fun z => some (Value.int z)) hw) p1_okT0) (p1_okC1 (congrArg some q8) (p1_okC1 (congrArg some q9) p1_okC0))
  | false =>
    cases q10 : mj_c2 .ge w1 3 with
    | true =>
      have q11 : mj_c2 .lt w1 0 = false := by (simp only [mj_c1, mj_c2, decide_eq_true_eq, decide_eq_false_iff_not, Int32.lt_iff_toInt_lt, Int32.le_iff_toInt_le, ← Int32.toInt_inj, q_0, q_1, q_2, q_3, q_8, q_m1, q_1000] at *; omega)
      have q12 : mj_c2 .gt w1 2 = true := by (simp only [mj_c1, mj_c2, decide_eq_true_eq, decide_eq_false_iff_not, Int32.lt_iff_toInt_lt, Int32.le_iff_toInt_le, ← Int32.toInt_inj, q_0, q_1, q_2, q_3, q_8, q_m1, q_1000] at *; omega)
      exact p1_use hk (fun n => ([w0, w1, w2, w3] : List Int32).getD n 0) (fun n => ([] : List Int64).getD n 0) p1_k6_11 (by show [Value.int w0, .int w1, .int w2, .int w3] = [.int (xs 0), .int (xs 1), .int (xs 2), .int (xs 3)]; rw [h0, h1, h2, h3]) (p1_okT1 (congrArg (fun z => some (Value.int z)) hw) p1_okT0) (p1_okC1 (congrArg some q8) (p1_okC1 (congrArg some q10) (p1_okC1 (congrArg some q11) (p1_okC1 (congrArg some q12) p1_okC0))))
    | false =>
      rcases p1_three (x := w1) (by (simp only [mj_c1, mj_c2, decide_eq_true_eq, decide_eq_false_iff_not, Int32.lt_iff_toInt_lt, Int32.le_iff_toInt_le, ← Int32.toInt_inj, q_0, q_1, q_2, q_3, q_8, q_m1, q_1000] at *; omega)) (by (simp only [mj_c1, mj_c2, decide_eq_true_eq, decide_eq_false_iff_not, Int32.lt_iff_toInt_lt, Int32.le_iff_toInt_le, ← Int32.toInt_inj, q_0, q_1, q_2, q_3, q_8, q_m1, q_1000] at *; omega)) with rfl | rfl | rfl
      · skip
        exact p1_use hk (fun n => ([w0, 0, w2, w3] : List Int32).getD n 0) (fun n => ([] : List Int64).getD n 0) p1_k6_12 (by show [Value.int w0, .int 0, .int w2, .int w3] = [.int (xs 0), .int (xs 1), .int (xs 2), .int (xs 3)]; rw [h0, h1, h2, h3]) (p1_okT1 (congrArg (fun z => some (Value.int z)) hw) p1_okT0) p1_okC0
      · skip
        exact p1_use hk (fun n => ([w0, 0, w2, w3] : List Int32).getD n 0) (fun n => ([] : List Int64).getD n 0) p1_k6_13 (by show [Value.int w0, .int 1, .int w2, .int w3] = [.int (xs 0), .int (xs 1), .int (xs 2), .int (xs 3)]; rw [h0, h1, h2, h3]) (p1_okT1 (congrArg (fun z => some (Value.int z)) hw) p1_okT0) p1_okC0
      · skip
        exact p1_use hk (fun n => ([w0, 0, w2, w3] : List Int32).getD n 0) (fun n => ([] : List Int64).getD n 0) p1_k6_14 (by show [Value.int w0, .int 2, .int w2, .int w3] = [.int (xs 0), .int (xs 1), .int (xs 2), .int (xs 3)]; rw [h0, h1, h2, h3]) (p1_okT1 (congrArg (fun z => some (Value.int z)) hw) p1_okT0) p1_okC0
theorem p1_k7_15 : p1_chk [(4, .float 0, .int 31, .int 7)] [] [.float 0, .float 1, .float 2, .float 3] = true := by decide +kernel
theorem p1_c7 {b base : Nat} {xs : Nat → Int32} {xt : mj_X} {ct : Nat → Value} {w0 w1 w2 w3 : Int32} (hk : kX b 4 xs base xt ct) (h0 : xs 0 = w0) (h1 : xs 1 = w1) (h2 : xs 2 = w2) (h3 : xs 3 = w3) (hw : w0 &&& 31 = 7) : p1_G b base xt ct := by
  exact p1_use hk (fun n => ([w0, w1, w2, w3] : List Int32).getD n 0) (fun n => ([] : List Int64).getD n 0) p1_k7_15 (by show [Value.int w0, .int w1, .int w2, .int w3] = [.int (xs 0), .int (xs 1), .int (xs 2), .int (xs 3)]; rw [h0, h1, h2, h3]) (p1_okT1 (congrArg (fun z => some (Value.int z)) hw) p1_okT0) p1_okC0
theorem p1_k8_16 : p1_chk [(4, .float 0, .int 31, .int 8)] [(12, .float 1, .null, true), (2, .float 1, .int 0, true)] [.float 0, .float 1, .float 2, .float 3] = true := by decide +kernel
theorem p1_k8_17 : p1_chk [(4, .float 0, .int 31, .int 8)] [(12, .float 1, .null, false), (3, .float 1, .int 3, true), (2, .float 1, .int 0, false), (4, .float 1, .int 2, true)] [.float 0, .float 1, .float 2, .float 3] = true := by decide +kernel
theorem p1_k8_18 : p1_chk [(4, .float 0, .int 31, .int 8)] [] [.float 0, .int 0, .float 2, .float 3] = true := by decide +kernel
theorem p1_k8_19 : p1_chk [(4, .float 0, .int 31, .int 8)] [] [.float 0, .int 1, .float 2, .float 3] = true := by decide +kernel
theorem p1_k8_20 : p1_chk [(4, .float 0, .int 31, .int 8)] [] [.float 0, .int 2, .float 2, .float 3] = true := by decide +kernel
theorem p1_c8 {b base : Nat} {xs : Nat → Int32} {xt : mj_X} {ct : Nat → Value} {w0 w1 w2 w3 : Int32} (hk : kX b 4 xs base xt ct) (h0 : xs 0 = w0) (h1 : xs 1 = w1) (h2 : xs 2 = w2) (h3 : xs 3 = w3) (hw : w0 &&& 31 = 8) : p1_G b base xt ct := by
  cases q13 : mj_c1 .lt w1 with
  | true =>
    have q14 : mj_c2 .lt w1 0 = true := by (simp only [mj_c1, mj_c2, decide_eq_true_eq, decide_eq_false_iff_not, Int32.lt_iff_toInt_lt, Int32.le_iff_toInt_le, ← Int32.toInt_inj, q_0, q_1, q_2, q_3, q_8, q_m1, q_1000] at *; omega)
    exact p1_use hk (fun n => ([w0, w1, w2, w3] : List Int32).getD n 0) (fun n => ([] : List Int64).getD n 0) p1_k8_16 (by show [Value.int w0, .int w1, .int w2, .int w3] = [.int (xs 0), .int (xs 1), .int (xs 2), .int (xs 3)]; rw [h0, h1, h2, h3]) (p1_okT1 (congrArg (fun z => some (Value.int z)) hw) p1_okT0) (p1_okC1 (congrArg some q13) (p1_okC1 (congrArg some q14) p1_okC0))
  | false =>
    cases q15 : mj_c2 .ge w1 3 with
    | true =>
      have q16 : mj_c2 .lt w1 0 = false := by (simp only [mj_c1, mj_c2, decide_eq_true_eq, decide_eq_false_iff_not, Int32.lt_iff_toInt_lt, Int32.le_iff_toInt_le, ← Int32.toInt_inj, q_0, q_1, q_2, q_3, q_8, q_m1, q_1000] at *; omega)
      have q17 : mj_c2 .gt w1 2 = true := by (simp only [mj_c1, mj_c2, decide_eq_true_eq, decide_eq_false_iff_not, Int32.lt_iff_toInt_lt, Int32.le_iff_toInt_le, ← Int32.toInt_inj, q_0, q_1, q_2, q_3, q_8, q_m1, q_1000] at *; omega)
      exact p1_use hk (fun n => ([w0, w1, w2, w3] : List Int32).getD n 0) (fun n => ([] : List Int64).getD n 0) p1_k8_17 (by show [Value.int w0, .int w1, .int w2, .int w3] = [.int (xs 0), .int (xs 1), .int (xs 2), .int (xs 3)]; rw [h0, h1, h2, h3]) (p1_okT1 (congrArg (fun z => some (Value.int z)) hw) p1_okT0) (p1_okC1 (congrArg some q13) (p1_okC1 (congrArg some q15) (p1_okC1 (congrArg some q16) (p1_okC1 (congrArg some q17) p1_okC0))))
    | false =>
      rcases p1_three (x := w1) (by (simp only [mj_c1, mj_c2, decide_eq_true_eq, decide_eq_false_iff_not, Int32.lt_iff_toInt_lt, Int32.le_iff_toInt_le, ← Int32.toInt_inj, q_0, q_1, q_2, q_3, q_8, q_m1, q_1000] at *; omega)) (by (simp only [mj_c1, mj_c2, decide_eq_true_eq, decide_eq_false_iff_not, Int32.lt_iff_toInt_lt, Int32.le_iff_toInt_le, ← Int32.toInt_inj, q_0, q_1, q_2, q_3, q_8, q_m1, q_1000] at *; omega)) with rfl | rfl | rfl
      · skip
        exact p1_use hk (fun n => ([w0, 0, w2, w3] : List Int32).getD n 0) (fun n => ([] : List Int64).getD n 0) p1_k8_18 (by show [Value.int w0, .int 0, .int w2, .int w3] = [.int (xs 0), .int (xs 1), .int (xs 2), .int (xs 3)]; rw [h0, h1, h2, h3]) (p1_okT1 (congrArg (fun z => some (Value.int z)) hw) p1_okT0) p1_okC0
      · skip
        exact p1_use hk (fun n => ([w0, 0, w2, w3] : List Int32).getD n 0) (fun n => ([] : List Int64).getD n 0) p1_k8_19 (by show [Value.int w0, .int 1, .int w2, .int w3] = [.int (xs 0), .int (xs 1), .int (xs 2), .int (xs 3)]; rw [h0, h1, h2, h3]) (p1_okT1 (congrArg (fun z => some (Value.int z)) hw) p1_okT0) p1_okC0
      · skip
        exact p1_use hk (fun n => ([w0, 0, w2, w3] : List Int32).getD n 0) (fun n => ([] : List Int64).getD n 0) p1_k8_20 (by show [Value.int w0, .int 2, .int w2, .int w3] = [.int (xs 0), .int (xs 1), .int (xs 2), .int (xs 3)]; rw [h0, h1, h2, h3]) (p1_okT1 (congrArg (fun z => some (Value.int z)) hw) p1_okT0) p1_okC0
theorem p1_k9_21 : p1_chk [(4, .float 0, .int 31, .int 9)] [(12, .float 1, .null, true), (2, .float 1, .int 0, true)] [.float 0, .float 1, .float 2, .float 3] = true := by decide +kernel
theorem p1_k9_22 : p1_chk [(4, .float 0, .int 31, .int 9)] [(12, .float 1, .null, false), (3, .float 1, .int 3, true), (2, .float 1, .int 0, false), (4, .float 1, .int 2, true)] [.float 0, .float 1, .float 2, .float 3] = true := by decide +kernel
theorem p1_k9_23 : p1_chk [(4, .float 0, .int 31, .int 9)] [] [.float 0, .int 0, .float 2, .float 3] = true := by decide +kernel
theorem p1_k9_24 : p1_chk [(4, .float 0, .int 31, .int 9)] [] [.float 0, .int 1, .float 2, .float 3] = true := by decide +kernel
theorem p1_k9_25 : p1_chk [(4, .float 0, .int 31, .int 9)] [] [.float 0, .int 2, .float 2, .float 3] = true := by decide +kernel
theorem p1_c9 {b base : Nat} {xs : Nat → Int32} {xt : mj_X} {ct : Nat → Value} {w0 w1 w2 w3 : Int32} (hk : kX b 4 xs base xt ct) (h0 : xs 0 = w0) (h1 : xs 1 = w1) (h2 : xs 2 = w2) (h3 : xs 3 = w3) (hw : w0 &&& 31 = 9) : p1_G b base xt ct := by
  cases q18 : mj_c1 .lt w1 with
  | true =>
    have q19 : mj_c2 .lt w1 0 = true := by (simp only [mj_c1, mj_c2, decide_eq_true_eq, decide_eq_false_iff_not, Int32.lt_iff_toInt_lt, Int32.le_iff_toInt_le, ← Int32.toInt_inj, q_0, q_1, q_2, q_3, q_8, q_m1, q_1000] at *; omega)
    exact p1_use hk (fun n => ([w0, w1, w2, w3] : List Int32).getD n 0) (fun n => ([] : List Int64).getD n 0) p1_k9_21 (by show [Value.int w0, .int w1, .int w2, .int w3] = [.int (xs 0), .int (xs 1), .int (xs 2), .int (xs 3)]; rw [h0, h1, h2, h3]) (p1_okT1 (congrArg (fun z => some (Value.int z)) hw) p1_okT0) (p1_okC1 (congrArg some q18) (p1_okC1 (congrArg some q19) p1_okC0))
  | false =>
    cases q20 : mj_c2 .ge w1 3 with
    | true =>
      have q21 : mj_c2 .lt w1 0 = false := by (simp only [mj_c1, mj_c2, decide_eq_true_eq, decide_eq_false_iff_not, Int32.lt_iff_toInt_lt, Int32.le_iff_toInt_le, ← Int32.toInt_inj, q_0, q_1, q_2, q_3, q_8, q_m1, q_1000] at *; omega)
      have q22 : mj_c2 .gt w1 2 = true := by (simp only [mj_c1, mj_c2, decide_eq_true_eq, decide_eq_false_iff_not, Int32.lt_iff_toInt_lt, Int32.le_iff_toInt_le, ← Int32.toInt_inj, q_0, q_1, q_2, q_3, q_8, q_m1, q_1000] at *; omega)
      exact p1_use hk (fun n => ([w0, w1, w2, w3] : List Int32).getD n 0) (fun n => ([] : List Int64).getD n 0) p1_k9_22 (by show [Value.int w0, .int w1, .int w2, .int w3] = [.int (xs 0), .int (xs 1), .int (xs 2), .int (xs 3)]; rw [h0, h1, h2, h3]) (p1_okT1 (congrArg (fun z => some (Value.int z)) hw) p1_okT0) (p1_okC1 (congrArg some q18) (p1_okC1 (congrArg some q20) (p1_okC1 (congrArg some q21) (p1_okC1 (congrArg some q22) p1_okC0))))
    | false =>
      rcases p1_three (x := w1) (by (simp only [mj_c1, mj_c2, decide_eq_true_eq, decide_eq_false_iff_not, Int32.lt_iff_toInt_lt, Int32.le_iff_toInt_le, ← Int32.toInt_inj, q_0, q_1, q_2, q_3, q_8, q_m1, q_1000] at *; omega)) (by (simp only [mj_c1, mj_c2, decide_eq_true_eq, decide_eq_false_iff_not, Int32.lt_iff_toInt_lt, Int32.le_iff_toInt_le, ← Int32.toInt_inj, q_0, q_1, q_2, q_3, q_8, q_m1, q_1000] at *; omega)) with rfl | rfl | rfl
      · skip
        exact p1_use hk (fun n => ([w0, 0, w2, w3] : List Int32).getD n 0) (fun n => ([] : List Int64).getD n 0) p1_k9_23 (by show [Value.int w0, .int 0, .int w2, .int w3] = [.int (xs 0), .int (xs 1), .int (xs 2), .int (xs 3)]; rw [h0, h1, h2, h3]) (p1_okT1 (congrArg (fun z => some (Value.int z)) hw) p1_okT0) p1_okC0
      · skip
        exact p1_use hk (fun n => ([w0, 0, w2, w3] : List Int32).getD n 0) (fun n => ([] : List Int64).getD n 0) p1_k9_24 (by show [Value.int w0, .int 1, .int w2, .int w3] = [.int (xs 0), .int (xs 1), .int (xs 2), .int (xs 3)]; rw [h0, h1, h2, h3]) (p1_okT1 (congrArg (fun z => some (Value.int z)) hw) p1_okT0) p1_okC0
      · skip
        exact p1_use hk (fun n => ([w0, 0, w2, w3] : List Int32).getD n 0) (fun n => ([] : List Int64).getD n 0) p1_k9_25 (by show [Value.int w0, .int 2, .int w2, .int w3] = [.int (xs 0), .int (xs 1), .int (xs 2), .int (xs 3)]; rw [h0, h1, h2, h3]) (p1_okT1 (congrArg (fun z => some (Value.int z)) hw) p1_okT0) p1_okC0
theorem p1_k10_26 : p1_chk [(4, .float 0, .int 31, .int 10)] [(12, .float 1, .null, true), (2, .float 1, .int 0, true)] [.float 0, .float 1, .float 2, .float 3] = true := by decide +kernel
theorem p1_k10_27 : p1_chk [(4, .float 0, .int 31, .int 10)] [(12, .float 1, .null, false), (3, .float 1, .int 3, true), (2, .float 1, .int 0, false), (4, .float 1, .int 2, true)] [.float 0, .float 1, .float 2, .float 3] = true := by decide +kernel
theorem p1_k10_28 : p1_chk [(4, .float 0, .int 31, .int 10)] [] [.float 0, .int 0, .float 2, .float 3] = true := by decide +kernel
theorem p1_k10_29 : p1_chk [(4, .float 0, .int 31, .int 10)] [] [.float 0, .int 1, .float 2, .float 3] = true := by decide +kernel
theorem p1_k10_30 : p1_chk [(4, .float 0, .int 31, .int 10)] [] [.float 0, .int 2, .float 2, .float 3] = true := by decide +kernel
theorem p1_c10 {b base : Nat} {xs : Nat → Int32} {xt : mj_X} {ct : Nat → Value} {w0 w1 w2 w3 : Int32} (hk : kX b 4 xs base xt ct) (h0 : xs 0 = w0) (h1 : xs 1 = w1) (h2 : xs 2 = w2) (h3 : xs 3 = w3) (hw : w0 &&& 31 = 10) : p1_G b base xt ct := by
  cases q23 : mj_c1 .lt w1 with
  | true =>
    have q24 : mj_c2 .lt w1 0 = true := by (simp only [mj_c1, mj_c2, decide_eq_true_eq, decide_eq_false_iff_not, Int32.lt_iff_toInt_lt, Int32.le_iff_toInt_le, ← Int32.toInt_inj, q_0, q_1, q_2, q_3, q_8, q_m1, q_1000] at *; omega)
    exact p1_use hk (fun n => ([w0, w1, w2, w3] : List Int32).getD n 0) (fun n => ([] : List Int64).getD n 0) p1_k10_26 (by show [Value.int w0, .int w1, .int w2, .int w3] = [.int (xs 0), .int (xs 1), .int (xs 2), .int (xs 3)]; rw [h0, h1, h2, h3]) (p1_okT1 (congrArg (fun z => some (Value.int z)) hw) p1_okT0) (p1_okC1 (congrArg some q23) (p1_okC1 (congrArg some q24) p1_okC0))
  | false =>
    cases q25 : mj_c2 .ge w1 3 with
    | true =>
      have q26 : mj_c2 .lt w1 0 = false := by (simp only [mj_c1, mj_c2, decide_eq_true_eq, decide_eq_false_iff_not, Int32.lt_iff_toInt_lt, Int32.le_iff_toInt_le, ← Int32.toInt_inj, q_0, q_1, q_2, q_3, q_8, q_m1, q_1000] at *; omega)
      have q27 : mj_c2 .gt w1 2 = true := by (simp only [mj_c1, mj_c2, decide_eq_true_eq, decide_eq_false_iff_not, Int32.lt_iff_toInt_lt, Int32.le_iff_toInt_le, ← Int32.toInt_inj, q_0, q_1, q_2, q_3, q_8, q_m1, q_1000] at *; omega)
      exact p1_use hk (fun n => ([w0, w1, w2, w3] : List Int32).getD n 0) (fun n => ([] : List Int64).getD n 0) p1_k10_27 (by show [Value.int w0, .int w1, .int w2, .int w3] = [.int (xs 0), .int (xs 1), .int (xs 2), .int (xs 3)]; rw [h0, h1, h2, h3]) (p1_okT1 (congrArg (fun z => some (Value.int z)) hw) p1_okT0) (p1_okC1 (congrArg some q23) (p1_okC1 (congrArg some q25) (p1_okC1 (congrArg some q26) (p1_okC1 (congrArg some q27) p1_okC0))))
    | false =>
      rcases p1_three (x := w1) (by (simp only [mj_c1, mj_c2, decide_eq_true_eq, decide_eq_false_iff_not, Int32.lt_iff_toInt_lt, Int32.le_iff_toInt_le, ← Int32.toInt_inj, q_0, q_1, q_2, q_3, q_8, q_m1, q_1000] at *; omega)) (by (simp only [mj_c1, mj_c2, decide_eq_true_eq, decide_eq_false_iff_not, Int32.lt_iff_toInt_lt, Int32.le_iff_toInt_le, ← Int32.toInt_inj, q_0, q_1, q_2, q_3, q_8, q_m1, q_1000] at *; omega)) with rfl | rfl | rfl
      · skip
        exact p1_use hk (fun n => ([w0, 0, w2, w3] : List Int32).getD n 0) (fun n => ([] : List Int64).getD n 0) p1_k10_28 (by show [Value.int w0, .int 0, .int w2, .int w3] = [.int (xs 0), .int (xs 1), .int (xs 2), .int (xs 3)]; rw [h0, h1, h2, h3]) (p1_okT1 (congrArg (fun z => some (Value.int z)) hw) p1_okT0) p1_okC0
      · skip
        exact p1_use hk (fun n => ([w0, 0, w2, w3] : List Int32).getD n 0) (fun n => ([] : List Int64).getD n 0) p1_k10_29 (by show [Value.int w0, .int 1, .int w2, .int w3] = [.int (xs 0), .int (xs 1), .int (xs 2), .int (xs 3)]; rw [h0, h1, h2, h3]) (p1_okT1 (congrArg (fun z => some (Value.int z)) hw) p1_okT0) p1_okC0
      · skip
        exact p1_use hk (fun n => ([w0, 0, w2, w3] : List Int32).getD n 0) (fun n => ([] : List Int64).getD n 0) p1_k10_30 (by show [Value.int w0, .int 2, .int w2, .int w3] = [.int (xs 0), .int (xs 1), .int (xs 2), .int (xs 3)]; rw [h0, h1, h2, h3]) (p1_okT1 (congrArg (fun z => some (Value.int z)) hw) p1_okT0) p1_okC0
theorem p1_k11_31 : p1_chk [(4, .float 0, .int 31, .int 11)] [(12, .float 1, .null, true), (2, .float 1, .int 0, true)] [.float 0, .float 1, .float 2, .float 3] = true := by decide +kernel
theorem p1_k11_32 : p1_chk [(4, .float 0, .int 31, .int 11)] [(12, .float 1, .null, false), (3, .float 1, .int 3, true), (2, .float 1, .int 0, false), (4, .float 1, .int 2, true)] [.float 0, .float 1, .float 2, .float 3] = true := by decide +kernel
theorem p1_k11_33 : p1_chk [(4, .float 0, .int 31, .int 11)] [] [.float 0, .int 0, .float 2, .float 3] = true := by decide +kernel
theorem p1_k11_34 : p1_chk [(4, .float 0, .int 31, .int 11)] [] [.float 0, .int 1, .float 2, .float 3] = true := by decide +kernel
theorem p1_k11_35 : p1_chk [(4, .float 0, .int 31, .int 11)] [] [.float 0, .int 2, .float 2, .float 3] = true := by decide +kernel
theorem p1_c11 {b base : Nat} {xs : Nat → Int32} {xt : mj_X} {ct : Nat → Value} {w0 w1 w2 w3 : Int32} (hk : kX b 4 xs base xt ct) (h0 : xs 0 = w0) (h1 : xs 1 = w1) (h2 : xs 2 = w2) (h3 : xs 3 = w3) (hw : w0 &&& 31 = 11) : p1_G b base xt ct := by
  cases q28 : mj_c1 .lt w1 with
  | true =>
    have q29 : mj_c2 .lt w1 0 = true := by (simp only [mj_c1, mj_c2, decide_eq_true_eq, decide_eq_false_iff_not, Int32.lt_iff_toInt_lt, Int32.le_iff_toInt_le, ← Int32.toInt_inj, q_0, q_1, q_2, q_3, q_8, q_m1, q_1000] at *; omega)
    exact p1_use hk (fun n => ([w0, w1, w2, w3] : List Int32).getD n 0) (fun n => ([] : List Int64).getD n 0) p1_k11_31 (by show [Value.int w0, .int w1, .int w2, .int w3] = [.int (xs 0), .int (xs 1), .int (xs 2), .int (xs 3)]; rw [h0, h1, h2, h3]) (p1_okT1 (congrArg (fun z => some (Value.int z)) hw) p1_okT0) (p1_okC1 (congrArg some q28) (p1_okC1 (congrArg some q29) p1_okC0))
  | false =>
    cases q30 : mj_c2 .ge w1 3 with
    | true =>
      have q31 : mj_c2 .lt w1 0 = false := by (simp only [mj_c1, mj_c2, decide_eq_true_eq, decide_eq_false_iff_not, Int32.lt_iff_toInt_lt, Int32.le_iff_toInt_le, ← Int32.toInt_inj, q_0, q_1, q_2, q_3, q_8, q_m1, q_1000] at *; omega)
      have q32 : mj_c2 .gt w1 2 = true := by (simp only [mj_c1, mj_c2, decide_eq_true_eq, decide_eq_false_iff_not, Int32.lt_iff_toInt_lt, Int32.le_iff_toInt_le, ← Int32.toInt_inj, q_0, q_1, q_2, q_3, q_8, q_m1, q_1000] at *; omega)
      exact p1_use hk (fun n => ([w0, w1, w2, w3] : List Int32).getD n 0) (fun n => ([] : List Int64).getD n 0) p1_k11_32 (by show [Value.int w0, .int w1, .int w2, .int w3] = [.int (xs 0), .int (xs 1), .int (xs 2), .int (xs 3)]; rw [h0, h1, h2, h3]) (p1_okT1 (congrArg (fun z => some (Value.int z)) hw) p1_okT0) (p1_okC1 (congrArg some q28) (p1_okC1 (congrArg some q30) (p1_okC1 (congrArg some q31) (p1_okC1 (congrArg some q32) p1_okC0))))
    | false =>
      rcases p1_three (x := w1) (by (simp only [mj_c1, mj_c2, decide_eq_true_eq, decide_eq_false_iff_not, Int32.lt_iff_toInt_lt, Int32.le_iff_toInt_le, ← Int32.toInt_inj, q_0, q_1, q_2, q_3, q_8, q_m1, q_1000] at *; omega)) (by (simp only [mj_c1, mj_c2, decide_eq_true_eq, decide_eq_false_iff_not, Int32.lt_iff_toInt_lt, Int32.le_iff_toInt_le, ← Int32.toInt_inj, q_0, q_1, q_2, q_3, q_8, q_m1, q_1000] at *; omega)) with rfl | rfl | rfl
      · skip
        exact p1_use hk (fun n => ([w0, 0, w2, w3] : List Int32).getD n 0) (fun n => ([] : List Int64).getD n 0) p1_k11_33 (by show [Value.int w0, .int 0, .int w2, .int w3] = [.int (xs 0), .int (xs 1), .int (xs 2), .int (xs 3)]; rw [h0, h1, h2, h3]) (p1_okT1 (congrArg (fun z => some (Value.int z)) hw) p1_okT0) p1_okC0
      · skip
        exact p1_use hk (fun n => ([w0, 0, w2, w3] : List Int32).getD n 0) (fun n => ([] : List Int64).getD n 0) p1_k11_34 (by show [Value.int w0, .int 1, .int w2, .int w3] = [.int (xs 0), .int (xs 1), .int (xs 2), .int (xs 3)]; rw [h0, h1, h2, h3]) (p1_okT1 (congrArg (fun z => some (Value.int z)) hw) p1_okT0) p1_okC0
      · skip
        exact p1_use hk (fun n => ([w0, 0, w2, w3] : List Int32).getD n 0) (fun n => ([] : List Int64).getD n 0) p1_k11_35 (by show [Value.int w0, .int 2, .int w2, .int w3] = [.int (xs 0), .int (xs 1), .int (xs 2), .int (xs 3)]; rw [h0, h1, h2, h3]) (p1_okT1 (congrArg (fun z => some (Value.int z)) hw) p1_okT0) p1_okC0
theorem p1_k12_36 : p1_chk [(4, .float 0, .int 31, .int 12)] [(12, .float 1, .null, true), (2, .float 1, .int 0, true)] [.float 0, .float 1, .float 2, .float 3] = true := by decide +kernel
theorem p1_k12_37 : p1_chk [(4, .float 0, .int 31, .int 12)] [(12, .float 1, .null, false), (3, .float 1, .int 3, true), (2, .float 1, .int 0, false), (4, .float 1, .int 2, true)] [.float 0, .float 1, .float 2, .float 3] = true := by decide +kernel
theorem p1_k12_38 : p1_chk [(4, .float 0, .int 31, .int 12)] [] [.float 0, .int 0, .float 2, .float 3] = true := by decide +kernel
theorem p1_k12_39 : p1_chk [(4, .float 0, .int 31, .int 12)] [] [.float 0, .int 1, .float 2, .float 3] = true := by decide +kernel
theorem p1_k12_40 : p1_chk [(4, .float 0, .int 31, .int 12)] [] [.float 0, .int 2, .float 2, .float 3] = true := by decide +kernel
theorem p1_c12 {b base : Nat} {xs : Nat → Int32} {xt : mj_X} {ct : Nat → Value} {w0 w1 w2 w3 : Int32} (hk : kX b 4 xs base xt ct) (h0 : xs 0 = w0) (h1 : xs 1 = w1) (h2 : xs 2 = w2) (h3 : xs 3 = w3) (hw : w0 &&& 31 = 12) : p1_G b base xt ct := by
  cases q33 : mj_c1 .lt w1 with
  | true =>
    have q34 : mj_c2 .lt w1 0 = true := by (simp only [mj_c1, mj_c2, decide_eq_true_eq, decide_eq_false_iff_not, Int32.lt_iff_toInt_lt, Int32.le_iff_toInt_le, ← Int32.toInt_inj, q_0, q_1, q_2, q_3, q_8, q_m1, q_1000] at *; omega)
    exact p1_use hk (fun n => ([w0, w1, w2, w3] : List Int32).getD n 0) (fun n => ([] : List Int64).getD n 0) p1_k12_36 (by show [Value.int w0, .int w1, .int w2, .int w3] = [.int (xs 0), .int (xs 1), .int (xs 2), .int (xs 3)]; rw [h0, h1, h2, h3]) (p1_okT1 (congrArg (fun z => some (Value.int z)) hw) p1_okT0) (p1_okC1 (congrArg some q33) (p1_okC1 (congrArg some q34) p1_okC0))
  | false =>
    cases q35 : mj_c2 .ge w1 3 with
    | true =>
      have q36 : mj_c2 .lt w1 0 = false := by (simp only [mj_c1, mj_c2, decide_eq_true_eq, decide_eq_false_iff_not, Int32.lt_iff_toInt_lt, Int32.le_iff_toInt_le, ← Int32.toInt_inj, q_0, q_1, q_2, q_3, q_8, q_m1, q_1000] at *; omega)
      have q37 : mj_c2 .gt w1 2 = true := by (simp only [mj_c1, mj_c2, decide_eq_true_eq, decide_eq_false_iff_not, Int32.lt_iff_toInt_lt, Int32.le_iff_toInt_le, ← Int32.toInt_inj, q_0, q_1, q_2, q_3, q_8, q_m1, q_1000] at *; omega)
      exact p1_use hk (fun n => ([w0, w1, w2, w3] : List Int32).getD n 0) (fun n => ([] : List Int64).getD n 0) p1_k12_37 (by show [Value.int w0, .int w1, .int w2, .int w3] = [.int (xs 0), .int (xs 1), .int (xs 2), .int (xs 3)]; rw [h0, h1, h2, h3]) (p1_okT1 (congrArg (fun z => some (Value.int z)) hw) p1_okT0) (p1_okC1 (congrArg some q33) (p1_okC1 (congrArg some q35) (p1_okC1 (congrArg some q36) (p1_okC1 (congrArg some q37) p1_okC0))))
    | false =>
      rcases p1_three (x := w1) (by (simp only [mj_c1, mj_c2, decide_eq_true_eq, decide_eq_false_iff_not, Int32.lt_iff_toInt_lt, Int32.le_iff_toInt_le, ← Int32.toInt_inj, q_0, q_1, q_2, q_3, q_8, q_m1, q_1000] at *; omega)) (by (simp only [mj_c1, mj_c2, decide_eq_true_eq, decide_eq_false_iff_not, Int32.lt_iff_toInt_lt, Int32.le_iff_toInt_le, ← Int32.toInt_inj, q_0, q_1, q_2, q_3, q_8, q_m1, q_1000] at *; omega)) with rfl | rfl | rfl
      · skip
        exact p1_use hk (fun n => ([w0, 0, w2, w3] : List Int32).getD n 0) (fun n => ([] : List Int64).getD n 0) p1_k12_38 (by show [Value.int w0, .int 0, .int w2, .int w3] = [.int (xs 0), .int (xs 1), .int (xs 2), .int (xs 3)]; rw [h0, h1, h2, h3]) (p1_okT1 (congrArg (fun z => some (Value.int z)) hw) p1_okT0) p1_okC0
      · skip
        exact p1_use hk (fun n => ([w0, 0, w2, w3] : List Int32).getD n 0) (fun n => ([] : List Int64).getD n 0) p1_k12_39 (by show [Value.int w0, .int 1, .int w2, .int w3] = [.int (xs 0), .int (xs 1), .int (xs 2), .int (xs 3)]; rw [h0, h1, h2, h3]) (p1_okT1 (congrArg (fun z => some (Value.int z)) hw) p1_okT0) p1_okC0
      · skip
        exact p1_use hk (fun n => ([w0, 0, w2, w3] : List Int32).getD n 0) (fun n => ([] : List Int64).getD n 0) p1_k12_40 (by show [Value.int w0, .int 2, .int w2, .int w3] = [.int (xs 0), .int (xs 1), .int (xs 2), .int (xs 3)]; rw [h0, h1, h2, h3]) (p1_okT1 (congrArg (fun z => some (Value.int z)) hw) p1_okT0) p1_okC0
