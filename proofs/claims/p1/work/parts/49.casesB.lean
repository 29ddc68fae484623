theorem p1_k13_1 : p1_chk [(4, .float 0, .int 31, .int 13), (3, .int 64, .float 1, .float 4)] [(0, .float 2, .int 1, true), (12, .float 1, .null, true), (2, .float 1, .int 0, true)] [.float 0, .float 1, .float 2, .float 3] = true := by decide +kernel
theorem p1_k13_2 : p1_chk [(4, .float 0, .int 31, .int 13), (3, .int 64, .float 1, .float 4)] [(0, .float 2, .int 1, true), (12, .float 1, .null, false), (3, .float 1, .int 3, true), (2, .float 1, .int 0, false), (4, .float 1, .int 2, true)] [.float 0, .float 1, .float 2, .float 3] = true := by decide +kernel
theorem p1_k13_3 : p1_chk [(4, .float 0, .int 31, .int 13)] [(0, .float 2, .int 1, true), (2, .float 2, .int 1, false), (4, .float 2, .int 2, false)] [.float 0, .int 0, .float 2, .float 3] = true := by decide +kernel
theorem p1_k13_4 : p1_chk [(4, .float 0, .int 31, .int 13)] [(0, .float 2, .int 1, true), (2, .float 2, .int 1, false), (4, .float 2, .int 2, false)] [.float 0, .int 1, .float 2, .float 3] = true := by decide +kernel
theorem p1_k13_5 : p1_chk [(4, .float 0, .int 31, .int 13)] [(0, .float 2, .int 1, true), (2, .float 2, .int 1, false), (4, .float 2, .int 2, false)] [.float 0, .int 2, .float 2, .float 3] = true := by decide +kernel
theorem p1_k13_6 : p1_chk [(4, .float 0, .int 31, .int 13), (3, .int 64, .float 1, .float 4)] [(0, .float 2, .int 1, false), (1, .float 2, .int 2, true), (2, .float 1, .int 0, true)] [.float 0, .float 1, .float 2, .float 3] = true := by decide +kernel
theorem p1_k13_7 : p1_chk [(4, .float 0, .int 31, .int 13), (3, .int 64, .float 1, .float 4)] [(0, .float 2, .int 1, false), (1, .float 2, .int 2, true), (2, .float 1, .int 0, false), (4, .float 1, .int 2, true)] [.float 0, .float 1, .float 2, .float 3] = true := by decide +kernel
theorem p1_k13_8 : p1_chk [(4, .float 0, .int 31, .int 13), (3, .int 64, .float 1, .float 4)] [(0, .float 2, .int 1, false), (1, .float 2, .int 2, true), (2, .float 1, .int 0, false), (4, .float 1, .int 2, false), (2, .float 2, .int 1, true)] [.float 0, .float 1, .float 2, .float 3] = true := by decide +kernel
theorem p1_k13_9 : p1_chk [(4, .float 0, .int 31, .int 13), (3, .int 64, .float 1, .float 4)] [(0, .float 2, .int 1, false), (1, .float 2, .int 2, true), (2, .float 1, .int 0, false), (4, .float 1, .int 2, false), (2, .float 2, .int 1, false), (4, .float 2, .int 2, true)] [.float 0, .float 1, .float 2, .float 3] = true := by decide +kernel
theorem p1_k13_10 : p1_chk [(4, .float 0, .int 31, .int 13), (3, .int 64, .float 1, .float 4)] [(0, .float 2, .int 1, false), (1, .float 2, .int 2, false), (12, .float 1, .null, true), (2, .float 1, .int 0, true)] [.float 0, .float 1, .float 2, .float 3] = true := by decide +kernel
theorem p1_k13_11 : p1_chk [(4, .float 0, .int 31, .int 13), (3, .int 64, .float 1, .float 4)] [(0, .float 2, .int 1, false), (1, .float 2, .int 2, false), (12, .float 1, .null, false), (3, .float 1, .int 3, true), (2, .float 1, .int 0, false), (4, .float 1, .int 2, true)] [.float 0, .float 1, .float 2, .float 3] = true := by decide +kernel
theorem p1_k13_12 : p1_chk [(4, .float 0, .int 31, .int 13)] [(0, .float 2, .int 1, false), (1, .float 2, .int 2, false), (2, .float 2, .int 1, false), (4, .float 2, .int 2, false)] [.float 0, .int 0, .float 2, .float 3] = true := by decide +kernel
theorem p1_k13_13 : p1_chk [(4, .float 0, .int 31, .int 13)] [(0, .float 2, .int 1, false), (1, .float 2, .int 2, false), (2, .float 2, .int 1, false), (4, .float 2, .int 2, false)] [.float 0, .int 1, .float 2, .float 3] = true := by decide +kernel
theorem p1_k13_14 : p1_chk [(4, .float 0, .int 31, .int 13)] [(0, .float 2, .int 1, false), (1, .float 2, .int 2, false), (2, .float 2, .int 1, false), (4, .float 2, .int 2, false)] [.float 0, .int 2, .float 2, .float 3] = true := by decide +kernel
theorem p1_c13 {b base : Nat} {xs : Nat → Int32} {xt : mj_X} {ct : Nat → Value} {w0 w1 w2 w3 : Int32} (hk : kX b 4 xs base xt ct) (h0 : xs 0 = w0) (h1 : xs 1 = w1) (h2 : xs 2 = w2) (h3 : xs 3 = w3) (hw : w0 &&& 31 = 13) : p1_G b base xt ct := by
  cases q1 : mj_c2 .eq w2 1 with
  | true =>
    cases q2 : mj_c1 .lt w1 with
    | true =>
      have q3 : mj_c2 .lt w1 0 = true := by (simp only [mj_c1, mj_c2, decide_eq_true_eq, decide_eq_false_iff_not, Int32.lt_iff_toInt_lt, Int32.le_iff_toInt_le, ← Int32.toInt_inj, q_0, q_1, q_2, q_3, q_8, q_m1, q_1000] at *; omega)
      exact p1_use hk (fun n => ([w0, w1, w2, w3, (64 * w1)] : List Int32).getD n 0) (fun n => ([] : List Int64).getD n 0) p1_k13_1 (by show [Value.int w0, .int w1, .int w2, .int w3] = [.int (xs 0), .int (xs 1), .int (xs 2), .int (xs 3)]; rw [h0, h1, h2, h3]) (p1_okT1 (congrArg (fun z => some (Value.int z)) hw) (p1_okT1 rfl p1_okT0)) (p1_okC1 (congrArg some q1) (p1_okC1 (congrArg some q2) (p1_okC1 (congrArg some q3) p1_okC0)))
    | false =>
      cases q4 : mj_c2 .ge w1 3 with
      | true =>
        have q5 : mj_c2 .lt w1 0 = false := by (simp only [mj_c1, mj_c2, decide_eq_true_eq, decide_eq_false_iff_not, Int32.lt_iff_toInt_lt, Int32.le_iff_toInt_le, ← Int32.toInt_inj, q_0, q_1, q_2, q_3, q_8, q_m1, q_1000] at *; omega)
        have q6 : mj_c2 .gt w1 2 = true := by (simp only [mj_c1, mj_c2, decide_eq_true_eq, decide_eq_false_iff_not, Int32.lt_iff_toInt_lt, Int32.le_iff_toInt_le, ← Int32.toInt_inj, q_0, q_1, q_2, q_3, q_8, q_m1, q_1000] at *; omega)
        exact p1_use hk (fun n => ([w0, w1, w2, w3, (64 * w1)] : List Int32).getD n 0) (fun n => ([] : List Int64).getD n 0) p1_k13_2 (by show [Value.int w0, .int w1, .int w2, .int w3] = [.int (xs 0), .int (xs 1), .int (xs 2), .int (xs 3)]; rw [h0, h1, h2, h3]) (p1_okT1 (congrArg (fun z => some (Value.int z)) hw) (p1_okT1 rfl p1_okT0)) (p1_okC1 (congrArg some q1) (p1_okC1 (congrArg some q2) (p1_okC1 (congrArg some q4) (p1_okC1 (congrArg some q5) (p1_okC1 (congrArg some q6) p1_okC0)))))
      | false =>
        rcases p1_three (x := w1) (by (simp only [mj_c1, mj_c2, decide_eq_true_eq, decide_eq_false_iff_not, Int32.lt_iff_toInt_lt, Int32.le_iff_toInt_le, ← Int32.toInt_inj, q_0, q_1, q_2, q_3, q_8, q_m1, q_1000] at *; omega)) (by (simp only [mj_c1, mj_c2, decide_eq_true_eq, decide_eq_false_iff_not, Int32.lt_iff_toInt_lt, Int32.le_iff_toInt_le, ← Int32.toInt_inj, q_0, q_1, q_2, q_3, q_8, q_m1, q_1000] at *; omega)) with rfl | rfl | rfl
        · skip
          have q7 : mj_c2 .lt w2 1 = false := by (simp only [mj_c1, mj_c2, decide_eq_true_eq, decide_eq_false_iff_not, Int32.lt_iff_toInt_lt, Int32.le_iff_toInt_le, ← Int32.toInt_inj, q_0, q_1, q_2, q_3, q_8, q_m1, q_1000] at *; omega)
          have q8 : mj_c2 .gt w2 2 = false := by (simp only [mj_c1, mj_c2, decide_eq_true_eq, decide_eq_false_iff_not, Int32.lt_iff_toInt_lt, Int32.le_iff_toInt_le, ← Int32.toInt_inj, q_0, q_1, q_2, q_3, q_8, q_m1, q_1000] at *; omega)
          exact p1_use hk (fun n => ([w0, 0, w2, w3] : List Int32).getD n 0) (fun n => ([] : List Int64).getD n 0) p1_k13_3 (by show [Value.int w0, .int 0, .int w2, .int w3] = [.int (xs 0), .int (xs 1), .int (xs 2), .int (xs 3)]; rw [h0, h1, h2, h3]) (p1_okT1 (congrArg (fun z => some (Value.int z)) hw) p1_okT0) (p1_okC1 (congrArg some q1) (p1_okC1 (congrArg some q7) (p1_okC1 (congrArg some q8) p1_okC0)))
        · skip
          have q9 : mj_c2 .lt w2 1 = false := by (simp only [mj_c1, mj_c2, decide_eq_true_eq, decide_eq_false_iff_not, Int32.lt_iff_toInt_lt, Int32.le_iff_toInt_le, ← Int32.toInt_inj, q_0, q_1, q_2, q_3, q_8, q_m1, q_1000] at *; omega)
          have q10 : mj_c2 .gt w2 2 = false := by (simp only [mj_c1, mj_c2, decide_eq_true_eq, decide_eq_false_iff_not, Int32.lt_iff_toInt_lt, Int32.le_iff_toInt_le, ← Int32.toInt_inj, q_0, q_1, q_2, q_3, q_8, q_m1, q_1000] at *; omega)
          exact p1_use hk (fun n => ([w0, 0, w2, w3] : List Int32).getD n 0) (fun n => ([] : List Int64).getD n 0) p1_k13_4 (by show [Value.int w0, .int 1, .int w2, .int w3] = [.int (xs 0), .int (xs 1), .int (xs 2), .int (xs 3)]; rw [h0, h1, h2, h3]) (p1_okT1 (congrArg (fun z => some (Value.int z)) hw) p1_okT0) (p1_okC1 (congrArg some q1) (p1_okC1 (congrArg some q9) (p1_okC1 (congrArg some q10) p1_okC0)))
        · skip
          have q11 : mj_c2 .lt w2 1 = false := by (simp only [mj_c1, mj_c2, decide_eq_true_eq, decide_eq_false_iff_not, Int32.lt_iff_toInt_lt, Int32.le_iff_toInt_le, ← Int32.toInt_inj, q_0, q_1, q_2, q_3, q_8, q_m1, q_1000] at *; omega)
          have q12 : mj_c2 .gt w2 2 = false := by (simp only [mj_c1, mj_c2, decide_eq_true_eq, decide_eq_false_iff_not, Int32.lt_iff_toInt_lt, Int32.le_iff_toInt_le, ← Int32.toInt_inj, q_0, q_1, q_2, q_3, q_8, q_m1, q_1000] at *; omega)
          exact p1_use hk (fun n => ([w0, 0, w2, w3] : List Int32).getD n 0) (fun n => ([] : List Int64).getD n 0) p1_k13_5 (by show [Value.int w0, .int 2, .int w2, .int w3] = [.int (xs 0), .int (xs 1), .int (xs 2), .int (xs 3)]; rw [h0, h1, h2, h3]) (p1_okT1 (congrArg (fun z => some (Value.int z)) hw) p1_okT0) (p1_okC1 (congrArg some q1) (p1_okC1 (congrArg some q11) (p1_okC1 (congrArg some q12) p1_okC0)))
  | false =>
    cases q13 : mj_c2 .ne w2 2 with
    | true =>
      cases q14 : mj_c2 .lt w1 0 with
      | true =>
        exact p1_use hk (fun n => ([w0, w1, w2, w3, (64 * w1)] : List Int32).getD n 0) (fun n => ([] : List Int64).getD n 0) p1_k13_6 (by show [Value.int w0, .int w1, .int w2, .int w3] = [.int (xs 0), .int (xs 1), .int (xs 2), .int (xs 3)]; rw [h0, h1, h2, h3]) (p1_okT1 (congrArg (fun z => some (Value.int z)) hw) (p1_okT1 rfl p1_okT0)) (p1_okC1 (congrArg some q1) (p1_okC1 (congrArg some q13) (p1_okC1 (congrArg some q14) p1_okC0)))
      | false =>
        cases q15 : mj_c2 .gt w1 2 with
        | true =>
          exact p1_use hk (fun n => ([w0, w1, w2, w3, (64 * w1)] : List Int32).getD n 0) (fun n => ([] : List Int64).getD n 0) p1_k13_7 (by show [Value.int w0, .int w1, .int w2, .int w3] = [.int (xs 0), .int (xs 1), .int (xs 2), .int (xs 3)]; rw [h0, h1, h2, h3]) (p1_okT1 (congrArg (fun z => some (Value.int z)) hw) (p1_okT1 rfl p1_okT0)) (p1_okC1 (congrArg some q1) (p1_okC1 (congrArg some q13) (p1_okC1 (congrArg some q14) (p1_okC1 (congrArg some q15) p1_okC0))))
        | false =>
          cases q16 : mj_c2 .lt w2 1 with
          | true =>
            exact p1_use hk (fun n => ([w0, w1, w2, w3, (64 * w1)] : List Int32).getD n 0) (fun n => ([] : List Int64).getD n 0) p1_k13_8 (by show [Value.int w0, .int w1, .int w2, .int w3] = [.int (xs 0), .int (xs 1), .int (xs 2), .int (xs 3)]; rw [h0, h1, h2, h3]) (p1_okT1 (congrArg (fun z => some (Value.int z)) hw) (p1_okT1 rfl p1_okT0)) (p1_okC1 (congrArg some q1) (p1_okC1 (congrArg some q13) (p1_okC1 (congrArg some q14) (p1_okC1 (congrArg some q15) (p1_okC1 (congrArg some q16) p1_okC0)))))
          | false =>
            have q17 : mj_c2 .gt w2 2 = true := by (simp only [mj_c1, mj_c2, decide_eq_true_eq, decide_eq_false_iff_not, Int32.lt_iff_toInt_lt, Int32.le_iff_toInt_le, ← Int32.toInt_inj, q_0, q_1, q_2, q_3, q_8, q_m1, q_1000] at *; omega)
            exact p1_use hk (fun n => ([w0, w1, w2, w3, (64 * w1)] : List Int32).getD n 0) (fun n => ([] : List Int64).getD n 0) p1_k13_9 (by show [Value.int w0, .int w1, .int w2, .int w3] = [.int (xs 0), .int (xs 1), .int (xs 2), .int (xs 3)]; rw [h0, h1, h2, h3]) (p1_okT1 (congrArg (fun z => some (Value.int z)) hw) (p1_okT1 rfl p1_okT0)) (p1_okC1 (congrArg some q1) (p1_okC1 (congrArg some q13) (p1_okC1 (congrArg some q14) (p1_okC1 (congrArg some q15) (p1_okC1 (congrArg some q16) (p1_okC1 (congrArg some q17) p1_okC0))))))
    | false =>
      cases q18 : mj_c1 .lt w1 with
      | true =>
        have q19 : mj_c2 .lt w1 0 = true := by (simp only [mj_c1, mj_c2, decide_eq_true_eq, decide_eq_false_iff_not, Int32.lt_iff_toInt_lt, Int32.le_iff_toInt_le, ← Int32.toInt_inj, q_0, q_1, q_2, q_3, q_8, q_m1, q_1000] at *; omega)
        exact p1_use hk (fun n => ([w0, w1, w2, w3, (64 * w1)] : List Int32).getD n 0) (fun n => ([] : List Int64).getD n 0) p1_k13_10 (by show [Value.int w0, .int w1, .int w2, .int w3] = [.int (xs 0), .int (xs 1), .int (xs 2), .int (xs 3)]; rw [h0, h1, h2, h3]) (p1_okT1 (congrArg (fun z => some (Value.int z)) hw) (p1_okT1 rfl p1_okT0)) (p1_okC1 (congrArg some q1) (p1_okC1 (congrArg some q13) (p1_okC1 (congrArg some q18) (p1_okC1 (congrArg some q19) p1_okC0))))
      | false =>
        cases q20 : mj_c2 .ge w1 3 with
        | true =>
          have q21 : mj_c2 .lt w1 0 = false := by (simp only [mj_c1, mj_c2, decide_eq_true_eq, decide_eq_false_iff_not, Int32.lt_iff_toInt_lt, Int32.le_iff_toInt_le, ← Int32.toInt_inj, q_0, q_1, q_2, q_3, q_8, q_m1, q_1000] at *; omega)
          have q22 : mj_c2 .gt w1 2 = true := by (simp only [mj_c1, mj_c2, decide_eq_true_eq, decide_eq_false_iff_not, Int32.lt_iff_toInt_lt, Int32.le_iff_toInt_le, ← Int32.toInt_inj, q_0, q_1, q_2, q_3, q_8, q_m1, q_1000] at *; omega)
          exact p1_use hk (fun n => ([w0, w1, w2, w3, (64 * w1)] : List Int32).getD n 0) (fun n => ([] : List Int64).getD n 0) p1_k13_11 (by show [Value.int w0, .int w1, .int w2, .int w3] = [.int (xs 0), .int (xs 1), .int (xs 2), .int (xs 3)]; rw [h0, h1, h2, h3]) (p1_okT1 (congrArg (fun z => some (Value.int z)) hw) (p1_okT1 rfl p1_okT0)) (p1_okC1 (congrArg some q1) (p1_okC1 (congrArg some q13) (p1_okC1 (congrArg some q18) (p1_okC1 (congrArg some q20) (p1_okC1 (congrArg some q21) (p1_okC1 (congrArg some q22) p1_okC0))))))
        | false =>
          rcases p1_three (x := w1) (by (simp only [mj_c1, mj_c2, decide_eq_true_eq, decide_eq_false_iff_not, Int32.lt_iff_toInt_lt, Int32.le_iff_toInt_le, ← Int32.toInt_inj, q_0, q_1, q_2, q_3, q_8, q_m1, q_1000] at *; omega)) (by (simp only [mj_c1, mj_c2, decide_eq_true_eq, decide_eq_false_iff_not, Int32.lt_iff_toInt_lt, Int32.le_iff_toInt_le, ← Int32.toInt_inj, q_0, q_1, q_2, q_3, q_8, q_m1, q_1000] at *; omega)) with rfl | rfl | rfl
          · skip
            have q23 : mj_c2 .lt w2 1 = false := by (simp only [mj_c1, mj_c2, decide_eq_true_eq, decide_eq_false_iff_not, Int32.lt_iff_toInt_lt, Int32.le_iff_toInt_le, ← Int32.toInt_inj, q_0, q_1, q_2, q_3, q_8, q_m1, q_1000] at *; omega)
            have q24 : mj_c2 .gt w2 2 = false := by (simp only [mj_c1, mj_c2, decide_eq_true_eq, decide_eq_false_iff_not, Int32.lt_iff_toInt_lt, Int32.le_iff_toInt_le, ← Int32.toInt_inj, q_0, q_1, q_2, q_3, q_8, q_m1, q_1000] at *; omega)
            exact p1_use hk (fun n => ([w0, 0, w2, w3] : List Int32).getD n 0) (fun n => ([] : List Int64).getD n 0) p1_k13_12 (by show [Value.int w0, .int 0, .int w2, .int w3] = [.int (xs 0), .int (xs 1), .int (xs 2), .int (xs 3)]; rw [h0, h1, h2, h3]) (p1_okT1 (congrArg (fun z => some (Value.int z)) hw) p1_okT0) (p1_okC1 (congrArg some q1) (p1_okC1 (congrArg some q13) (p1_okC1 (congrArg some q23) (p1_okC1 (congrArg some q24) p1_okC0))))
          · skip
            have q25 : mj_c2 .lt w2 1 = false := by (simp only [mj_c1, mj_c2, decide_eq_true_eq, decide_eq_false_iff_not, Int32.lt_iff_toInt_lt, Int32.le_iff_toInt_le, ← Int32.toInt_inj, q_0, q_1, q_2, q_3, q_8, q_m1, q_1000] at *; omega)
            have q26 : mj_c2 .gt w2 2 = false := by (simp only [mj_c1, mj_c2, decide_eq_true_eq, decide_eq_false_iff_not, Int32.lt_iff_toInt_lt, Int32.le_iff_toInt_le, ← Int32.toInt_inj, q_0, q_1, q_2, q_3, q_8, q_m1, q_1000] at *; omega)
            exact p1_use hk (fun n => ([w0, 0, w2, w3] : List Int32).getD n 0) (fun n => ([] : List Int64).getD n 0) p1_k13_13 (by show [Value.int w0, .int 1, .int w2, .int w3] = [.int (xs 0), .int (xs 1), .int (xs 2), .int (xs 3)]; rw [h0, h1, h2, h3]) (p1_okT1 (congrArg (fun z => some (Value.int z)) hw) p1_okT0) (p1_okC1 (congrArg some q1) (p1_okC1 (congrArg some q13) (p1_okC1 (congrArg some q25) (p1_okC1 (congrArg some q26) p1_okC0))))
          · skip
            have q27 : mj_c2 .lt w2 1 = false := by (simp only [mj_c1, mj_c2, decide_eq_true_eq, decide_eq_false_iff_not, Int32.lt_iff_toInt_lt, Int32.le_iff_toInt_le, ← Int32.toInt_inj, q_0, q_1, q_2, q_3, q_8, q_m1, q_1000] at *; omega)
            have q28 : mj_c2 .gt w2 2 = false := by (simp only [mj_c1, mj_c2, decide_eq_true_eq, decide_eq_false_iff_not, Int32.lt_iff_toInt_lt, Int32.le_iff_toInt_le, ← Int32.toInt_inj, q_0, q_1, q_2, q_3, q_8, q_m1, q_1000] at *; omega)
            exact p1_use hk (fun n => ([w0, 0, w2, w3] : List Int32).getD n 0) (fun n => ([] : List Int64).getD n 0) p1_k13_14 (by show [Value.int w0, .int 2, .int w2, .int w3] = [.int (xs 0), .int (xs 1), .int (xs 2), .int (xs 3)]; rw [h0, h1, h2, h3]) (p1_okT1 (congrArg (fun z => some (Value.int z)) hw) p1_okT0) (p1_okC1 (congrArg some q1) (p1_okC1 (congrArg some q13) (p1_okC1 (congrArg some q27) (p1_okC1 (congrArg some q28) p1_okC0))))
theorem p1_k14_15 : p1_chk [(4, .float 0, .int 31, .int 14)] [(12, .float 1, .null, true), (2, .float 1, .int 0, true)] [.float 0, .float 1, .float 2, .float 3] = true := by decide +kernel
theorem p1_k14_16 : p1_chk [(4, .float 0, .int 31, .int 14)] [(12, .float 1, .null, false), (3, .float 1, .int 3, true), (2, .float 1, .int 0, false), (4, .float 1, .int 2, true)] [.float 0, .float 1, .float 2, .float 3] = true := by decide +kernel
theorem p1_k14_17 : p1_chk [(4, .float 0, .int 31, .int 14)] [] [.float 0, .int 0, .float 2, .float 3] = true := by decide +kernel
theorem p1_k14_18 : p1_chk [(4, .float 0, .int 31, .int 14)] [] [.float 0, .int 1, .float 2, .float 3] = true := by decide +kernel
theorem p1_k14_19 : p1_chk [(4, .float 0, .int 31, .int 14)] [] [.float 0, .int 2, .float 2, .float 3] = true := by decide +kernel
theorem p1_c14 {b base : Nat} {xs : Nat → Int32} {xt : mj_X} {ct : Nat → Value} {w0 w1 w2 w3 : Int32} (hk : kX b 4 xs base xt ct) (h0 : xs 0 = w0) (h1 : xs 1 = w1) (h2 : xs 2 = w2) (h3 : xs 3 = w3) (hw : w0 &&& 31 = 14) : p1_G b base xt ct := by
  cases q29 : mj_c1 .lt w1 with
  | true =>
    have q30 : mj_c2 .lt w1 0 = true := by (simp only [mj_c1, mj_c2, decide_eq_true_eq, decide_eq_false_iff_not, Int32.lt_iff_toInt_lt, Int32.le_iff_toInt_le, ← Int32.toInt_inj, q_0, q_1, q_2, q_3, q_8, q_m1, q_1000] at *; omega)
    exact p1_use hk (fun n => ([w0, w1, w2, w3] : List Int32).getD n 0) (fun n => ([] : List Int64).getD n 0) p1_k14_15 (by show [Value.int w0, .int w1, .int w2, .int w3] = [.int (xs 0), .int (xs 1), .int (xs 2), .int (xs 3)]; rw [h0, h1, h2, h3]) (p1_okT1 (congrArg (fun z => some (Value.int z)) hw) p1_okT0) (p1_okC1 (congrArg some q29) (p1_okC1 (congrArg some q30) p1_okC0))
  | false =>
    cases q31 : mj_c2 .ge w1 3 with
    | true =>
      have q32 : mj_c2 .lt w1 0 = false := by (simp only [mj_c1, mj_c2, decide_eq_true_eq, decide_eq_false_iff_not, Int32.lt_iff_toInt_lt, Int32.le_iff_toInt_le, ← Int32.toInt_inj, q_0, q_1, q_2, q_3, q_8, q_m1, q_1000] at *; omega)
      have q33 : mj_c2 .gt w1 2 = true := by (simp only [mj_c1, mj_c2, decide_eq_true_eq, decide_eq_false_iff_not, Int32.lt_iff_toInt_lt, Int32.le_iff_toInt_le, ← Int32.toInt_inj, q_0, q_1, q_2, q_3, q_8, q_m1, q_1000] at *; omega)
      exact p1_use hk (fun n => ([w0, w1, w2, w3] : List Int32).getD n 0) (fun n => ([] : List Int64).getD n 0) p1_k14_16 (by show [Value.int w0, .int w1, .int w2, .int w3] = [.int (xs 0), .int (xs 1), .int (xs 2), .int (xs 3)]; rw [h0, h1, h2, h3]) (p1_okT1 (congrArg (fun z => some (Value.int z)) hw) p1_okT0) (p1_okC1 (congrArg some q29) (p1_okC1 (congrArg some q31) (p1_okC1 (congrArg some q32) (p1_okC1 (congrArg some q33) p1_okC0))))
    | false =>
      rcases p1_three (x := w1) (by (simp only [mj_c1, mj_c2, decide_eq_true_eq, decide_eq_false_iff_not, Int32.lt_iff_toInt_lt, Int32.le_iff_toInt_le, ← Int32.toInt_inj, q_0, q_1, q_2, q_3, q_8, q_m1, q_1000] at *; omega)) (by (simp only [mj_c1, mj_c2, decide_eq_true_eq, decide_eq_false_iff_not, Int32.lt_iff_toInt_lt, Int32.le_iff_toInt_le, ← Int32.toInt_inj, q_0, q_1, q_2, q_3, q_8, q_m1, q_1000] at *; omega)) with rfl | rfl | rfl
      · skip
        exact p1_use hk (fun n => ([w0, 0, w2, w3] : List Int32).getD n 0) (fun n => ([] : List Int64).getD n 0) p1_k14_17 (by show [Value.int w0, .int 0, .int w2, .int w3] = [.int (xs 0), .int (xs 1), .int (xs 2), .int (xs 3)]; rw [h0, h1, h2, h3]) (p1_okT1 (congrArg (fun z => some (Value.int z)) hw) p1_okT0) p1_okC0
      · skip
        exact p1_use hk (fun n => ([w0, 0, w2, w3] : List Int32).getD n 0) (fun n => ([] : List Int64).getD n 0) p1_k14_18 (by show [Value.int w0, .int 1, .int w2, .int w3] = [.int (xs 0), .int (xs 1), .int (xs 2), .int (xs 3)]; rw [h0, h1, h2, h3]) (p1_okT1 (congrArg (fun z => some (Value.int z)) hw) p1_okT0) p1_okC0
      · skip
        exact p1_use hk (fun n => ([w0, 0, w2, w3] : List Int32).getD n 0) (fun n => ([] : List Int64).getD n 0) p1_k14_19 (by show [Value.int w0, .int 2, .int w2, .int w3] = [.int (xs 0), .int (xs 1), .int (xs 2), .int (xs 3)]; rw [h0, h1, h2, h3]) (p1_okT1 (congrArg (fun z => some (Value.int z)) hw) p1_okT0) p1_okC0
theorem p1_k15_20 : p1_chk [(4, .float 0, .int 31, .int 15)] [(2, .float 3, .int 1, true), (2, .float 1, .int 0, true)] [.float 0, .float 1, .float 2, .float 3] = true := by decide +kernel
theorem p1_k15_21 : p1_chk [(4, .float 0, .int 31, .int 15)] [(2, .float 3, .int 1, true), (2, .float 1, .int 0, false), (4, .float 1, .int 2, true)] [.float 0, .float 1, .float 2, .float 3] = true := by decide +kernel
theorem p1_k15_22 : p1_chk [(4, .float 0, .int 31, .int 15)] [(2, .float 3, .int 1, true), (2, .float 1, .int 0, false), (4, .float 1, .int 2, false)] [.float 0, .float 1, .float 2, .float 3] = true := by decide +kernel
theorem p1_k15_23 : p1_chk [(4, .float 0, .int 31, .int 15)] [(2, .float 3, .int 1, false), (4, .float 3, .int 1000, true), (2, .float 1, .int 0, true)] [.float 0, .float 1, .float 2, .float 3] = true := by decide +kernel
theorem p1_k15_24 : p1_chk [(4, .float 0, .int 31, .int 15)] [(2, .float 3, .int 1, false), (4, .float 3, .int 1000, true), (2, .float 1, .int 0, false), (4, .float 1, .int 2, true)] [.float 0, .float 1, .float 2, .float 3] = true := by decide +kernel
theorem p1_k15_25 : p1_chk [(4, .float 0, .int 31, .int 15)] [(2, .float 3, .int 1, false), (4, .float 3, .int 1000, true), (2, .float 1, .int 0, false), (4, .float 1, .int 2, false)] [.float 0, .float 1, .float 2, .float 3] = true := by decide +kernel
theorem p1_k15_26 : p1_chk [(4, .float 0, .int 31, .int 15)] [(2, .float 3, .int 1, false), (4, .float 3, .int 1000, false), (12, .float 2, .null, true), (2, .float 1, .int 0, true)] [.float 0, .float 1, .float 2, .float 3] = true := by decide +kernel
theorem p1_k15_27 : p1_chk [(4, .float 0, .int 31, .int 15)] [(2, .float 3, .int 1, false), (4, .float 3, .int 1000, false), (12, .float 2, .null, true), (2, .float 1, .int 0, false), (4, .float 1, .int 2, true)] [.float 0, .float 1, .float 2, .float 3] = true := by decide +kernel
theorem p1_k15_28 : p1_chk [(4, .float 0, .int 31, .int 15)] [(2, .float 3, .int 1, false), (4, .float 3, .int 1000, false), (12, .float 2, .null, true), (2, .float 1, .int 0, false), (4, .float 1, .int 2, false), (2, .float 2, .int 0, true)] [.float 0, .float 1, .float 2, .float 3] = true := by decide +kernel
theorem p1_k15_29 : p1_chk [(4, .float 0, .int 31, .int 15)] [(2, .float 3, .int 1, false), (4, .float 3, .int 1000, false), (12, .float 2, .null, false), (4, .float 2, .float 3, true), (2, .float 1, .int 0, true)] [.float 0, .float 1, .float 2, .float 3] = true := by decide +kernel
theorem p1_k15_30 : p1_chk [(4, .float 0, .int 31, .int 15)] [(2, .float 3, .int 1, false), (4, .float 3, .int 1000, false), (12, .float 2, .null, false), (4, .float 2, .float 3, true), (2, .float 1, .int 0, false), (4, .float 1, .int 2, true)] [.float 0, .float 1, .float 2, .float 3] = true := by decide +kernel
theorem p1_k15_31 : p1_chk [(4, .float 0, .int 31, .int 15)] [(2, .float 3, .int 1, false), (4, .float 3, .int 1000, false), (12, .float 2, .null, false), (4, .float 2, .float 3, true), (2, .float 1, .int 0, false), (4, .float 1, .int 2, false), (2, .float 2, .int 0, false)] [.float 0, .float 1, .float 2, .float 3] = true := by decide +kernel
theorem p1_k15_32 : p1_chk [(4, .float 0, .int 31, .int 15)] [(2, .float 3, .int 1, false), (4, .float 3, .int 1000, false), (12, .float 2, .null, false), (4, .float 2, .float 3, false), (12, .float 1, .null, true), (2, .float 1, .int 0, true)] [.float 0, .float 1, .float 2, .float 3] = true := by decide +kernel
theorem p1_k15_33 : p1_chk [(4, .float 0, .int 31, .int 15)] [(2, .float 3, .int 1, false), (4, .float 3, .int 1000, false), (12, .float 2, .null, false), (4, .float 2, .float 3, false), (12, .float 1, .null, false), (3, .float 1, .int 3, true), (2, .float 1, .int 0, false), (4, .float 1, .int 2, true)] [.float 0, .float 1, .float 2, .float 3] = true := by decide +kernel
theorem p1_k15_34 : p1_chk [(4, .float 0, .int 31, .int 15)] [(2, .float 3, .int 1, false), (4, .float 3, .int 1000, false), (12, .float 2, .null, false), (4, .float 2, .float 3, false), (2, .float 2, .int 0, false)] [.float 0, .int 0, .float 2, .float 3] = true := by decide +kernel
theorem p1_k15_35 : p1_chk [(4, .float 0, .int 31, .int 15)] [(2, .float 3, .int 1, false), (4, .float 3, .int 1000, false), (12, .float 2, .null, false), (4, .float 2, .float 3, false), (2, .float 2, .int 0, false)] [.float 0, .int 1, .float 2, .float 3] = true := by decide +kernel
theorem p1_k15_36 : p1_chk [(4, .float 0, .int 31, .int 15)] [(2, .float 3, .int 1, false), (4, .float 3, .int 1000, false), (12, .float 2, .null, false), (4, .float 2, .float 3, false), (2, .float 2, .int 0, false)] [.float 0, .int 2, .float 2, .float 3] = true := by decide +kernel
theorem p1_c15 {b base : Nat} {xs : Nat → Int32} {xt : mj_X} {ct : Nat → Value} {w0 w1 w2 w3 : Int32} (hk : kX b 4 xs base xt ct) (h0 : xs 0 = w0) (h1 : xs 1 = w1) (h2 : xs 2 = w2) (h3 : xs 3 = w3) (hw : w0 &&& 31 = 15) : p1_G b base xt ct := by
  cases q34 : mj_c2 .lt w3 1 with
  | true =>
    cases q35 : mj_c2 .lt w1 0 with
    | true =>
      exact p1_use hk (fun n => ([w0, w1, w2, w3] : List Int32).getD n 0) (fun n => ([] : List Int64).getD n 0) p1_k15_20 (by show [Value.int w0, .int w1, .int w2, .int w3] = [.int (xs 0), .int (xs 1), .int (xs 2), .int (xs 3)]; rw [h0, h1, h2, h3]) (p1_okT1 (congrArg (fun z => some (Value.int z)) hw) p1_okT0) (p1_okC1 (congrArg some q34) (p1_okC1 (congrArg some q35) p1_okC0))
    | false =>
      cases q36 : mj_c2 .gt w1 2 with
      | true =>
        exact p1_use hk (fun n => ([w0, w1, w2, w3] : List Int32).getD n 0) (fun n => ([] : List Int64).getD n 0) p1_k15_21 (by show [Value.int w0, .int w1, .int w2, .int w3] = [.int (xs 0), .int (xs 1), .int (xs 2), .int (xs 3)]; rw [h0, h1, h2, h3]) (p1_okT1 (congrArg (fun z => some (Value.int z)) hw) p1_okT0) (p1_okC1 (congrArg some q34) (p1_okC1 (congrArg some q35) (p1_okC1 (congrArg some q36) p1_okC0)))
      | false =>
        exact p1_use hk (fun n => ([w0, w1, w2, w3] : List Int32).getD n 0) (fun n => ([] : List Int64).getD n 0) p1_k15_22 (by show [Value.int w0, .int w1, .int w2, .int w3] = [.int (xs 0), .int (xs 1), .int (xs 2), .int (xs 3)]; rw [h0, h1, h2, h3]) (p1_okT1 (congrArg (fun z => some (Value.int z)) hw) p1_okT0) (p1_okC1 (congrArg some q34) (p1_okC1 (congrArg some q35) (p1_okC1 (congrArg some q36) p1_okC0)))
  | false =>
    cases q37 : mj_c2 .gt w3 1000 with
    | true =>
      cases q38 : mj_c2 .lt w1 0 with
      | true =>
        exact p1_use hk (fun n => ([w0, w1, w2, w3] : List Int32).getD n 0) (fun n => ([] : List Int64).getD n 0) p1_k15_23 (by show [Value.int w0, .int w1, .int w2, .int w3] = [.int (xs 0), .int (xs 1), .int (xs 2), .int (xs 3)]; rw [h0, h1, h2, h3]) (p1_okT1 (congrArg (fun z => some (Value.int z)) hw) p1_okT0) (p1_okC1 (congrArg some q34) (p1_okC1 (congrArg some q37) (p1_okC1 (congrArg some q38) p1_okC0)))
      | false =>
        cases q39 : mj_c2 .gt w1 2 with
        | true =>
          exact p1_use hk (fun n => ([w0, w1, w2, w3] : List Int32).getD n 0) (fun n => ([] : List Int64).getD n 0) p1_k15_24 (by show [Value.int w0, .int w1, .int w2, .int w3] = [.int (xs 0), .int (xs 1), .int (xs 2), .int (xs 3)]; rw [h0, h1, h2, h3]) (p1_okT1 (congrArg (fun z => some (Value.int z)) hw) p1_okT0) (p1_okC1 (congrArg some q34) (p1_okC1 (congrArg some q37) (p1_okC1 (congrArg some q38) (p1_okC1 (congrArg some q39) p1_okC0))))
        | false =>
          exact p1_use hk (fun n => ([w0, w1, w2, w3] : List Int32).getD n 0) (fun n => ([] : List Int64).getD n 0) p1_k15_25 (by show [Value.int w0, .int w1, .int w2, .int w3] = [.int (xs 0), .int (xs 1), .int (xs 2), .int (xs 3)]; rw [h0, h1, h2, h3]) (p1_okT1 (congrArg (fun z => some (Value.int z)) hw) p1_okT0) (p1_okC1 (congrArg some q34) (p1_okC1 (congrArg some q37) (p1_okC1 (congrArg some q38) (p1_okC1 (congrArg some q39) p1_okC0))))
    | false =>
      cases q40 : mj_c1 .lt w2 with
      | true =>
        cases q41 : mj_c2 .lt w1 0 with
        | true =>
          exact p1_use hk (fun n => ([w0, w1, w2, w3] : List Int32).getD n 0) (fun n => ([] : List Int64).getD n 0) p1_k15_26 (by show [Value.int w0, .int w1, .int w2, .int w3] = [.int (xs 0), .int (xs 1), .int (xs 2), .int (xs 3)]; rw [h0, h1, h2, h3]) (p1_okT1 (congrArg (fun z => some (Value.int z)) hw) p1_okT0) (p1_okC1 (congrArg some q34) (p1_okC1 (congrArg some q37) (p1_okC1 (congrArg some q40) (p1_okC1 (congrArg some q41) p1_okC0))))
        | false =>
          cases q42 : mj_c2 .gt w1 2 with
          | true =>
            exact p1_use hk (fun n => ([w0, w1, w2, w3] : List Int32).getD n 0) (fun n => ([] : List Int64).getD n 0) p1_k15_27 (by show [Value.int w0, .int w1, .int w2, .int w3] = [.int (xs 0), .int (xs 1), .int (xs 2), .int (xs 3)]; rw [h0, h1, h2, h3]) (p1_okT1 (congrArg (fun z => some (Value.int z)) hw) p1_okT0) (p1_okC1 (congrArg some q34) (p1_okC1 (congrArg some q37) (p1_okC1 (congrArg some q40) (p1_okC1 (congrArg some q41) (p1_okC1 (congrArg some q42) p1_okC0)))))
          | false =>
            have q43 : mj_c2 .lt w2 0 = true := by (simp only [mj_c1, mj_c2, decide_eq_true_eq, decide_eq_false_iff_not, Int32.lt_iff_toInt_lt, Int32.le_iff_toInt_le, ← Int32.toInt_inj, q_0, q_1, q_2, q_3, q_8, q_m1, q_1000] at *; omega)
            exact p1_use hk (fun n => ([w0, w1, w2, w3] : List Int32).getD n 0) (fun n => ([] : List Int64).getD n 0) p1_k15_28 (by show [Value.int w0, .int w1, .int w2, .int w3] = [.int (xs 0), .int (xs 1), .int (xs 2), .int (xs 3)]; rw [h0, h1, h2, h3]) (p1_okT1 (congrArg (fun z => some (Value.int z)) hw) p1_okT0) (p1_okC1 (congrArg some q34) (p1_okC1 (congrArg some q37) (p1_okC1 (congrArg some q40) (p1_okC1 (congrArg some q41) (p1_okC1 (congrArg some q42) (p1_okC1 (congrArg some q43) p1_okC0))))))
      | false =>
        cases q44 : mj_c2 .gt w2 w3 with
        | true =>
          cases q45 : mj_c2 .lt w1 0 with
          | true =>
            exact p1_use hk (fun n => ([w0, w1, w2, w3] : List Int32).getD n 0) (fun n => ([] : List Int64).getD n 0) p1_k15_29 (by show [Value.int w0, .int w1, .int w2, .int w3] = [.int (xs 0), .int (xs 1), .int (xs 2), .int (xs 3)]; rw [h0, h1, h2, h3]) (p1_okT1 (congrArg (fun z => some (Value.int z)) hw) p1_okT0) (p1_okC1 (congrArg some q34) (p1_okC1 (congrArg some q37) (p1_okC1 (congrArg some q40) (p1_okC1 (congrArg some q44) (p1_okC1 (congrArg some q45) p1_okC0)))))
          | false =>
            cases q46 : mj_c2 .gt w1 2 with
            | true =>
              exact p1_use hk (fun n => ([w0, w1, w2, w3] : List Int32).getD n 0) (fun n => ([] : List Int64).getD n 0) p1_k15_30 (by show [Value.int w0, .int w1, .int w2, .int w3] = [.int (xs 0), .int (xs 1), .int (xs 2), .int (xs 3)]; rw [h0, h1, h2, h3]) (p1_okT1 (congrArg (fun z => some (Value.int z)) hw) p1_okT0) (p1_okC1 (congrArg some q34) (p1_okC1 (congrArg some q37) (p1_okC1 (congrArg some q40) (p1_okC1 (congrArg some q44) (p1_okC1 (congrArg some q45) (p1_okC1 (congrArg some q46) p1_okC0))))))
            | false =>
              have q47 : mj_c2 .lt w2 0 = false := by (simp only [mj_c1, mj_c2, decide_eq_true_eq, decide_eq_false_iff_not, Int32.lt_iff_toInt_lt, Int32.le_iff_toInt_le, ← Int32.toInt_inj, q_0, q_1, q_2, q_3, q_8, q_m1, q_1000] at *; omega)
              exact p1_use hk (fun n => ([w0, w1, w2, w3] : List Int32).getD n 0) (fun n => ([] : List Int64).getD n 0) p1_k15_31 (by show [Value.int w0, .int w1, .int w2, .int w3] = [.int (xs 0), .int (xs 1), .int (xs 2), .int (xs 3)]; rw [h0, h1, h2, h3]) (p1_okT1 (congrArg (fun z => some (Value.int z)) hw) p1_okT0) (p1_okC1 (congrArg some q34) (p1_okC1 (congrArg some q37) (p1_okC1 (congrArg some q40) (p1_okC1 (congrArg some q44) (p1_okC1 (congrArg some q45) (p1_okC1 (congrArg some q46) (p1_okC1 (congrArg some q47) p1_okC0)))))))
        | false =>
          cases q48 : mj_c1 .lt w1 with
          | true =>
            have q49 : mj_c2 .lt w1 0 = true := by (simp only [mj_c1, mj_c2, decide_eq_true_eq, decide_eq_false_iff_not, Int32.lt_iff_toInt_lt, Int32.le_iff_toInt_le, ← Int32.toInt_inj, q_0, q_1, q_2, q_3, q_8, q_m1, q_1000] at *; omega)
            exact p1_use hk (fun n => ([w0, w1, w2, w3] : List Int32).getD n 0) (fun n => ([] : List Int64).getD n 0) p1_k15_32 (by show [Value.int w0, .int w1, .int w2, .int w3] = [.int (xs 0), .int (xs 1), .int (xs 2), .int (xs 3)]; rw [h0, h1, h2, h3]) (p1_okT1 (congrArg (fun z => some (Value.int z)) hw) p1_okT0) (p1_okC1 (congrArg some q34) (p1_okC1 (congrArg some q37) (p1_okC1 (congrArg some q40) (p1_okC1 (congrArg some q44) (p1_okC1 (congrArg some q48) (p1_okC1 (congrArg some q49) p1_okC0))))))
          | false =>
            cases q50 : mj_c2 .ge w1 3 with
            | true =>
              have q51 : mj_c2 .lt w1 0 = false := by (simp only [mj_c1, mj_c2, decide_eq_true_eq, decide_eq_false_iff_not, Int32.lt_iff_toInt_lt, Int32.le_iff_toInt_le, ← Int32.toInt_inj, q_0, q_1, q_2, q_3, q_8, q_m1, q_1000] at *; omega)
              have q52 : mj_c2 .gt w1 2 = true := by (simp only [mj_c1, mj_c2, decide_eq_true_eq, decide_eq_false_iff_not, Int32.lt_iff_toInt_lt, Int32.le_iff_toInt_le, ← Int32.toInt_inj, q_0, q_1, q_2, q_3, q_8, q_m1, q_1000] at *; omega)
              exact p1_use hk (fun n => ([w0, w1, w2, w3] : List Int32).getD n 0) (fun n => ([] : List Int64).getD n 0) p1_k15_33 (by show [Value.int w0, .int w1, .int w2, .int w3] = [.int (xs 0), .int (xs 1), .int (xs 2), .int (xs 3)]; rw [h0, h1, h2, h3]) (p1_okT1 (congrArg (fun z => some (Value.int z)) hw) p1_okT0) (p1_okC1 (congrArg some q34) (p1_okC1 (congrArg some q37) (p1_okC1 (congrArg some q40) (p1_okC1 (congrArg some q44) (p1_okC1 (congrArg some q48) (p1_okC1 (congrArg some q50) (p1_okC1 (congrArg some q51) (p1_okC1 (congrArg some q52) p1_okC0))))))))
            | false =>
              rcases p1_three (x := w1) (by (simp only [mj_c1, mj_c2, decide_eq_true_eq, decide_eq_false_iff_not, Int32.lt_iff_toInt_lt, Int32.le_iff_toInt_le, ← Int32.toInt_inj, q_0, q_1, q_2, q_3, q_8, q_m1, q_1000] at *; omega)) (by (simp only [mj_c1, mj_c2, decide_eq_true_eq, decide_eq_false_iff_not, Int32.lt_iff_toInt_lt, Int32.le_iff_toInt_le, ← Int32.toInt_inj, q_0, q_1, q_2, q_3, q_8, q_m1, q_1000] at *; omega)) with rfl | rfl | rfl
              · skip
                have q53 : mj_c2 .lt w2 0 = false := by (simp only [mj_c1, mj_c2, decide_eq_true_eq, decide_eq_false_iff_not, Int32.lt_iff_toInt_lt, Int32.le_iff_toInt_le, ← Int32.toInt_inj, q_0, q_1, q_2, q_3, q_8, q_m1, q_1000] at *; omega)
                exact p1_use hk (fun n => ([w0, 0, w2, w3] : List Int32).getD n 0) (fun n => ([] : List Int64).getD n 0) p1_k15_34 (by show [Value.int w0, .int 0, .int w2, .int w3] = [.int (xs 0), .int (xs 1), .int (xs 2), .int (xs 3)]; rw [h0, h1, h2, h3]) (p1_okT1 (congrArg (fun z => some (Value.int z)) hw) p1_okT0) (p1_okC1 (congrArg some q34) (p1_okC1 (congrArg some q37) (p1_okC1 (congrArg some q40) (p1_okC1 (congrArg some q44) (p1_okC1 (congrArg some q53) p1_okC0)))))
              · skip
                have q54 : mj_c2 .lt w2 0 = false := by (simp only [mj_c1, mj_c2, decide_eq_true_eq, decide_eq_false_iff_not, Int32.lt_iff_toInt_lt, Int32.le_iff_toInt_le, ← Int32.toInt_inj, q_0, q_1, q_2, q_3, q_8, q_m1, q_1000] at *; omega)
                exact p1_use hk (fun n => ([w0, 0, w2, w3] : List Int32).getD n 0) (fun n => ([] : List Int64).getD n 0) p1_k15_35 (by show [Value.int w0, .int 1, .int w2, .int w3] = [.int (xs 0), .int (xs 1), .int (xs 2), .int (xs 3)]; rw [h0, h1, h2, h3]) (p1_okT1 (congrArg (fun z => some (Value.int z)) hw) p1_okT0) (p1_okC1 (congrArg some q34) (p1_okC1 (congrArg some q37) (p1_okC1 (congrArg some q40) (p1_okC1 (congrArg some q44) (p1_okC1 (congrArg some q54) p1_okC0)))))
              · skip
                have q55 : mj_c2 .lt w2 0 = false := by (simp only [mj_c1, mj_c2, decide_eq_true_eq, decide_eq_false_iff_not, Int32.lt_iff_toInt_lt, Int32.le_iff_toInt_le, ← Int32.toInt_inj, q_0, q_1, q_2, q_3, q_8, q_m1, q_1000] at *; omega)
                exact p1_use hk (fun n => ([w0, 0, w2, w3] : List Int32).getD n 0) (fun n => ([] : List Int64).getD n 0) p1_k15_36 (by show [Value.int w0, .int 2, .int w2, .int w3] = [.int (xs 0), .int (xs 1), .int (xs 2), .int (xs 3)]; rw [h0, h1, h2, h3]) (p1_okT1 (congrArg (fun z => some (Value.int z)) hw) p1_okT0) (p1_okC1 (congrArg some q34) (p1_okC1 (congrArg some q37) (p1_okC1 (congrArg some q40) (p1_okC1 (congrArg some q44) (p1_okC1 (congrArg some q55) p1_okC0)))))
theorem p1_k16_37 : p1_chk [(4, .float 0, .int 31, .int 16), (41, .float 2, .null, .double 0), (31, .double 0, .int 32, .double 1), (41, .float 3, .null, .double 2), (24, .double 2, .long 4294967295, .double 3), (25, .double 1, .double 3, .double 4)] [(12, .float 1, .null, true), (2, .float 1, .int 0, true)] [.float 0, .float 1, .float 2, .float 3] = true := by decide +kernel
theorem p1_k16_38 : p1_chk [(4, .float 0, .int 31, .int 16), (41, .float 2, .null, .double 0), (31, .double 0, .int 32, .double 1), (41, .float 3, .null, .double 2), (24, .double 2, .long 4294967295, .double 3), (25, .double 1, .double 3, .double 4)] [(12, .float 1, .null, false), (3, .float 1, .int 3, true), (2, .float 1, .int 0, false), (4, .float 1, .int 2, true)] [.float 0, .float 1, .float 2, .float 3] = true := by decide +kernel
theorem p1_k16_39 : p1_chk [(4, .float 0, .int 31, .int 16), (41, .float 2, .null, .double 0), (31, .double 0, .int 32, .double 1), (41, .float 3, .null, .double 2), (24, .double 2, .long 4294967295, .double 3), (25, .double 1, .double 3, .double 4)] [] [.float 0, .int 0, .float 2, .float 3] = true := by decide +kernel
theorem p1_k16_40 : p1_chk [(4, .float 0, .int 31, .int 16), (41, .float 2, .null, .double 0), (31, .double 0, .int 32, .double 1), (41, .float 3, .null, .double 2), (24, .double 2, .long 4294967295, .double 3), (25, .double 1, .double 3, .double 4)] [] [.float 0, .int 1, .float 2, .float 3] = true := by decide +kernel
theorem p1_k16_41 : p1_chk [(4, .float 0, .int 31, .int 16), (41, .float 2, .null, .double 0), (31, .double 0, .int 32, .double 1), (41, .float 3, .null, .double 2), (24, .double 2, .long 4294967295, .double 3), (25, .double 1, .double 3, .double 4)] [] [.float 0, .int 2, .float 2, .float 3] = true := by decide +kernel
theorem p1_c16 {b base : Nat} {xs : Nat → Int32} {xt : mj_X} {ct : Nat → Value} {w0 w1 w2 w3 : Int32} (hk : kX b 4 xs base xt ct) (h0 : xs 0 = w0) (h1 : xs 1 = w1) (h2 : xs 2 = w2) (h3 : xs 3 = w3) (hw : w0 &&& 31 = 16) : p1_G b base xt ct := by
  cases q56 : mj_c1 .lt w1 with
  | true =>
    have q57 : mj_c2 .lt w1 0 = true := by (simp only [mj_c1, mj_c2, decide_eq_true_eq, decide_eq_false_iff_not, Int32.lt_iff_toInt_lt, Int32.le_iff_toInt_le, ← Int32.toInt_inj, q_0, q_1, q_2, q_3, q_8, q_m1, q_1000] at *; omega)
    exact p1_use hk (fun n => ([w0, w1, w2, w3] : List Int32).getD n 0) (fun n => ([(Int32.toInt64 w2), ((Int32.toInt64 w2) <<< (Int32.toInt64 32 &&& 63)), (Int32.toInt64 w3), ((Int32.toInt64 w3) &&& 4294967295), (((Int32.toInt64 w2) <<< (Int32.toInt64 32 &&& 63)) ||| ((Int32.toInt64 w3) &&& 4294967295))] : List Int64).getD n 0) p1_k16_37 (by show [Value.int w0, .int w1, .int w2, .int w3] = [.int (xs 0), .int (xs 1), .int (xs 2), .int (xs 3)]; rw [h0, h1, h2, h3]) (p1_okT1 (congrArg (fun z => some (Value.int z)) hw) (p1_okT1 rfl (p1_okT1 rfl (p1_okT1 rfl (p1_okT1 rfl (p1_okT1 rfl p1_okT0)))))) (p1_okC1 (congrArg some q56) (p1_okC1 (congrArg some q57) p1_okC0))
  | false =>
    cases q58 : mj_c2 .ge w1 3 with
    | true =>
      have q59 : mj_c2 .lt w1 0 = false := by (simp only [mj_c1, mj_c2, decide_eq_true_eq, decide_eq_false_iff_not, Int32.lt_iff_toInt_lt, Int32.le_iff_toInt_le, ← Int32.toInt_inj, q_0, q_1, q_2, q_3, q_8, q_m1, q_1000] at *; omega)
      have q60 : mj_c2 .gt w1 2 = true := by (simp only [mj_c1, mj_c2, decide_eq_true_eq, decide_eq_false_iff_not, Int32.lt_iff_toInt_lt, Int32.le_iff_toInt_le, ← Int32.toInt_inj, q_0, q_1, q_2, q_3, q_8, q_m1, q_1000] at *; omega)
      exact p1_use hk (fun n => ([w0, w1, w2, w3] : List Int32).getD n 0) (fun n => ([(Int32.toInt64 w2), ((Int32.toInt64 w2) <<< (Int32.toInt64 32 &&& 63)), (Int32.toInt64 w3), ((Int32.toInt64 w3) &&& 4294967295), (((Int32.toInt64 w2) <<< (Int32.toInt64 32 &&& 63)) ||| ((Int32.toInt64 w3) &&& 4294967295))] : List Int64).getD n 0) p1_k16_38 (by show [Value.int w0, .int w1, .int w2, .int w3] = [.int (xs 0), .int (xs 1), .int (xs 2), .int (xs 3)]; rw [h0, h1, h2, h3]) (p1_okT1 (congrArg (fun z => some (Value.int z)) hw) (p1_okT1 rfl (p1_okT1 rfl (p1_okT1 rfl (p1_okT1 rfl (p1_okT1 rfl p1_okT0)))))) (p1_okC1 (congrArg some q56) (p1_okC1 (congrArg some q58) (p1_okC1 (congrArg some q59) (p1_okC1 (congrArg some q60) p1_okC0))))
    | false =>
      rcases p1_three (x := w1) (by (simp only [mj_c1, mj_c2, decide_eq_true_eq, decide_eq_false_iff_not, Int32.lt_iff_toInt_lt, Int32.le_iff_toInt_le, ← Int32.toInt_inj, q_0, q_1, q_2, q_3, q_8, q_m1, q_1000] at *; omega)) (by (simp only [mj_c1, mj_c2, decide_eq_true_eq, decide_eq_false_iff_not, Int32.lt_iff_toInt_lt, Int32.le_iff_toInt_le, ← Int32.toInt_inj, q_0, q_1, q_2, q_3, q_8, q_m1, q_1000] at *; omega)) with rfl | rfl | rfl
      · skip
        exact p1_use hk (fun n => ([w0, 0, w2, w3] : List Int32).getD n 0) (fun n => ([(Int32.toInt64 w2), ((Int32.toInt64 w2) <<< (Int32.toInt64 32 &&& 63)), (Int32.toInt64 w3), ((Int32.toInt64 w3) &&& 4294967295), (((Int32.toInt64 w2) <<< (Int32.toInt64 32 &&& 63)) ||| ((Int32.toInt64 w3) &&& 4294967295))] : List Int64).getD n 0) p1_k16_39 (by show [Value.int w0, .int 0, .int w2, .int w3] = [.int (xs 0), .int (xs 1), .int (xs 2), .int (xs 3)]; rw [h0, h1, h2, h3]) (p1_okT1 (congrArg (fun z => some (Value.int z)) hw) (p1_okT1 rfl (p1_okT1 rfl (p1_okT1 rfl (p1_okT1 rfl (p1_okT1 rfl p1_okT0)))))) p1_okC0
      · skip
        exact p1_use hk (fun n => ([w0, 0, w2, w3] : List Int32).getD n 0) (fun n => ([(Int32.toInt64 w2), ((Int32.toInt64 w2) <<< (Int32.toInt64 32 &&& 63)), (Int32.toInt64 w3), ((Int32.toInt64 w3) &&& 4294967295), (((Int32.toInt64 w2) <<< (Int32.toInt64 32 &&& 63)) ||| ((Int32.toInt64 w3) &&& 4294967295))] : List Int64).getD n 0) p1_k16_40 (by show [Value.int w0, .int 1, .int w2, .int w3] = [.int (xs 0), .int (xs 1), .int (xs 2), .int (xs 3)]; rw [h0, h1, h2, h3]) (p1_okT1 (congrArg (fun z => some (Value.int z)) hw) (p1_okT1 rfl (p1_okT1 rfl (p1_okT1 rfl (p1_okT1 rfl (p1_okT1 rfl p1_okT0)))))) p1_okC0
      · skip
        exact p1_use hk (fun n => ([w0, 0, w2, w3] : List Int32).getD n 0) (fun n => ([(Int32.toInt64 w2), ((Int32.toInt64 w2) <<< (Int32.toInt64 32 &&& 63)), (Int32.toInt64 w3), ((Int32.toInt64 w3) &&& 4294967295), (((Int32.toInt64 w2) <<< (Int32.toInt64 32 &&& 63)) ||| ((Int32.toInt64 w3) &&& 4294967295))] : List Int64).getD n 0) p1_k16_41 (by show [Value.int w0, .int 2, .int w2, .int w3] = [.int (xs 0), .int (xs 1), .int (xs 2), .int (xs 3)]; rw [h0, h1, h2, h3]) (p1_okT1 (congrArg (fun z => some (Value.int z)) hw) (p1_okT1 rfl (p1_okT1 rfl (p1_okT1 rfl (p1_okT1 rfl (p1_okT1 rfl p1_okT0)))))) p1_okC0
theorem p1_k17_42 : p1_chk [(4, .float 0, .int 31, .int 17)] [(2, .float 3, .int (-1), true), (2, .float 1, .int 0, true)] [.float 0, .float 1, .float 2, .float 3] = true := by decide +kernel
theorem p1_k17_43 : p1_chk [(4, .float 0, .int 31, .int 17)] [(2, .float 3, .int (-1), true), (2, .float 1, .int 0, false), (4, .float 1, .int 2, true)] [.float 0, .float 1, .float 2, .float 3] = true := by decide +kernel
theorem p1_k17_44 : p1_chk [(4, .float 0, .int 31, .int 17)] [(2, .float 3, .int (-1), true), (2, .float 1, .int 0, false), (4, .float 1, .int 2, false), (2, .float 2, .int 0, true)] [.float 0, .float 1, .float 2, .float 3] = true := by decide +kernel
theorem p1_k17_45 : p1_chk [(4, .float 0, .int 31, .int 17)] [(2, .float 3, .int (-1), true), (2, .float 1, .int 0, false), (4, .float 1, .int 2, false), (2, .float 2, .int 0, false), (4, .float 2, .int 2, true)] [.float 0, .float 1, .float 2, .float 3] = true := by decide +kernel
theorem p1_k17_46 : p1_chk [(4, .float 0, .int 31, .int 17)] [(2, .float 3, .int (-1), true), (2, .float 1, .int 0, false), (4, .float 1, .int 2, false), (2, .float 2, .int 0, false), (4, .float 2, .int 2, false)] [.float 0, .float 1, .float 2, .float 3] = true := by decide +kernel
theorem p1_k17_47 : p1_chk [(4, .float 0, .int 31, .int 17)] [(2, .float 3, .int (-1), false), (4, .float 3, .int 1, true), (2, .float 1, .int 0, true)] [.float 0, .float 1, .float 2, .float 3] = true := by decide +kernel
theorem p1_k17_48 : p1_chk [(4, .float 0, .int 31, .int 17)] [(2, .float 3, .int (-1), false), (4, .float 3, .int 1, true), (2, .float 1, .int 0, false), (4, .float 1, .int 2, true)] [.float 0, .float 1, .float 2, .float 3] = true := by decide +kernel
theorem p1_k17_49 : p1_chk [(4, .float 0, .int 31, .int 17)] [(2, .float 3, .int (-1), false), (4, .float 3, .int 1, true), (2, .float 1, .int 0, false), (4, .float 1, .int 2, false), (2, .float 2, .int 0, true)] [.float 0, .float 1, .float 2, .float 3] = true := by decide +kernel
theorem p1_k17_50 : p1_chk [(4, .float 0, .int 31, .int 17)] [(2, .float 3, .int (-1), false), (4, .float 3, .int 1, true), (2, .float 1, .int 0, false), (4, .float 1, .int 2, false), (2, .float 2, .int 0, false), (4, .float 2, .int 2, true)] [.float 0, .float 1, .float 2, .float 3] = true := by decide +kernel
theorem p1_k17_51 : p1_chk [(4, .float 0, .int 31, .int 17)] [(2, .float 3, .int (-1), false), (4, .float 3, .int 1, true), (2, .float 1, .int 0, false), (4, .float 1, .int 2, false), (2, .float 2, .int 0, false), (4, .float 2, .int 2, false)] [.float 0, .float 1, .float 2, .float 3] = true := by decide +kernel
theorem p1_k17_52 : p1_chk [(4, .float 0, .int 31, .int 17)] [(2, .float 3, .int (-1), false), (4, .float 3, .int 1, false), (12, .float 1, .null, true), (2, .float 1, .int 0, true)] [.float 0, .float 1, .float 2, .float 3] = true := by decide +kernel
theorem p1_k17_53 : p1_chk [(4, .float 0, .int 31, .int 17)] [(2, .float 3, .int (-1), false), (4, .float 3, .int 1, false), (12, .float 1, .null, false), (3, .float 1, .int 3, true), (2, .float 1, .int 0, false), (4, .float 1, .int 2, true)] [.float 0, .float 1, .float 2, .float 3] = true := by decide +kernel
theorem p1_k17_54 : p1_chk [(4, .float 0, .int 31, .int 17)] [(2, .float 3, .int (-1), false), (4, .float 3, .int 1, false), (12, .float 1, .null, false), (3, .float 1, .int 3, false), (12, .float 2, .null, true), (2, .float 1, .int 0, false), (4, .float 1, .int 2, false), (2, .float 2, .int 0, true)] [.float 0, .float 1, .float 2, .float 3] = true := by decide +kernel
theorem p1_k17_55 : p1_chk [(4, .float 0, .int 31, .int 17)] [(2, .float 3, .int (-1), false), (4, .float 3, .int 1, false), (12, .float 1, .null, false), (3, .float 1, .int 3, false), (12, .float 2, .null, false), (3, .float 2, .int 3, true), (2, .float 1, .int 0, false), (4, .float 1, .int 2, false), (2, .float 2, .int 0, false), (4, .float 2, .int 2, true)] [.float 0, .float 1, .float 2, .float 3] = true := by decide +kernel
theorem p1_k17_56 : p1_chk [(4, .float 0, .int 31, .int 17)] [(2, .float 3, .int (-1), false), (4, .float 3, .int 1, false), (12, .float 2, .null, false), (3, .float 2, .int 3, false), (2, .float 2, .int 0, false), (4, .float 2, .int 2, false)] [.float 0, .int 0, .float 2, .float 3] = true := by decide +kernel
theorem p1_k17_57 : p1_chk [(4, .float 0, .int 31, .int 17)] [(2, .float 3, .int (-1), false), (4, .float 3, .int 1, false), (12, .float 2, .null, false), (3, .float 2, .int 3, false), (2, .float 2, .int 0, false), (4, .float 2, .int 2, false)] [.float 0, .int 1, .float 2, .float 3] = true := by decide +kernel
theorem p1_k17_58 : p1_chk [(4, .float 0, .int 31, .int 17)] [(2, .float 3, .int (-1), false), (4, .float 3, .int 1, false), (12, .float 2, .null, false), (3, .float 2, .int 3, false), (2, .float 2, .int 0, false), (4, .float 2, .int 2, false)] [.float 0, .int 2, .float 2, .float 3] = true := by decide +kernel
theorem p1_c17 {b base : Nat} {xs : Nat → Int32} {xt : mj_X} {ct : Nat → Value} {w0 w1 w2 w3 : Int32} (hk : kX b 4 xs base xt ct) (h0 : xs 0 = w0) (h1 : xs 1 = w1) (h2 : xs 2 = w2) (h3 : xs 3 = w3) (hw : w0 &&& 31 = 17) : p1_G b base xt ct := by
  cases q61 : mj_c2 .lt w3 (-1) with
  | true =>
    cases q62 : mj_c2 .lt w1 0 with
    | true =>
      exact p1_use hk (fun n => ([w0, w1, w2, w3] : List Int32).getD n 0) (fun n => ([] : List Int64).getD n 0) p1_k17_42 (by show [Value.int w0, .int w1, .int w2, .int w3] = [.int (xs 0), .int (xs 1), .int (xs 2), .int (xs 3)]; rw [h0, h1, h2, h3]) (p1_okT1 (congrArg (fun z => some (Value.int z)) hw) p1_okT0) (p1_okC1 (congrArg some q61) (p1_okC1 (congrArg some q62) p1_okC0))
    | false =>
      cases q63 : mj_c2 .gt w1 2 with
      | true =>
        exact p1_use hk (fun n => ([w0, w1, w2, w3] : List Int32).getD n 0) (fun n => ([] : List Int64).getD n 0) p1_k17_43 (by show [Value.int w0, .int w1, .int w2, .int w3] = [.int (xs 0), .int (xs 1), .int (xs 2), .int (xs 3)]; rw [h0, h1, h2, h3]) (p1_okT1 (congrArg (fun z => some (Value.int z)) hw) p1_okT0) (p1_okC1 (congrArg some q61) (p1_okC1 (congrArg some q62) (p1_okC1 (congrArg some q63) p1_okC0)))
      | false =>
        cases q64 : mj_c2 .lt w2 0 with
        | true =>
          exact p1_use hk (fun n => ([w0, w1, w2, w3] : List Int32).getD n 0) (fun n => ([] : List Int64).getD n 0) p1_k17_44 (by show [Value.int w0, .int w1, .int w2, .int w3] = [.int (xs 0), .int (xs 1), .int (xs 2), .int (xs 3)]; rw [h0, h1, h2, h3]) (p1_okT1 (congrArg (fun z => some (Value.int z)) hw) p1_okT0) (p1_okC1 (congrArg some q61) (p1_okC1 (congrArg some q62) (p1_okC1 (congrArg some q63) (p1_okC1 (congrArg some q64) p1_okC0))))
        | false =>
          cases q65 : mj_c2 .gt w2 2 with
          | true =>
            exact p1_use hk (fun n => ([w0, w1, w2, w3] : List Int32).getD n 0) (fun n => ([] : List Int64).getD n 0) p1_k17_45 (by show [Value.int w0, .int w1, .int w2, .int w3] = [.int (xs 0), .int (xs 1), .int (xs 2), .int (xs 3)]; rw [h0, h1, h2, h3]) (p1_okT1 (congrArg (fun z => some (Value.int z)) hw) p1_okT0) (p1_okC1 (congrArg some q61) (p1_okC1 (congrArg some q62) (p1_okC1 (congrArg some q63) (p1_okC1 (congrArg some q64) (p1_okC1 (congrArg some q65) p1_okC0)))))
          | false =>
            exact p1_use hk (fun n => ([w0, w1, w2, w3] : List Int32).getD n 0) (fun n => ([] : List Int64).getD n 0) p1_k17_46 (by show [Value.int w0, .int w1, .int w2, .int w3] = [.int (xs 0), .int (xs 1), .int (xs 2), .int (xs 3)]; rw [h0, h1, h2, h3]) (p1_okT1 (congrArg (fun z => some (Value.int z)) hw) p1_okT0) (p1_okC1 (congrArg some q61) (p1_okC1 (congrArg some q62) (p1_okC1 (congrArg some q63) (p1_okC1 (congrArg some q64) (p1_okC1 (congrArg some q65) p1_okC0)))))
  | false =>
    cases q66 : mj_c2 .gt w3 1 with
    | true =>
      cases q67 : mj_c2 .lt w1 0 with
      | true =>
        exact p1_use hk (fun n => ([w0, w1, w2, w3] : List Int32).getD n 0) (fun n => ([] : List Int64).getD n 0) p1_k17_47 (by show [Value.int w0, .int w1, .int w2, .int w3] = [.int (xs 0), .int (xs 1), .int (xs 2), .int (xs 3)]; rw [h0, h1, h2, h3]) (p1_okT1 (congrArg (fun z => some (Value.int z)) hw) p1_okT0) (p1_okC1 (congrArg some q61) (p1_okC1 (congrArg some q66) (p1_okC1 (congrArg some q67) p1_okC0)))
      | false =>
        cases q68 : mj_c2 .gt w1 2 with
        | true =>
          exact p1_use hk (fun n => ([w0, w1, w2, w3] : List Int32).getD n 0) (fun n => ([] : List Int64).getD n 0) p1_k17_48 (by show [Value.int w0, .int w1, .int w2, .int w3] = [.int (xs 0), .int (xs 1), .int (xs 2), .int (xs 3)]; rw [h0, h1, h2, h3]) (p1_okT1 (congrArg (fun z => some (Value.int z)) hw) p1_okT0) (p1_okC1 (congrArg some q61) (p1_okC1 (congrArg some q66) (p1_okC1 (congrArg some q67) (p1_okC1 (congrArg some q68) p1_okC0))))
        | false =>
          cases q69 : mj_c2 .lt w2 0 with
          | true =>
            exact p1_use hk (fun n => ([w0, w1, w2, w3] : List Int32).getD n 0) (fun n => ([] : List Int64).getD n 0) p1_k17_49 (by show [Value.int w0, .int w1, .int w2, .int w3] = [.int (xs 0), .int (xs 1), .int (xs 2), .int (xs 3)]; rw [h0, h1, h2, h3]) (p1_okT1 (congrArg (fun z => some (Value.int z)) hw) p1_okT0) (p1_okC1 (congrArg some q61) (p1_okC1 (congrArg some q66) (p1_okC1 (congrArg some q67) (p1_okC1 (congrArg some q68) (p1_okC1 (congrArg some q69) p1_okC0)))))
          | false =>
            cases q70 : mj_c2 .gt w2 2 with
            | true =>
              exact p1_use hk (fun n => ([w0, w1, w2, w3] : List Int32).getD n 0) (fun n => ([] : List Int64).getD n 0) p1_k17_50 (by show [Value.int w0, .int w1, .int w2, .int w3] = [.int (xs 0), .int (xs 1), .int (xs 2), .int (xs 3)]; rw [h0, h1, h2, h3]) (p1_okT1 (congrArg (fun z => some (Value.int z)) hw) p1_okT0) (p1_okC1 (congrArg some q61) (p1_okC1 (congrArg some q66) (p1_okC1 (congrArg some q67) (p1_okC1 (congrArg some q68) (p1_okC1 (congrArg some q69) (p1_okC1 (congrArg some q70) p1_okC0))))))
            | false =>
              exact p1_use hk (fun n => ([w0, w1, w2, w3] : List Int32).getD n 0) (fun n => ([] : List Int64).getD n 0) p1_k17_51 (by show [Value.int w0, .int w1, .int w2, .int w3] = [.int (xs 0), .int (xs 1), .int (xs 2), .int (xs 3)]; rw [h0, h1, h2, h3]) (p1_okT1 (congrArg (fun z => some (Value.int z)) hw) p1_okT0) (p1_okC1 (congrArg some q61) (p1_okC1 (congrArg some q66) (p1_okC1 (congrArg some q67) (p1_okC1 (congrArg some q68) (p1_okC1 (congrArg some q69) (p1_okC1 (congrArg some q70) p1_okC0))))))
    | false =>
      cases q71 : mj_c1 .lt w1 with
      | true =>
        have q72 : mj_c2 .lt w1 0 = true := by (simp only [mj_c1, mj_c2, decide_eq_true_eq, decide_eq_false_iff_not, Int32.lt_iff_toInt_lt, Int32.le_iff_toInt_le, ← Int32.toInt_inj, q_0, q_1, q_2, q_3, q_8, q_m1, q_1000] at *; omega)
        exact p1_use hk (fun n => ([w0, w1, w2, w3] : List Int32).getD n 0) (fun n => ([] : List Int64).getD n 0) p1_k17_52 (by show [Value.int w0, .int w1, .int w2, .int w3] = [.int (xs 0), .int (xs 1), .int (xs 2), .int (xs 3)]; rw [h0, h1, h2, h3]) (p1_okT1 (congrArg (fun z => some (Value.int z)) hw) p1_okT0) (p1_okC1 (congrArg some q61) (p1_okC1 (congrArg some q66) (p1_okC1 (congrArg some q71) (p1_okC1 (congrArg some q72) p1_okC0))))
      | false =>
        cases q73 : mj_c2 .ge w1 3 with
        | true =>
          have q74 : mj_c2 .lt w1 0 = false := by (simp only [mj_c1, mj_c2, decide_eq_true_eq, decide_eq_false_iff_not, Int32.lt_iff_toInt_lt, Int32.le_iff_toInt_le, ← Int32.toInt_inj, q_0, q_1, q_2, q_3, q_8, q_m1, q_1000] at *; omega)
          have q75 : mj_c2 .gt w1 2 = true := by (simp only [mj_c1, mj_c2, decide_eq_true_eq, decide_eq_false_iff_not, Int32.lt_iff_toInt_lt, Int32.le_iff_toInt_le, ← Int32.toInt_inj, q_0, q_1, q_2, q_3, q_8, q_m1, q_1000] at *; omega)
          exact p1_use hk (fun n => ([w0, w1, w2, w3] : List Int32).getD n 0) (fun n => ([] : List Int64).getD n 0) p1_k17_53 (by show [Value.int w0, .int w1, .int w2, .int w3] = [.int (xs 0), .int (xs 1), .int (xs 2), .int (xs 3)]; rw [h0, h1, h2, h3]) (p1_okT1 (congrArg (fun z => some (Value.int z)) hw) p1_okT0) (p1_okC1 (congrArg some q61) (p1_okC1 (congrArg some q66) (p1_okC1 (congrArg some q71) (p1_okC1 (congrArg some q73) (p1_okC1 (congrArg some q74) (p1_okC1 (congrArg some q75) p1_okC0))))))
        | false =>
          cases q76 : mj_c1 .lt w2 with
          | true =>
            have q77 : mj_c2 .lt w1 0 = false := by (simp only [mj_c1, mj_c2, decide_eq_true_eq, decide_eq_false_iff_not, Int32.lt_iff_toInt_lt, Int32.le_iff_toInt_le, ← Int32.toInt_inj, q_0, q_1, q_2, q_3, q_8, q_m1, q_1000] at *; omega)
            have q78 : mj_c2 .gt w1 2 = false := by (simp only [mj_c1, mj_c2, decide_eq_true_eq, decide_eq_false_iff_not, Int32.lt_iff_toInt_lt, Int32.le_iff_toInt_le, ← Int32.toInt_inj, q_0, q_1, q_2, q_3, q_8, q_m1, q_1000] at *; omega)
            have q79 : mj_c2 .lt w2 0 = true := by (simp only [mj_c1, mj_c2, decide_eq_true_eq, decide_eq_false_iff_not, Int32.lt_iff_toInt_lt, Int32.le_iff_toInt_le, ← Int32.toInt_inj, q_0, q_1, q_2, q_3, q_8, q_m1, q_1000] at *; omega)
            exact p1_use hk (fun n => ([w0, w1, w2, w3] : List Int32).getD n 0) (fun n => ([] : List Int64).getD n 0) p1_k17_54 (by show [Value.int w0, .int w1, .int w2, .int w3] = [.int (xs 0), .int (xs 1), .int (xs 2), .int (xs 3)]; rw [h0, h1, h2, h3]) (p1_okT1 (congrArg (fun z => some (Value.int z)) hw) p1_okT0) (p1_okC1 (congrArg some q61) (p1_okC1 (congrArg some q66) (p1_okC1 (congrArg some q71) (p1_okC1 (congrArg some q73) (p1_okC1 (congrArg some q76) (p1_okC1 (congrArg some q77) (p1_okC1 (congrArg some q78) (p1_okC1 (congrArg some q79) p1_okC0))))))))
          | false =>
            cases q80 : mj_c2 .ge w2 3 with
            | true =>
              have q81 : mj_c2 .lt w1 0 = false := by (simp only [mj_c1, mj_c2, decide_eq_true_eq, decide_eq_false_iff_not, Int32.lt_iff_toInt_lt, Int32.le_iff_toInt_le, ← Int32.toInt_inj, q_0, q_1, q_2, q_3, q_8, q_m1, q_1000] at *; omega)
              have q82 : mj_c2 .gt w1 2 = false := by (simp only [mj_c1, mj_c2, decide_eq_true_eq, decide_eq_false_iff_not, Int32.lt_iff_toInt_lt, Int32.le_iff_toInt_le, ← Int32.toInt_inj, q_0, q_1, q_2, q_3, q_8, q_m1, q_1000] at *; omega)
              have q83 : mj_c2 .lt w2 0 = false := by (simp only [mj_c1, mj_c2, decide_eq_true_eq, decide_eq_false_iff_not, Int32.lt_iff_toInt_lt, Int32.le_iff_toInt_le, ← Int32.toInt_inj, q_0, q_1, q_2, q_3, q_8, q_m1, q_1000] at *; omega)
              have q84 : mj_c2 .gt w2 2 = true := by (simp only [mj_c1, mj_c2, decide_eq_true_eq, decide_eq_false_iff_not, Int32.lt_iff_toInt_lt, Int32.le_iff_toInt_le, ← Int32.toInt_inj, q_0, q_1, q_2, q_3, q_8, q_m1, q_1000] at *; omega)
              exact p1_use hk (fun n => ([w0, w1, w2, w3] : List Int32).getD n 0) (fun n => ([] : List Int64).getD n 0) p1_k17_55 (by show [Value.int w0, .int w1, .int w2, .int w3] = [.int (xs 0), .int (xs 1), .int (xs 2), .int (xs 3)]; rw [h0, h1, h2, h3]) (p1_okT1 (congrArg (fun z => some (Value.int z)) hw) p1_okT0) (p1_okC1 (congrArg some q61) (p1_okC1 (congrArg some q66) (p1_okC1 (congrArg some q71) (p1_okC1 (congrArg some q73) (p1_okC1 (congrArg some q76) (p1_okC1 (congrArg some q80) (p1_okC1 (congrArg some q81) (p1_okC1 (congrArg some q82) (p1_okC1 (congrArg some q83) (p1_okC1 (congrArg some q84) p1_okC0))))))))))
            | false =>
              rcases p1_three (x := w1) (by (simp only [mj_c1, mj_c2, decide_eq_true_eq, decide_eq_false_iff_not, Int32.lt_iff_toInt_lt, Int32.le_iff_toInt_le, ← Int32.toInt_inj, q_0, q_1, q_2, q_3, q_8, q_m1, q_1000] at *; omega)) (by (simp only [mj_c1, mj_c2, decide_eq_true_eq, decide_eq_false_iff_not, Int32.lt_iff_toInt_lt, Int32.le_iff_toInt_le, ← Int32.toInt_inj, q_0, q_1, q_2, q_3, q_8, q_m1, q_1000] at *; omega)) with rfl | rfl | rfl
              · skip
                have q85 : mj_c2 .lt w2 0 = false := by (simp only [mj_c1, mj_c2, decide_eq_true_eq, decide_eq_false_iff_not, Int32.lt_iff_toInt_lt, Int32.le_iff_toInt_le, ← Int32.toInt_inj, q_0, q_1, q_2, q_3, q_8, q_m1, q_1000] at *; omega)
                have q86 : mj_c2 .gt w2 2 = false := by (simp only [mj_c1, mj_c2, decide_eq_true_eq, decide_eq_false_iff_not, Int32.lt_iff_toInt_lt, Int32.le_iff_toInt_le, ← Int32.toInt_inj, q_0, q_1, q_2, q_3, q_8, q_m1, q_1000] at *; omega)
                exact p1_use hk (fun n => ([w0, 0, w2, w3] : List Int32).getD n 0) (fun n => ([] : List Int64).getD n 0) p1_k17_56 (by show [Value.int w0, .int 0, .int w2, .int w3] = [.int (xs 0), .int (xs 1), .int (xs 2), .int (xs 3)]; rw [h0, h1, h2, h3]) (p1_okT1 (congrArg (fun z => some (Value.int z)) hw) p1_okT0) (p1_okC1 (congrArg some q61) (p1_okC1 (congrArg some q66) (p1_okC1 (congrArg some q76) (p1_okC1 (congrArg some q80) (p1_okC1 (congrArg some q85) (p1_okC1 (congrArg some q86) p1_okC0))))))
              · skip
                have q87 : mj_c2 .lt w2 0 = false := by (simp only [mj_c1, mj_c2, decide_eq_true_eq, decide_eq_false_iff_not, Int32.lt_iff_toInt_lt, Int32.le_iff_toInt_le, ← Int32.toInt_inj, q_0, q_1, q_2, q_3, q_8, q_m1, q_1000] at *; omega)
                have q88 : mj_c2 .gt w2 2 = false := by (simp only [mj_c1, mj_c2, decide_eq_true_eq, decide_eq_false_iff_not, Int32.lt_iff_toInt_lt, Int32.le_iff_toInt_le, ← Int32.toInt_inj, q_0, q_1, q_2, q_3, q_8, q_m1, q_1000] at *; omega)
                exact p1_use hk (fun n => ([w0, 0, w2, w3] : List Int32).getD n 0) (fun n => ([] : List Int64).getD n 0) p1_k17_57 (by show [Value.int w0, .int 1, .int w2, .int w3] = [.int (xs 0), .int (xs 1), .int (xs 2), .int (xs 3)]; rw [h0, h1, h2, h3]) (p1_okT1 (congrArg (fun z => some (Value.int z)) hw) p1_okT0) (p1_okC1 (congrArg some q61) (p1_okC1 (congrArg some q66) (p1_okC1 (congrArg some q76) (p1_okC1 (congrArg some q80) (p1_okC1 (congrArg some q87) (p1_okC1 (congrArg some q88) p1_okC0))))))
              · skip
                have q89 : mj_c2 .lt w2 0 = false := by (simp only [mj_c1, mj_c2, decide_eq_true_eq, decide_eq_false_iff_not, Int32.lt_iff_toInt_lt, Int32.le_iff_toInt_le, ← Int32.toInt_inj, q_0, q_1, q_2, q_3, q_8, q_m1, q_1000] at *; omega)
                have q90 : mj_c2 .gt w2 2 = false := by (simp only [mj_c1, mj_c2, decide_eq_true_eq, decide_eq_false_iff_not, Int32.lt_iff_toInt_lt, Int32.le_iff_toInt_le, ← Int32.toInt_inj, q_0, q_1, q_2, q_3, q_8, q_m1, q_1000] at *; omega)
                exact p1_use hk (fun n => ([w0, 0, w2, w3] : List Int32).getD n 0) (fun n => ([] : List Int64).getD n 0) p1_k17_58 (by show [Value.int w0, .int 2, .int w2, .int w3] = [.int (xs 0), .int (xs 1), .int (xs 2), .int (xs 3)]; rw [h0, h1, h2, h3]) (p1_okT1 (congrArg (fun z => some (Value.int z)) hw) p1_okT0) (p1_okC1 (congrArg some q61) (p1_okC1 (congrArg some q66) (p1_okC1 (congrArg some q76) (p1_okC1 (congrArg some q80) (p1_okC1 (congrArg some q89) (p1_okC1 (congrArg some q90) p1_okC0))))))
