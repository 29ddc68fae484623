theorem p1_k3_1 : p1_chk [(4, .float 0, .int 31, .int 3)] [(12, .float 1, .null, true), (2, .float 1, .int 0, true)] [.float 0, .float 1, .float 2, .float 3] = true := by decide +kernel
theorem p1_k3_2 : p1_chk [(4, .float 0, .int 31, .int 3)] [(12, .float 1, .null, false), (3, .float 1, .int 3, true), (2, .float 1, .int 0, false), (4, .float 1, .int 2, true)] [.float 0, .float 1, .float 2, .float 3] = true := by decide +kernel
theorem p1_c3 {b base : Nat} {xs : Nat → Int32} {xt : mj_X} {ct : Nat → Value} {w0 w1 w2 w3 : Int32} (hk : kX b 4 xs base xt ct) (h0 : xs 0 = w0) (h1 : xs 1 = w1) (h2 : xs 2 = w2) (h3 : xs 3 = w3) (hw : w0 &&& 31 = 3) : p1_G b base xt ct := by
  cases q1 : mj_c1 .lt w1 with
  | true =>
    have q2 : mj_c2 .lt w1 0 = true := by (simp only [mj_c1, mj_c2, decide_eq_true_eq, decide_eq_false_iff_not, Int32.lt_iff_toInt_lt, Int32.le_iff_toInt_le, ← Int32.toInt_inj, q_0, q_1, q_2, q_3, q_8, q_m1, q_1000] at *; omega)
    exact p1_use hk (fun n => ([w0, w1, w2, w3] : List Int32).getD n 0) (fun n => ([] : List Int64).getD n 0) p1_k3_1 (by show [Value.int w0, .int w1, .int w2, .int w3] = [.int (xs 0), .int (xs 1), .int (xs 2), .int (xs 3)]; rw [h0, h1, h2, h3]) (p1_okT1 (congrArg (fun z => some (Value.int z)) hw) p1_okT0) (p1_okC1 (congrArg some q1) (p1_okC1 (congrArg some q2) p1_okC0))
  | false =>
    cases q3 : mj_c2 .ge w1 3 with
    | true =>
      have q4 : mj_c2 .lt w1 0 = false := by (simp only [mj_c1, mj_c2, decide_eq_true_eq, decide_eq_false_iff_not, Int32.lt_iff_toInt_lt, Int32.le_iff_toInt_le, ← Int32.toInt_inj, q_0, q_1, q_2, q_3, q_8, q_m1, q_1000] at *; omega)
      have q5 : mj_c2 .gt w1 2 = true := by (simp only [mj_c1, mj_c2, decide_eq_true_eq, decide_eq_false_iff_not, Int32.lt_iff_toInt_lt, Int32.le_iff_toInt_le, ← Int32.toInt_inj, q_0, q_1, q_2, q_3, q_8, q_m1, q_1000] at *; omega)
      exact p1_use hk (fun n => ([w0, w1, w2, w3] : List Int32).getD n 0) (fun n => ([] : List Int64).getD n 0) p1_k3_2 (by show [Value.int w0, .int w1, .int w2, .int w3] = [.int (xs 0), .int (xs 1), .int (xs 2), .int (xs 3)]; rw [h0, h1, h2, h3]) (p1_okT1 (congrArg (fun z => some (Value.int z)) hw) p1_okT0) (p1_okC1 (congrArg some q1) (p1_okC1 (congrArg some q3) (p1_okC1 (congrArg some q4) (p1_okC1 (congrArg some q5) p1_okC0))))
    | false =>
      rcases p1_three (x := w1) (by (simp only [mj_c1, mj_c2, decide_eq_true_eq, decide_eq_false_iff_not, Int32.lt_iff_toInt_lt, Int32.le_iff_toInt_le, ← Int32.toInt_inj, q_0, q_1, q_2, q_3, q_8, q_m1, q_1000] at *; omega)) (by (simp only [mj_c1, mj_c2, decide_eq_true_eq, decide_eq_false_iff_not, Int32.lt_iff_toInt_lt, Int32.le_iff_toInt_le, ← Int32.toInt_inj, q_0, q_1, q_2, q_3, q_8, q_m1, q_1000] at *; omega)) with rfl | rfl | rfl
      · skip
        exact p1_useR hk (fun n => ([w0, 0, w2, w3] : List Int32).getD n 0) (fun n => ([] : List Int64).getD n 0) ka_0 kb_0 kl_0 (kr_0 hk.2.2.1) (by show [Value.int w0, .int 0, .int w2, .int w3] = [.int (xs 0), .int (xs 1), .int (xs 2), .int (xs 3)]; rw [h0, h1, h2, h3]) (p1_okT1 (congrArg (fun z => some (Value.int z)) hw) p1_okT0) p1_okC0
      · skip
        exact p1_useR hk (fun n => ([w0, 0, w2, w3] : List Int32).getD n 0) (fun n => ([] : List Int64).getD n 0) ka_1 kb_1 kl_1 (kr_1 hk.2.2.1) (by show [Value.int w0, .int 1, .int w2, .int w3] = [.int (xs 0), .int (xs 1), .int (xs 2), .int (xs 3)]; rw [h0, h1, h2, h3]) (p1_okT1 (congrArg (fun z => some (Value.int z)) hw) p1_okT0) p1_okC0
      · skip
        exact p1_useR hk (fun n => ([w0, 0, w2, w3] : List Int32).getD n 0) (fun n => ([] : List Int64).getD n 0) ka_2 kb_2 kl_2 (kr_2 hk.2.2.1) (by show [Value.int w0, .int 2, .int w2, .int w3] = [.int (xs 0), .int (xs 1), .int (xs 2), .int (xs 3)]; rw [h0, h1, h2, h3]) (p1_okT1 (congrArg (fun z => some (Value.int z)) hw) p1_okT0) p1_okC0
