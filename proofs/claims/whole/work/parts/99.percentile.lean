section PCC
variable {xt : mj_X} {ct : Nat → Value} {O : OR} {N z : Nat} {H : mj_H} {S : mS}
theorem percentile_call (hN : 100 ≤ N) (hx : cx z H) (hs : cSl z H S) (ho : cout z H) (s a w : Int32) : cl_I z H S (C195 xt ct O N (z + 1) s a w (z + 106) H) (M297 N s a w S) := by
  have k5 : gK H (z + 1) 5 = some () := gK_of hx
  have b0 : mj_c1 .ne 0 = false := by decide
  have b1 : mj_c1 .ne 1 = true := by decide
  have b2 : mj_c1 .eq 0 = true := by decide
  have b3 : mj_c1 .eq 1 = false := by decide
  have l0 : mj_c1 .le 0 = true := by decide
  have l1 : mj_c1 .le 1 = false := by decide
  have l2 : mj_c1 .le 2 = false := by decide
  have q1000 : (1000 : Int32).toInt = 1000 := rfl
  have mw := M205_do (N := N) (x := w) (lo := 1) (hi := 1000) (S := S)
  have ma := M205_do (N := N) (x := a) (lo := 0) (hi := w) (S := S)
  rw [q_1, q1000] at mw
  rw [q_0] at ma
  have sl := slot3 (xt := xt) (ct := ct) (O := O) (N := N) hx hs s
  by_cases hk : (1 ≤ w.toInt ∧ w.toInt ≤ 1000) ∧ 0 ≤ a.toInt ∧ a.toInt ≤ w.toInt
  · obtain ⟨hw, ha⟩ := hk
    rw [if_pos hw] at mw
    rw [if_pos ha] at ma
    have ck : C196 xt ct O N (z + 1) s a w H = J196_26 xt ct O N (z + 1) s a w 1 H := by
      have c1 : mj_c2 .lt w 1 = false := i_c2 (by show decide _ = false; apply decide_eq_false; rw [q_1]; omega)
      have c2 : mj_c2 .gt w 1000 = false := i_c2 (by show decide _ = false; apply decide_eq_false; rw [q1000]; omega)
      have c3 : mj_c1 .lt a = false := i_c1 (by show decide _ = false; apply decide_eq_false; omega)
      have c4 : mj_c2 .gt a w = false := i_c2 (by show decide _ = false; apply decide_eq_false; omega)
      simp only [C196, c1, c2, c3, c4, cond_false]
    rcases sl with ⟨hn, c, m⟩ | ⟨j, hj, hsj, h57, c, m⟩ | ⟨j, hp, fs, oc, tot, os, ws, hj, hsj, r1, r2, rn, c, m⟩
    · refine Or.inr ⟨1, 0, m_sV S 0 1, 13, by decide, ?_, ?_, rfl, ag_0⟩
      · simp [C195, ck, J196_26, C191, b1, k5, c, tc, th, gC_new]
      · simp only [M297, m, b2, cond_true, J297_28, J297_46, l1, cond_false, Option.bind_some]
    · have hm : 0 ≤ s.toInt ∧ s.toInt < mN 57 := by rw [show mN 57 = 3 from rfl]; omega
      refine Or.inr ⟨2, 0, m_sV S 0 2, 14, by decide, ?_, ?_, rfl, ag_0⟩
      · simp [C195, ck, J196_26, C191, b1, k5, c, tc, th, gC_new]
      · simp only [M297, m, b3, cond_false, mw, ma, b1, cond_true, if_pos hm, show s.toInt.toNat = j by omega, h57, b0, J297_46, l2, Option.bind_some]
    · have hm : 0 ≤ s.toInt ∧ s.toInt < mN 57 := by rw [show mN 57 = 3 from rfl]; omega
      have hoc := r1.2.2.2.2.2
      have ho1 := r2.1
      have g1 : gA H (z + 54 + 3 * j) 4 1 = some (z + 56 + 3 * j) := gA_of r1.1 rfl
      have aa : aL xt H (z + 56 + 3 * j) 0 = some (S.2.2 60 (64 * j + 0)) := aL_of r1.2.2.1 (by decide) ((r2.2.2.2.2 0 (by omega)).2)
      have w0 : wsum S j 1 = 0 + (S.2.2 60 (64 * j + 0)).toInt := rfl
      have x1 : L196_48 xt ct O N (a, w, z + 54 + 3 * j, 0, S.2.2 60 (64 * j + 0), H) = some (.inl (S.2.1 59 (64 * j + pct a.toInt w.toInt tot.toInt j S (oc - 1) 0)), H) := t_lp_more _ _ _ (by omega) (L196_do (xt := xt) (ct := ct) (O := O) (N := N) r1 r2 rn (by omega) (by omega) (oc - 1) 0 _ (by omega) (by rw [w0]; omega))
      have h64 : (64 * s) = Int32.ofNat (64 * j + 0) := i_eq (by
        have e : (64 : Int32).toInt = 64 := rfl
        rw [i_mul (by rw [e]; omega) (by rw [e]; omega), e, hsj]
        omega)
      have m60 : 0 ≤ (64 * s).toInt ∧ (64 * s).toInt < mN 60 := by rw [show mN 60 = 192 from rfl, h64, i_nat (by omega)]; omega
      have x2 : L297_73 N (s, a, w, 64 * s, S.2.2 60 (64 * j + 0), m_sV S 0 0) = some (S.2.1 59 (64 * j + pct a.toInt w.toInt tot.toInt j S (oc - 1) 0), m_sV S 0 0) := by
        rw [h64]
        exact t_lp_more _ _ _ (by omega) (L297_do (N := N) hsj hj hoc r2 rn ha (by omega) (oc - 1) 0 _ (by omega) (by rw [w0]; omega))
      refine Or.inl ⟨S.2.1 59 (64 * j + pct a.toInt w.toInt tot.toInt j S (oc - 1) 0), m_sV S 0 0, ?_, ?_, rfl, ag_0⟩
      · simp only [C195, ck, J196_26, C191, b1, cond_true, k5, c, tc, th, g1, aa, x1, out_put ho, Option.bind_some]
      · simp only [M297, m, b3, cond_false, mw, ma, b1, cond_true, if_pos hm, show s.toInt.toNat = j by omega, r2.2.1, J297_46, l0, if_pos m60, show (64 * s).toInt.toNat = 64 * j + 0 by rw [h64, i_nat (by omega)]; omega, x2, Option.bind_some]
  · have ck : C196 xt ct O N (z + 1) s a w H = J196_26 xt ct O N (z + 1) s a w 0 H := by
      cases c1 : mj_c2 .lt w 1 with
      | true => simp only [C196, c1, cond_true, J196_25]
      | false =>
        cases c2 : mj_c2 .gt w 1000 with
        | true => simp only [C196, c1, c2, cond_true, cond_false, J196_25]
        | false =>
          cases c3 : mj_c1 .lt a with
          | true => simp only [C196, c1, c2, c3, cond_true, cond_false, J196_25]
          | false =>
            cases c4 : mj_c2 .gt a w with
            | true => simp only [C196, c1, c2, c3, c4, cond_true, cond_false, J196_25]
            | false =>
              have d1 := of_decide_eq_false c1
              have d2 := of_decide_eq_false c2
              have d3 := of_decide_eq_false c3
              have d4 := of_decide_eq_false c4
              rw [Int32.lt_iff_toInt_lt] at d1 d2 d3 d4
              rw [q_1] at d1
              rw [q1000] at d2
              rw [q_0] at d3
              exact absurd (by omega) hk
    refine Or.inr ⟨1, 0, m_sV S 0 1, 13, by decide, ?_, ?_, rfl, ag_0⟩
    · simp [C195, ck, J196_26, C191, b0, k5, tc, th, gC_new]
    · have main : ∀ r : Int32, M210 N s S = some (r, S) → (r = 0 ∨ r = 1) → M297 N s a w S = some (0, m_sV S 0 1) := by
        intro r m hr
        rcases hr with rfl | rfl
        · simp only [M297, m, b2, cond_true, J297_28, J297_46, l1, cond_false, Option.bind_some]
        · by_cases hw : 1 ≤ w.toInt ∧ w.toInt ≤ 1000
          · rw [if_pos hw] at mw
            have ha : ¬ (0 ≤ a.toInt ∧ a.toInt ≤ w.toInt) := fun q => hk ⟨hw, q⟩
            rw [if_neg ha] at ma
            simp only [M297, m, b3, cond_false, mw, ma, b0, J297_28, J297_46, l1, Option.bind_some]
          · rw [if_neg hw] at mw
            simp only [M297, m, b3, cond_false, mw, b2, cond_true, J297_28, J297_46, l1, Option.bind_some]
      rcases sl with ⟨hn, c, m⟩ | ⟨j, hj, hsj, h57, c, m⟩ | ⟨j, hp, fs, oc, tot, os, ws, hj, hsj, r1, r2, rn, c, m⟩
      · exact main 0 m (Or.inl rfl)
      · exact main 1 m (Or.inr rfl)
      · exact main 1 m (Or.inr rfl)
end PCC
