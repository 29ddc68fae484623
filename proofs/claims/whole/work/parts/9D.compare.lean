section CMR
variable {xt : mj_X} {ct : Nat → Value} {O : OR} {N z : Nat} {H : mj_H} {S : mS}
theorem compare_call (hN : 100 ≤ N) (hx : cx z H) (hs : cSl z H S) (ho : cout z H) (s s' g : Int32) : cl_L z H S (C199 xt ct O N (z + 1) s s' g (z + 106) H) (M299 N s s' g S) := by
  have k5 : gK H (z + 1) 5 = some () := gK_of hx
  have b0 : mj_c1 .ne 0 = false := by decide
  have b1 : mj_c1 .ne 1 = true := by decide
  have b2 : mj_c1 .eq 0 = true := by decide
  have b3 : mj_c1 .eq 1 = false := by decide
  have l0 : mj_c1 .le 0 = true := by decide
  have l1 : mj_c1 .le 1 = false := by decide
  have l2 : mj_c1 .le 2 = false := by decide
  have mg := M205_do (N := N) (x := g) (lo := -1) (hi := 1) (S := S)
  rw [q_1, q_m1] at mg
  have sl := slot3 (xt := xt) (ct := ct) (O := O) (N := N) hx hs s
  have sl' := slot3 (xt := xt) (ct := ct) (O := O) (N := N) hx hs s'
  have c80 := C80_do (xt := xt) (ct := ct) (O := O) (N := N) (H := H) (s := s)
  have c80' := C80_do (xt := xt) (ct := ct) (O := O) (N := N) (H := H) (s := s')
  -- not allowed
  have no : C200 xt ct O N (z + 1) s s' g H = J200_29 xt ct O N (z + 1) s s' g 0 H → M299 N s s' g S = some (0, m_sV S 0 1) → cl_L z H S (C199 xt ct O N (z + 1) s s' g (z + 106) H) (M299 N s s' g S) := fun ck hM => by
    refine Or.inr ⟨1, 0, m_sV S 0 1, 13, by decide, ?_, hM, rfl, ag_0⟩
    simp [C199, ck, J200_29, C191, b0, k5, tc, th, gC_new]
  by_cases hg : -1 ≤ g.toInt ∧ g.toInt ≤ 1
  · rw [if_pos hg] at mg
    have c1 : mj_c2 .lt g (-1) = false := i_c2 (by show decide _ = false; apply decide_eq_false; rw [q_m1]; omega)
    have c2 : mj_c2 .gt g 1 = false := i_c2 (by show decide _ = false; apply decide_eq_false; rw [q_1]; omega)
    rcases sl with ⟨hn, c, m⟩ | sl
    · rw [if_neg hn] at c80
      refine no ?_ ?_
      · simp only [C200, c1, c2, cond_false, c80, b2, cond_true, J200_28, Option.bind_some]
      · simp only [M299, m, b2, cond_true, J299_24, J299_51, l1, cond_false, Option.bind_some]
    have hsl : (0 ≤ s.toInt ∧ s.toInt < 3) ∧ M210 N s S = some (1, S) := by
      rcases sl with ⟨j, hj, hsj, h57, c, m⟩ | ⟨j, hp, fs, oc, tot, os, ws, hj, hsj, r1, r2, rn, c, m⟩
      · exact ⟨by omega, m⟩
      · exact ⟨by omega, m⟩
    rw [if_pos hsl.1] at c80
    rcases sl' with ⟨hn, c, m⟩ | sl'
    · rw [if_neg hn] at c80'
      refine no ?_ ?_
      · simp only [C200, c1, c2, cond_false, c80, b3, c80', b2, cond_true, J200_28, Option.bind_some]
      · simp only [M299, hsl.2, b3, cond_false, m, b2, cond_true, J299_24, J299_51, l1, Option.bind_some]
    have hsl' : (0 ≤ s'.toInt ∧ s'.toInt < 3) ∧ M210 N s' S = some (1, S) := by
      rcases sl' with ⟨j, hj, hsj, h57, c, m⟩ | ⟨j, hp, fs, oc, tot, os, ws, hj, hsj, r1, r2, rn, c, m⟩
      · exact ⟨by omega, m⟩
      · exact ⟨by omega, m⟩
    rw [if_pos hsl'.1] at c80'
    have ck : C200 xt ct O N (z + 1) s s' g H = J200_29 xt ct O N (z + 1) s s' g 1 H := by
      simp only [C200, c1, c2, cond_false, c80, b3, c80', Option.bind_some]
    have hm : 0 ≤ s.toInt ∧ s.toInt < mN 57 := by rw [show mN 57 = 3 from rfl]; exact hsl.1
    have hm' : 0 ≤ s'.toInt ∧ s'.toInt < mN 57 := by rw [show mN 57 = 3 from rfl]; exact hsl'.1
    rcases sl with ⟨j, hj, hsj, h57, c, m⟩ | ⟨j, hp, fs, oc, tot, os, ws, hj, hsj, r1, r2, rn, c, m⟩
    · refine Or.inr ⟨2, 0, m_sV S 0 2, 14, by decide, ?_, ?_, rfl, ag_0⟩
      · simp [C199, ck, J200_29, C191, b1, k5, c, tc, th, gC_new]
      · simp only [M299, m, b3, cond_false, hsl'.2, mg, b1, cond_true, if_pos hm, show s.toInt.toNat = j by omega, h57, b2, J299_46, J299_51, l2, Option.bind_some]
    · rcases sl' with ⟨j', hj', hsj', h57', c', m'⟩ | ⟨j', hp', fs', oc', tot', os', ws', hj', hsj', r1', r2', rn', c', m'⟩
      · refine Or.inr ⟨2, 0, m_sV S 0 2, 14, by decide, ?_, ?_, rfl, ag_0⟩
        · simp [C199, ck, J200_29, C191, b1, k5, c, c', tc, th, gC_new]
        · simp only [M299, m, b3, cond_false, m', mg, b1, cond_true, if_pos hm, if_pos hm', show s.toInt.toNat = j by omega, show s'.toInt.toNat = j' by omega, r2.2.1, h57', b0, J299_46, J299_51, l2, Option.bind_some]
      · have hoc := r1.2.2.2.2.2
        have hoc' := r1'.2.2.2.2.2
        have x1 : L200_52 xt ct O N (g, z + 54 + 3 * j, z + 54 + 3 * j', 0, 0, H) = some (.inl (cou g j j' oc' S oc 0 0), H) := t_lp_more _ _ _ (by omega) (L200_52_do (xt := xt) (ct := ct) (O := O) (N := N) hN r1 r2 rn r1' r2' rn' oc 0 0 (by omega))
        have h64 : (64 * s) = Int32.ofNat (64 * j + 0) := i_eq (by
          have e : (64 : Int32).toInt = 64 := rfl
          rw [i_mul (by rw [e]; omega) (by rw [e]; omega), e, hsj]
          omega)
        have x2 : L299_72 N (s, s', g, 0, 64 * s, m_sV S 0 0) = some (cou g j j' oc' S oc 0 0, m_sV S 0 0) := by
          rw [h64]
          exact t_lp_more _ _ _ (by omega) (L299_72_do (N := N) hN hsj hj hoc r2 hsj' hj' hoc' r2' oc 0 0 (by omega))
        refine Or.inl ⟨cou g j j' oc' S oc 0 0, m_sV S 0 0, ?_, ?_, rfl, ag_0⟩
        · simp only [C199, ck, J200_29, C191, b1, cond_true, k5, c, c', tc, th, x1, out_put ho, Option.bind_some]
        · simp only [M299, m, b3, cond_false, m', mg, b1, cond_true, if_pos hm, if_pos hm', show s.toInt.toNat = j by omega, show s'.toInt.toNat = j' by omega, r2.2.1, r2'.2.1, J299_51, l0, x2, Option.bind_some]
  · rw [if_neg hg] at mg
    refine no ?_ ?_
    · cases c1 : mj_c2 .lt g (-1) with
      | true => simp only [C200, c1, cond_true, J200_28]
      | false =>
        have d1 := of_decide_eq_false c1
        rw [Int32.lt_iff_toInt_lt, q_m1] at d1
        have c2 : mj_c2 .gt g 1 = true := i_c2 (by show decide _ = true; apply decide_eq_true; rw [q_1]; omega)
        simp only [C200, c1, c2, cond_false, cond_true, J200_28]
    · have m := M210_do (N := N) (S := S) (s := s)
      have m' := M210_do (N := N) (S := S) (s := s')
      by_cases h1 : 0 ≤ s.toInt ∧ s.toInt < 3
      · rw [if_pos h1] at m
        by_cases h2 : 0 ≤ s'.toInt ∧ s'.toInt < 3
        · rw [if_pos h2] at m'
          simp only [M299, m, b3, cond_false, m', mg, b0, J299_24, J299_51, l1, Option.bind_some]
        · rw [if_neg h2] at m'
          simp only [M299, m, b3, cond_false, m', b2, cond_true, J299_24, J299_51, l1, Option.bind_some]
      · rw [if_neg h1] at m
        simp only [M299, m, b2, cond_true, J299_24, J299_51, l1, cond_false, Option.bind_some]
end CMR
