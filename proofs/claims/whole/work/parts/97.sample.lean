section SMC
variable {xt : mj_X} {ct : Nat → Value} {O : OR} {N z : Nat} {H : mj_H} {S : mS}
theorem sample_call (hN : 100 ≤ N) (hx : cx z H) (hs : cSl z H S) (ho : cout z H) (s : Int32) (p : Int64) : cl_I z H S (C197 xt ct O N (z + 1) s p (z + 106) H) (M298 N s p S) := by
  have k5 : gK H (z + 1) 5 = some () := gK_of hx
  have b0 : mj_c1 .ne 0 = false := by decide
  have b1 : mj_c1 .le 0 = true := by decide
  have b3 : mj_c1 .le 3 = false := by decide
  have z0 : (0 : Int64).toInt = 0 := rfl
  rcases res_both (xt := xt) (ct := ct) (O := O) (N := N) hx hs s with ⟨j, hp, fs, oc, tot, os, ws, hj, hsj, r1, r2, rn, c, m⟩ | ⟨code, ci, hc, c, m⟩
  · have hoc := r1.2.2.2.2.2
    have ho1 := r2.1
    have g5 : gL H (z + 54 + 3 * j) 4 5 = some tot := gL_of r1.1 rfl
    have g1 : gA H (z + 54 + 3 * j) 4 1 = some (z + 56 + 3 * j) := gA_of r1.1 rfl
    have hm : 0 ≤ s.toInt ∧ s.toInt < mN 61 := by rw [show mN 61 = 3 from rfl]; omega
    have hj2 : s.toInt.toNat = j := by omega
    have t61 : S.2.2 61 j = tot := r2.2.2.2.1
    by_cases h1 : p.toInt < 0
    · have c1 : mj_c1 .lt (lg_cmp p 0) = true := by rw [lc_lt, z0]; exact decide_eq_true h1
      refine Or.inr ⟨3, 0, m_sV (m_sV S 0 0) 0 3, 15, by decide, ?_, ?_, rfl, m_agr_sV ag_0 (by decide) _⟩
      · simp [C197, C198, k5, c, tc, th, c1, J198_23, gC_new]
      · simp only [M298, m, b0, cond_false, c1, cond_true, J298_34, J298_42, b3, Option.bind_some]
    have c1 : mj_c1 .lt (lg_cmp p 0) = false := by rw [lc_lt, z0]; exact decide_eq_false h1
    by_cases h2 : p.toInt < tot.toInt
    · have c2 : mj_c1 .lt (lg_cmp p tot) = true := by rw [lc_lt]; exact decide_eq_true h2
      have w1 := wsum_le rn.1 1 ho1
      have w0 : wsum S j 1 = 0 + (S.2.2 60 (64 * j + 0)).toInt := rfl
      have w4 := rn.2.1
      have w5 := rn.2.2.1
      have a : aL xt H (z + 56 + 3 * j) 0 = some (S.2.2 60 (64 * j + 0)) := aL_of r1.2.2.1 (by decide) ((r2.2.2.2.2 0 (by omega)).2)
      have l1 : L198_45 xt ct O N (p, z + 54 + 3 * j, 0, S.2.2 60 (64 * j + 0), H) = some (.inl (S.2.1 59 (64 * j + smp p.toInt j S (oc - 1) 0)), H) := t_lp_more _ _ _ (by omega) (L198_do (xt := xt) (ct := ct) (O := O) (N := N) r1 r2 rn (oc - 1) 0 _ (by omega) (by rw [w0]; omega))
      have h64 : (64 * s) = Int32.ofNat (64 * j + 0) := i_eq (by
        have e : (64 : Int32).toInt = 64 := rfl
        rw [i_mul (by rw [e]; omega) (by rw [e]; omega), e, hsj]
        omega)
      have m60 : 0 ≤ (64 * s).toInt ∧ (64 * s).toInt < mN 60 := by rw [show mN 60 = 192 from rfl, h64, i_nat (by omega)]; omega
      have l2 : L298_71 N (64 * s, p - S.2.2 60 (64 * j + 0), m_sV S 0 0) = some (S.2.1 59 (64 * j + smp p.toInt j S (oc - 1) 0), m_sV S 0 0) := by
        rw [h64]
        exact t_lp_more _ _ _ (by omega) (L298_do (N := N) hj hoc r2 rn (by omega) (oc - 1) 0 _ (by omega) (by rw [j_sub (by omega) (by omega), w0]; omega))
      refine Or.inl ⟨S.2.1 59 (64 * j + smp p.toInt j S (oc - 1) 0), m_sV S 0 0, ?_, ?_, rfl, ag_0⟩
      · simp only [C197, C198, k5, c, tc, th, c1, cond_false, g5, c2, cond_true, g1, a, l1, out_put ho, Option.bind_some]
      · have q0 : (m_sV S 0 0).1 0 = 0 := rfl
        have q60 : (m_sV S 0 0).2.2 60 (64 * j + 0) = S.2.2 60 (64 * j + 0) := rfl
        have q2 : m_sV (m_sV S 0 0) 0 0 = m_sV S 0 0 := by
          unfold m_sV
          congr 1
          funext q
          by_cases e : q = 0
          · rw [if_pos e, if_pos e]
          · rw [if_neg e]
        simp only [M298, m, b0, cond_false, c1, if_pos hm, hj2, t61, c2, cond_true, J298_38, J298_42, q0, b1, if_pos m60, show (64 * s).toInt.toNat = 64 * j + 0 by rw [h64, i_nat (by omega)]; omega, q60, q2, l2, Option.bind_some]
    · have c2 : mj_c1 .lt (lg_cmp p tot) = false := by rw [lc_lt]; exact decide_eq_false h2
      refine Or.inr ⟨3, 0, m_sV (m_sV S 0 0) 0 3, 15, by decide, ?_, ?_, rfl, m_agr_sV ag_0 (by decide) _⟩
      · simp [C197, C198, k5, c, tc, th, c1, g5, c2, J198_23, gC_new]
      · simp only [M298, m, b0, cond_false, c1, if_pos hm, hj2, t61, c2, J298_34, J298_42, b3, Option.bind_some]
  · have hcl := code_le (code := code) (by rcases hc with ⟨h, -⟩ | ⟨h, -⟩ <;> simp [h])
    have hne : mj_c1 .ne code = true := decide_eq_true hcl.2
    refine Or.inr ⟨code, 0, m_sV (m_sV S 0 code) 0 code, ci, hcl.2, ?_, ?_, rfl, m_agr_sV ag_0 (by decide) _⟩
    · rcases hc with ⟨rfl, rfl⟩ | ⟨rfl, rfl⟩ <;> simp [C197, C198, k5, c, tc, th, gC_new]
    · have q0 : (m_sV S 0 code).1 0 = code := rfl
      simp only [M298, m, hne, cond_true, J298_38, J298_42, q0, hcl.1, cond_false, Option.bind_some]
end SMC
