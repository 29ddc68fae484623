/-! MILLIONTHS -/
theorem lc_ne {x y : Int64} : mj_c1 .ne (lg_cmp x y) = decide (x.toInt ≠ y.toInt) := by
  apply decide_eq_decide.mpr
  have e : lg_cmp x y = 0 ↔ x = y := by
    unfold lg_cmp
    by_cases h : x > y
    · rw [if_pos h]
      constructor
      · intro q
        exact absurd q (by decide)
      · intro q
        subst q
        exact absurd h Int64.lt_irrefl
    · rw [if_neg h]
      by_cases h2 : x = y
      · rw [if_pos h2]
        exact ⟨fun _ => h2, fun _ => rfl⟩
      · rw [if_neg h2]
        exact ⟨fun q => absurd q (by decide), fun q => absurd q h2⟩
  rw [e, ← Int64.toInt_inj]
theorem j_div {x y : Int64} (hx : 0 ≤ x.toInt) (hy : 0 < y.toInt) : (x / y).toInt = x.toInt / y.toInt := by
  rw [Int64.toInt_div, Int.tdiv_eq_ediv_of_nonneg hx]
  have h1 : 0 ≤ x.toInt / y.toInt := Int.ediv_nonneg hx (by omega)
  have h2 : x.toInt / y.toInt ≤ x.toInt := Int.ediv_le_self _ hx
  have h3 := Int64.toInt_lt x
  exact j_bm (by omega) (by omega)
theorem wsum_one {S : mS} {j oc : Nat} (hp : ∀ i, i < oc → 0 < (S.2.2 60 (64 * j + i)).toInt) {k : Nat} (hk : k < oc) : (S.2.2 60 (64 * j + k)).toInt ≤ wsum S j oc := by
  have h1 := wsum_le hp k (by omega)
  have h2 := wsum_le hp (k + 1) (by omega)
  have h3 : wsum S j (k + 1) = wsum S j k + (S.2.2 60 (64 * j + k)).toInt := rfl
  omega
section MIL
variable {xt : mj_X} {ct : Nat → Value} {O : OR} {N z : Nat} {H : mj_H} {S : mS}
/-- what both answer -/
def mil (A t : Int64) : Int32 := (bif mj_c1 .gt (lg_cmp (2 * (A - A / t * t)) t) then A / t + 1 else bif mj_c1 .ne (lg_cmp (2 * (A - A / t * t)) t) then A / t else bif mj_c1 .ne (lg_cmp (A / t - A / t / 2 * 2) 1) then A / t else A / t + 1).toInt32
theorem millionths_call (hx : cx z H) (hs : cSl z H S) (ho : cout z H) (s i : Int32) : cl_I z H S (C192 xt ct O N (z + 1) s i (z + 106) H) (M296 N s i S) := by
  have k5 : gK H (z + 1) 5 = some () := gK_of hx
  have b0 : mj_c1 .le 0 = true := by decide
  rcases out_both (xt := xt) (ct := ct) (O := O) (N := N) hx hs s i with ⟨j, hp, fs, oc, tot, os, ws, k, hj, hsj, r1, r2, rn, hi, hk, c, m⟩ | ⟨code, ci, hc, c, m⟩
  · have hoc := r1.2.2.2.2.2
    have g1 : gA H (z + 54 + 3 * j) 4 1 = some (z + 56 + 3 * j) := gA_of r1.1 rfl
    have g5 : gL H (z + 54 + 3 * j) 4 5 = some tot := gL_of r1.1 rfl
    have hv := (r2.2.2.2.2 k hk).2
    have a : aL xt H (z + 56 + 3 * j) i = some (S.2.2 60 (64 * j + k)) := aL_of r1.2.2.1 (by omega) (by rw [show i.toInt.toNat = k by omega]; exact hv)
    have h64 := i_64 hsj hj hi (by omega)
    have hm : 0 ≤ (64 * s + i).toInt ∧ (64 * s + i).toInt < mN 60 := by rw [show mN 60 = 192 from rfl]; omega
    have hm2 : 0 ≤ s.toInt ∧ s.toInt < mN 61 := by rw [show mN 61 = 3 from rfl]; omega
    have hj2 : s.toInt.toNat = j := by omega
    have hn : (64 * s + i).toInt.toNat = 64 * j + k := by omega
    have t61 : S.2.2 61 j = tot := r2.2.2.2.1
    have p1 := rn.1 k hk
    have p2 := wsum_one rn.1 hk
    have p3 := rn.2.1
    have p4 := rn.2.2.1
    have hne : tot ≠ 0 := fun q => by rw [q] at p3; rw [show (0 : Int64).toInt = 0 from rfl] at p3; omega
    obtain ⟨W, hW⟩ : ∃ W, S.2.2 60 (64 * j + k) = W := ⟨_, rfl⟩
    rw [hW] at p1 p2 a
    have e6 : (1000000 : Int64).toInt = 1000000 := rfl
    have eA : (W * 1000000).toInt = W.toInt * 1000000 := by rw [j_mul (by rw [e6]; omega) (by rw [e6]; omega), e6]
    obtain ⟨A, hA⟩ : ∃ A, W * 1000000 = A := ⟨_, rfl⟩
    rw [hA] at eA
    have eq : (A / tot).toInt = A.toInt / tot.toInt := j_div (by omega) (by omega)
    have d1 : 0 ≤ A.toInt / tot.toInt := Int.ediv_nonneg (by omega) (by omega)
    have d2 : A.toInt / tot.toInt * tot.toInt ≤ A.toInt := Int.ediv_mul_le _ (by omega)
    have d3 : A.toInt < (A.toInt / tot.toInt + 1) * tot.toInt := Int.lt_ediv_add_one_mul_self _ (by omega)
    have d4 : 0 ≤ A.toInt / tot.toInt * tot.toInt := Int.mul_nonneg d1 (by omega)
    have eM : (A / tot * tot).toInt = A.toInt / tot.toInt * tot.toInt := by rw [j_mul (by rw [eq]; omega) (by rw [eq]; omega), eq]
    have eR : (A - A / tot * tot).toInt = A.toInt - A.toInt / tot.toInt * tot.toInt := by rw [j_sub (by rw [eM]; omega) (by rw [eM]; omega), eM]
    rw [Int.add_mul, Int.one_mul] at d3
    obtain ⟨R, hR⟩ : ∃ R, A - A / tot * tot = R := ⟨_, rfl⟩
    rw [hR] at eR
    have r0 : 0 ≤ R.toInt ∧ R.toInt < tot.toInt := by omega
    have e2 : (2 : Int64).toInt = 2 := rfl
    have eT : (2 * R).toInt = 2 * R.toInt := by rw [j_mul (by rw [e2]; omega) (by rw [e2]; omega), e2]
    have eO : (tot - R).toInt = tot.toInt - R.toInt := j_sub (by omega) (by omega)
    -- the conditions agree
    have q1 : mj_c1 .gt (lg_cmp R (tot - R)) = mj_c1 .gt (lg_cmp (2 * R) tot) := by
      rw [lc_gt, lc_gt, eT, eO]
      apply decide_eq_decide.mpr
      omega
    have q2 : mj_c1 .ne (lg_cmp R (tot - R)) = mj_c1 .ne (lg_cmp (2 * R) tot) := by
      rw [lc_ne, lc_ne, eT, eO]
      apply decide_eq_decide.mpr
      omega
    refine Or.inl ⟨mil A tot, m_sV S 0 0, ?_, ?_, rfl, ag_0⟩
    · cases c1 : mj_c1 .le (lg_cmp tot 1) with
      | true =>
        have h1 := of_decide_eq_true (lc_le.symm.trans c1)
        rw [show (1 : Int64).toInt = 1 from rfl] at h1
        have ht : tot = 1 := Int64.toInt_inj.mp (show tot.toInt = (1 : Int64).toInt by rw [show (1 : Int64).toInt = 1 from rfl]; omega)
        have hw : W = 1 := Int64.toInt_inj.mp (show W.toInt = (1 : Int64).toInt by rw [show (1 : Int64).toInt = 1 from rfl]; omega)
        have hmil : mil A tot = 1000000 := by
          rw [← hA, hw, ht]
          decide
        rw [hmil]
        simp only [C192, C193, k5, c, tc, th, g5, c1, cond_true, J193_38, out_put ho, Option.bind_some]
      | false =>
        have z0 : mj_c1 .gt (lg_cmp tot 0) = true := by
          rw [lc_gt, show (0 : Int64).toInt = 0 from rfl]
          exact decide_eq_true (by omega)
        have c194 : C194 xt ct O N A tot H = some (mil A tot, H) := by
          unfold C194 mil
          rw [z0, hR]
          show (if tot ≠ 0 then _ else none) = _
          rw [if_pos hne]
          cases mj_c1 .gt (lg_cmp (2 * R) tot) with
          | true => rfl
          | false =>
            cases mj_c1 .ne (lg_cmp (2 * R) tot) with
            | true => rfl
            | false => cases mj_c1 .ne (lg_cmp (A / tot - A / tot / 2 * 2) 1) <;> rfl
        simp only [C192, C193, k5, c, tc, th, g5, c1, cond_false, g1, a, hA, c194, J193_38, out_put ho, Option.bind_some]
    · have mm : M296 N s i S = (bif mj_c1 .gt (lg_cmp (2 * R) tot) then J296_96 N (A / tot) (m_sV S 0 0) else bif mj_c1 .ne (lg_cmp (2 * R) tot) then J296_103 N (A / tot) (m_sV S 0 0) else bif mj_c1 .ne (lg_cmp (A / tot - A / tot / 2 * 2) 1) then J296_103 N (A / tot) (m_sV S 0 0) else J296_96 N (A / tot) (m_sV S 0 0)) := by
        simp only [M296, m, b0, cond_true, if_pos hm, if_pos hm2, hj2, hn, t61, hW, hA, if_pos hne, hR, q1, q2, Option.bind_some]
      rw [mm]
      unfold mil
      rw [hR]
      cases mj_c1 .gt (lg_cmp (2 * R) tot) with
      | true => rfl
      | false =>
        cases mj_c1 .ne (lg_cmp (2 * R) tot) with
        | true => rfl
        | false => cases mj_c1 .ne (lg_cmp (A / tot - A / tot / 2 * 2) 1) <;> rfl
  · have hcl := code3 hc
    refine Or.inr ⟨code, 0, m_sV S 0 code, ci, hcl.2, ?_, ?_, rfl, ag_0⟩
    · rcases hc with ⟨rfl, rfl⟩ | ⟨rfl, rfl⟩ | ⟨rfl, rfl⟩ <;> simp [C192, C193, k5, c, tc, th, gC_new]
    · simp only [M296, m, hcl.1, cond_false, Option.bind_some]
end MIL
