/-! MOMENT -/
/-- the sum of the n terms from i on -/
def mo (k : Int32) (j : Nat) (S : mS) : Nat → Nat → Int64 → Int64
  | 0, _, acc => acc
  | n + 1, i, acc => mo k j S n (i + 1) (acc + S.2.2 60 (64 * j + i) * (if k = 1 then (S.2.1 59 (64 * j + i)).toInt64 else (S.2.1 59 (64 * j + i)).toInt64 * (S.2.1 59 (64 * j + i)).toInt64))
section MOM
variable {xt : mj_X} {ct : Nat → Value} {O : OR} {N z : Nat} {H : mj_H} {S : mS}
theorem L190_do {j oc : Nat} {hp : Int32} {fs : Option Nat} {tot : Int64} {os ws : List Value} {k : Int32} (r1 : slR z j H hp fs oc tot os ws) (r2 : rsV j oc tot os ws S) : ∀ (n i : Nat) (acc : Int64), i + n = oc → t_lp (B190_30 xt ct O N) (n + 1) (k, z + 54 + 3 * j, acc, Int32.ofNat i, H) = some (.inl (mo k j S n i acc), H) := by
  have hoc := r1.2.2.2.2.2
  have g4 : gI H (z + 54 + 3 * j) 4 4 = some (Int32.ofNat oc) := gI_of r1.1 rfl
  have g0 : gA H (z + 54 + 3 * j) 4 0 = some (z + 55 + 3 * j) := gA_of r1.1 rfl
  have g1 : gA H (z + 54 + 3 * j) 4 1 = some (z + 56 + 3 * j) := gA_of r1.1 rfl
  have e0 : ∀ i, i ≤ 64 → (Int32.ofNat i).toInt = i := fun i hi => i_nat (by omega)
  intro n
  induction n with
  | zero =>
    intro i acc hi
    have b : mj_c2 .ge (Int32.ofNat i) (Int32.ofNat oc) = true := i_c2 (by show decide _ = true; apply decide_eq_true; rw [e0 i (by omega), e0 oc hoc]; omega)
    rw [t_lp]
    simp only [B190_30, g4, b, cond_true, Option.bind_some, mo]
  | succ n ih =>
    intro i acc hi
    have b : mj_c2 .ge (Int32.ofNat i) (Int32.ofNat oc) = false := i_c2 (by show decide _ = false; apply decide_eq_false; rw [e0 i (by omega), e0 oc hoc]; omega)
    have hv := r2.2.2.2.2 i (by omega)
    have hin : (Int32.ofNat i).toInt.toNat = i := by rw [e0 i (by omega)]; omega
    have h0 : 0 ≤ (Int32.ofNat i).toInt := by rw [e0 i (by omega)]; omega
    have a : aI xt H (z + 55 + 3 * j) (Int32.ofNat i) = some (S.2.1 59 (64 * j + i)) := aI_of r1.2.1 h0 (by rw [hin]; exact hv.1)
    have a2 : aL xt H (z + 56 + 3 * j) (Int32.ofNat i) = some (S.2.2 60 (64 * j + i)) := aL_of r1.2.2.1 h0 (by rw [hin]; exact hv.2)
    have fB : B190_30 xt ct O N (k, z + 54 + 3 * j, acc, Int32.ofNat i, H) = some (.inl (k, z + 54 + 3 * j, acc + S.2.2 60 (64 * j + i) * (if k = 1 then (S.2.1 59 (64 * j + i)).toInt64 else (S.2.1 59 (64 * j + i)).toInt64 * (S.2.1 59 (64 * j + i)).toInt64), Int32.ofNat (i + 1), H)) := by
      by_cases hk : k = 1
      · have bk : mj_c2 .ne k 1 = false := decide_eq_false (fun z => z hk)
        simp only [B190_30, g4, b, cond_false, g0, g1, a, a2, bk, if_pos hk, J190_73, i_inc (k := i) (by omega), Option.bind_some]
      · have bk : mj_c2 .ne k 1 = true := decide_eq_true hk
        simp only [B190_30, g4, b, cond_false, g0, g1, a, a2, bk, cond_true, if_neg hk, J190_73, i_inc (k := i) (by omega), Option.bind_some]
    rw [t_lp, fB]
    exact ih (i + 1) _ (by omega)
theorem L295_do {j oc : Nat} {tot : Int64} {os ws : List Value} {s k : Int32} (hs : s.toInt = j) (hj : j < 3) (hoc : oc ≤ 64) (r2 : rsV j oc tot os ws S) : ∀ (n i : Nat) (acc : Int64), i + n = oc → t_lp (B295_46 N) (n + 1) (s, k, acc, Int32.ofNat (64 * j + i), m_sV S 0 0) = some (mo k j S n i acc, m_sV S 0 0) := by
  have e0 : ∀ i, i ≤ 1000 → (Int32.ofNat i).toInt = i := fun i hi => i_nat (by omega)
  have b0 : mj_c1 .ne 0 = false := by decide
  have hm : 0 ≤ s.toInt ∧ s.toInt < mN 58 := by rw [show mN 58 = 3 from rfl]; omega
  have hsn : s.toInt.toNat = j := by omega
  have hend : (64 * s + Int32.ofNat oc).toInt = 64 * j + oc := by
    have e : (64 : Int32).toInt = 64 := rfl
    rw [i_add (by rw [i_mul (by rw [e]; omega) (by rw [e]; omega), e, e0 oc (by omega)]; omega) (by rw [i_mul (by rw [e]; omega) (by rw [e]; omega), e, e0 oc (by omega)]; omega), i_mul (by rw [e]; omega) (by rw [e]; omega), e, hs, e0 oc (by omega)]
  have hc : (m_sV S 0 0).2.1 58 j = Int32.ofNat oc := r2.2.2.1
  have ht : (m_sV S 0 0).1 0 = 0 := rfl
  intro n
  induction n with
  | zero =>
    intro i acc hi
    have b : mj_c2 .ge (Int32.ofNat (64 * j + i)) (64 * s + Int32.ofNat oc) = true := i_c2 (by show decide _ = true; apply decide_eq_true; rw [e0 _ (by omega), hend]; omega)
    rw [t_lp]
    simp only [B295_46, ht, b0, cond_false, if_pos hm, hsn, hc, b, cond_true, J295_111, Option.map_some, mo]
  | succ n ih =>
    intro i acc hi
    have b : mj_c2 .ge (Int32.ofNat (64 * j + i)) (64 * s + Int32.ofNat oc) = false := i_c2 (by show decide _ = false; apply decide_eq_false; rw [e0 _ (by omega), hend]; omega)
    have hin : (Int32.ofNat (64 * j + i)).toInt.toNat = 64 * j + i := by rw [e0 _ (by omega)]; omega
    have m59 : 0 ≤ (Int32.ofNat (64 * j + i)).toInt ∧ (Int32.ofNat (64 * j + i)).toInt < mN 59 := by rw [show mN 59 = 192 from rfl, e0 _ (by omega)]; omega
    have m60 : 0 ≤ (Int32.ofNat (64 * j + i)).toInt ∧ (Int32.ofNat (64 * j + i)).toInt < mN 60 := by rw [show mN 60 = 192 from rfl, e0 _ (by omega)]; omega
    have fB : B295_46 N (s, k, acc, Int32.ofNat (64 * j + i), m_sV S 0 0) = some (.inl (s, k, acc + S.2.2 60 (64 * j + i) * (if k = 1 then (S.2.1 59 (64 * j + i)).toInt64 else (S.2.1 59 (64 * j + i)).toInt64 * (S.2.1 59 (64 * j + i)).toInt64), Int32.ofNat (64 * j + (i + 1)), m_sV S 0 0)) := by
      have q59 : ∀ p, (m_sV S 0 0).2.1 59 p = S.2.1 59 p := fun _ => rfl
      have q60 : ∀ p, (m_sV S 0 0).2.2 60 p = S.2.2 60 p := fun _ => rfl
      have qi := i_inc (k := 64 * j + i) (by omega)
      by_cases hk : k = 1
      · have bk : mj_c2 .ne k 1 = false := decide_eq_false (fun z => z hk)
        simp only [B295_46, ht, b0, cond_false, if_pos hm, if_pos m59, if_pos m60, hsn, hin, hc, b, bk, q59, q60, if_pos hk, J295_102, qi]
        rfl
      · have bk : mj_c2 .ne k 1 = true := decide_eq_true hk
        simp only [B295_46, ht, b0, cond_false, if_pos hm, if_pos m59, if_pos m60, hsn, hin, hc, b, bk, cond_true, q59, q60, if_neg hk, J295_102, qi]
        rfl
    rw [t_lp, fB]
    exact ih (i + 1) _ (by omega)
end MOM
