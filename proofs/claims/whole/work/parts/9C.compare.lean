section CMQ
variable {xt : mj_X} {ct : Nat → Value} {O : OR} {N z : Nat} {H : mj_H} {S : mS}
theorem i_end {s : Int32} {j oc : Nat} (hs : s.toInt = j) (hj : j < 3) (hoc : oc ≤ 64) : (64 * s + Int32.ofNat oc).toInt = 64 * j + oc := by
  have e : (64 : Int32).toInt = 64 := rfl
  have e1 : (Int32.ofNat oc).toInt = oc := i_nat (by omega)
  rw [i_add (by rw [i_mul (by rw [e]; omega) (by rw [e]; omega), e]; omega) (by rw [i_mul (by rw [e]; omega) (by rw [e]; omega), e]; omega), i_mul (by rw [e]; omega) (by rw [e]; omega), e, hs, e1]
theorem L299_94_do {j b oc2 : Nat} {tot2 : Int64} {os2 ws2 : List Value} {s s' g : Int32} {k : Nat} (hj : j < 3) (hk : k < 64) (hb : s'.toInt = b) (hb3 : b < 3) (hoc2 : oc2 ≤ 64) (s2 : rsV b oc2 tot2 os2 ws2 S) : ∀ (n i : Nat) (acc : Int64), i + n = oc2 → t_lp (B299_94 N) (n + 1) (s, s', g, acc, Int32.ofNat (64 * j + k), Int32.ofNat (64 * b + i), m_sV S 0 0) = some (.inl (s, s', g, cin g (64 * j + k) b S n i acc, Int32.ofNat (64 * j + (k + 1)), m_sV S 0 0)) := by
  have e0 : ∀ i, i ≤ 1000 → (Int32.ofNat i).toInt = i := fun i hi => i_nat (by omega)
  have hm : 0 ≤ s'.toInt ∧ s'.toInt < mN 58 := by rw [show mN 58 = 3 from rfl]; omega
  have hsn : s'.toInt.toNat = b := by omega
  have hc : (m_sV S 0 0).2.1 58 b = Int32.ofNat oc2 := s2.2.2.1
  have hend := i_end hb hb3 hoc2
  have n6 : (Int32.ofNat (64 * j + k)).toInt.toNat = 64 * j + k := by rw [e0 _ (by omega)]; omega
  have a59 : 0 ≤ (Int32.ofNat (64 * j + k)).toInt ∧ (Int32.ofNat (64 * j + k)).toInt < mN 59 := by rw [show mN 59 = 192 from rfl, e0 _ (by omega)]; omega
  have a60 : 0 ≤ (Int32.ofNat (64 * j + k)).toInt ∧ (Int32.ofNat (64 * j + k)).toInt < mN 60 := by rw [show mN 60 = 192 from rfl, e0 _ (by omega)]; omega
  have q59 : ∀ p, (m_sV S 0 0).2.1 59 p = S.2.1 59 p := fun _ => rfl
  have q60 : ∀ p, (m_sV S 0 0).2.2 60 p = S.2.2 60 p := fun _ => rfl
  intro n
  induction n with
  | zero =>
    intro i acc hi
    have bb : mj_c2 .ge (Int32.ofNat (64 * b + i)) (64 * s' + Int32.ofNat oc2) = true := i_c2 (by show decide _ = true; apply decide_eq_true; rw [e0 _ (by omega), hend]; omega)
    have qi := i_inc (k := 64 * j + k) (by omega)
    rw [t_lp]
    simp only [B299_94, if_pos hm, hsn, hc, bb, cond_true, qi, cin]
    rfl
  | succ n ih =>
    intro i acc hi
    have bb : mj_c2 .ge (Int32.ofNat (64 * b + i)) (64 * s' + Int32.ofNat oc2) = false := i_c2 (by show decide _ = false; apply decide_eq_false; rw [e0 _ (by omega), hend]; omega)
    have n7 : (Int32.ofNat (64 * b + i)).toInt.toNat = 64 * b + i := by rw [e0 _ (by omega)]; omega
    have b59 : 0 ≤ (Int32.ofNat (64 * b + i)).toInt ∧ (Int32.ofNat (64 * b + i)).toInt < mN 59 := by rw [show mN 59 = 192 from rfl, e0 _ (by omega)]; omega
    have b60 : 0 ≤ (Int32.ofNat (64 * b + i)).toInt ∧ (Int32.ofNat (64 * b + i)).toInt < mN 60 := by rw [show mN 60 = 192 from rfl, e0 _ (by omega)]; omega
    have qi := i_inc (k := 64 * b + i) (by omega)
    have fJ : ∀ s0 : Int32, J299_153 N s s' g acc (Int32.ofNat (64 * j + k)) (Int32.ofNat (64 * b + i)) s0 (m_sV S 0 0) = some (.inl (s, s', g, (if s0 = g then acc + S.2.2 60 (64 * j + k) * S.2.2 60 (64 * b + i) else acc), Int32.ofNat (64 * j + k), Int32.ofNat (64 * b + (i + 1)), m_sV S 0 0)) := by
      intro s0
      by_cases hg : s0 = g
      · have bk : mj_c2 .ne s0 g = false := decide_eq_false (fun z => z hg)
        simp only [J299_153, bk, cond_false, if_pos a60, if_pos b60, n6, n7, q60, if_pos hg, J299_184, qi]
        rfl
      · have bk : mj_c2 .ne s0 g = true := decide_eq_true hg
        simp only [J299_153, bk, cond_true, if_neg hg, J299_184, qi]
        rfl
    have fB : B299_94 N (s, s', g, acc, Int32.ofNat (64 * j + k), Int32.ofNat (64 * b + i), m_sV S 0 0) = J299_153 N s s' g acc (Int32.ofNat (64 * j + k)) (Int32.ofNat (64 * b + i)) (sgn (S.2.1 59 (64 * j + k)) (S.2.1 59 (64 * b + i))) (m_sV S 0 0) := by
      unfold sgn
      by_cases h1 : (S.2.1 59 (64 * j + k)).toInt < (S.2.1 59 (64 * b + i)).toInt
      · have c1 : mj_c2 .ge (S.2.1 59 (64 * j + k)) (S.2.1 59 (64 * b + i)) = false := i_c2 (by show decide _ = false; apply decide_eq_false; omega)
        simp only [B299_94, if_pos hm, hsn, hc, bb, cond_false, if_pos a59, if_pos b59, n6, n7, q59, c1, if_pos h1]
      · have c1 : mj_c2 .ge (S.2.1 59 (64 * j + k)) (S.2.1 59 (64 * b + i)) = true := i_c2 (by show decide _ = true; apply decide_eq_true; omega)
        by_cases h2 : (S.2.1 59 (64 * j + k)).toInt ≠ (S.2.1 59 (64 * b + i)).toInt
        · have c2 : mj_c2 .ne (S.2.1 59 (64 * j + k)) (S.2.1 59 (64 * b + i)) = true := i_c2 (by show decide _ = true; apply decide_eq_true; omega)
          simp only [B299_94, if_pos hm, hsn, hc, bb, cond_false, if_pos a59, if_pos b59, n6, n7, q59, c1, cond_true, c2, if_neg h1, if_pos h2]
        · have c2 : mj_c2 .ne (S.2.1 59 (64 * j + k)) (S.2.1 59 (64 * b + i)) = false := i_c2 (by show decide _ = false; apply decide_eq_false; omega)
          simp only [B299_94, if_pos hm, hsn, hc, bb, cond_false, if_pos a59, if_pos b59, n6, n7, q59, c1, cond_true, c2, if_neg h1, if_neg h2]
    rw [t_lp, fB, fJ]
    exact ih (i + 1) _ (by omega)
theorem L299_72_do (hN : 100 ≤ N) {j oc b oc2 : Nat} {tot tot2 : Int64} {os ws os2 ws2 : List Value} {s s' g : Int32} (hs : s.toInt = j) (hj : j < 3) (hoc : oc ≤ 64) (r2 : rsV j oc tot os ws S) (hb : s'.toInt = b) (hb3 : b < 3) (hoc2 : oc2 ≤ 64) (s2 : rsV b oc2 tot2 os2 ws2 S) : ∀ (n i : Nat) (acc : Int64), i + n = oc → t_lp (B299_72 N) (n + 1) (s, s', g, acc, Int32.ofNat (64 * j + i), m_sV S 0 0) = some (cou g j b oc2 S n i acc, m_sV S 0 0) := by
  have e0 : ∀ i, i ≤ 1000 → (Int32.ofNat i).toInt = i := fun i hi => i_nat (by omega)
  have hm : 0 ≤ s.toInt ∧ s.toInt < mN 58 := by rw [show mN 58 = 3 from rfl]; omega
  have hsn : s.toInt.toNat = j := by omega
  have hc : (m_sV S 0 0).2.1 58 j = Int32.ofNat oc := r2.2.2.1
  have hend := i_end hs hj hoc
  have h64 : (64 * s') = Int32.ofNat (64 * b + 0) := i_eq (by
    have e : (64 : Int32).toInt = 64 := rfl
    rw [i_mul (by rw [e]; omega) (by rw [e]; omega), e, hb]
    omega)
  intro n
  induction n with
  | zero =>
    intro i acc hi
    have bb : mj_c2 .ge (Int32.ofNat (64 * j + i)) (64 * s + Int32.ofNat oc) = true := i_c2 (by show decide _ = true; apply decide_eq_true; rw [e0 _ (by omega), hend]; omega)
    rw [t_lp]
    simp only [B299_72, if_pos hm, hsn, hc, bb, cond_true, cou]
  | succ n ih =>
    intro i acc hi
    have bb : mj_c2 .ge (Int32.ofNat (64 * j + i)) (64 * s + Int32.ofNat oc) = false := i_c2 (by show decide _ = false; apply decide_eq_false; rw [e0 _ (by omega), hend]; omega)
    have l : L299_94 N (s, s', g, acc, Int32.ofNat (64 * j + i), 64 * s', m_sV S 0 0) = some (.inl (s, s', g, cin g (64 * j + i) b S oc2 0 acc, Int32.ofNat (64 * j + (i + 1)), m_sV S 0 0)) := by
      rw [h64]
      exact t_lp_more _ _ _ (by omega) (L299_94_do (N := N) hj (show i < 64 by omega) hb hb3 hoc2 s2 oc2 0 acc (by omega))
    have fB : B299_72 N (s, s', g, acc, Int32.ofNat (64 * j + i), m_sV S 0 0) = some (.inl (s, s', g, cin g (64 * j + i) b S oc2 0 acc, Int32.ofNat (64 * j + (i + 1)), m_sV S 0 0)) := by
      simp only [B299_72, if_pos hm, hsn, hc, bb, cond_false, l]
    rw [t_lp, fB]
    exact ih (i + 1) _ (by omega)
end CMQ
