/-! LONGS THAT DO NOT WRAP ROUND; SAMPLE -/
theorem j_bm {x : Int} (h1 : -9223372036854775808 ≤ x) (h2 : x < 9223372036854775808) : Int.bmod x 18446744073709551616 = x := by
  rw [Int.bmod_def]
  split <;> omega
theorem j_add {x y : Int64} (h1 : -9223372036854775808 ≤ x.toInt + y.toInt) (h2 : x.toInt + y.toInt < 9223372036854775808) : (x + y).toInt = x.toInt + y.toInt := by
  rw [Int64.toInt_add]
  exact j_bm h1 h2
theorem j_sub {x y : Int64} (h1 : -9223372036854775808 ≤ x.toInt - y.toInt) (h2 : x.toInt - y.toInt < 9223372036854775808) : (x - y).toInt = x.toInt - y.toInt := by
  rw [Int64.toInt_sub]
  exact j_bm h1 h2
theorem j_mul {x y : Int64} (h1 : -9223372036854775808 ≤ x.toInt * y.toInt) (h2 : x.toInt * y.toInt < 9223372036854775808) : (x * y).toInt = x.toInt * y.toInt := by
  rw [Int64.toInt_mul]
  exact j_bm h1 h2
theorem lc_lt {x y : Int64} : mj_c1 .lt (lg_cmp x y) = decide (x.toInt < y.toInt) := decide_eq_decide.mpr ((lg_cmp_lt x y).trans Int64.lt_iff_toInt_lt)
theorem lc_gt {x y : Int64} : mj_c1 .gt (lg_cmp x y) = decide (y.toInt < x.toInt) := decide_eq_decide.mpr ((lg_cmp_gt x y).trans Int64.lt_iff_toInt_lt)
theorem lc_le {x y : Int64} : mj_c1 .le (lg_cmp x y) = decide (x.toInt ≤ y.toInt) := decide_eq_decide.mpr ((lg_cmp_le x y).trans Int64.le_iff_toInt_le)
theorem lc_ge {x y : Int64} : mj_c1 .ge (lg_cmp x y) = decide (y.toInt ≤ x.toInt) := decide_eq_decide.mpr ((lg_cmp_ge x y).trans Int64.le_iff_toInt_le)
theorem wsum_le {S : mS} {j oc : Nat} (hp : ∀ i, i < oc → 0 < (S.2.2 60 (64 * j + i)).toInt) : ∀ n, n ≤ oc → 0 ≤ wsum S j n ∧ wsum S j n ≤ wsum S j oc := by
  have mono : ∀ k n, n + k = oc → wsum S j n ≤ wsum S j oc := by
    intro k
    induction k with
    | zero => intro n h; rw [show n = oc by omega]; exact Int.le_refl _
    | succ k ih =>
      intro n h
      have h1 := ih (n + 1) (by omega)
      have h2 := hp n (by omega)
      rw [wsum] at h1
      omega
  have pos : ∀ n, n ≤ oc → 0 ≤ wsum S j n := by
    intro n
    induction n with
    | zero => intro _; exact Int.le_refl _
    | succ n ih =>
      intro h
      have h1 := ih (by omega)
      have h2 := hp n (by omega)
      rw [wsum]
      omega
  exact fun n h => ⟨pos n h, mono (oc - n) n (by omega)⟩
/-- the first place from i on, of n + 1, whose ways reach beyond p -/
def smp (p : Int) (j : Nat) (S : mS) : Nat → Nat → Nat
  | 0, i => i
  | n + 1, i => if p < wsum S j (i + 1) then i else smp p j S n (i + 1)
section SMP
variable {xt : mj_X} {ct : Nat → Value} {O : OR} {N z : Nat} {H : mj_H} {S : mS}
theorem L198_do {j oc : Nat} {hp : Int32} {fs : Option Nat} {tot : Int64} {os ws : List Value} {p : Int64} (r1 : slR z j H hp fs oc tot os ws) (r2 : rsV j oc tot os ws S) (rn : rsN j oc tot S) : ∀ (n i : Nat) (u : Int64), i + n + 1 = oc → u.toInt = wsum S j (i + 1) → t_lp (B198_45 xt ct O N) (n + 1) (p, z + 54 + 3 * j, Int32.ofNat i, u, H) = some (.inl (S.2.1 59 (64 * j + smp p.toInt j S n i)), H) := by
  have hoc := r1.2.2.2.2.2
  have g4 : gI H (z + 54 + 3 * j) 4 4 = some (Int32.ofNat oc) := gI_of r1.1 rfl
  have g0 : gA H (z + 54 + 3 * j) 4 0 = some (z + 55 + 3 * j) := gA_of r1.1 rfl
  have g1 : gA H (z + 54 + 3 * j) 4 1 = some (z + 56 + 3 * j) := gA_of r1.1 rfl
  have e0 : ∀ i, i ≤ 64 → (Int32.ofNat i).toInt = i := fun i hi => i_nat (by omega)
  have e1 : (Int32.ofNat oc - 1).toInt = oc - 1 := by rw [i_sub (by rw [q_1, e0 oc hoc]; omega) (by rw [q_1, e0 oc hoc]; omega), q_1, e0 oc hoc]
  have fin : ∀ i, i < oc → J198_83 xt ct O N (z + 54 + 3 * j) (Int32.ofNat i) H = some (.inl (S.2.1 59 (64 * j + i)), H) := by
    intro i hi
    have a : aI xt H (z + 55 + 3 * j) (Int32.ofNat i) = some (S.2.1 59 (64 * j + i)) := aI_of r1.2.1 (by rw [e0 i (by omega)]; omega) (by rw [show (Int32.ofNat i).toInt.toNat = i by rw [e0 i (by omega)]; omega]; exact (r2.2.2.2.2 i hi).1)
    simp only [J198_83, g0, a, Option.bind_some]
  intro n
  induction n with
  | zero =>
    intro i u hi hu
    have b : mj_c2 .ge (Int32.ofNat i) (Int32.ofNat oc - 1) = true := i_c2 (by show decide _ = true; apply decide_eq_true; rw [e0 i (by omega), e1]; omega)
    rw [t_lp]
    simp only [B198_45, g4, b, cond_true, fin i (by omega), Option.bind_some, Option.map_some, smp]
  | succ n ih =>
    intro i u hi hu
    have b : mj_c2 .ge (Int32.ofNat i) (Int32.ofNat oc - 1) = false := i_c2 (by show decide _ = false; apply decide_eq_false; rw [e0 i (by omega), e1]; omega)
    rw [t_lp, smp]
    by_cases hlt : p.toInt < wsum S j (i + 1)
    · have b2 : mj_c1 .gt (lg_cmp u p) = true := by rw [lc_gt, hu]; exact decide_eq_true hlt
      rw [if_pos hlt]
      simp only [B198_45, g4, b, cond_false, b2, cond_true, fin i (by omega), Option.bind_some, Option.map_some]
    · have b2 : mj_c1 .gt (lg_cmp u p) = false := by rw [lc_gt, hu]; exact decide_eq_false hlt
      rw [if_neg hlt]
      have a2 : aL xt H (z + 56 + 3 * j) (Int32.ofNat (i + 1)) = some (S.2.2 60 (64 * j + (i + 1))) := aL_of r1.2.2.1 (by rw [e0 _ (by omega)]; omega) (by rw [show (Int32.ofNat (i + 1)).toInt.toNat = i + 1 by rw [e0 _ (by omega)]; omega]; exact (r2.2.2.2.2 (i + 1) (by omega)).2)
      have fB : B198_45 xt ct O N (p, z + 54 + 3 * j, Int32.ofNat i, u, H) = some (.inl (p, z + 54 + 3 * j, Int32.ofNat (i + 1), u + S.2.2 60 (64 * j + (i + 1)), H)) := by
        simp only [B198_45, g4, b, cond_false, b2, g1, i_inc (k := i) (by omega), a2, Option.bind_some]
      rw [fB]
      refine ih (i + 1) _ (by omega) ?_
      have w1 := wsum_le rn.1 (i + 1) (by omega)
      have w2 := wsum_le rn.1 (i + 2) (by omega)
      have w3 : wsum S j (i + 2) = wsum S j (i + 1) + (S.2.2 60 (64 * j + (i + 1))).toInt := rfl
      have w4 := rn.2.1
      have w5 := rn.2.2.1
      show (u + S.2.2 60 (64 * j + (i + 1))).toInt = wsum S j (i + 2)
      rw [j_add (by omega) (by omega), hu, w3]
theorem L298_do {j oc : Nat} {tot : Int64} {os ws : List Value} {p : Int64} (hj : j < 3) (hoc : oc ≤ 64) (r2 : rsV j oc tot os ws S) (rn : rsN j oc tot S) (hp : 0 ≤ p.toInt ∧ p.toInt < tot.toInt) : ∀ (n i : Nat) (u : Int64), i + n + 1 = oc → u.toInt = p.toInt - wsum S j (i + 1) → t_lp (B298_71 N) (n + 1) (Int32.ofNat (64 * j + i), u, m_sV S 0 0) = some (S.2.1 59 (64 * j + smp p.toInt j S n i), m_sV S 0 0) := by
  have e0 : ∀ i, i ≤ 1000 → (Int32.ofNat i).toInt = i := fun i hi => i_nat (by omega)
  have z0 : (0 : Int64).toInt = 0 := rfl
  have out : ∀ i u, i < oc → u.toInt < 0 → B298_71 N (Int32.ofNat (64 * j + i), u, m_sV S 0 0) = some (.inr (S.2.1 59 (64 * j + i), m_sV S 0 0)) := by
    intro i u hi hu
    have b : mj_c1 .lt (lg_cmp u 0) = true := by rw [lc_lt, z0]; exact decide_eq_true hu
    have m59 : 0 ≤ (Int32.ofNat (64 * j + i)).toInt ∧ (Int32.ofNat (64 * j + i)).toInt < mN 59 := by rw [show mN 59 = 192 from rfl, e0 _ (by omega)]; omega
    simp only [B298_71, b, cond_true, if_pos m59, show (Int32.ofNat (64 * j + i)).toInt.toNat = 64 * j + i by rw [e0 _ (by omega)]; omega]
    rfl
  intro n
  induction n with
  | zero =>
    intro i u hi hu
    have w4 := rn.2.1
    rw [show i + 1 = oc by omega, w4] at hu
    rw [t_lp, out i u (by omega) (by omega)]
    rfl
  | succ n ih =>
    intro i u hi hu
    rw [t_lp, smp]
    by_cases hlt : p.toInt < wsum S j (i + 1)
    · rw [if_pos hlt, out i u (by omega) (by omega)]
    · rw [if_neg hlt]
      have b : mj_c1 .lt (lg_cmp u 0) = false := by rw [lc_lt, z0]; exact decide_eq_false (by omega)
      have qi := i_inc (k := 64 * j + i) (by omega)
      have m60 : 0 ≤ (Int32.ofNat (64 * j + i + 1)).toInt ∧ (Int32.ofNat (64 * j + i + 1)).toInt < mN 60 := by rw [show mN 60 = 192 from rfl, e0 _ (by omega)]; omega
      have fB : B298_71 N (Int32.ofNat (64 * j + i), u, m_sV S 0 0) = some (.inl (Int32.ofNat (64 * j + (i + 1)), u - S.2.2 60 (64 * j + (i + 1)), m_sV S 0 0)) := by
        simp only [B298_71, b, cond_false, qi, if_pos m60, show (Int32.ofNat (64 * j + i + 1)).toInt.toNat = 64 * j + (i + 1) by rw [e0 _ (by omega)]; omega]
        rfl
      rw [fB]
      refine ih (i + 1) _ (by omega) ?_
      have w1 := wsum_le rn.1 (i + 1) (by omega)
      have w2 := wsum_le rn.1 (i + 2) (by omega)
      have w3 : wsum S j (i + 2) = wsum S j (i + 1) + (S.2.2 60 (64 * j + (i + 1))).toInt := rfl
      have w4 := rn.2.1
      have w5 := rn.2.2.1
      show (u - S.2.2 60 (64 * j + (i + 1))).toInt = p.toInt - wsum S j (i + 2)
      rw [j_sub (by omega) (by omega), hu, w3]
      omega
end SMP
