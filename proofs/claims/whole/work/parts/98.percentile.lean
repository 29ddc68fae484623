/-! PERCENTILE -/
/-- the first place from i on, of n + 1, whose ways reach the part -/
def pct (a w t : Int) (j : Nat) (S : mS) : Nat → Nat → Nat
  | 0, i => i
  | n + 1, i => if a * t ≤ wsum S j (i + 1) * w then i else pct a w t j S n (i + 1)
theorem b_mul {x y a b : Int} (hx : 0 ≤ x ∧ x ≤ a) (hy : 0 ≤ y ∧ y ≤ b) : 0 ≤ x * y ∧ x * y ≤ a * b := ⟨Int.mul_nonneg hx.1 hy.1, Int.mul_le_mul hx.2 hy.2 hy.1 (Int.le_trans hx.1 hx.2)⟩
section PCT
variable {xt : mj_X} {ct : Nat → Value} {O : OR} {N z : Nat} {H : mj_H} {S : mS}
theorem pc_mul {u : Int64} {w : Int32} (hu : 0 ≤ u.toInt ∧ u.toInt ≤ 2147483648) (hw : 0 ≤ w.toInt ∧ w.toInt ≤ 1000) : (u * w.toInt64).toInt = u.toInt * w.toInt ∧ (w.toInt64 * u).toInt = w.toInt * u.toInt := by
  have e : w.toInt64.toInt = w.toInt := Int32.toInt_toInt64 w
  have h1 := b_mul hu hw
  have h2 := b_mul hw hu
  constructor
  · rw [j_mul (by rw [e]; omega) (by rw [e]; omega), e]
  · rw [j_mul (by rw [e]; omega) (by rw [e]; omega), e]
theorem L196_do {j oc : Nat} {hp : Int32} {fs : Option Nat} {tot : Int64} {os ws : List Value} {a w : Int32} (r1 : slR z j H hp fs oc tot os ws) (r2 : rsV j oc tot os ws S) (rn : rsN j oc tot S) (ha : 0 ≤ a.toInt ∧ a.toInt ≤ 1000) (hw : 0 ≤ w.toInt ∧ w.toInt ≤ 1000) : ∀ (n i : Nat) (u : Int64), i + n + 1 = oc → u.toInt = wsum S j (i + 1) → t_lp (B196_48 xt ct O N) (n + 1) (a, w, z + 54 + 3 * j, Int32.ofNat i, u, H) = some (.inl (S.2.1 59 (64 * j + pct a.toInt w.toInt tot.toInt j S n i)), H) := by
  have hoc := r1.2.2.2.2.2
  have g4 : gI H (z + 54 + 3 * j) 4 4 = some (Int32.ofNat oc) := gI_of r1.1 rfl
  have g5 : gL H (z + 54 + 3 * j) 4 5 = some tot := gL_of r1.1 rfl
  have g0 : gA H (z + 54 + 3 * j) 4 0 = some (z + 55 + 3 * j) := gA_of r1.1 rfl
  have g1 : gA H (z + 54 + 3 * j) 4 1 = some (z + 56 + 3 * j) := gA_of r1.1 rfl
  have e0 : ∀ i, i ≤ 64 → (Int32.ofNat i).toInt = i := fun i hi => i_nat (by omega)
  have e1 : (Int32.ofNat oc - 1).toInt = oc - 1 := by rw [i_sub (by rw [q_1, e0 oc hoc]; omega) (by rw [q_1, e0 oc hoc]; omega), q_1, e0 oc hoc]
  have w4 := rn.2.1
  have w5 := rn.2.2.1
  have fin : ∀ i, i < oc → J196_96 xt ct O N (z + 54 + 3 * j) (Int32.ofNat i) H = some (.inl (S.2.1 59 (64 * j + i)), H) := by
    intro i hi
    have a : aI xt H (z + 55 + 3 * j) (Int32.ofNat i) = some (S.2.1 59 (64 * j + i)) := aI_of r1.2.1 (by rw [e0 i (by omega)]; omega) (by rw [show (Int32.ofNat i).toInt.toNat = i by rw [e0 i (by omega)]; omega]; exact (r2.2.2.2.2 i hi).1)
    simp only [J196_96, g0, a, Option.bind_some]
  intro n
  induction n with
  | zero =>
    intro i u hi hu
    have b : mj_c2 .ge (Int32.ofNat i) (Int32.ofNat oc - 1) = true := i_c2 (by show decide _ = true; apply decide_eq_true; rw [e0 i (by omega), e1]; omega)
    rw [t_lp]
    simp only [B196_48, g4, b, cond_true, fin i (by omega), Option.bind_some, Option.map_some, pct]
  | succ n ih =>
    intro i u hi hu
    have b : mj_c2 .ge (Int32.ofNat i) (Int32.ofNat oc - 1) = false := i_c2 (by show decide _ = false; apply decide_eq_false; rw [e0 i (by omega), e1]; omega)
    have w1 := wsum_le rn.1 (i + 1) (by omega)
    have w0 := wsum_le rn.1 0 (by omega)
    have p1 := (pc_mul (u := u) (w := w) (by omega) hw).1
    have p2 := (pc_mul (u := tot) (w := a) (by omega) ha).2
    rw [t_lp, pct]
    by_cases hlt : a.toInt * tot.toInt ≤ wsum S j (i + 1) * w.toInt
    · have b2 : mj_c1 .ge (lg_cmp (u * w.toInt64) (a.toInt64 * tot)) = true := by rw [lc_ge, p1, p2, hu]; exact decide_eq_true hlt
      rw [if_pos hlt]
      simp only [B196_48, g4, b, cond_false, g5, b2, cond_true, fin i (by omega), Option.bind_some, Option.map_some]
    · have b2 : mj_c1 .ge (lg_cmp (u * w.toInt64) (a.toInt64 * tot)) = false := by rw [lc_ge, p1, p2, hu]; exact decide_eq_false hlt
      rw [if_neg hlt]
      have a2 : aL xt H (z + 56 + 3 * j) (Int32.ofNat (i + 1)) = some (S.2.2 60 (64 * j + (i + 1))) := aL_of r1.2.2.1 (by rw [e0 _ (by omega)]; omega) (by rw [show (Int32.ofNat (i + 1)).toInt.toNat = i + 1 by rw [e0 _ (by omega)]; omega]; exact (r2.2.2.2.2 (i + 1) (by omega)).2)
      have fB : B196_48 xt ct O N (a, w, z + 54 + 3 * j, Int32.ofNat i, u, H) = some (.inl (a, w, z + 54 + 3 * j, Int32.ofNat (i + 1), u + S.2.2 60 (64 * j + (i + 1)), H)) := by
        simp only [B196_48, g4, b, cond_false, g5, b2, g1, i_inc (k := i) (by omega), a2, Option.bind_some]
      rw [fB]
      refine ih (i + 1) _ (by omega) ?_
      have w2 := wsum_le rn.1 (i + 2) (by omega)
      have w3 : wsum S j (i + 2) = wsum S j (i + 1) + (S.2.2 60 (64 * j + (i + 1))).toInt := rfl
      show (u + S.2.2 60 (64 * j + (i + 1))).toInt = wsum S j (i + 2)
      rw [j_add (by omega) (by omega), hu, w3]
theorem L297_do {j oc : Nat} {tot : Int64} {os ws : List Value} {s a w : Int32} (hs : s.toInt = j) (hj : j < 3) (hoc : oc ≤ 64) (r2 : rsV j oc tot os ws S) (rn : rsN j oc tot S) (ha : 0 ≤ a.toInt ∧ a.toInt ≤ w.toInt) (hw : 0 ≤ w.toInt ∧ w.toInt ≤ 1000) : ∀ (n i : Nat) (u : Int64), i + n + 1 = oc → u.toInt = wsum S j (i + 1) → t_lp (B297_73 N) (n + 1) (s, a, w, Int32.ofNat (64 * j + i), u, m_sV S 0 0) = some (S.2.1 59 (64 * j + pct a.toInt w.toInt tot.toInt j S n i), m_sV S 0 0) := by
  have e0 : ∀ i, i ≤ 1000 → (Int32.ofNat i).toInt = i := fun i hi => i_nat (by omega)
  have hm : 0 ≤ s.toInt ∧ s.toInt < mN 61 := by rw [show mN 61 = 3 from rfl]; omega
  have hsn : s.toInt.toNat = j := by omega
  have t61 : (m_sV S 0 0).2.2 61 j = tot := r2.2.2.2.1
  have w4 := rn.2.1
  have w5 := rn.2.2.1
  have w0 := wsum_le rn.1 0 (by omega)
  have p2 := (pc_mul (u := tot) (w := a) (by omega) (by omega)).1
  have out : ∀ i u, i < oc → u.toInt = wsum S j (i + 1) → a.toInt * tot.toInt ≤ wsum S j (i + 1) * w.toInt → B297_73 N (s, a, w, Int32.ofNat (64 * j + i), u, m_sV S 0 0) = some (.inr (S.2.1 59 (64 * j + i), m_sV S 0 0)) := by
    intro i u hi hu hle
    have w1 := wsum_le rn.1 (i + 1) (by omega)
    have p1 := (pc_mul (u := u) (w := w) (by omega) hw).1
    have b : mj_c1 .ge (lg_cmp (u * w.toInt64) (tot * a.toInt64)) = true := by rw [lc_ge, p1, p2, hu, Int.mul_comm tot.toInt]; exact decide_eq_true hle
    have m59 : 0 ≤ (Int32.ofNat (64 * j + i)).toInt ∧ (Int32.ofNat (64 * j + i)).toInt < mN 59 := by rw [show mN 59 = 192 from rfl, e0 _ (by omega)]; omega
    simp only [B297_73, if_pos hm, hsn, t61, b, cond_true, if_pos m59, show (Int32.ofNat (64 * j + i)).toInt.toNat = 64 * j + i by rw [e0 _ (by omega)]; omega]
    rfl
  intro n
  induction n with
  | zero =>
    intro i u hi hu
    rw [t_lp, out i u (by omega) hu (by
      rw [show i + 1 = oc by omega, w4, Int.mul_comm tot.toInt]
      exact Int.mul_le_mul_of_nonneg_right ha.2 (by omega))]
    rfl
  | succ n ih =>
    intro i u hi hu
    have w1 := wsum_le rn.1 (i + 1) (by omega)
    have p1 := (pc_mul (u := u) (w := w) (by omega) hw).1
    rw [t_lp, pct]
    by_cases hlt : a.toInt * tot.toInt ≤ wsum S j (i + 1) * w.toInt
    · rw [if_pos hlt, out i u (by omega) hu hlt]
    · rw [if_neg hlt]
      have b : mj_c1 .ge (lg_cmp (u * w.toInt64) (tot * a.toInt64)) = false := by rw [lc_ge, p1, p2, hu, Int.mul_comm tot.toInt]; exact decide_eq_false hlt
      have qi := i_inc (k := 64 * j + i) (by omega)
      have m60 : 0 ≤ (Int32.ofNat (64 * j + i + 1)).toInt ∧ (Int32.ofNat (64 * j + i + 1)).toInt < mN 60 := by rw [show mN 60 = 192 from rfl, e0 _ (by omega)]; omega
      have fB : B297_73 N (s, a, w, Int32.ofNat (64 * j + i), u, m_sV S 0 0) = some (.inl (s, a, w, Int32.ofNat (64 * j + (i + 1)), u + S.2.2 60 (64 * j + (i + 1)), m_sV S 0 0)) := by
        simp only [B297_73, if_pos hm, hsn, t61, b, cond_false, qi, if_pos m60, show (Int32.ofNat (64 * j + i + 1)).toInt.toNat = 64 * j + (i + 1) by rw [e0 _ (by omega)]; omega]
        rfl
      rw [fB]
      refine ih (i + 1) _ (by omega) ?_
      have w2 := wsum_le rn.1 (i + 2) (by omega)
      have w3 : wsum S j (i + 2) = wsum S j (i + 1) + (S.2.2 60 (64 * j + (i + 1))).toInt := rfl
      show (u + S.2.2 60 (64 * j + (i + 1))).toInt = wsum S j (i + 2)
      rw [j_add (by omega) (by omega), hu, w3]
end PCT
