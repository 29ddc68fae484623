section FAD
variable {xt : mj_X} {ct : Nat → Value} {O : OR} {N : Nat} {H : mj_H} {S : mS}
theorem L241_do : ∀ (k x y : Nat), x ≤ 9000000000 → y ≤ 9000000000 → y < 2 ^ k → t_lp (B241_6 N) (2 * k + 1) (Int64.ofNat x, Int64.ofNat y, S) = some (Int64.ofNat (Nat.gcd x y), S) := by
  have z0 : (0 : Int64).toInt = 0 := rfl
  have fin : ∀ n x : Nat, t_lp (B241_6 N) (n + 1) (Int64.ofNat x, Int64.ofNat 0, S) = some (Int64.ofNat (Nat.gcd x 0), S) := by
    intro n x
    rw [t_lp, Nat.gcd_zero_right]
    have b : mj_c1 .le (lg_cmp (Int64.ofNat 0) 0) = true := by decide
    simp only [B241_6, cond_true, b]
  have step : ∀ n x y : Nat, x ≤ 9000000000 → y ≤ 9000000000 → 1 ≤ y → t_lp (B241_6 N) (n + 1) (Int64.ofNat x, Int64.ofNat y, S) = t_lp (B241_6 N) n (Int64.ofNat y, Int64.ofNat (x % y), S) := by
    intro n x y hx hy hy1
    have hne : Int64.ofNat y ≠ 0 := fun q => by
      have := congrArg Int64.toInt q
      rw [j_nat (by omega), z0] at this
      omega
    have b : mj_c1 .le (lg_cmp (Int64.ofNat y) 0) = false := by
      rw [lc_le, j_nat (by omega), z0]
      exact decide_eq_false (by omega)
    rw [t_lp]
    have fB : B241_6 N (Int64.ofNat x, Int64.ofNat y, S) = some (.inl (Int64.ofNat y, Int64.ofNat (x % y), S)) := by
      simp only [B241_6, cond_false, b, if_pos hne, j_mod hx hy1 hy]
    rw [fB]
  intro k
  induction k with
  | zero =>
    intro x y hx hy hk
    have : y = 0 := by simpa using hk
    subst this
    exact fin 0 x
  | succ k ih =>
    intro x y hx hy hk
    by_cases h0 : y = 0
    · subst h0
      exact fin _ x
    · rw [show 2 * (k + 1) + 1 = (2 * k + 1 + 1) + 1 by omega, step _ x y hx hy (by omega)]
      have hr : x % y < y := Nat.mod_lt _ (by omega)
      rw [Nat.gcd_comm x y, Nat.gcd_rec y x]
      by_cases h1 : x % y = 0
      · rw [h1, Nat.gcd_zero_left]
        have := fin (2 * k + 1) y
        rw [Nat.gcd_zero_right] at this
        exact this
      · rw [step _ y (x % y) hy (by omega) (by omega)]
        have hr2 : y % (x % y) < x % y := Nat.mod_lt _ (by omega)
        have hs : y % (x % y) + x % y ≤ y := by
          have h2 := Nat.div_add_mod y (x % y)
          have h3 : 1 ≤ y / (x % y) := (Nat.le_div_iff_mul_le (by omega)).mpr (by omega)
          have h4 : x % y ≤ (x % y) * (y / (x % y)) := Nat.le_mul_of_pos_right _ (by omega)
          omega
        have hp : 2 ^ (k + 1) = 2 * 2 ^ k := by rw [Nat.pow_succ, Nat.mul_comm]
        rw [ih (x % y) (y % (x % y)) (by omega) (by omega) (by omega)]
        rw [Nat.gcd_comm (x % y) (y % (x % y)), ← Nat.gcd_rec]
theorem C114_do (hN : 2000 ≤ N) {x y : Nat} (hx : x ≤ 9000000000) (hy : y ≤ 9000000000) : C114 xt ct O N (Int64.ofNat x) (Int64.ofNat y) H = some (Int64.ofNat (Nat.gcd x y), H) := t_lp_more _ _ _ (by omega) (L114_do (xt := xt) (ct := ct) (O := O) (N := N) (H := H) 34 x y 0 hx hy (by omega) (by omega))
theorem M241_do (hN : 2000 ≤ N) {x y : Nat} (hx : x ≤ 9000000000) (hy : y ≤ 9000000000) : M241 N (Int64.ofNat x) (Int64.ofNat y) S = some (Int64.ofNat (Nat.gcd x y), S) := t_lp_more _ _ _ (by omega) (L241_do (N := N) (S := S) 34 x y hx hy (by omega))
theorem C115_do {x y : Nat} (hx : x < 9223372036854775808) (hy1 : 1 ≤ y) (hy : y < 9223372036854775808) : C115 xt ct O N (Int64.ofNat x) (Int64.ofNat y) H = some (Int64.ofNat (x / y), H) := by
  have e1 : (1 : Int64).toInt = 1 := rfl
  have z0 : (0 : Int64).toInt = 0 := rfl
  have hne : Int64.ofNat y ≠ 0 := fun q => by
    have := congrArg Int64.toInt q
    rw [j_nat hy, z0] at this
    omega
  unfold C115 J115_13
  rw [lc_le, j_nat hy, e1]
  by_cases h : y = 1
  · subst h
    rw [decide_eq_true (by omega), Nat.div_one]
    rfl
  · rw [decide_eq_false (by omega), if_pos hne, j_divn hx hy1 hy]
    rfl
/-- the least common multiple, with the same too much -/
def mlN (a b : Nat) : Nat := prN (a / Nat.gcd a b) b
theorem mlN_do (a b : Nat) (ha : 1 ≤ a ∧ a ≤ 2147483649) (hb : 1 ≤ b ∧ b ≤ 2147483649) : 1 ≤ Nat.gcd a b ∧ Nat.gcd a b ≤ a ∧ 1 ≤ a / Nat.gcd a b ∧ a / Nat.gcd a b ≤ 2147483649 := by
  have h1 : 0 < Nat.gcd a b := Nat.gcd_pos_of_pos_left _ (by omega)
  have h2 : Nat.gcd a b ≤ a := Nat.gcd_le_left _ (by omega)
  have h3 : a / Nat.gcd a b ≤ a := Nat.div_le_self _ _
  have h4 : 1 ≤ a / Nat.gcd a b := (Nat.le_div_iff_mul_le h1).mpr (by omega)
  omega
theorem C113_do (hN : 2000 ≤ N) {a b : Nat} (ha : 1 ≤ a ∧ a ≤ 2147483649) (hb : 1 ≤ b ∧ b ≤ 2147483649) : C113 xt ct O N (Int64.ofNat a) (Int64.ofNat b) H = some (Int64.ofNat (mlN a b), H) := by
  obtain ⟨h1, h2, h3, h4⟩ := mlN_do a b ha hb
  simp only [C113, C114_do hN (x := a) (y := b) (by omega) (by omega), C115_do (x := a) (y := Nat.gcd a b) (by omega) h1 (by omega), C102_do (a := a / Nat.gcd a b) (b := b) h4 hb.2, Option.bind_some, mlN]
theorem M240_do (hN : 2000 ≤ N) {a b : Nat} (ha : 1 ≤ a ∧ a ≤ 2147483649) (hb : 1 ≤ b ∧ b ≤ 2147483649) : M240 N (Int64.ofNat a) (Int64.ofNat b) S = some (Int64.ofNat (mlN a b), S) := by
  obtain ⟨h1, h2, h3, h4⟩ := mlN_do a b ha hb
  have hne : Int64.ofNat (Nat.gcd a b) ≠ 0 := fun q => by
    have := congrArg Int64.toInt q
    rw [j_nat (by omega), show (0 : Int64).toInt = 0 from rfl] at this
    omega
  simp only [M240, M241_do hN (x := a) (y := b) (by omega) (by omega), if_pos hne, j_divn (a := a) (b := Nat.gcd a b) (by omega) h1 (by omega), M237_do (a := a / Nat.gcd a b) (b := b) h4 hb.2 hb.1, Option.bind_some, mlN]
end FAD
