/-! FACTORS: products that stay the same too much, powers, Euclid's steps; as Nats -/
theorem j_nat {n : Nat} (h : n < 9223372036854775808) : (Int64.ofNat n).toInt = n := Int64.toInt_ofNat_of_lt h
theorem j_eq {x : Int64} {n : Nat} (h : x.toInt = n) : x = Int64.ofNat n := by
  have := Int64.toInt_lt x
  exact Int64.toInt_inj.mp (h.trans (j_nat (by omega)).symm)
def prN (a b : Nat) : Nat := min (a * b) 2147483649
def pwN (a : Nat) : Nat → Nat → Nat
  | 0, acc => acc
  | n + 1, acc => pwN a n (prN acc a)
theorem prN_pos {a b : Nat} (ha : 1 ≤ a) (hb : 1 ≤ b) : 1 ≤ prN a b := by
  unfold prN
  have := Nat.mul_pos ha hb
  omega
theorem prN_le {a b : Nat} : prN a b ≤ 2147483649 := Nat.min_le_right _ _
theorem mul_bd {a b : Nat} (ha : a ≤ 2147483649) (hb : b ≤ 2147483649) : a * b ≤ 4611686022722355201 := Nat.mul_le_mul ha hb
theorem j_muln {a b : Nat} (ha : a ≤ 2147483649) (hb : b ≤ 2147483649) : Int64.ofNat a * Int64.ofNat b = Int64.ofNat (a * b) := by
  have h := mul_bd ha hb
  have h' : ((a * b : Nat) : Int) = (a : Int) * (b : Int) := Int.natCast_mul a b
  apply j_eq
  rw [j_mul (by rw [j_nat (by omega), j_nat (by omega)]; omega) (by rw [j_nat (by omega), j_nat (by omega)]; omega), j_nat (by omega), j_nat (by omega), h']
theorem j_divn {a b : Nat} (ha : a < 9223372036854775808) (hb : 1 ≤ b) (hb2 : b < 9223372036854775808) : Int64.ofNat a / Int64.ofNat b = Int64.ofNat (a / b) := by
  apply j_eq
  rw [j_div (by rw [j_nat ha]; omega) (by rw [j_nat hb2]; omega), j_nat ha, j_nat hb2]
  exact (Int.natCast_ediv a b).symm
section FAC
variable {xt : mj_X} {ct : Nat → Value} {O : OR} {N : Nat} {H : mj_H} {S : mS}
theorem C102_do {a b : Nat} (ha : a ≤ 2147483649) (hb : b ≤ 2147483649) : C102 xt ct O N (Int64.ofNat a) (Int64.ofNat b) H = some (Int64.ofNat (prN a b), H) := by
  have h := mul_bd ha hb
  have e : (2147483649 : Int64) = Int64.ofNat 2147483649 := rfl
  unfold C102 C103 J103_11 prN
  rw [j_muln ha hb, e, lc_gt, j_nat (by omega), j_nat (by omega)]
  by_cases hle : a * b ≤ 2147483649
  · rw [decide_eq_false (by omega), Nat.min_eq_left hle]
    rfl
  · rw [decide_eq_true (by omega), Nat.min_eq_right (by omega)]
    rfl
theorem C103_do {a b : Nat} (ha : a ≤ 2147483649) (hb : b ≤ 2147483649) : C103 xt ct O N (Int64.ofNat a * Int64.ofNat b) 2147483649 H = some (Int64.ofNat (prN a b), H) := by
  have h := mul_bd ha hb
  have e : (2147483649 : Int64) = Int64.ofNat 2147483649 := rfl
  unfold C103 J103_11 prN
  rw [j_muln ha hb, e, lc_gt, j_nat (by omega), j_nat (by omega)]
  by_cases hle : a * b ≤ 2147483649
  · rw [decide_eq_false (by omega), Nat.min_eq_left hle]
    rfl
  · rw [decide_eq_true (by omega), Nat.min_eq_right (by omega)]
    rfl
theorem M237_do {a b : Nat} (ha : a ≤ 2147483649) (hb : b ≤ 2147483649) (hb1 : 1 ≤ b) : M237 N (Int64.ofNat a) (Int64.ofNat b) S = some (Int64.ofNat (prN a b), S) := by
  have e : (2147483649 : Int64) = Int64.ofNat 2147483649 := rfl
  have e2 : (2147483648 : Int64) = Int64.ofNat 2147483648 := rfl
  have hne : Int64.ofNat b ≠ 0 := fun q => by
    have := congrArg Int64.toInt q
    rw [j_nat (by omega), show (0 : Int64).toInt = 0 from rfl] at this
    omega
  have hdv : 2147483648 / b ≤ 2147483648 := Nat.div_le_self _ _
  unfold M237 J237_19 prN
  rw [if_pos hne, e2, j_divn (by omega) hb1 (by omega), lc_le, j_nat (by omega), j_nat (by omega), j_muln ha hb, e]
  have key : a ≤ 2147483648 / b ↔ a * b ≤ 2147483648 := Nat.le_div_iff_mul_le (by omega)
  by_cases hle : a * b ≤ 2147483648
  · have := key.mpr hle
    rw [decide_eq_true (by omega), Nat.min_eq_left (by omega)]
    rfl
  · have : ¬ a ≤ 2147483648 / b := fun q => hle (key.mp q)
    rw [decide_eq_false (by omega), Nat.min_eq_right (by omega)]
    rfl
theorem L101_do {a t : Nat} (ha : 1 ≤ a ∧ a ≤ 2147483649) (ht : t ≤ 1000) : ∀ (n i acc : Nat), i + n = t → acc ≤ 2147483649 → t_lp (B101_5 xt ct O N) (n + 1) (Int64.ofNat a, Int32.ofNat t, Int64.ofNat acc, Int32.ofNat i, H) = some (Int64.ofNat (pwN a n acc), H) := by
  have e0 : ∀ i, i ≤ 1000 → (Int32.ofNat i).toInt = i := fun i hi => i_nat (by omega)
  intro n
  induction n with
  | zero =>
    intro i acc hi _
    have b : mj_c2 .ge (Int32.ofNat i) (Int32.ofNat t) = true := i_c2 (by show decide _ = true; apply decide_eq_true; rw [e0 i (by omega), e0 t ht]; omega)
    rw [t_lp]
    simp only [B101_5, b, cond_true, pwN]
  | succ n ih =>
    intro i acc hi hacc
    have b : mj_c2 .ge (Int32.ofNat i) (Int32.ofNat t) = false := i_c2 (by show decide _ = false; apply decide_eq_false; rw [e0 i (by omega), e0 t ht]; omega)
    have fB : B101_5 xt ct O N (Int64.ofNat a, Int32.ofNat t, Int64.ofNat acc, Int32.ofNat i, H) = some (.inl (Int64.ofNat a, Int32.ofNat t, Int64.ofNat (prN acc a), Int32.ofNat (i + 1), H)) := by
      simp only [B101_5, b, cond_false, C103_do hacc ha.2, i_inc (k := i) (by omega), Option.bind_some]
    rw [t_lp, fB]
    exact ih (i + 1) _ (by omega) prN_le
theorem L238_do {a t : Nat} (ha : 1 ≤ a ∧ a ≤ 2147483649) (ht : t ≤ 1000) : ∀ (n i acc : Nat), i + n = t → acc ≤ 2147483649 → t_lp (B238_5 N) (n + 1) (Int64.ofNat a, Int32.ofNat t, Int64.ofNat acc, Int32.ofNat i, S) = some (Int64.ofNat (pwN a n acc), S) := by
  have e0 : ∀ i, i ≤ 1000 → (Int32.ofNat i).toInt = i := fun i hi => i_nat (by omega)
  intro n
  induction n with
  | zero =>
    intro i acc hi _
    have b : mj_c2 .ge (Int32.ofNat i) (Int32.ofNat t) = true := i_c2 (by show decide _ = true; apply decide_eq_true; rw [e0 i (by omega), e0 t ht]; omega)
    rw [t_lp]
    simp only [B238_5, b, cond_true, pwN]
  | succ n ih =>
    intro i acc hi hacc
    have b : mj_c2 .ge (Int32.ofNat i) (Int32.ofNat t) = false := i_c2 (by show decide _ = false; apply decide_eq_false; rw [e0 i (by omega), e0 t ht]; omega)
    have fB : B238_5 N (Int64.ofNat a, Int32.ofNat t, Int64.ofNat acc, Int32.ofNat i, S) = some (.inl (Int64.ofNat a, Int32.ofNat t, Int64.ofNat (prN acc a), Int32.ofNat (i + 1), S)) := by
      simp only [B238_5, b, cond_false, M237_do hacc ha.2 ha.1, i_inc (k := i) (by omega), Option.bind_some]
    rw [t_lp, fB]
    exact ih (i + 1) _ (by omega) prN_le
theorem C101_do (hN : 2000 ≤ N) {a t : Nat} (ha : 1 ≤ a ∧ a ≤ 2147483649) (ht : t ≤ 1000) : C101 xt ct O N (Int64.ofNat a) (Int32.ofNat t) H = some (Int64.ofNat (pwN a t 1), H) := t_lp_more _ _ _ (by omega) (L101_do (xt := xt) (ct := ct) (O := O) (N := N) (H := H) ha ht t 0 1 (by omega) (by omega))
theorem M238_do (hN : 2000 ≤ N) {a t : Nat} (ha : 1 ≤ a ∧ a ≤ 2147483649) (ht : t ≤ 1000) : M238 N (Int64.ofNat a) (Int32.ofNat t) S = some (Int64.ofNat (pwN a t 1), S) := t_lp_more _ _ _ (by omega) (L238_do (N := N) (S := S) ha ht t 0 1 (by omega) (by omega))
theorem j_mod {x y : Nat} (hx : x ≤ 9000000000) (hy : 1 ≤ y) (hy2 : y ≤ 9000000000) : Int64.ofNat x - Int64.ofNat x / Int64.ofNat y * Int64.ofNat y = Int64.ofNat (x % y) := by
  have h1 : x / y * y ≤ x := Nat.div_mul_le_self x y
  have h2 : x % y = x - x / y * y := by rw [Nat.mod_eq_sub_mul_div, Nat.mul_comm]
  have h3 : ((x / y * y : Nat) : Int) = ((x / y : Nat) : Int) * (y : Int) := Int.natCast_mul _ _
  have h4 : x / y ≤ x := Nat.div_le_self _ _
  have eM : (Int64.ofNat (x / y) * Int64.ofNat y).toInt = ((x / y * y : Nat) : Int) := by
    rw [j_mul (by rw [j_nat (by omega), j_nat (by omega)]; omega) (by rw [j_nat (by omega), j_nat (by omega)]; omega), j_nat (by omega), j_nat (by omega), h3]
  apply j_eq
  rw [j_divn (by omega) hy (by omega), j_sub (by rw [eM, j_nat (by omega)]; omega) (by rw [eM, j_nat (by omega)]; omega), eM, j_nat (by omega), h2]
  omega
theorem L114_do : ∀ (k x y i : Nat), x ≤ 9000000000 → y ≤ 9000000000 → y < 2 ^ k → i + 2 * k ≤ 128 → t_lp (B114_9 xt ct O N) (2 * k + 1) (Int64.ofNat x, Int64.ofNat y, Int32.ofNat i, H) = some (Int64.ofNat (Nat.gcd x y), H) := by
  have z0 : (0 : Int64).toInt = 0 := rfl
  have fin : ∀ n x i : Nat, i ≤ 128 → t_lp (B114_9 xt ct O N) (n + 1) (Int64.ofNat x, Int64.ofNat 0, Int32.ofNat i, H) = some (Int64.ofNat (Nat.gcd x 0), H) := by
    intro n x i hi
    rw [t_lp, Nat.gcd_zero_right]
    have b : mj_c1 .eq (lg_cmp (Int64.ofNat 0) 0) = true := by decide
    cases c : mj_c2 .ge (Int32.ofNat i) 128 <;> simp only [B114_9, c, cond_true, cond_false, b, J114_45, Option.map_some]
  have step : ∀ n x y i : Nat, x ≤ 9000000000 → y ≤ 9000000000 → 1 ≤ y → i < 128 → t_lp (B114_9 xt ct O N) (n + 1) (Int64.ofNat x, Int64.ofNat y, Int32.ofNat i, H) = t_lp (B114_9 xt ct O N) n (Int64.ofNat y, Int64.ofNat (x % y), Int32.ofNat (i + 1), H) := by
    intro n x y i hx hy hy1 hi
    have c : mj_c2 .ge (Int32.ofNat i) 128 = false := i_c2 (by show decide _ = false; apply decide_eq_false; rw [i_nat (by omega), show (128 : Int32).toInt = 128 from rfl]; omega)
    have hne : Int64.ofNat y ≠ 0 := fun q => by
      have := congrArg Int64.toInt q
      rw [j_nat (by omega), z0] at this
      omega
    have b : mj_c1 .eq (lg_cmp (Int64.ofNat y) 0) = false := by
      have := lc_ne (x := Int64.ofNat y) (y := 0)
      rw [j_nat (by omega), z0, decide_eq_true (by omega)] at this
      have h2 := of_decide_eq_true this
      exact decide_eq_false h2
    rw [t_lp]
    have fB : B114_9 xt ct O N (Int64.ofNat x, Int64.ofNat y, Int32.ofNat i, H) = some (.inl (Int64.ofNat y, Int64.ofNat (x % y), Int32.ofNat (i + 1), H)) := by
      simp only [B114_9, c, cond_false, b, if_pos hne, j_mod hx hy1 hy, i_inc (k := i) (by omega)]
    rw [fB]
  intro k
  induction k with
  | zero =>
    intro x y i hx hy hk hi
    have : y = 0 := by simpa using hk
    subst this
    exact fin 0 x i (by omega)
  | succ k ih =>
    intro x y i hx hy hk hi
    by_cases h0 : y = 0
    · subst h0
      exact fin _ x i (by omega)
    · rw [show 2 * (k + 1) + 1 = (2 * k + 1 + 1) + 1 by omega, step _ x y i hx hy (by omega) (by omega)]
      have hr : x % y < y := Nat.mod_lt _ (by omega)
      rw [Nat.gcd_comm x y, Nat.gcd_rec y x]
      by_cases h1 : x % y = 0
      · rw [h1, Nat.gcd_zero_left]
        have := fin (2 * k + 1) y (i + 1) (by omega)
        rw [Nat.gcd_zero_right] at this
        exact this
      · rw [step _ y (x % y) (i + 1) hy (by omega) (by omega) (by omega)]
        have hr2 : y % (x % y) < x % y := Nat.mod_lt _ (by omega)
        have hs : y % (x % y) + x % y ≤ y := by
          have h2 := Nat.div_add_mod y (x % y)
          have h3 : 1 ≤ y / (x % y) := (Nat.le_div_iff_mul_le (by omega)).mpr (by omega)
          have h4 : x % y ≤ (x % y) * (y / (x % y)) := Nat.le_mul_of_pos_right _ (by omega)
          omega
        have hp : 2 ^ (k + 1) = 2 * 2 ^ k := by rw [Nat.pow_succ, Nat.mul_comm]
        rw [ih (x % y) (y % (x % y)) (i + 1 + 1) (by omega) (by omega) (by omega) (by omega)]
        rw [Nat.gcd_comm (x % y) (y % (x % y)), ← Nat.gcd_rec]
end FAC
