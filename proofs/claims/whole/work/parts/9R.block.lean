/-! A BLOCK OF THE REFERENCE: its statements' numbers and factors, from s to stop -/
def bch (S : mS) (slot stop : Nat) : List (Nat × Nat) → Nat → Prop
  | [], s => stop ≤ s ∧ s ≤ 24
  | x :: r, s => s = x.1 ∧ x.1 < stop ∧ stop ≤ 24 ∧ (1 ≤ x.2 ∧ x.2 ≤ 2147483649) ∧ S.2.2 12 (24 * slot + x.1) = Int64.ofNat x.2 ∧ ∃ e : Nat, S.2.1 11 (24 * slot + x.1) = Int32.ofNat e ∧ bch S slot stop r e
section BCH
variable {N : Nat} {S : mS}
theorem i_24 {s i : Int32} {j k : Nat} (hs : s.toInt = j) (hj : j < 4) (hi : i.toInt = k) (hk : k ≤ 24) : (24 * s + i).toInt = 24 * j + k := by
  have e : (24 : Int32).toInt = 24 := rfl
  rw [i_add (by rw [i_mul (by rw [e]; omega) (by rw [e]; omega), e]; omega) (by rw [i_mul (by rw [e]; omega) (by rw [e]; omega), e]; omega), i_mul (by rw [e]; omega) (by rw [e]; omega), e, hs, hi]
theorem bch_le {slot stop : Nat} : ∀ (l : List (Nat × Nat)) (s : Nat), bch S slot stop l s → s ≤ 24 := by
  intro l s h
  cases l with
  | nil => exact h.2
  | cons x r =>
    obtain ⟨h1, h2, h3, -⟩ := h
    omega
theorem L236_do {slot stop : Nat} {x1 : Int32} (h1 : x1.toInt = slot) (hs : slot < 4) (hst : stop ≤ 24) : ∀ (l : List (Nat × Nat)) (s acc : Nat), bch S slot stop l s → acc ≤ 2147483649 → t_lp (B236_6 N) (l.length + 1) (x1, Int32.ofNat stop, Int64.ofNat acc, Int32.ofNat s, S) = some (Int64.ofNat (fold_ l acc), S) := by
  intro l
  induction l with
  | nil =>
    intro s acc h ha
    have q1 : stop ≤ s := h.1
    have q2 : s ≤ 24 := h.2
    have b : mj_c2 .ge (Int32.ofNat s) (Int32.ofNat stop) = true := i_c2 (by show decide _ = true; apply decide_eq_true; rw [i_nat (by omega), i_nat (by omega)]; omega)
    rw [t_lp]
    simp only [B236_6, b, cond_true, fold_]
  | cons x r ih =>
    intro s acc h ha
    obtain ⟨rfl, c1, c2, hf, g1, e, g2, h2⟩ := h
    have b : mj_c2 .ge (Int32.ofNat x.1) (Int32.ofNat stop) = false := i_c2 (by show decide _ = false; apply decide_eq_false; rw [i_nat (by omega), i_nat (by omega)]; omega)
    have hi := i_24 (s := x1) (i := Int32.ofNat x.1) h1 hs (i_nat (by omega)) (by omega)
    have m12 : 0 ≤ (24 * x1 + Int32.ofNat x.1).toInt ∧ (24 * x1 + Int32.ofNat x.1).toInt < mN 12 := by rw [show mN 12 = 96 from rfl]; omega
    have m11 : 0 ≤ (24 * x1 + Int32.ofNat x.1).toInt ∧ (24 * x1 + Int32.ofNat x.1).toInt < mN 11 := by rw [show mN 11 = 96 from rfl]; omega
    have hn : (24 * x1 + Int32.ofNat x.1).toInt.toNat = 24 * slot + x.1 := by omega
    have fB : B236_6 N (x1, Int32.ofNat stop, Int64.ofNat acc, Int32.ofNat x.1, S) = some (.inl (x1, Int32.ofNat stop, Int64.ofNat (prN acc x.2), Int32.ofNat e, S)) := by
      simp only [B236_6, b, cond_false, if_pos m12, if_pos m11, hn, g1, g2, M237_do ha hf.2 hf.1, Option.bind_some]
    rw [t_lp, fB]
    exact ih e _ h2 prN_le
/-- the factor of a block -/
theorem M236_do (hN : 2000 ≤ N) {slot stop s : Nat} {x1 : Int32} (h1 : x1.toInt = slot) (hs : slot < 4) (hst : stop ≤ 24) {l : List (Nat × Nat)} (h : bch S slot stop l s) (hl : l.length ≤ 1000) : M236 N x1 (Int32.ofNat s) (Int32.ofNat stop) S = some (Int64.ofNat (fold_ l 1), S) := t_lp_more _ _ _ (by omega) (L236_do (N := N) (S := S) h1 hs hst l s 1 h (by decide))
end BCH
