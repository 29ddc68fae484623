/-! WHAT IS LEFT OF A PRINTING: from a statement on (AEr), from within sayEnds (SEr) -/
section SAR
variable {N : Nat} {x1 : Int32} {sl : Nat} {sts : List St} {nds : List Nd} {fcs : List Int32} {H : mj_H}
def AEr (N : Nat) (x1 : Int32) (s : Nat) (S : mS) (res : Int32 × mS) : Prop := ((M248 N x1 (Int32.ofNat s) S).bind fun S' => t_lp (B245_30 N) (30 - (s + 1)) (x1, Int32.ofNat (s + 1), S')) = some res
def rstP (N : Nat) (x1 : Int32) (len s : Nat) (S : mS) : Option (Int32 × mS) := if s < len then (M248 N x1 (Int32.ofNat s) S).bind fun S' => t_lp (B245_30 N) (30 - (s + 1)) (x1, Int32.ofNat (s + 1), S') else some (S.1 2, S)
def moreI (FR : List (Nat × Nat)) : Int32 := match FR with
  | [] => 0
  | _ :: _ => 1
def SEr (N : Nat) (x1 : Int32) (len : Nat) (FR : List (Nat × Nat)) (s : Nat) (S : mS) (res : Int32 × mS) : Prop := ((t_lp (B247_13 N) (FR.length + 2) (x1, Int32.ofNat s, moreI FR, S)).bind (rstP N x1 len s)) = some res
/-- a round of print's loop begins with sayEnds -/
theorem LP_SE (hN : 2000 ≤ N) (hs : x1.toInt = sl) (hsl : sl < 3) (h24 : sts.length ≤ 24) {S : mS} {s : Nat} {FR : List (Nat × Nat)} {res : Int32 × mS} (hr : rowsR S sl sts) (hf : frR S FR) (hsl2 : s ≤ sts.length) (k : SEr N x1 sts.length FR s S res) : t_lp (B245_30 N) (30 - s) (x1, Int32.ofNat s, S) = some res := by
  obtain ⟨S', k1, k2⟩ := Option.bind_eq_some_iff.mp k
  have t : x1.toInt.toNat = sl := by omega
  have c5 : 0 ≤ x1.toInt ∧ x1.toInt < mN 5 := by rw [show mN 5 = 4 from rfl]; omega
  have e56 : (S.1 56).toInt = FR.length := by rw [hf.1]; exact i_nat (by have := hf.2.1; omega)
  have m247 : M247 N x1 (Int32.ofNat s) S = some S' := by
    have l : t_lp (B247_13 N) N (x1, Int32.ofNat s, moreI FR, S) = some S' := t_lp_more _ _ _ (by have := hf.2.1; omega) k1
    cases FR with
    | nil =>
      have c : mj_c1 .le (S.1 56) = true := i_c1 (by show decide _ = true; apply decide_eq_true; rw [e56]; exact Int.le_refl _)
      unfold M247
      rw [c]
      exact l
    | cons b FR =>
      rw [List.length_cons] at e56
      have c : mj_c1 .le (S.1 56) = false := i_c1 (by show decide _ = false; apply decide_eq_false; omega)
      unfold M247
      rw [c]
      exact l
  rw [show 30 - s = 30 - (s + 1) + 1 by omega]
  unfold rstP at k2
  by_cases h : s < sts.length
  · rw [if_pos h] at k2
    obtain ⟨S2, k3, k4⟩ := Option.bind_eq_some_iff.mp k2
    have c : mj_c2 .ge (Int32.ofNat s) (Int32.ofNat sts.length) = false := i_c2 (by show decide _ = false; apply decide_eq_false; rw [i_nat (by omega), i_nat (by omega)]; omega)
    have fB : B245_30 N (x1, Int32.ofNat s, S) = some (.inl (x1, Int32.ofNat (s + 1), S2)) := by
      rw [← i_inc (k := s) (by omega)]
      simp only [B245_30, if_pos c5, t, hr.1, c, cond_false, m247, k3, Option.bind_some]
    exact (t_one fB _).trans k4
  · rw [if_neg h] at k2
    have hs2 : s = sts.length := by omega
    have c : mj_c2 .ge (Int32.ofNat s) (Int32.ofNat sts.length) = true := i_c2 (by show decide _ = true; apply decide_eq_true; rw [i_nat (by omega), i_nat (by omega)]; omega)
    cases k2
    refine t_end ?_ _
    have m2 : M247 N x1 (Int32.ofNat sts.length) S = some S' := by rw [← hs2]; exact m247
    simp only [B245_30, if_pos c5, t, hr.1, c, cond_true, m2, Option.bind_some]
/-- where a block ends -/
def bnd (sts : List St) (b : Nat × Nat) (x : Nat) : Prop := ∃ t, sts[b.1]? = some t ∧ 2 ≤ t.1 ∧ b.2 ≤ 1 ∧ ((t.1 = 2 ∧ b.2 = 0 ∧ x = t.2.2.2.2.1) ∨ (¬ (t.1 = 2 ∧ b.2 = 0) ∧ x = t.2.2.2.2.2.1)) ∧ (t.1 = 2 → t.2.2.2.2.1 ≤ 24) ∧ t.2.2.2.2.2.1 ≤ 24
/-- the last block's words -/
theorem fr_top {S : mS} {b : Nat × Nat} {FR : List (Nat × Nat)} (h : frR S (b :: FR)) : (S.1 56 - 1).toInt = FR.length ∧ S.2.1 53 FR.length = Int32.ofNat b.1 ∧ S.2.1 55 FR.length = Int32.ofNat b.2 ∧ FR.length ≤ 4 ∧ frR (m_sV S 56 (S.1 56 - 1)) FR := by
  obtain ⟨h1, h2, h3⟩ := h
  rw [List.length_cons] at h1 h2
  have e : (S.1 56).toInt = FR.length + 1 := by rw [h1]; exact i_nat (by omega)
  have e1 : (S.1 56 - 1).toInt = FR.length := by rw [i_sub (by rw [q_1]; omega) (by rw [q_1]; omega), q_1, e]; omega
  have at0 := h3 FR.length b (by rw [List.reverse_cons, List.getElem?_append_right (by rw [List.length_reverse]; exact Nat.le_refl _), List.length_reverse, Nat.sub_self]; rfl)
  exact ⟨e1, at0.1, at0.2, by omega, i_eq e1, by omega, fun j q hj => h3 j q (by rw [List.reverse_cons]; exact ap_g hj)⟩
/-- what sayEnds asks of the last block -/
theorem B247_top (hs : x1.toInt = sl) (hsl : sl < 3) {S : mS} {b : Nat × Nat} {FR : List (Nat × Nat)} {x s : Nat} (hr : rowsR S sl sts) (hf : frR S (b :: FR)) (hb : bnd sts b x) (hb24 : b.1 < 24) (hs24 : s ≤ 24) : ∃ (i : Int32) (fi : Nat) (t : St), sts[b.1]? = some t ∧ i.toInt = ((24 * sl + b.1 : Nat) : Int) ∧ (fi = if t.1 = 2 ∧ b.2 = 0 then 1 else 0) ∧ B247_13 N (x1, Int32.ofNat s, 1, S) = J247_98 N x1 (Int32.ofNat s) i (Int32.ofNat fi) (if s = x then 1 else 0) S := by
  obtain ⟨t, t1, t2, t3, t4, t5, t6⟩ := hb
  obtain ⟨f1, f2, f3, f4, f5⟩ := fr_top hf
  obtain ⟨r1, r2, r3, r4, r5, r6⟩ := hr.2 b.1 t t1
  have b1 : mj_c1 .eq 1 = false := by decide
  have t56 : (S.1 56 - 1).toInt.toNat = FR.length := by omega
  have c53 : 0 ≤ (S.1 56 - 1).toInt ∧ (S.1 56 - 1).toInt < mN 53 := by rw [show mN 53 = 8 from rfl]; omega
  have c55 : 0 ≤ (S.1 56 - 1).toInt ∧ (S.1 56 - 1).toInt < mN 55 := by rw [show mN 55 = 8 from rfl]; omega
  have ei := i_24 (i := Int32.ofNat b.1) hs (by omega) (i_nat (by omega)) (by omega)
  have ti : (24 * x1 + Int32.ofNat b.1).toInt.toNat = 24 * sl + b.1 := by omega
  have c6 : 0 ≤ (24 * x1 + Int32.ofNat b.1).toInt ∧ (24 * x1 + Int32.ofNat b.1).toInt < mN 6 := by rw [show mN 6 = 96 from rfl]; omega
  have c10 : 0 ≤ (24 * x1 + Int32.ofNat b.1).toInt ∧ (24 * x1 + Int32.ofNat b.1).toInt < mN 10 := by rw [show mN 10 = 96 from rfl]; omega
  have c11 : 0 ≤ (24 * x1 + Int32.ofNat b.1).toInt ∧ (24 * x1 + Int32.ofNat b.1).toInt < mN 11 := by rw [show mN 11 = 96 from rfl]; omega
  have ne : ∀ y : Nat, y ≤ 24 → mj_c2 .ne (Int32.ofNat s) (Int32.ofNat y) = decide (s ≠ y) := by
    intro y hy
    by_cases q : s = y
    · subst q
      rw [decide_eq_false (fun q => q rfl)]
      exact decide_eq_false (fun q => q rfl)
    · rw [decide_eq_true q]
      exact i_c2 (by show decide _ = true; apply decide_eq_true; rw [i_nat (by omega), i_nat (by omega)]; omega)
  -- the last question
  have last : ∀ (fi : Int32) (y : Nat), y ≤ 24 → J247_90 N x1 (Int32.ofNat s) (24 * x1 + Int32.ofNat b.1) fi (Int32.ofNat y) (Int32.ofNat s) S = J247_98 N x1 (Int32.ofNat s) (24 * x1 + Int32.ofNat b.1) fi (if s = y then 1 else 0) S := by
    intro fi y hy
    unfold J247_90
    rw [ne y hy]
    by_cases q : s = y
    · rw [decide_eq_false (fun z => z q), if_pos q]
      rfl
    · rw [decide_eq_true q, if_neg q]
      rfl
  refine ⟨24 * x1 + Int32.ofNat b.1, _, t, t1, by rw [ei]; omega, rfl, ?_⟩
  rcases t4 with ⟨k1, k2, rfl⟩ | ⟨k1, rfl⟩
  · have n2 : mj_c2 .ne (Int32.ofNat t.1) 2 = false := by rw [k1]; decide
    have n5 : mj_c1 .ne (Int32.ofNat b.2) = false := by rw [k2]; decide
    have z1 : mj_c1 .eq (1 : Int32) = false := by decide
    rw [if_pos ⟨k1, k2⟩]
    simp only [B247_13, b1, cond_false, if_pos c53, t56, f2, if_pos c6, ti, r2, n2, if_pos c55, f3, n5, J247_65, if_pos c10, r5 k1]
    exact last _ _ (t5 k1)
  · rw [if_neg k1]
    have z0 : mj_c1 .eq (0 : Int32) = true := by decide
    by_cases k2 : t.1 = 2
    · have hb2 : b.2 = 1 := by
        have : b.2 ≠ 0 := fun q => k1 ⟨k2, q⟩
        omega
      have n2 : mj_c2 .ne (Int32.ofNat t.1) 2 = false := by rw [k2]; decide
      have n5 : mj_c1 .ne (Int32.ofNat b.2) = true := by rw [hb2]; decide
      simp only [B247_13, b1, cond_false, if_pos c53, t56, f2, if_pos c6, ti, r2, n2, if_pos c55, f3, n5, cond_true, J247_64, J247_65, z0, if_pos c11, r6]
      exact last _ _ t6
    · have n2 : mj_c2 .ne (Int32.ofNat t.1) 2 = true := i_c2 (by show decide _ = true; apply decide_eq_true; rw [i_nat (by omega), q_2]; omega)
      simp only [B247_13, b1, cond_false, if_pos c53, t56, f2, if_pos c6, ti, r2, n2, cond_true, J247_64, J247_65, z0, if_pos c11, r6]
      exact last _ _ t6
end SAR
