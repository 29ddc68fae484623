/-! PRINTED EXPRESSIONS, THE REFERENCE -/
def nodesR (S : mS) (sl : Nat) (nds : List Nd) (fcs : List Int32) : Prop := (∀ (i : Nat) (nd : Nd), nds[i]? = some nd → ndW (ndAt S (160 * sl + i)) nd) ∧ ∀ (i : Nat) (x : Int32), fcs[i]? = some x → S.2.1 20 (160 * sl + i) = x
/-- the tasks that wait, the next one first -/
def tkR (S : mS) (T : List Int32) : Prop := S.1 40 = Int32.ofNat T.length ∧ T.length ≤ 390 ∧ ∀ (i : Nat) (x : Int32), T.reverse[i]? = some x → S.2.1 39 i = x
section SAY
variable {N : Nat}
theorem nodes_ag {S S' : mS} {sl : Nat} {nds : List Nd} {fcs : List Int32} {F A B : List Nat} (h : nodesR S sl nds fcs) (a : m_agr F A B S S') (c : 13 ∉ A ∧ 14 ∉ A ∧ 15 ∉ A ∧ 16 ∉ A ∧ 17 ∉ A ∧ 18 ∉ A ∧ 19 ∉ A ∧ 20 ∉ A) : nodesR S' sl nds fcs := by
  obtain ⟨c1, c2, c3, c4, c5, c6, c7, c8⟩ := c
  unfold nodesR ndAt
  rw [a.2.1 13 c1, a.2.1 14 c2, a.2.1 15 c3, a.2.1 16 c4, a.2.1 17 c5, a.2.1 18 c6, a.2.1 19 c7, a.2.1 20 c8]
  exact h
theorem tk_ag {S S' : mS} {T : List Int32} {F A B : List Nat} (h : tkR S T) (a : m_agr F A B S S') (c : 40 ∉ F ∧ 39 ∉ A) : tkR S' T := by
  unfold tkR
  rw [a.1 40 c.1, a.2.1 39 c.2]
  exact h
/-- a task more -/
theorem M251_do {S : mS} {T : List Int32} {x : Int32} (h : tkR S T) (hl : T.length < 390) : ∃ S', M251 N x S = some S' ∧ tkR S' (x :: T) ∧ m_agr [40] [39] [] S S' := by
  obtain ⟨h1, h2, h3⟩ := h
  have e : (S.1 40).toInt = T.length := by rw [h1]; exact i_nat (by omega)
  have c : 0 ≤ (S.1 40).toInt ∧ (S.1 40).toInt < mN 39 := by rw [show mN 39 = 400 from rfl]; omega
  have en : (S.1 40).toInt.toNat = T.length := by omega
  refine ⟨m_sV (m_sA S 39 T.length x) 40 (S.1 40 + 1), ?_, ⟨?_, ?_, ?_⟩, m_agr_sV (m_agr_sA m_agr_refl (by decide) _ _) (by decide) _⟩
  · unfold M251
    rw [if_pos c, en]
  · show S.1 40 + 1 = _
    rw [h1, List.length_cons]
    exact i_inc (by omega)
  · rw [List.length_cons]
    omega
  · intro i y hi
    rw [List.reverse_cons] at hi
    by_cases ei : i = T.length
    · rw [List.getElem?_append_right (by rw [List.length_reverse]; omega), List.length_reverse, ei, Nat.sub_self] at hi
      cases hi
      rw [ei]
      exact if_pos ⟨rfl, rfl⟩
    · have hlt : i < T.reverse.length := by
        have := (List.getElem?_eq_some_iff.mp hi).1
        rw [List.length_append] at this
        simp at this
        rw [List.length_reverse]
        omega
      rw [List.getElem?_append_left hlt] at hi
      show (if 39 = 39 ∧ i = T.length then _ else S.2.1 39 i) = _
      rw [if_neg (fun q => ei q.2)]
      exact h3 i y hi
/-- the next task is taken -/
theorem tk_pop {S : mS} {T : List Int32} {x : Int32} (h : tkR S (x :: T)) : mj_c1 .le (S.1 40) = false ∧ (0 ≤ (S.1 40 - 1).toInt ∧ (S.1 40 - 1).toInt < mN 39) ∧ S.2.1 39 (S.1 40 - 1).toInt.toNat = x ∧ tkR (m_sV S 40 (S.1 40 - 1)) T := by
  obtain ⟨h1, h2, h3⟩ := h
  rw [List.length_cons] at h1 h2
  have e : (S.1 40).toInt = T.length + 1 := by rw [h1]; exact i_nat (by omega)
  have e1 : (S.1 40 - 1).toInt = T.length := by rw [i_sub (by rw [q_1]; omega) (by rw [q_1]; omega), q_1, e]; omega
  have en : (S.1 40 - 1).toInt.toNat = T.length := by omega
  refine ⟨i_c1 (by show decide _ = false; apply decide_eq_false; omega), by rw [show mN 39 = 400 from rfl]; omega, ?_, ⟨i_eq e1, by omega, fun i y hi => h3 i y (by rw [List.reverse_cons]; exact ap_g hi)⟩⟩
  rw [en]
  exact h3 T.length x (by rw [List.reverse_cons, List.getElem?_append_right (by rw [List.length_reverse]; exact Nat.le_refl _), List.length_reverse, Nat.sub_self]; rfl)
/-- numbers -/
theorem M249_do {S : mS} {tx : List Int32} {n : Nat} (h : txR tx S) (hn : n ≤ 999) (hl : tx.length + (dgs n).length ≤ 160) : ∃ S', M249 N (Int32.ofNat n) S = some S' ∧ txR (tx ++ dgs n) S' ∧ m_agr [2] [1] [] S S' := by
  have e : (Int32.ofNat n).toInt = n := i_nat (by omega)
  have q9 : (9 : Int32).toInt = 9 := rfl
  have q99 : (99 : Int32).toInt = 99 := rfl
  have q10 : (10 : Int32).toInt = 10 := rfl
  have q100 : (100 : Int32).toInt = 100 := rfl
  have q48 : (48 : Int32).toInt = 48 := rfl
  have dv : ∀ (x : Int32) (m k : Nat) (d : Int32), x.toInt = m → d.toInt = k → 1 ≤ k → m ≤ 999 → (x / d).toInt = ((m / k : Nat) : Int) := by
    intro x m k d hx hd hk hm
    rw [Int32.toInt_div, hx, hd, Int.tdiv_eq_ediv_of_nonneg (by omega)]
    have : (m : Int) / (k : Int) = ((m / k : Nat) : Int) := (Int.natCast_ediv m k).symm
    rw [this]
    have h0 := Nat.div_le_self m k
    obtain ⟨q, hq⟩ : ∃ q, m / k = q := ⟨_, rfl⟩
    rw [hq] at h0 ⊢
    exact i_bm (by omega) (by omega)
  have d10 := dv (Int32.ofNat n) n 10 10 e q10 (by decide) hn
  have d100 := dv (Int32.ofNat n) n 100 100 e q100 (by decide) hn
  have d1010 := dv (Int32.ofNat n / 10) (n / 10) 10 10 d10 q10 (by decide) (by omega)
  -- the characters
  have c1 : 48 + (Int32.ofNat n - Int32.ofNat n / 10 * 10) = Int32.ofNat (48 + n % 10) := by
    apply i_eq
    have m1 : (Int32.ofNat n / 10 * 10).toInt = ((n / 10 : Nat) : Int) * 10 := by rw [i_mul (by rw [d10, q10]; omega) (by rw [d10, q10]; omega), d10, q10]
    have m2 : (Int32.ofNat n - Int32.ofNat n / 10 * 10).toInt = ((n % 10 : Nat) : Int) := by
      rw [i_sub (by rw [m1, e]; omega) (by rw [m1, e]; omega), m1, e]
      omega
    rw [i_add (by rw [m2, q48]; omega) (by rw [m2, q48]; omega), m2, q48]
    omega
  have c2 : 48 + (Int32.ofNat n / 10 - Int32.ofNat n / 10 / 10 * 10) = Int32.ofNat (48 + n / 10 % 10) := by
    apply i_eq
    have m1 : (Int32.ofNat n / 10 / 10 * 10).toInt = ((n / 10 / 10 : Nat) : Int) * 10 := by rw [i_mul (by rw [d1010, q10]; omega) (by rw [d1010, q10]; omega), d1010, q10]
    have m2 : (Int32.ofNat n / 10 - Int32.ofNat n / 10 / 10 * 10).toInt = ((n / 10 % 10 : Nat) : Int) := by
      rw [i_sub (by rw [m1, d10]; omega) (by rw [m1, d10]; omega), m1, d10]
      omega
    rw [i_add (by rw [m2, q48]; omega) (by rw [m2, q48]; omega), m2, q48]
    omega
  have c3 : 48 + Int32.ofNat n / 100 = Int32.ofNat (48 + n / 100) := by
    apply i_eq
    rw [i_add (by rw [d100, q48]; omega) (by rw [d100, q48]; omega), d100, q48]
    omega
  have rg : ∀ m : Nat, m ≤ 9 → 33 ≤ (Int32.ofNat (48 + m)).toInt ∧ (Int32.ofNat (48 + m)).toInt ≤ 126 := fun m hm => by rw [i_nat (by omega)]; omega
  unfold dgs at hl ⊢
  by_cases h1 : n < 10
  · rw [if_pos h1] at hl ⊢
    rw [List.length_singleton] at hl
    have b1 : mj_c2 .le (Int32.ofNat n) 99 = true := i_c2 (by show decide _ = true; apply decide_eq_true; rw [e, q99]; omega)
    have b2 : mj_c2 .le (Int32.ofNat n) 9 = true := i_c2 (by show decide _ = true; apply decide_eq_true; rw [e, q9]; omega)
    obtain ⟨S1, a1, a2, a3⟩ := M206_do (N := N) (c := Int32.ofNat (48 + n % 10)) h (by omega) (rg _ (by omega))
    refine ⟨S1, ?_, by rw [show 48 + n = 48 + n % 10 by omega]; exact a2, a3⟩
    simp only [M249, b1, cond_true, J249_17, b2, J249_37, c1, a1, Option.bind_some]
  · rw [if_neg h1] at hl ⊢
    have b2 : mj_c2 .le (Int32.ofNat n) 9 = false := i_c2 (by show decide _ = false; apply decide_eq_false; rw [e, q9]; omega)
    by_cases h2 : n < 100
    · rw [if_pos h2] at hl ⊢
      simp only [List.length_cons, List.length_nil] at hl
      have b1 : mj_c2 .le (Int32.ofNat n) 99 = true := i_c2 (by show decide _ = true; apply decide_eq_true; rw [e, q99]; omega)
      obtain ⟨S1, a1, a2, a3⟩ := M206_do (N := N) (c := Int32.ofNat (48 + n / 10 % 10)) h (by omega) (rg _ (by omega))
      obtain ⟨S2, d1, d2, d3⟩ := M206_do (N := N) (c := Int32.ofNat (48 + n % 10)) a2 (by rw [List.length_append, List.length_singleton]; omega) (rg _ (by omega))
      refine ⟨S2, ?_, ?_, m_agr_trans a3 d3⟩
      · simp only [M249, b1, cond_true, J249_17, b2, cond_false, c2, a1, J249_37, c1, d1, Option.bind_some]
      · rw [show n / 10 = n / 10 % 10 by omega]
        rw [List.append_assoc] at d2
        exact d2
    · rw [if_neg h2] at hl ⊢
      simp only [List.length_cons, List.length_nil] at hl
      have b1 : mj_c2 .le (Int32.ofNat n) 99 = false := i_c2 (by show decide _ = false; apply decide_eq_false; rw [e, q99]; omega)
      obtain ⟨S0, f1, f2, f3⟩ := M206_do (N := N) (c := Int32.ofNat (48 + n / 100)) h (by omega) (rg _ (by omega))
      obtain ⟨S1, a1, a2, a3⟩ := M206_do (N := N) (c := Int32.ofNat (48 + n / 10 % 10)) f2 (by rw [List.length_append, List.length_singleton]; omega) (rg _ (by omega))
      obtain ⟨S2, d1, d2, d3⟩ := M206_do (N := N) (c := Int32.ofNat (48 + n % 10)) a2 (by rw [List.length_append, List.length_append, List.length_singleton, List.length_singleton]; omega) (rg _ (by omega))
      refine ⟨S2, ?_, ?_, m_agr_trans f3 (m_agr_trans a3 d3)⟩
      · simp only [M249, b1, cond_false, c3, f1, J249_17, b2, c2, a1, J249_37, c1, d1, Option.bind_some]
      · rw [List.append_assoc, List.append_assoc] at d2
        exact d2
end SAY
