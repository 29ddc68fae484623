section MSV
variable {N : Nat} {tx : List Int32}
/-- the way to a statement's head -/
theorem M214_way {S : mS} {s : Rs} {B : List (Nat × Nat)} (h : rq tx S s B) : ((isNm (pk tx s.2.1) ∨ pk tx s.2.1 = 33 ∨ pk tx s.2.1 = 63 ∨ pk tx s.2.1 = 42) ∧ s.1.length < 24 → M214 N S = J214_120 N (pk tx s.2.1) (Int32.ofNat s.1.length) (72 + Int32.ofNat s.1.length) (Int32.ofNat (if pk tx s.2.1 = 33 then 1 else if pk tx s.2.1 = 63 then 2 else if pk tx s.2.1 = 42 then 3 else 0)) (72 + Int32.ofNat s.1.length) (m_sA S 5 3 (Int32.ofNat s.1.length + 1))) ∧ (¬ ((isNm (pk tx s.2.1) ∨ pk tx s.2.1 = 33 ∨ pk tx s.2.1 = 63 ∨ pk tx s.2.1 = 42) ∧ s.1.length < 24) → ∃ S', M214 N S = some (0, S') ∧ S'.1 3 = Int32.ofNat s.2.1 ∧ pgx S S') := by
  have n0 : mj_c1 .ne 0 = false := by decide
  have n1 : mj_c1 .ne 1 = true := by decide
  have b0 : mj_c1 .eq 0 = true := by decide
  have b1 : mj_c1 .eq 1 = false := by decide
  obtain ⟨h1, h2, h3, h4, h5, h6, h7, h8, h9⟩ := h
  have r2 := M212_do (N := N) h1
  have r5 := M215_do (N := N) h1
  obtain ⟨c, hc⟩ : ∃ c, pk tx s.2.1 = c := ⟨_, rfl⟩
  rw [hc] at r2 r5 ⊢
  have e5 : (S.2.1 5 3).toInt = s.1.length := by rw [h5.1]; exact i_nat (by have := h5.2.1; omega)
  have q24 : (24 : Int32).toInt = 24 := rfl
  have fail : J214_51 N S = some (0, m_sV S 3 (S.1 22)) ∧ (m_sV S 3 (S.1 22)).1 3 = Int32.ofNat s.2.1 ∧ pgx S (m_sV S 3 (S.1 22)) := by
    refine ⟨?_, h1.2.1, pgx_3 pg_refl _⟩
    simp only [J214_51, M213, Option.bind_some]
    rfl
  have way : isNm c ∨ c = 33 ∨ c = 63 ∨ c = 42 → M214 N S = J214_35 N c 1 S := by
    intro hi
    by_cases k1 : isNm c
    · rw [if_pos k1] at r5
      simp only [M214, r2, r5, n1, cond_true, J214_30, Option.bind_some]
    · rw [if_neg k1] at r5
      by_cases k2 : c = 33
      · have a : mj_c2 .eq c 33 = true := decide_eq_true k2
        simp only [M214, r2, r5, n0, cond_false, a, cond_true, J214_30, Option.bind_some]
      · have a : mj_c2 .eq c 33 = false := decide_eq_false k2
        by_cases k3 : c = 63
        · have b : mj_c2 .eq c 63 = true := decide_eq_true k3
          simp only [M214, r2, r5, n0, cond_false, a, b, cond_true, J214_30, Option.bind_some]
        · have b : mj_c2 .eq c 63 = false := decide_eq_false k3
          have d : mj_c2 .ne c 42 = false := decide_eq_false (fun q => q (by rcases hi with q | q | q | q; exact absurd q k1; exact absurd q k2; exact absurd q k3; exact q))
          simp only [M214, r2, r5, n0, cond_false, a, b, d, J214_30, Option.bind_some]
  constructor
  · rintro ⟨hi, h24⟩
    have c24 : mj_c2 .ne (S.2.1 5 3) 24 = true := i_c2 (by show decide _ = true; apply decide_eq_true; rw [e5, q24]; omega)
    rw [h5.1] at c24
    rw [way hi]
    by_cases k2 : c = 33
    · have a : mj_c2 .ne c 33 = false := decide_eq_false (fun q => q k2)
      rw [if_pos k2]
      simp only [J214_35, b1, cond_false, c24, cond_true, a, h5.1]
      rfl
    · have a : mj_c2 .ne c 33 = true := decide_eq_true k2
      rw [if_neg k2]
      by_cases k3 : c = 63
      · have b : mj_c2 .ne c 63 = false := decide_eq_false (fun q => q k3)
        rw [if_pos k3]
        simp only [J214_35, b1, cond_false, c24, cond_true, a, b, h5.1]
        rfl
      · have b : mj_c2 .ne c 63 = true := decide_eq_true k3
        rw [if_neg k3]
        by_cases k4 : c = 42
        · have d : mj_c2 .ne c 42 = false := decide_eq_false (fun q => q k4)
          rw [if_pos k4]
          simp only [J214_35, b1, cond_false, c24, cond_true, a, b, d, h5.1]
          rfl
        · have d : mj_c2 .ne c 42 = true := decide_eq_true k4
          rw [if_neg k4]
          simp only [J214_35, b1, cond_false, c24, cond_true, a, b, d, h5.1]
          rfl
  · intro hn
    by_cases hi : isNm c ∨ c = 33 ∨ c = 63 ∨ c = 42
    · have h24 : ¬ s.1.length < 24 := fun q => hn ⟨hi, q⟩
      have c24 : mj_c2 .ne (S.2.1 5 3) 24 = false := i_c2 (by show decide _ = false; apply decide_eq_false; rw [e5, q24]; have := h5.2.1; omega)
      refine ⟨_, ?_, fail.2⟩
      rw [way hi]
      simp only [J214_35, b1, cond_false, c24]
      exact fail.1
    · have k1 : ¬ isNm c := fun q => hi (Or.inl q)
      rw [if_neg k1] at r5
      have a : mj_c2 .eq c 33 = false := decide_eq_false (fun q => hi (Or.inr (Or.inl q)))
      have b : mj_c2 .eq c 63 = false := decide_eq_false (fun q => hi (Or.inr (Or.inr (Or.inl q))))
      have d : mj_c2 .ne c 42 = true := decide_eq_true (fun q => hi (Or.inr (Or.inr (Or.inr q))))
      refine ⟨_, ?_, fail.2⟩
      simp only [M214, r2, r5, n0, cond_false, a, b, d, cond_true, J214_35, b0, Option.bind_some]
      exact fail.1
/-- from the head on: k the kind, a what it is about -/
theorem J214_120_do {S : mS} {s : Rs} {B : List (Nat × Nat)} (h : rq tx S s B) (h24 : s.1.length < 24) (hlt : s.2.1 < tx.length) {k : Nat} (hk : k ≤ 3) : ∃ (S1 : mS) (a : Nat), (isNm (pk tx s.2.1) → a = ((pk tx s.2.1).toInt - 65).toNat) ∧ (¬ isNm (pk tx s.2.1) → a = 0) ∧ J214_120 N (pk tx s.2.1) (Int32.ofNat s.1.length) (72 + Int32.ofNat s.1.length) (Int32.ofNat k) (72 + Int32.ofNat s.1.length) (m_sA S 5 3 (Int32.ofNat s.1.length + 1)) = (bif decide (k ≠ 3) then (bif decide (k ≠ 0) then J214_235 N (Int32.ofNat s.1.length) (72 + Int32.ofNat s.1.length) S1 else (M219 N 61 S1).bind fun r62 => bif mj_c1 .ne r62.1 then J214_235 N (Int32.ofNat s.1.length) (72 + Int32.ofNat s.1.length) r62.2 else some (0, r62.2)) else (M216 N 0 20 S1).bind fun r67 => bif mj_c1 .ne r67.1 then (M218 N (Int32.ofNat s.1.length) 0 (m_sA r67.2 7 (72 + s.1.length) (r67.2.1 26))).bind fun r74 => if r74.1 = 0 ∨ r74.1 = 1 then some (r74.1, r74.2) else none else some (0, r67.2)) ∧ mst S1 tx (s.2.1 + 1) ∧ S1.1 24 = Int32.ofNat s.2.2.1 ∧ drN S1 s.2.2.2.1 ∧ fcR S1 s.2.2.2.2 ∧ skB S1 B ∧ pg S S1 ∧ S1.2.1 5 3 = Int32.ofNat (s.1.length + 1) ∧ S1.2.1 6 (72 + s.1.length) = Int32.ofNat k ∧ S1.2.1 7 (72 + s.1.length) = Int32.ofNat a ∧ S1.2.1 10 (72 + s.1.length) = Int32.ofNat (s.1.length + 1) ∧ S1.2.1 11 (72 + s.1.length) = Int32.ofNat (s.1.length + 1) ∧ ∀ j i, 6 ≤ j → j ≤ 11 → i < s.1.length → S1.2.1 j (72 + i) = S.2.1 j (72 + i) := by
  have n0 : mj_c1 .ne 0 = false := by decide
  have n1 : mj_c1 .ne 1 = true := by decide
  have b0 : mj_c1 .eq 0 = true := by decide
  have b1 : mj_c1 .eq 1 = false := by decide
  have e72 := i_72 (i := s.1.length) (by omega)
  have et : (72 + Int32.ofNat s.1.length).toInt.toNat = 72 + s.1.length := by omega
  have c6 : 0 ≤ (72 + Int32.ofNat s.1.length).toInt ∧ (72 + Int32.ofNat s.1.length).toInt < mN 6 := by rw [show mN 6 = 96 from rfl]; omega
  have c7 : 0 ≤ (72 + Int32.ofNat s.1.length).toInt ∧ (72 + Int32.ofNat s.1.length).toInt < mN 7 := by rw [show mN 7 = 96 from rfl]; omega
  have c10 : 0 ≤ (72 + Int32.ofNat s.1.length).toInt ∧ (72 + Int32.ofNat s.1.length).toInt < mN 10 := by rw [show mN 10 = 96 from rfl]; omega
  have c11 : 0 ≤ (72 + Int32.ofNat s.1.length).toInt ∧ (72 + Int32.ofNat s.1.length).toInt < mN 11 := by rw [show mN 11 = 96 from rfl]; omega
  have hm := h.1
  obtain ⟨T, hT⟩ : ∃ T, m_sA (m_sA S 5 3 (Int32.ofNat s.1.length + 1)) 6 (72 + s.1.length) (Int32.ofNat k) = T := ⟨_, rfl⟩
  have agT : m_agr [] [5, 6] [] S T := by rw [← hT]; exact m_agr_sA (m_agr_sA m_agr_refl (by decide) _ _) (by decide) _ _
  have r5 := M215_do (N := N) (mst_ag hm agT (by decide))
  have e6 : T.2.1 6 (72 + s.1.length) = Int32.ofNat k := by rw [← hT]; simp [m_sA]
  have e22 : T.1 22 = S.1 22 := agT.1 22 (by decide)
  have ck3 : mj_c2 .ne (Int32.ofNat k) 3 = decide (k ≠ 3) := by
    by_cases hk2 : k = 3
    · subst hk2; decide
    · rw [decide_eq_true hk2]
      exact i_c2 (by show decide _ = true; apply decide_eq_true; rw [i_nat (by omega), q_3]; omega)
  have ck0 : mj_c1 .ne (Int32.ofNat k) = decide (k ≠ 0) := by
    by_cases hk2 : k = 0
    · subst hk2; decide
    · rw [decide_eq_true hk2]
      exact i_ne0 (by rw [i_nat (by omega)]; omega)
  -- J214_142 with the number a
  have main : ∀ a : Nat, ∃ S1, J214_142 N (Int32.ofNat s.1.length) (72 + Int32.ofNat s.1.length) (Int32.ofNat a) (72 + Int32.ofNat s.1.length) T = (bif decide (k ≠ 3) then (bif decide (k ≠ 0) then J214_235 N (Int32.ofNat s.1.length) (72 + Int32.ofNat s.1.length) S1 else (M219 N 61 S1).bind fun r62 => bif mj_c1 .ne r62.1 then J214_235 N (Int32.ofNat s.1.length) (72 + Int32.ofNat s.1.length) r62.2 else some (0, r62.2)) else (M216 N 0 20 S1).bind fun r67 => bif mj_c1 .ne r67.1 then (M218 N (Int32.ofNat s.1.length) 0 (m_sA r67.2 7 (72 + s.1.length) (r67.2.1 26))).bind fun r74 => if r74.1 = 0 ∨ r74.1 = 1 then some (r74.1, r74.2) else none else some (0, r67.2)) ∧ mst S1 tx (s.2.1 + 1) ∧ S1.1 24 = Int32.ofNat s.2.2.1 ∧ drN S1 s.2.2.2.1 ∧ fcR S1 s.2.2.2.2 ∧ skB S1 B ∧ pg S S1 ∧ S1.2.1 5 3 = Int32.ofNat (s.1.length + 1) ∧ S1.2.1 6 (72 + s.1.length) = Int32.ofNat k ∧ S1.2.1 7 (72 + s.1.length) = Int32.ofNat a ∧ S1.2.1 10 (72 + s.1.length) = Int32.ofNat (s.1.length + 1) ∧ S1.2.1 11 (72 + s.1.length) = Int32.ofNat (s.1.length + 1) ∧ ∀ j i, 6 ≤ j → j ≤ 11 → i < s.1.length → S1.2.1 j (72 + i) = S.2.1 j (72 + i) := by
    intro a
    obtain ⟨S1, hS1, rest⟩ := head_do (k := k) (a := a) h h24 hlt
    rw [hT] at hS1
    refine ⟨S1, ?_, rest⟩
    simp only [J214_142, if_pos c7, if_pos c10, if_pos c11, if_pos c6, et, e6, ck3, ck0, e22, hS1]
  by_cases knm : isNm (pk tx s.2.1)
  · rw [if_pos knm] at r5
    have q65 : (65 : Int32).toInt = 65 := rfl
    have e65 : (pk tx s.2.1 - 65).toInt = (pk tx s.2.1).toInt - 65 := by rw [i_sub (by rw [q65]; omega) (by rw [q65]; omega), q65]
    have ek : pk tx s.2.1 - 65 = Int32.ofNat ((pk tx s.2.1).toInt - 65).toNat := i_eq (by omega)
    obtain ⟨S1, m1, m2⟩ := main ((pk tx s.2.1).toInt - 65).toNat
    refine ⟨S1, _, fun _ => rfl, fun q => absurd knm q, ?_, m2⟩
    rw [← m1, ← ek]
    unfold J214_120
    rw [if_pos c6, et, hT, r5]
    rfl
  · rw [if_neg knm] at r5
    obtain ⟨S1, m1, m2⟩ := main 0
    refine ⟨S1, 0, fun q => absurd q knm, fun _ => rfl, ?_, m2⟩
    rw [← m1]
    unfold J214_120
    rw [if_pos c6, et, hT, r5]
    rfl
end MSV
