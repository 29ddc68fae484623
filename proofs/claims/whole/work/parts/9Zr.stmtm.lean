section MSU
variable {N : Nat} {tx : List Int32}
/-- a statement's row is begun: all but its nodes -/
theorem head_do {S : mS} {s : Rs} {B : List (Nat × Nat)} {k a : Nat} (h : rq tx S s B) (h24 : s.1.length < 24) (hlt : s.2.1 < tx.length) : ∃ S', m_sV (m_sA (m_sA (m_sA (m_sA (m_sA S 5 3 (Int32.ofNat s.1.length + 1)) 6 (72 + s.1.length) (Int32.ofNat k)) 7 (72 + s.1.length) (Int32.ofNat a)) 10 (72 + s.1.length) (Int32.ofNat s.1.length + 1)) 11 (72 + s.1.length) (Int32.ofNat s.1.length + 1)) 22 (S.1 22 + 1) = S' ∧ mst S' tx (s.2.1 + 1) ∧ S'.1 24 = Int32.ofNat s.2.2.1 ∧ drN S' s.2.2.2.1 ∧ fcR S' s.2.2.2.2 ∧ skB S' B ∧ pg S S' ∧ S'.2.1 5 3 = Int32.ofNat (s.1.length + 1) ∧ S'.2.1 6 (72 + s.1.length) = Int32.ofNat k ∧ S'.2.1 7 (72 + s.1.length) = Int32.ofNat a ∧ S'.2.1 10 (72 + s.1.length) = Int32.ofNat (s.1.length + 1) ∧ S'.2.1 11 (72 + s.1.length) = Int32.ofNat (s.1.length + 1) ∧ ∀ j i, 6 ≤ j → j ≤ 11 → i < s.1.length → S'.2.1 j (72 + i) = S.2.1 j (72 + i) := by
  obtain ⟨h1, h2, h3, h4, h5, h6, h7, h8, h9⟩ := h
  have ei : Int32.ofNat s.1.length + 1 = Int32.ofNat (s.1.length + 1) := i_inc (by omega)
  rw [ei]
  obtain ⟨S', hS'⟩ : ∃ S', m_sV (m_sA (m_sA (m_sA (m_sA (m_sA S 5 3 (Int32.ofNat (s.1.length + 1))) 6 (72 + s.1.length) (Int32.ofNat k)) 7 (72 + s.1.length) (Int32.ofNat a)) 10 (72 + s.1.length) (Int32.ofNat (s.1.length + 1))) 11 (72 + s.1.length) (Int32.ofNat (s.1.length + 1))) 22 (S.1 22 + 1) = S' := ⟨_, rfl⟩
  have ag : m_agr [22] [5, 6, 7, 10, 11] [] S S' := by rw [← hS']; exact m_agr_sV (m_agr_sA (m_agr_sA (m_agr_sA (m_agr_sA (m_agr_sA m_agr_refl (by decide) _ _) (by decide) _ _) (by decide) _ _) (by decide) _ _) (by decide) _ _) (by decide) _
  refine ⟨S', hS', ?_, by rw [ag.1 24 (by decide)]; exact h2, ?_, fc_ag h4 ag (by decide), ?_, ?_, ?_, ?_, ?_, ?_, ?_, ?_⟩
  · have := mst_inc h1 hlt
    refine ⟨txR_ag h1.1 ag (by decide), ?_, this.2.2⟩
    rw [← hS']
    exact this.2.1
  · unfold drN ndAt
    rw [ag.1 23 (by decide), ag.2.1 13 (by decide), ag.2.1 14 (by decide), ag.2.1 15 (by decide), ag.2.1 16 (by decide), ag.2.1 17 (by decide), ag.2.1 18 (by decide), ag.2.1 19 (by decide)]
    exact h3
  · unfold skB
    rw [ag.1 36 (by decide), ag.2.1 34 (by decide), ag.2.1 35 (by decide)]
    exact h6
  · rw [← hS']
    exact pg_sV (pg_sA (pg_sA (pg_sA (pg_sA (pg_sA pg_refl (by unfold pgA; omega) _) (by unfold pgA; omega) _) (by unfold pgA; omega) _) (by unfold pgA; omega) _) (by unfold pgA; omega) _) (by decide) _
  · rw [← hS']; simp [m_sV, m_sA]
  · rw [← hS']; simp [m_sV, m_sA]
  · rw [← hS']; simp [m_sV, m_sA]
  · rw [← hS']; simp [m_sV, m_sA]
  · rw [← hS']; simp [m_sV, m_sA]
  · intro j i j1 j2 hi
    rw [← hS']
    have n1 : ¬ (j = 5 ∧ 72 + i = 3) := by omega
    have n2 : ∀ q : Nat, ¬ (j = q ∧ 72 + i = 72 + s.1.length) := by omega
    show (if j = 11 ∧ 72 + i = 72 + s.1.length then _ else if j = 10 ∧ 72 + i = 72 + s.1.length then _ else if j = 7 ∧ 72 + i = 72 + s.1.length then _ else if j = 6 ∧ 72 + i = 72 + s.1.length then _ else if j = 5 ∧ 72 + i = 3 then _ else S.2.1 j (72 + i)) = _
    rw [if_neg (n2 _), if_neg (n2 _), if_neg (n2 _), if_neg (n2 _), if_neg n1]
/-- the list of statements grows by one -/
theorem drS_add {S S' : mS} {sts : List St} {t : St} (h : drS S sts) (h24 : sts.length < 24) (old : ∀ j i, 6 ≤ j → j ≤ 11 → i < sts.length → S'.2.1 j (72 + i) = S.2.1 j (72 + i)) (h5 : S'.2.1 5 3 = Int32.ofNat (sts.length + 1)) (ht : t.1 ≤ 3 ∧ S'.2.1 6 (72 + sts.length) = Int32.ofNat t.1 ∧ S'.2.1 7 (72 + sts.length) = Int32.ofNat t.2.1 ∧ (t.1 ≠ 3 → S'.2.1 8 (72 + sts.length) = Int32.ofNat t.2.2.1 ∧ S'.2.1 9 (72 + sts.length) = Int32.ofNat t.2.2.2.1) ∧ (t.1 = 2 → S'.2.1 10 (72 + sts.length) = Int32.ofNat t.2.2.2.2.1) ∧ S'.2.1 11 (72 + sts.length) = Int32.ofNat t.2.2.2.2.2.1) : drS S' (sts ++ [t]) := by
  refine ⟨by rw [List.length_append]; exact h5, by rw [List.length_append]; exact h24, fun i t' hi => ?_⟩
  by_cases e : i = sts.length
  · subst e
    rw [List.getElem?_append_right (Nat.le_refl _), Nat.sub_self] at hi
    cases hi
    exact ht
  · have hlt : i < sts.length := by
      have := (List.getElem?_eq_some_iff.mp hi).1
      rw [List.length_append] at this
      simp at this
      omega
    rw [List.getElem?_append_left hlt] at hi
    rw [old 6 i (by omega) (by omega) hlt, old 7 i (by omega) (by omega) hlt, old 8 i (by omega) (by omega) hlt, old 9 i (by omega) (by omega) hlt, old 10 i (by omega) (by omega) hlt, old 11 i (by omega) (by omega) hlt]
    exact h.2.2 i t' hi
/-- an expression behind a statement's head, and what follows it -/
theorem J214_235_do (hN : 2000 ≤ N) {S S1 : mS} {s : Rs} {B : List (Nat × Nat)} {k a p n : Nat} (h : rq tx S s B) (h24 : s.1.length < 24) (hk : k ≤ 2) (hmu : 29 < n) (hp : s.2.1 ≤ p) (m1 : mst S1 tx p) (m2 : S1.1 24 = Int32.ofNat s.2.2.1) (m3 : drN S1 s.2.2.2.1) (m4 : fcR S1 s.2.2.2.2) (m5 : skB S1 B) (m6 : pg S S1) (m7 : S1.2.1 5 3 = Int32.ofNat (s.1.length + 1)) (m8 : S1.2.1 6 (72 + s.1.length) = Int32.ofNat k) (m9 : S1.2.1 7 (72 + s.1.length) = Int32.ofNat a) (m10 : S1.2.1 10 (72 + s.1.length) = Int32.ofNat (s.1.length + 1)) (m11 : S1.2.1 11 (72 + s.1.length) = Int32.ofNat (s.1.length + 1)) (m12 : ∀ j i, 6 ≤ j → j ≤ 11 → i < s.1.length → S1.2.1 j (72 + i) = S.2.1 j (72 + i)) : (∀ w, rX tx n 0 0 (p, s.2.2) = .inl w → ∃ S', J214_235 N (Int32.ofNat s.1.length) (72 + Int32.ofNat s.1.length) S1 = some (0, S') ∧ S'.1 3 = Int32.ofNat w ∧ pgx S S') ∧ (∀ r, rX tx n 0 0 (p, s.2.2) = .inr r → ∃ S2, (∀ f, rq tx S2 (s.1 ++ [(k, a, s.2.2.2.1.length, r.2.2.1.length - 1, s.1.length + 1, s.1.length + 1, f)], r) B) ∧ pg S S2 ∧ J214_235 N (Int32.ofNat s.1.length) (72 + Int32.ofNat s.1.length) S1 = (bif decide (k ≠ 2) then (M219 N 59 S2).bind fun r54 => J214_271 N r54.1 r54.2 else (M218 N (Int32.ofNat s.1.length) 0 S2).bind fun r59 => J214_271 N r59.1 r59.2)) := by
  have n0 : mj_c1 .ne 0 = false := by decide
  have n1 : mj_c1 .ne 1 = true := by decide
  obtain ⟨-, -, -, -, h5, -, h7, h8, h9⟩ := h
  obtain ⟨x1, x2⟩ := M220_do (N := N) (tx := tx) (r := (p, s.2.2)) hN h24 m1 m2 m3 m4 (by dsimp only; omega) (by dsimp only; omega) h9 hmu
  have e72 := i_72 (i := s.1.length) (by omega)
  have c6 : 0 ≤ (72 + Int32.ofNat s.1.length).toInt ∧ (72 + Int32.ofNat s.1.length).toInt < mN 6 := by rw [show mN 6 = 96 from rfl]; omega
  have et : (72 + Int32.ofNat s.1.length).toInt.toNat = 72 + s.1.length := by omega
  constructor
  · intro w hw
    obtain ⟨S', a1, a2, a3⟩ := x1 w hw
    refine ⟨S', ?_, a2, pgx_trans m6 a3⟩
    simp only [J214_235, a1, n0, cond_false, Option.bind_some]
  · intro r hr
    obtain ⟨S2, a1, a2, a3, a4, a5, a6, a7, a8, a9, a10, a11, a12, a13⟩ := x2 r hr
    dsimp only at a6
    have same : ∀ j i, j = 5 ∨ j = 6 ∨ j = 7 ∨ j = 10 ∨ j = 11 ∨ j = 34 ∨ j = 35 → S2.2.1 j i = S1.2.1 j i := fun j i hj => a13 j i (by unfold pfA; omega) (by omega)
    have e6 : S2.2.1 6 (72 + s.1.length) = Int32.ofNat k := (same 6 _ (by omega)).trans m8
    refine ⟨S2, fun f => ⟨a2, a3, a4, a5, ?_, ?_, a8, a9, a10⟩, pg_trans m6 a11, ?_⟩
    · refine drS_add h5 h24 (fun j i j1 j2 hi => ?_) ((same 5 3 (by omega)).trans m7) ⟨by dsimp only; omega, e6, (same 7 _ (by omega)).trans m9, fun _ => ⟨a6, a7⟩, fun _ => (same 10 _ (by omega)).trans m10, (same 11 _ (by omega)).trans m11⟩
      rw [a13 j (72 + i) (by unfold pfA; omega) (by omega)]
      exact m12 j i j1 j2 hi
    · obtain ⟨b1, b2, b3⟩ := m5
      exact ⟨a12.trans b1, b2, fun j b hj => by rw [same 34 j (by omega), same 35 j (by omega)]; exact b3 j b hj⟩
    · have c2 : mj_c2 .ne (Int32.ofNat k) 2 = decide (k ≠ 2) := by
        by_cases hk2 : k = 2
        · subst hk2; decide
        · rw [decide_eq_true hk2]
          exact i_c2 (by show decide _ = true; apply decide_eq_true; rw [i_nat (by omega), q_2]; omega)
      simp only [J214_235, a1, n1, cond_true, if_pos c6, et, e6, c2, Option.bind_some]
/-- a statement that is one: assignment or condition -/
theorem sim_end {S S2 : mS} {s : Rs} {B : List (Nat × Nat)} {t : St} {r : Rd} (h : rq tx S2 (s.1 ++ [t], r) B) (hp : pg S S2) : (pk tx r.1 = 59 → ∃ S', ((M219 N 59 S2).bind fun r54 => J214_271 N r54.1 r54.2) = some (1, S') ∧ rq tx S' (s.1 ++ [t], r.1 + 1, r.2) B ∧ pg S S') ∧ (pk tx r.1 ≠ 59 → ∃ S', ((M219 N 59 S2).bind fun r54 => J214_271 N r54.1 r54.2) = some (0, S') ∧ S'.1 3 = Int32.ofNat r.1 ∧ pgx S S') := by
  obtain ⟨h1, h2, h3, h4, h5, h6, h7, h8, h9⟩ := h
  have w := M219_do (N := N) h1 59
  constructor
  · intro hc
    have hlt := pkz_is hc (by decide)
    rw [if_pos hc] at w
    obtain ⟨S', hS'⟩ : ∃ S', m_sV S2 22 (S2.1 22 + 1) = S' := ⟨_, rfl⟩
    have m' := mst_inc h1 hlt
    rw [hS'] at w m'
    have ag : m_agr [22] [] [] S2 S' := by rw [← hS']; exact m_agr_sV m_agr_refl (by decide) _
    have e2 : S'.2 = S2.2 := by rw [← hS']; rfl
    refine ⟨S', by simp only [w, J214_271, Option.bind_some]; rfl, ⟨m', by rw [ag.1 24 (by decide)]; exact h2, ?_, fc_ag h4 ag (by decide), ?_, ?_, by dsimp only at h7 ⊢; omega, by dsimp only at h8 ⊢; omega, h9⟩, by rw [← hS']; exact pg_sV hp (by decide) _⟩
    · unfold drN ndAt
      rw [ag.1 23 (by decide), e2]
      exact h3
    · unfold drS
      rw [e2]
      exact h5
    · unfold skB
      rw [ag.1 36 (by decide), e2]
      exact h6
  · intro hc
    rw [if_neg hc] at w
    refine ⟨m_sV S2 3 (S2.1 22), by simp only [w, J214_271, Option.bind_some]; rfl, h1.2.1, pgx_3 hp _⟩
end MSU
