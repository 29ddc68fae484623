section MSX
variable {N : Nat} {tx : List Int32}
theorem skB_pop {S : mS} {b : Nat × Nat} {B : List (Nat × Nat)} (h : skB S (b :: B)) : (S.1 36).toInt = B.length + 1 ∧ S.1 36 - 1 = Int32.ofNat B.length ∧ S.2.1 34 B.length = Int32.ofNat b.1 ∧ S.2.1 35 B.length = Int32.ofNat b.2 ∧ B.length < 4 ∧ ∀ S' : mS, S'.2.1 34 = S.2.1 34 → S'.2.1 35 = S.2.1 35 → S'.1 36 = Int32.ofNat B.length → skB S' B := by
  obtain ⟨h1, h2, h3⟩ := h
  rw [List.length_cons] at h1 h2
  have e : (S.1 36).toInt = B.length + 1 := by rw [h1]; exact i_nat (by omega)
  have at0 := h3 B.length b (by rw [List.reverse_cons, List.getElem?_append_right (by rw [List.length_reverse]; exact Nat.le_refl _), List.length_reverse, Nat.sub_self]; rfl)
  refine ⟨e, i_eq (by rw [i_sub (by rw [q_1]; omega) (by rw [q_1]; omega), q_1, e]; omega), at0.1, at0.2, by omega, fun S' e1 e2 e3 => ⟨e3, by omega, fun j q hj => ?_⟩⟩
  rw [e1, e2]
  exact h3 j q (by rw [List.reverse_cons]; exact ap_g hj)
/-- a block is left -/
theorem M234_do {S : mS} {s : Rs} {B : List (Nat × Nat)} {i sec : Nat} {t : St} (h : rq tx S s ((i, sec) :: B)) (hi : s.1[i]? = some t) (hsec : sec ≤ 1) : (pk tx s.2.1 ≠ 125 → ∃ S', M234 N S = some (0, S') ∧ S'.1 3 = Int32.ofNat s.2.1 ∧ pgx S S') ∧ (pk tx s.2.1 = 125 → t.1 ≠ 2 ∨ sec = 1 → ∀ f, ∃ S', M234 N S = some (1, S') ∧ rq tx S' (s.1.set i (t.1, t.2.1, t.2.2.1, t.2.2.2.1, t.2.2.2.2.1, s.1.length, f), s.2.1 + 1, s.2.2) B ∧ pg S S') ∧ (pk tx s.2.1 = 125 → t.1 = 2 → sec = 0 → ∀ f, (pk tx (s.2.1 + 1) ≠ 58 → ∃ S', M234 N S = some (1, S') ∧ rq tx S' (s.1.set i (t.1, t.2.1, t.2.2.1, t.2.2.2.1, s.1.length, s.1.length, f), s.2.1 + 1, s.2.2) B ∧ pg S S') ∧ (pk tx (s.2.1 + 1) = 58 → (pk tx (s.2.1 + 2) = 123 → ∃ S', M234 N S = some (1, S') ∧ rq tx S' (s.1.set i (t.1, t.2.1, t.2.2.1, t.2.2.2.1, s.1.length, s.1.length, f), s.2.1 + 3, s.2.2) ((i, 1) :: B) ∧ pg S S') ∧ (pk tx (s.2.1 + 2) ≠ 123 → ∃ S', M234 N S = some (0, S') ∧ S'.1 3 = Int32.ofNat (s.2.1 + 2) ∧ pgx S S'))) := by
  have n0 : mj_c1 .ne 0 = false := by decide
  have n1 : mj_c1 .ne 1 = true := by decide
  obtain ⟨h1, h2, h3, h4, h5, h6, h7, h8, h9⟩ := h
  have hlt := (List.getElem?_eq_some_iff.mp hi).1
  have w := M219_do (N := N) h1 125
  obtain ⟨b1, b2, b3, b4, b5, b6⟩ := skB_pop h6
  dsimp only at b3 b4
  obtain ⟨d5, d6, d7⟩ := id h5
  obtain ⟨t1, t2, t3, t4, t5, t6⟩ := d7 i t hi
  by_cases hc : pk tx s.2.1 = 125
  · have hlt2 := pkz_is hc (by decide)
    rw [if_pos hc] at w
    obtain ⟨S1, hS1⟩ : ∃ S1, m_sV S 22 (S.1 22 + 1) = S1 := ⟨_, rfl⟩
    have m1 := mst_inc h1 hlt2
    rw [hS1] at w m1
    have e1 : S1.2 = S.2 := by rw [← hS1]; rfl
    have ag1 : m_agr [22] [] [] S S1 := by rw [← hS1]; exact m_agr_sV m_agr_refl (by decide) _
    have e36 : S1.1 36 = S.1 36 := ag1.1 36 (by decide)
    have en : (S1.1 36 - 1).toInt = B.length := by rw [e36, b2]; exact i_nat (by omega)
    have et : (S1.1 36 - 1).toInt.toNat = B.length := by omega
    have c34 : 0 ≤ (S1.1 36 - 1).toInt ∧ (S1.1 36 - 1).toInt < mN 34 := by rw [show mN 34 = 5 from rfl]; omega
    have c35 : 0 ≤ (S1.1 36 - 1).toInt ∧ (S1.1 36 - 1).toInt < mN 35 := by rw [show mN 35 = 5 from rfl]; omega
    have v34 : S1.2.1 34 B.length = Int32.ofNat i := by rw [e1]; exact b3
    have v35 : S1.2.1 35 B.length = Int32.ofNat sec := by rw [e1]; exact b4
    have e72 := i_72 (i := i) (by omega)
    have c11 : 0 ≤ (72 + Int32.ofNat i).toInt ∧ (72 + Int32.ofNat i).toInt < mN 11 := by rw [show mN 11 = 96 from rfl]; omega
    have c6 : 0 ≤ (72 + Int32.ofNat i).toInt ∧ (72 + Int32.ofNat i).toInt < mN 6 := by rw [show mN 6 = 96 from rfl]; omega
    have c10 : 0 ≤ (72 + Int32.ofNat i).toInt ∧ (72 + Int32.ofNat i).toInt < mN 10 := by rw [show mN 10 = 96 from rfl]; omega
    have et2 : (72 + Int32.ofNat i).toInt.toNat = 72 + i := by omega
    have v6 : S1.2.1 6 (72 + i) = Int32.ofNat t.1 := by rw [e1]; exact t2
    have v5 : S1.2.1 5 3 = Int32.ofNat s.1.length := by rw [e1]; exact d5
    have e2' : S1.1 36 - 1 = Int32.ofNat B.length := by rw [e36]; exact b2
    -- the end is set
    obtain ⟨S2, hS2⟩ : ∃ S2, m_sA (m_sV S1 36 (S1.1 36 - 1)) 11 (72 + i) (Int32.ofNat s.1.length) = S2 := ⟨_, rfl⟩
    have ag2 : m_agr [36] [11] [] S1 S2 := by rw [← hS2]; exact m_agr_sA (m_agr_sV m_agr_refl (by decide) _) (by decide) _ _
    have p2 : pg S S2 := by rw [← hS2, ← hS1]; exact pg_sA (pg_sV (pg_sV pg_refl (by decide) _) (by decide) _) (by unfold pgA; omega) _
    have v11 : S2.2.1 11 (72 + i) = Int32.ofNat s.1.length := by rw [← hS2]; simp [m_sA]
    have o11 : ∀ j, j ≠ i → S2.2.1 11 (72 + j) = S.2.1 11 (72 + j) := fun j hj => by
      rw [← hS2, ← e1]
      exact if_neg (fun z => hj (by omega))
    have same2 : ∀ j, j ≠ 11 → S2.2.1 j = S.2.1 j := fun j hj => by rw [ag2.2.1 j (by simpa using hj), e1]
    have v36 : S2.1 36 = Int32.ofNat B.length := by rw [← hS2]; exact e2'
    have mk : ∀ (S' : mS) (sts : List St), m_agr [] [10] [] S2 S' → drS S' sts → rq tx S' (sts, s.2.1 + 1, s.2.2) B := by
      intro S' sts ag hd
      refine ⟨mst_ag (mst_ag m1 ag2 (by decide)) ag (by decide), by rw [ag.1 24 (by decide), ag2.1 24 (by decide), ag1.1 24 (by decide)]; exact h2, ?_, fc_ag (fc_ag (fc_ag h4 ag1 (by decide)) ag2 (by decide)) ag (by decide), hd, b6 S' ?_ ?_ ?_, by dsimp only; omega, by dsimp only; omega, h9⟩
      · unfold drN ndAt
        rw [ag.1 23 (by decide), ag2.1 23 (by decide), ag1.1 23 (by decide), ag.2.1 13 (by decide), ag.2.1 14 (by decide), ag.2.1 15 (by decide), ag.2.1 16 (by decide), ag.2.1 17 (by decide), ag.2.1 18 (by decide), ag.2.1 19 (by decide), same2 13 (by decide), same2 14 (by decide), same2 15 (by decide), same2 16 (by decide), same2 17 (by decide), same2 18 (by decide), same2 19 (by decide)]
        exact h3
      · rw [ag.2.1 34 (by decide), same2 34 (by decide)]
      · rw [ag.2.1 35 (by decide), same2 35 (by decide)]
      · rw [ag.1 36 (by decide)]
        exact v36
    refine ⟨fun q => absurd hc q, fun _ hk f => ?_, fun _ hk2 hs0 f => ?_⟩
    · refine ⟨S2, ?_, mk S2 _ m_agr_refl (drS_set h5 hi (same2 5 (by decide)) (same2 6 (by decide)) (same2 7 (by decide)) (same2 8 (by decide)) (same2 9 (by decide)) (fun j _ => by rw [same2 10 (by decide)]) o11 (fun q => by rw [same2 10 (by decide)]; exact t5 q) v11), p2⟩
      by_cases hk2 : t.1 = 2
      · have hs1 : sec = 1 := hk.elim (fun q => absurd hk2 q) id
        have c2 : mj_c2 .ne (Int32.ofNat t.1) 2 = false := by rw [hk2]; decide
        have c1 : mj_c1 .ne (Int32.ofNat sec) = true := by rw [hs1]; decide
        simp only [M234, w, n1, cond_true, if_pos c34, et, v34, if_pos c11, if_pos c6, et2, v6, c2, cond_false, if_pos c35, v35, c1, v5, hS2, J234_114, Option.bind_some]
      · have c2 : mj_c2 .ne (Int32.ofNat t.1) 2 = true := i_c2 (by show decide _ = true; apply decide_eq_true; rw [i_nat (by omega), q_2]; omega)
        simp only [M234, w, n1, cond_true, if_pos c34, et, v34, if_pos c11, if_pos c6, et2, v6, c2, v5, hS2, J234_114, Option.bind_some]
    · have c2 : mj_c2 .ne (Int32.ofNat t.1) 2 = false := by rw [hk2]; decide
      have c1 : mj_c1 .ne (Int32.ofNat sec) = false := by rw [hs0]; decide
      obtain ⟨S3, hS3⟩ : ∃ S3, m_sA S2 10 (72 + i) (Int32.ofNat s.1.length) = S3 := ⟨_, rfl⟩
      have ag3 : m_agr [] [10] [] S2 S3 := by rw [← hS3]; exact m_agr_sA m_agr_refl (by decide) _ _
      have p3 : pg S S3 := by rw [← hS3]; exact pg_sA p2 (by unfold pgA; omega) _
      have v10 : S3.2.1 10 (72 + i) = Int32.ofNat s.1.length := by rw [← hS3]; simp [m_sA]
      have o10 : ∀ j, j ≠ i → S3.2.1 10 (72 + j) = S.2.1 10 (72 + j) := fun j hj => by
        rw [← same2 10 (by decide), ← hS3]
        exact if_neg (fun z => hj (by omega))
      have same3 : ∀ j, j ≠ 10 → S3.2.1 j = S2.2.1 j := fun j hj => ag3.2.1 j (by simpa using hj)
      have r3 : rq tx S3 (s.1.set i (t.1, t.2.1, t.2.2.1, t.2.2.2.1, s.1.length, s.1.length, f), s.2.1 + 1, s.2.2) B := mk S3 _ ag3 (drS_set h5 hi (by rw [same3 5 (by decide)]; exact same2 5 (by decide)) (by rw [same3 6 (by decide)]; exact same2 6 (by decide)) (by rw [same3 7 (by decide)]; exact same2 7 (by decide)) (by rw [same3 8 (by decide)]; exact same2 8 (by decide)) (by rw [same3 9 (by decide)]; exact same2 9 (by decide)) o10 (fun j hj => by rw [same3 11 (by decide)]; exact o11 j hj) (fun _ => v10) (by rw [same3 11 (by decide)]; exact v11))
      have rd := M212_do (N := N) r3.1
      have st0 : M234 N S = (bif mj_c2 .ne (pk tx (s.2.1 + 1)) 58 then J234_114 N S3 else if 0 ≤ (S3.1 36).toInt ∧ (S3.1 36).toInt < mN 34 then (M218 N (S3.2.1 34 (S3.1 36).toInt.toNat) 1 (m_sV S3 22 (S3.1 22 + 1))).bind fun r27 => if r27.1 = 0 ∨ r27.1 = 1 then some (r27.1, r27.2) else none else none) := by
        simp only [M234, w, n1, cond_true, if_pos c34, et, v34, if_pos c11, if_pos c6, et2, v6, c2, cond_false, if_pos c35, v35, c1, if_pos c10, v5, hS2, hS3, rd, Option.bind_some]
      constructor
      · intro h58
        have c58 : mj_c2 .ne (pk tx (s.2.1 + 1)) 58 = true := decide_eq_true h58
        refine ⟨S3, ?_, r3, p3⟩
        rw [st0, c58]
        rfl
      · intro h58
        have c58 : mj_c2 .ne (pk tx (s.2.1 + 1)) 58 = false := decide_eq_false (fun q => q h58)
        have hlt3 := pkz_is h58 (by decide)
        have f36 : (S3.1 36).toInt = B.length := by rw [ag3.1 36 (by decide), v36]; exact i_nat (by omega)
        have f34 : 0 ≤ (S3.1 36).toInt ∧ (S3.1 36).toInt < mN 34 := by rw [show mN 34 = 5 from rfl]; omega
        have g34 : S3.2.1 34 (S3.1 36).toInt.toNat = Int32.ofNat i := by
          rw [show (S3.1 36).toInt.toNat = B.length by omega, same3 34 (by decide), same2 34 (by decide)]
          exact b3
        obtain ⟨S4, hS4⟩ : ∃ S4, m_sV S3 22 (S3.1 22 + 1) = S4 := ⟨_, rfl⟩
        have ag4 : m_agr [22] [] [] S3 S4 := by rw [← hS4]; exact m_agr_sV m_agr_refl (by decide) _
        have e4 : S4.2 = S3.2 := by rw [← hS4]; rfl
        have r4 : rq tx S4 (s.1.set i (t.1, t.2.1, t.2.2.1, t.2.2.2.1, s.1.length, s.1.length, f), s.2.1 + 2, s.2.2) B := by
          obtain ⟨k1, k2, k3, k4, k5, k6, k7, k8, k9⟩ := r3
          have := mst_inc k1 hlt3
          rw [hS4] at this
          refine ⟨this, by rw [ag4.1 24 (by decide)]; exact k2, ?_, fc_ag k4 ag4 (by decide), ?_, ?_, by dsimp only at k7 ⊢; omega, by dsimp only at k8 ⊢; omega, k9⟩
          · unfold drN ndAt
            rw [ag4.1 23 (by decide), e4]
            exact k3
          · unfold drS
            rw [e4]
            exact k5
          · unfold skB
            rw [ag4.1 36 (by decide), e4]
            exact k6
        have p4 : pg S S4 := by rw [← hS4]; exact pg_sV p3 (by decide) _
        obtain ⟨y1, y2⟩ := M218_do (N := N) (i := i) (sec := 1) r4 (by decide)
        refine ⟨fun k => ?_, fun k => ?_⟩
        · obtain ⟨S', z1, z2, z3⟩ := y1 ⟨k, b5⟩
          have z1' : M218 N (Int32.ofNat i) 1 S4 = some (1, S') := z1
          refine ⟨S', ?_, z2, pg_trans p4 z3⟩
          rw [st0, c58]
          simp only [cond_false, if_pos f34, g34, hS4, z1', Option.bind_some]
          rfl
        · obtain ⟨S', z1, z2, z3⟩ := y2 (fun q => k q.1)
          have z1' : M218 N (Int32.ofNat i) 1 S4 = some (0, S') := z1
          refine ⟨S', ?_, z2, pgx_trans p4 z3⟩
          rw [st0, c58]
          simp only [cond_false, if_pos f34, g34, hS4, z1', Option.bind_some]
          rfl
  · rw [if_neg hc] at w
    refine ⟨fun _ => ⟨m_sV S 3 (S.1 22), ?_, h1.2.1, pgx_3 pg_refl _⟩, fun q => absurd q hc, fun q => absurd q hc⟩
    simp only [M234, w, n0, cond_false, Option.bind_some]
end MSX
