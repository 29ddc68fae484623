section MSW
variable {N : Nat} {tx : List Int32}
/-- one statement's row is told anew -/
theorem drS_set {S S' : mS} {sts : List St} {i : Nat} {t : St} (h : drS S sts) (hi : sts[i]? = some t) {m e f : Nat} (h5 : S'.2.1 5 = S.2.1 5) (h6 : S'.2.1 6 = S.2.1 6) (h7 : S'.2.1 7 = S.2.1 7) (h8 : S'.2.1 8 = S.2.1 8) (h9 : S'.2.1 9 = S.2.1 9) (h10 : ∀ j, j ≠ i → S'.2.1 10 (72 + j) = S.2.1 10 (72 + j)) (h11 : ∀ j, j ≠ i → S'.2.1 11 (72 + j) = S.2.1 11 (72 + j)) (hm : t.1 = 2 → S'.2.1 10 (72 + i) = Int32.ofNat m) (he : S'.2.1 11 (72 + i) = Int32.ofNat e) : drS S' (sts.set i (t.1, t.2.1, t.2.2.1, t.2.2.2.1, m, e, f)) := by
  have hlt := (List.getElem?_eq_some_iff.mp hi).1
  refine ⟨by rw [h5, List.length_set]; exact h.1, by rw [List.length_set]; exact h.2.1, fun j u hj => ?_⟩
  by_cases e1 : j = i
  · subst e1
    rw [List.getElem?_set_self hlt] at hj
    cases hj
    obtain ⟨a1, a2, a3, a4, a5, a6⟩ := h.2.2 j t hi
    exact ⟨a1, by rw [h6]; exact a2, by rw [h7]; exact a3, fun q => by rw [h8, h9]; exact a4 q, hm, he⟩
  · rw [List.getElem?_set_ne (fun q => e1 q.symm)] at hj
    obtain ⟨a1, a2, a3, a4, a5, a6⟩ := h.2.2 j u hj
    exact ⟨a1, by rw [h6]; exact a2, by rw [h7]; exact a3, fun q => by rw [h8, h9]; exact a4 q, fun q => by rw [h10 j e1]; exact a5 q, by rw [h11 j e1]; exact a6⟩
theorem M214_sim (hN : 2000 ≤ N) {n : Nat} (hmu : 29 < n) {S : mS} {s : Rs} {B : List (Nat × Nat)} (h : rq tx S s B) (h24 : s.1.length < 24) (hc : isNm (pk tx s.2.1) ∨ pk tx s.2.1 = 33) : (∀ w, (if pk tx s.2.1 = 33 then rSim tx (rX tx n 0 0) 1 0 (s.2.1 + 1) s else if pk tx (s.2.1 + 1) = 61 then rSim tx (rX tx n 0 0) 0 ((pk tx s.2.1).toInt - 65).toNat (s.2.1 + 2) s else .inl (s.2.1 + 1)) = .inl w → ∃ S', M214 N S = some (0, S') ∧ S'.1 3 = Int32.ofNat w ∧ pgx S S') ∧ (∀ q, (if pk tx s.2.1 = 33 then rSim tx (rX tx n 0 0) 1 0 (s.2.1 + 1) s else if pk tx (s.2.1 + 1) = 61 then rSim tx (rX tx n 0 0) 0 ((pk tx s.2.1).toInt - 65).toNat (s.2.1 + 2) s else .inl (s.2.1 + 1)) = .inr q → ∃ S', M214 N S = some (1, S') ∧ rq tx S' q.1 B ∧ pg S S') := by
  have n0 : mj_c1 .ne 0 = false := by decide
  have n1 : mj_c1 .ne 1 = true := by decide
  have hlt : s.2.1 < tx.length := hc.elim pkz_nm (fun q => pkz_is q (by decide))
  have way := (M214_way (N := N) h).1 ⟨hc.elim Or.inl (fun q => Or.inr (Or.inl q)), h24⟩
  -- with the kind k, from place p on
  have main : ∀ (k a p : Nat) (S1 : mS), k ≤ 1 → s.2.1 ≤ p → M214 N S = J214_235 N (Int32.ofNat s.1.length) (72 + Int32.ofNat s.1.length) S1 → mst S1 tx p → S1.1 24 = Int32.ofNat s.2.2.1 → drN S1 s.2.2.2.1 → fcR S1 s.2.2.2.2 → skB S1 B → pg S S1 → S1.2.1 5 3 = Int32.ofNat (s.1.length + 1) → S1.2.1 6 (72 + s.1.length) = Int32.ofNat k → S1.2.1 7 (72 + s.1.length) = Int32.ofNat a → S1.2.1 10 (72 + s.1.length) = Int32.ofNat (s.1.length + 1) → S1.2.1 11 (72 + s.1.length) = Int32.ofNat (s.1.length + 1) → (∀ j i, 6 ≤ j → j ≤ 11 → i < s.1.length → S1.2.1 j (72 + i) = S.2.1 j (72 + i)) → (∀ w, rSim tx (rX tx n 0 0) k a p s = .inl w → ∃ S', M214 N S = some (0, S') ∧ S'.1 3 = Int32.ofNat w ∧ pgx S S') ∧ (∀ q, rSim tx (rX tx n 0 0) k a p s = .inr q → ∃ S', M214 N S = some (1, S') ∧ rq tx S' q.1 B ∧ pg S S') := by
    intro k a p S1 hk hp e m1 m2 m3 m4 m5 m6 m7 m8 m9 m10 m11 m12
    obtain ⟨x1, x2⟩ := J214_235_do hN h h24 (by omega) hmu hp m1 m2 m3 m4 m5 m6 m7 m8 m9 m10 m11 m12
    unfold rSim
    cases es : rX tx n 0 0 (p, s.2.2) with
    | inl w =>
      refine ⟨fun w' hw => ?_, fun q hq => (by cases hq)⟩
      cases hw
      obtain ⟨S', a1, a2⟩ := x1 w es
      exact ⟨S', e.trans a1, a2⟩
    | inr r =>
      dsimp only
      obtain ⟨S2, a1, a2, a3⟩ := x2 r es
      rw [decide_eq_true (show k ≠ 2 by omega)] at a3
      obtain ⟨y1, y2⟩ := sim_end (N := N) (a1 (exF r.2.2.1 s.2.2.2.1.length)) a2
      by_cases h59 : pk tx r.1 = 59
      · rw [if_pos h59]
        refine ⟨fun w hw => (by cases hw), fun q hq => ?_⟩
        cases hq
        obtain ⟨S', b1, b2, b3⟩ := y1 h59
        exact ⟨S', (e.trans a3).trans b1, b2, b3⟩
      · rw [if_neg h59]
        refine ⟨fun w hw => ?_, fun q hq => (by cases hq)⟩
        cases hw
        obtain ⟨S', b1, b2, b3⟩ := y2 h59
        exact ⟨S', (e.trans a3).trans b1, b2, b3⟩
  by_cases h33 : pk tx s.2.1 = 33
  · rw [if_pos h33] at way
    obtain ⟨S1, a, a1, a2, a3, m1, m2, m3, m4, m5, m6, m7, m8, m9, m10, m11, m12⟩ := J214_120_do (N := N) h h24 hlt (k := 1) (by decide)
    have ea : a = 0 := a2 (by rw [h33]; decide)
    subst ea
    rw [if_pos h33]
    exact main 1 0 (s.2.1 + 1) S1 (by decide) (by omega) (way.trans a3) m1 m2 m3 m4 m5 m6 m7 m8 m9 m10 m11 m12
  · have hn : isNm (pk tx s.2.1) := hc.elim id (fun q => absurd q h33)
    have h63 : pk tx s.2.1 ≠ 63 := fun q => by rw [q] at hn; exact absurd hn (by decide)
    have h42 : pk tx s.2.1 ≠ 42 := fun q => by rw [q] at hn; exact absurd hn (by decide)
    rw [if_neg h33, if_neg h63, if_neg h42] at way
    obtain ⟨S1, a, a1, a2, a3, m1, m2, m3, m4, m5, m6, m7, m8, m9, m10, m11, m12⟩ := J214_120_do (N := N) h h24 hlt (k := 0) (by decide)
    have ea := a1 hn
    rw [if_neg h33]
    have w := M219_do (N := N) m1 61
    by_cases h61 : pk tx (s.2.1 + 1) = 61
    · have hlt2 := pkz_is h61 (by decide)
      rw [if_pos h61] at w ⊢
      obtain ⟨S2, hS2⟩ : ∃ S2, m_sV S1 22 (S1.1 22 + 1) = S2 := ⟨_, rfl⟩
      have p2 := mst_inc m1 hlt2
      rw [hS2] at w p2
      have ag : m_agr [22] [] [] S1 S2 := by rw [← hS2]; exact m_agr_sV m_agr_refl (by decide) _
      have e2 : S2.2 = S1.2 := by rw [← hS2]; rfl
      rw [← ea]
      refine main 0 a (s.2.1 + 2) S2 (by decide) (by omega) ?_ p2 (by rw [ag.1 24 (by decide)]; exact m2) ?_ (fc_ag m4 ag (by decide)) ?_ (by rw [← hS2]; exact pg_sV m6 (by decide) _) (by rw [e2]; exact m7) (by rw [e2]; exact m8) (by rw [e2]; exact m9) (by rw [e2]; exact m10) (by rw [e2]; exact m11) (by rw [e2]; exact m12)
      · rw [way, show Int32.ofNat 0 = Int32.ofNat 0 from rfl, a3]
        simp only [ne_eq, not_true_eq_false, decide_false, cond_false, w, n1, cond_true, Option.bind_some]
        rfl
      · unfold drN ndAt
        rw [ag.1 23 (by decide), e2]
        exact m3
      · unfold skB
        rw [ag.1 36 (by decide), e2]
        exact m5
    · rw [if_neg h61] at w ⊢
      refine ⟨fun w' hw => ?_, fun q hq => (by cases hq)⟩
      cases hw
      refine ⟨m_sV S1 3 (S1.1 22), ?_, m1.2.1, pgx_3 m6 _⟩
      rw [way, a3]
      simp only [ne_eq, not_true_eq_false, decide_false, cond_false, w, n0, Option.bind_some]
      rfl
theorem M214_cho (hN : 2000 ≤ N) {n : Nat} (hmu : 29 < n) {S : mS} {s : Rs} {B : List (Nat × Nat)} (h : rq tx S s B) (h24 : s.1.length < 24) (hc : pk tx s.2.1 = 63) : (∀ w, rX tx n 0 0 (s.2.1 + 1, s.2.2) = .inl w → ∃ S', M214 N S = some (0, S') ∧ S'.1 3 = Int32.ofNat w ∧ pgx S S') ∧ (∀ r, rX tx n 0 0 (s.2.1 + 1, s.2.2) = .inr r → (pk tx r.1 = 123 ∧ B.length < 4 → ∃ S', M214 N S = some (1, S') ∧ rq tx S' (s.1 ++ [(2, 0, s.2.2.2.1.length, r.2.2.1.length - 1, s.1.length + 1, s.1.length + 1, 1)], r.1 + 1, r.2) ((s.1.length, 0) :: B) ∧ pg S S') ∧ (¬ (pk tx r.1 = 123 ∧ B.length < 4) → ∃ S', M214 N S = some (0, S') ∧ S'.1 3 = Int32.ofNat r.1 ∧ pgx S S')) := by
  have hlt := pkz_is hc (by decide)
  have way := (M214_way (N := N) h).1 ⟨Or.inr (Or.inr (Or.inl hc)), h24⟩
  have h33 : pk tx s.2.1 ≠ 33 := fun q => by rw [hc] at q; exact absurd q (by decide)
  rw [if_neg h33, if_pos hc] at way
  obtain ⟨S1, a, a1, a2, a3, m1, m2, m3, m4, m5, m6, m7, m8, m9, m10, m11, m12⟩ := J214_120_do (N := N) h h24 hlt (k := 2) (by decide)
  have ea : a = 0 := a2 (by rw [hc]; decide)
  subst ea
  obtain ⟨x1, x2⟩ := J214_235_do hN h h24 (by decide) hmu (by omega) m1 m2 m3 m4 m5 m6 m7 m8 m9 m10 m11 m12
  have e : M214 N S = J214_235 N (Int32.ofNat s.1.length) (72 + Int32.ofNat s.1.length) S1 := way.trans a3
  refine ⟨fun w hw => ?_, fun r hr => ?_⟩
  · obtain ⟨S', b1, b2⟩ := x1 w hw
    exact ⟨S', e.trans b1, b2⟩
  · obtain ⟨S2, b1, b2, b3⟩ := x2 r hr
    have b3' : J214_235 N (Int32.ofNat s.1.length) (72 + Int32.ofNat s.1.length) S1 = (M218 N (Int32.ofNat s.1.length) 0 S2).bind fun r59 => J214_271 N r59.1 r59.2 := b3
    obtain ⟨y1, y2⟩ := M218_do (N := N) (i := s.1.length) (sec := 0) (b1 1) (by decide)
    refine ⟨fun k => ?_, fun k => ?_⟩
    · obtain ⟨S', c1, c2, c3⟩ := y1 k
      have c1' : M218 N (Int32.ofNat s.1.length) 0 S2 = some (1, S') := c1
      refine ⟨S', ?_, c2, pg_trans b2 c3⟩
      rw [e, b3', c1']
      rfl
    · obtain ⟨S', c1, c2, c3⟩ := y2 k
      have c1' : M218 N (Int32.ofNat s.1.length) 0 S2 = some (0, S') := c1
      refine ⟨S', ?_, c2, pgx_trans b2 c3⟩
      rw [e, b3', c1']
      rfl
theorem M214_rep (hN : 2000 ≤ N) {S : mS} {s : Rs} {B : List (Nat × Nat)} (h : rq tx S s B) (h24 : s.1.length < 24) (hc : pk tx s.2.1 = 42) : (∀ w, rNum tx (s.2.1 + 1) 0 20 = .inl w → ∃ S', M214 N S = some (0, S') ∧ S'.1 3 = Int32.ofNat w ∧ pgx S S') ∧ (∀ v, rNum tx (s.2.1 + 1) 0 20 = .inr v → (pk tx v.1 = 123 ∧ B.length < 4 → ∃ S', M214 N S = some (1, S') ∧ rq tx S' (s.1 ++ [(3, v.2, 0, 0, s.1.length + 1, s.1.length + 1, 1)], v.1 + 1, s.2.2) ((s.1.length, 0) :: B) ∧ pg S S') ∧ (¬ (pk tx v.1 = 123 ∧ B.length < 4) → ∃ S', M214 N S = some (0, S') ∧ S'.1 3 = Int32.ofNat v.1 ∧ pgx S S')) := by
  have n0 : mj_c1 .ne 0 = false := by decide
  have n1 : mj_c1 .ne 1 = true := by decide
  have hlt := pkz_is hc (by decide)
  have way := (M214_way (N := N) h).1 ⟨Or.inr (Or.inr (Or.inr hc)), h24⟩
  have h33 : pk tx s.2.1 ≠ 33 := fun q => by rw [hc] at q; exact absurd q (by decide)
  have h63 : pk tx s.2.1 ≠ 63 := fun q => by rw [hc] at q; exact absurd q (by decide)
  rw [if_neg h33, if_neg h63, if_pos hc] at way
  obtain ⟨S1, a, a1, a2, a3, m1, m2, m3, m4, m5, m6, m7, m8, m9, m10, m11, m12⟩ := J214_120_do (N := N) h h24 hlt (k := 3) (by decide)
  have e : M214 N S = (M216 N 0 20 S1).bind fun r67 => bif mj_c1 .ne r67.1 then (M218 N (Int32.ofNat s.1.length) 0 (m_sA r67.2 7 (72 + s.1.length) (r67.2.1 26))).bind fun r74 => if r74.1 = 0 ∨ r74.1 = 1 then some (r74.1, r74.2) else none else some (0, r67.2) := way.trans a3
  obtain ⟨x1, x2⟩ := M216_r (N := N) (lo := 0) (hi := 20) hN m1 (by decide)
  refine ⟨fun w hw => ?_, fun v hv => ?_⟩
  · obtain ⟨S', b1, b2, b3⟩ := x2 w hw
    refine ⟨S', ?_, b2, pgx_trans m6 (pgx_pf (pfx_ag b3 (by decide) (by decide)))⟩
    rw [e, b1]
    rfl
  · obtain ⟨S2, b1, b2, b3, b4⟩ := x1 v hv
    have lv := rNum_le m1.2.2 hv
    obtain ⟨-, -, -, -, h5, -, h7, h8, h9⟩ := h
    obtain ⟨S3, hS3⟩ : ∃ S3, m_sA S2 7 (72 + s.1.length) (S2.1 26) = S3 := ⟨_, rfl⟩
    have ag3 : m_agr [] [7] [] S2 S3 := by rw [← hS3]; exact m_agr_sA m_agr_refl (by decide) _ _
    have p3 : pg S S3 := by
      rw [← hS3]
      exact pg_sA (pg_trans m6 (pg_pf (pf_ag b4 (by decide) (by decide)))) (by unfold pgA; omega) _
    have e7 : S3.2.1 7 (72 + s.1.length) = Int32.ofNat v.2 := by
      rw [← hS3]
      show (if 7 = 7 ∧ 72 + s.1.length = 72 + s.1.length then S2.1 26 else _) = _
      rw [if_pos ⟨rfl, rfl⟩]
      exact b3
    have same : ∀ j, j ≠ 7 → S3.2.1 j = S1.2.1 j := fun j hj => by rw [ag3.2.1 j (by simpa using hj), b4.2.1 j List.not_mem_nil]
    have r3 : rq tx S3 (s.1 ++ [(3, v.2, 0, 0, s.1.length + 1, s.1.length + 1, 1)], v.1, s.2.2) B := by
      refine ⟨mst_ag b2 ag3 (by decide), by rw [ag3.1 24 (by decide), b4.1 24 (by decide)]; exact m2, ?_, fc_ag (fc_ag m4 b4 (by decide)) ag3 (by decide), drS_add h5 h24 (fun j i j1 j2 hi => ?_) (by rw [same 5 (by decide)]; exact m7) ⟨Nat.le_refl 3, by rw [same 6 (by decide)]; exact m8, e7, fun q => absurd rfl q, fun q => absurd q (show (3 : Nat) ≠ 2 by decide), by rw [same 11 (by decide)]; exact m11⟩, ?_, by dsimp only; omega, by dsimp only; omega, h9⟩
      · unfold drN ndAt
        rw [ag3.1 23 (by decide), b4.1 23 (by decide), same 13 (by decide), same 14 (by decide), same 15 (by decide), same 16 (by decide), same 17 (by decide), same 18 (by decide), same 19 (by decide)]
        exact m3
      · rw [← m12 j i j1 j2 hi]
        by_cases hj : j = 7
        · subst hj
          rw [← hS3]
          show (if 7 = 7 ∧ 72 + i = 72 + s.1.length then _ else S2.2.1 7 (72 + i)) = _
          rw [if_neg (by omega), b4.2.1 7 List.not_mem_nil]
        · rw [same j hj]
      · unfold skB
        rw [ag3.1 36 (by decide), b4.1 36 (by decide), same 34 (by decide), same 35 (by decide)]
        exact m5
    obtain ⟨y1, y2⟩ := M218_do (N := N) (i := s.1.length) (sec := 0) r3 (by decide)
    refine ⟨fun k => ?_, fun k => ?_⟩
    · obtain ⟨S', c1, c2, c3⟩ := y1 k
      have c1' : M218 N (Int32.ofNat s.1.length) 0 S3 = some (1, S') := c1
      refine ⟨S', ?_, c2, pg_trans p3 c3⟩
      rw [e, b1]
      simp only [n1, cond_true, hS3, c1', Option.bind_some]
      rfl
    · obtain ⟨S', c1, c2, c3⟩ := y2 k
      have c1' : M218 N (Int32.ofNat s.1.length) 0 S3 = some (0, S') := c1
      refine ⟨S', ?_, c2, pgx_trans p3 c3⟩
      rw [e, b1]
      simp only [n1, cond_true, hS3, c1', Option.bind_some]
      rfl
end MSW
