/-! A ROW OF FACES, A LEAF: THE REFERENCE -/
def fF : List Nat := [22, 23, 25, 26, 33]
def iA : List Nat := [13, 14, 15, 16, 17, 18, 19, 20, 32]
section FCS
variable {N : Nat} {tx : List Int32}
theorem fc_add {S : mS} {fcs : List Int32} {v : Int32} (h : fcR S fcs) (hl : fcs.length < 160) : fcR (m_sV (m_sA S 20 (480 + fcs.length) v) 25 (S.1 25 + 1)) (fcs ++ [v]) := by
  obtain ⟨h1, h2, h3⟩ := h
  refine ⟨?_, by rw [List.length_append]; exact hl, fun i x hi => ?_⟩
  · show S.1 25 + 1 = _
    rw [h1, List.length_append]
    exact i_inc (by omega)
  · show (if 20 = 20 ∧ 480 + i = 480 + fcs.length then v else S.2.1 20 (480 + i)) = x
    by_cases e : i = fcs.length
    · subst e
      rw [List.getElem?_append_right (Nat.le_refl _), Nat.sub_self] at hi
      cases hi
      rw [if_pos ⟨rfl, rfl⟩]
    · have hlt : i < fcs.length := by
        have := (List.getElem?_eq_some_iff.mp hi).1
        rw [List.length_append] at this
        simp at this
        omega
      rw [List.getElem?_append_left hlt] at hi
      rw [if_neg (fun z => e (by omega))]
      exact h3 i x hi
theorem L225_do (hN : 2000 ≤ N) {nds : List Nd} {ds : List Nat} (h1 : nds.length < 160) (h2 : ds.length < 59) {nf : Nat} : ∀ (k c p : Nat) (S : mS) (fcs : List Int32), c + k = 8 → fcs.length = nf + c → fcs.length ≤ p → mst S tx p → p < tx.length → fcR S fcs → dr S nds ds → (∀ w, rFc tx k p = .inl w → ∃ S', t_lp (B225_7 N) (k + 2) (Int32.ofNat nf, 1, S) = some (0, S') ∧ S'.1 3 = Int32.ofNat w ∧ pfx S S') ∧ (∀ q, rFc tx k p = .inr q → (pk tx q.1 = 93 → ∃ S', t_lp (B225_7 N) (k + 2) (Int32.ofNat nf, 1, S) = some (1, S') ∧ mst S' tx (q.1 + 1) ∧ fcR S' (fcs ++ q.2) ∧ dr S' (nds ++ [(5, Int32.ofNat nf, Int32.ofNat (c + q.2.length), 0, 0, -1, -1)]) (ds ++ [nds.length]) ∧ m_agr fF iA [] S S' ∧ pf S S') ∧ (pk tx q.1 ≠ 93 → ∃ S', t_lp (B225_7 N) (k + 2) (Int32.ofNat nf, 1, S) = some (0, S') ∧ S'.1 3 = Int32.ofNat q.1 ∧ pfx S S')) := by
  have b0 : mj_c1 .eq 0 = true := by decide
  have b1 : mj_c1 .eq 1 = false := by decide
  have n0 : mj_c1 .ne 0 = false := by decide
  have n1 : mj_c1 .ne 1 = true := by decide
  have F0 : ∀ j ∈ [22, 26], j ∈ fF := by decide
  have F1 : ∀ j ∈ ([] : List Nat), j ∈ iA := fun _ q => absurd q List.not_mem_nil
  have F2 : ∀ j ∈ [23, 33], j ∈ fF := by decide
  have F3 : ∀ j ∈ [13, 14, 15, 16, 17, 18, 19, 32], j ∈ iA := by decide
  have F4 : ∀ j ∈ ([] : List Nat), j ∈ ([] : List Nat) := fun _ q => q
  have P0 : ∀ j ∈ [22, 26], j ∈ pfV := by decide
  have P3 : ∀ j ∈ [3, 22, 26], j ∈ 3 :: pfV := by decide
  have P1 : ∀ j ∈ ([] : List Nat), j = 27 ∨ j = 28 ∨ j = 32 := fun _ q => absurd q List.not_mem_nil
  intro k
  induction k with
  | zero =>
    intro c p S fcs hc hf hfp hm hp hfc hd
    have hl := hm.1.2.1
    obtain ⟨f1, f2, f3⟩ := hfc
    have e8 : (S.1 25 - Int32.ofNat nf).toInt = 8 := by rw [f1, i_sub (by rw [i_nat (by omega), i_nat (by omega)]; omega) (by rw [i_nat (by omega), i_nat (by omega)]; omega), i_nat (by omega), i_nat (by omega)]; omega
    have c8 : mj_c2 .ne (S.1 25 - Int32.ofNat nf) 8 = false := i_c2 (by show decide _ = false; apply decide_eq_false; rw [e8, q_8]; omega)
    refine ⟨fun w hw => ⟨m_sV S 3 (S.1 22), ?_, ?_, pfx_3 pf_refl _⟩, fun q hq => (by cases hq)⟩
    · rw [t_lp]
      have : B225_7 N (Int32.ofNat nf, 1, S) = some (.inr (0, m_sV S 3 (S.1 22))) := by
        simp only [B225_7, b1, c8, cond_false, M213, Option.bind_some]
        rfl
      rw [this]
    · cases hw
      exact hm.2.1
  | succ k ih =>
    intro c p S fcs hc hf hfp hm hp hfc hd
    have hl := hm.1.2.1
    obtain ⟨f1, f2, f3⟩ := id hfc
    have e8 : (S.1 25 - Int32.ofNat nf).toInt = c := by rw [f1, i_sub (by rw [i_nat (by omega), i_nat (by omega)]; omega) (by rw [i_nat (by omega), i_nat (by omega)]; omega), i_nat (by omega), i_nat (by omega)]; omega
    have c8 : mj_c2 .ne (S.1 25 - Int32.ofNat nf) 8 = true := i_c2 (by show decide _ = true; apply decide_eq_true; rw [e8, q_8]; omega)
    have m1 := mst_inc hm hp
    obtain ⟨S1, hS1⟩ : ∃ S1, m_sV S 22 (S.1 22 + 1) = S1 := ⟨_, rfl⟩
    rw [hS1] at m1
    have g1 : m_agr [22, 26] [] [] S S1 := by rw [← hS1]; exact m_agr_sV m_agr_refl (by decide) _
    obtain ⟨x1, x2⟩ := M216_r (N := N) (lo := 0) (hi := 999) hN m1 (by decide)
    cases e1 : rNum tx (p + 1) 0 999 with
    | inl w =>
      obtain ⟨S2, y1, y2, y3⟩ := x2 w e1
      have g2 := pfx_trans (pf_ag g1 P0 P1) (pfx_ag y3 P3 P1)
      have e : rFc tx (k + 1) p = .inl w := by simp only [rFc, e1]
      rw [e]
      refine ⟨fun w' hw => ⟨S2, ?_, by cases hw; exact y2, g2⟩, fun q hq => (by cases hq)⟩
      rw [t_lp]
      have : B225_7 N (Int32.ofNat nf, 1, S) = some (.inr (0, S2)) := by
        simp only [B225_7, b1, c8, cond_false, cond_true, hS1, y1, n0, Option.bind_some]
      rw [this]
    | inr a =>
      obtain ⟨S2, y1, y2, y3, y4⟩ := x1 a e1
      have g2 := m_agr_trans g1 y4
      have l1 := rNum_le (by omega) e1
      have hfc2 := fc_ag hfc g2 (by decide)
      have hd2 := dr_ag hd g2 (by decide)
      have e0 : (480 : Int32).toInt = 480 := rfl
      have eN : (480 + S2.1 25).toInt = 480 + fcs.length := by rw [hfc2.1, i_add (by rw [e0, i_nat (by omega)]; omega) (by rw [e0, i_nat (by omega)]; omega), e0, i_nat (by omega)]
      have c20 : 0 ≤ (480 + S2.1 25).toInt ∧ (480 + S2.1 25).toInt < mN 20 := by rw [show mN 20 = 640 from rfl]; omega
      have hfc3 := fc_add (v := S2.1 26) hfc2 (by omega)
      rw [y3] at hfc3
      obtain ⟨S3, hS3⟩ : ∃ S3, m_sV (m_sA S2 20 (480 + fcs.length) (Int32.ofNat a.2)) 25 (S2.1 25 + 1) = S3 := ⟨_, rfl⟩
      rw [hS3] at hfc3
      have g23 : m_agr [25] [20] [] S2 S3 := by rw [← hS3]; exact m_agr_sV (m_agr_sA m_agr_refl (by decide) _ _) (by decide) _
      have p23 : pf S2 S3 := by rw [← hS3]; exact pf_sV (pf_sA pf_refl (by unfold pfA; omega) _) (by decide) _
      have m3 := mst_ag y2 g23 (by decide)
      have hd3 := dr_ag hd2 g23 (by decide)
      have g3 : m_agr fF iA [] S S3 := m_agr_trans (m_agr_mono g2 F0 F1 F4) (m_agr_mono g23 (by decide) (by decide) F4)
      have p3 : pf S S3 := pf_trans (pf_ag g2 P0 P1) p23
      have r3 := M212_do (N := N) m3
      by_cases h44 : pk tx a.1 = 44
      · have c44 : mj_c2 .ne (pk tx a.1) 44 = false := decide_eq_false (fun q => q h44)
        have hp3 := pkz_is h44 (by decide)
        have fB : B225_7 N (Int32.ofNat nf, 1, S) = some (.inl (Int32.ofNat nf, 1, S3)) := by
          simp only [B225_7, b1, c8, cond_false, cond_true, hS1, y1, n1, if_pos c20, show (480 + S2.1 25).toInt.toNat = 480 + fcs.length by omega, y3, hS3, r3, c44, J225_95, Option.bind_some]
        obtain ⟨i1, i2⟩ := ih (c + 1) a.1 S3 (fcs ++ [Int32.ofNat a.2]) (by omega) (by rw [List.length_append]; simp; omega) (by rw [List.length_append]; simp; omega) m3 hp3 hfc3 hd3
        have tl : t_lp (B225_7 N) (k + 1 + 2) (Int32.ofNat nf, 1, S) = t_lp (B225_7 N) (k + 2) (Int32.ofNat nf, 1, S3) := by
          rw [t_lp, fB]
        rw [tl]
        cases e2 : rFc tx k a.1 with
        | inl w =>
          have e : rFc tx (k + 1) p = .inl w := by simp only [rFc, e1, if_pos h44, e2]
          rw [e]
          refine ⟨fun w' hw => ?_, fun q hq => (by cases hq)⟩
          cases hw
          obtain ⟨S', u1, u2, u4⟩ := i1 w e2
          exact ⟨S', u1, u2, pfx_trans p3 u4⟩
        | inr b =>
          have e : rFc tx (k + 1) p = .inr (b.1, Int32.ofNat a.2 :: b.2) := by simp only [rFc, e1, if_pos h44, e2]
          rw [e]
          refine ⟨fun w hw => (by cases hw), fun q hq => ?_⟩
          cases hq
          obtain ⟨j1, j2⟩ := i2 b e2
          constructor
          · intro h93
            obtain ⟨S', u1, u2, u3, u4, u5, u6⟩ := j1 h93
            refine ⟨S', u1, u2, ?_, ?_, m_agr_trans g3 u5, pf_trans p3 u6⟩
            · rw [List.append_assoc] at u3
              exact u3
            · rw [show c + (Int32.ofNat a.2 :: b.2).length = c + 1 + b.2.length by rw [List.length_cons]; omega]
              exact u4
          · intro h93
            obtain ⟨S', u1, u2, u4⟩ := j2 h93
            exact ⟨S', u1, u2, pfx_trans p3 u4⟩
      · have c44 : mj_c2 .ne (pk tx a.1) 44 = true := decide_eq_true h44
        have fB : B225_7 N (Int32.ofNat nf, 1, S) = some (.inl (Int32.ofNat nf, 0, S3)) := by
          simp only [B225_7, b1, c8, cond_false, cond_true, hS1, y1, n1, if_pos c20, show (480 + S2.1 25).toInt.toNat = 480 + fcs.length by omega, y3, hS3, r3, c44, J225_95, Option.bind_some]
        have e : rFc tx (k + 1) p = .inr (a.1, [Int32.ofNat a.2]) := by simp only [rFc, e1, if_neg h44]
        rw [e]
        refine ⟨fun w hw => (by cases hw), fun q hq => ?_⟩
        cases hq
        have el : (fcs ++ [Int32.ofNat a.2]).length = nf + c + 1 := by rw [List.length_append]; simp; omega
        have ec : S3.1 25 - Int32.ofNat nf = Int32.ofNat (c + 1) := i_eq (by rw [hfc3.1, el, i_sub (by rw [i_nat (by omega), i_nat (by omega)]; omega) (by rw [i_nat (by omega), i_nat (by omega)]; omega), i_nat (by omega), i_nat (by omega)]; omega)
        obtain ⟨S4, z1, z2, z3, z4⟩ := M224_do (N := N) hd3 h1 h2 5 (Int32.ofNat nf) (Int32.ofNat (c + 1)) 0 0
        have m4 := mst_ag m3 z3 (by decide)
        have f4 := fc_ag hfc3 z3 (by decide)
        have w4 := M219_do (N := N) m4 93
        have g4 : m_agr fF iA [] S S4 := m_agr_trans g3 (m_agr_mono z3 F2 F3 F4)
        have p4 := pf_trans p3 z4
        dsimp only
        constructor
        · intro h93
          have hp4 := pkz_is h93 (by decide)
          rw [if_pos h93] at w4
          refine ⟨m_sV S4 22 (S4.1 22 + 1), ?_, mst_inc m4 hp4, fc_ag (F := [22]) (A := []) (B := []) f4 (m_agr_sV m_agr_refl (by decide) _) (by decide), ?_, m_agr_sV g4 (by decide) _, pf_sV p4 (by decide) _⟩
          · rw [t_lp, fB]
            show t_lp (B225_7 N) (k + 2) (Int32.ofNat nf, 0, S3) = _
            rw [t_lp]
            have : B225_7 N (Int32.ofNat nf, 0, S3) = some (.inr (1, m_sV S4 22 (S4.1 22 + 1))) := by
              simp only [B225_7, b0, cond_true, ec, z1, w4, Option.bind_some]
              rfl
            rw [this]
          · exact dr_ag (F := [22]) (A := []) (B := []) z2 (m_agr_sV m_agr_refl (by decide) _) (by decide)
        · intro h93
          rw [if_neg h93] at w4
          refine ⟨m_sV S4 3 (S4.1 22), ?_, m4.2.1, pfx_3 p4 _⟩
          rw [t_lp, fB]
          show t_lp (B225_7 N) (k + 2) (Int32.ofNat nf, 0, S3) = _
          rw [t_lp]
          have : B225_7 N (Int32.ofNat nf, 0, S3) = some (.inr (0, m_sV S4 3 (S4.1 22))) := by
            simp only [B225_7, b0, cond_true, ec, z1, w4, Option.bind_some]
            rfl
          rw [this]
/-- a row of faces -/
theorem M225_do (hN : 2000 ≤ N) {S : mS} {p : Nat} {nds : List Nd} {ds : List Nat} {fcs : List Int32} (hm : mst S tx p) (hp : p < tx.length) (hf : fcR S fcs) (hfp : fcs.length ≤ p) (hd : dr S nds ds) (h1 : nds.length < 160) (h2 : ds.length < 59) : (∀ w, rRow tx p = .inl w → ∃ S', M225 N S = some (0, S') ∧ S'.1 3 = Int32.ofNat w ∧ pfx S S') ∧ (∀ q, rRow tx p = .inr q → ∃ S', M225 N S = some (1, S') ∧ mst S' tx q.1 ∧ fcR S' (fcs ++ q.2) ∧ dr S' (nds ++ [(5, Int32.ofNat fcs.length, Int32.ofNat q.2.length, 0, 0, -1, -1)]) (ds ++ [nds.length]) ∧ m_agr fF iA [] S S' ∧ pf S S') := by
  obtain ⟨x1, x2⟩ := L225_do (N := N) hN h1 h2 8 0 p S fcs rfl rfl hfp hm hp hf hd
  have e0 : M225 N S = t_lp (B225_7 N) N (Int32.ofNat fcs.length, 1, S) := by
    unfold M225 L225_7
    rw [hf.1]
  cases e1 : rFc tx 8 p with
  | inl w =>
    have e : rRow tx p = .inl w := by simp only [rRow, e1]
    rw [e]
    refine ⟨fun w' hw => ?_, fun q hq => (by cases hq)⟩
    cases hw
    obtain ⟨S', u1, u2⟩ := x1 w e1
    exact ⟨S', e0.trans (t_lp_more _ _ _ (by omega) u1), u2⟩
  | inr a =>
    obtain ⟨y1, y2⟩ := x2 a e1
    by_cases h93 : pk tx a.1 = 93
    · have e : rRow tx p = .inr (a.1 + 1, a.2) := by simp only [rRow, e1, if_pos h93]
      rw [e]
      refine ⟨fun w hw => (by cases hw), fun q hq => ?_⟩
      cases hq
      obtain ⟨S', u1, u2, u3, u4, u5⟩ := y1 h93
      rw [Nat.zero_add] at u4
      exact ⟨S', e0.trans (t_lp_more _ _ _ (by omega) u1), u2, u3, u4, u5⟩
    · have e : rRow tx p = .inl a.1 := by simp only [rRow, e1, if_neg h93]
      rw [e]
      refine ⟨fun w hw => ?_, fun q hq => (by cases hq)⟩
      cases hw
      obtain ⟨S', u1, u2⟩ := y2 h93
      exact ⟨S', e0.trans (t_lp_more _ _ _ (by omega) u1), u2⟩
end FCS
