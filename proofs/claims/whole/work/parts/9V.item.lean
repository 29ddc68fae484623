def iF : List Nat := [22, 23, 24, 25, 26, 33]
/-- a leaf that may be there -/
noncomputable def rIt (tx : List Int32) (p lv nf : Nat) : Nat ⊕ (Nat × Nd × List Int32) := if (isNm (pk tx p) ∨ isDg (pk tx p) ∨ pk tx p = 100 ∨ pk tx p = 91) ∧ lv < 40 then rLf tx p nf else .inl p
section RIT
variable {N : Nat} {tx : List Int32}
theorem M223_do (hN : 2000 ≤ N) {S : mS} {p lv : Nat} {nds : List Nd} {ds : List Nat} {fcs : List Int32} (hm : mst S tx p) (hlv : S.1 24 = Int32.ofNat lv) (hlv2 : lv ≤ 40) (hf : fcR S fcs) (hfp : fcs.length ≤ p) (hd : dr S nds ds) (h1 : nds.length ≤ p) (h2 : ds.length ≤ lv) : (∀ w, rIt tx p lv fcs.length = .inl w → ∃ S', M223 N S = some (0, S') ∧ S'.1 3 = Int32.ofNat w ∧ pfx S S') ∧ (∀ q, rIt tx p lv fcs.length = .inr q → ∃ S', M223 N S = some (1, S') ∧ mst S' tx q.1 ∧ S'.1 24 = Int32.ofNat (lv + 1) ∧ fcR S' (fcs ++ q.2.2) ∧ dr S' (nds ++ [q.2.1]) (ds ++ [nds.length]) ∧ m_agr iF iA [] S S' ∧ pf S S') := by
  have b0 : mj_c1 .eq 0 = true := by decide
  have b1 : mj_c1 .eq 1 = false := by decide
  have n0 : mj_c1 .ne 0 = false := by decide
  have n1 : mj_c1 .ne 1 = true := by decide
  have F0 : ∀ j ∈ [22, 26], j ∈ iF := by decide
  have F1 : ∀ j ∈ ([] : List Nat), j ∈ iA := fun _ q => absurd q List.not_mem_nil
  have F2 : ∀ j ∈ [23, 33], j ∈ iF := by decide
  have F3 : ∀ j ∈ [13, 14, 15, 16, 17, 18, 19, 32], j ∈ iA := by decide
  have F4 : ∀ j ∈ ([] : List Nat), j ∈ ([] : List Nat) := fun _ q => q
  have F5 : ∀ j ∈ dF, j ∈ iF := by decide
  have F6 : ∀ j ∈ dA, j ∈ iA := by decide
  have F7 : ∀ j ∈ fF, j ∈ iF := by decide
  have F8 : ∀ j ∈ iA, j ∈ iA := fun _ q => q
  have P0 : ∀ j ∈ [22, 26], j ∈ pfV := by decide
  have P3 : ∀ j ∈ [3, 22, 26], j ∈ 3 :: pfV := by decide
  have P1 : ∀ j ∈ ([] : List Nat), j = 27 ∨ j = 28 ∨ j = 32 := fun _ q => absurd q List.not_mem_nil
  have hl := hm.1.2.1
  have q40 : (40 : Int32).toInt = 40 := rfl
  have r5 := M215_do (N := N) hm
  have r7 := M217_do (N := N) hm
  have r2 := M212_do (N := N) hm
  obtain ⟨c, hc⟩ : ∃ c, pk tx p = c := ⟨_, rfl⟩
  rw [hc] at r5 r7 r2
  -- a failure here
  have no : J223_41 N S = some (0, m_sV S 3 (S.1 22)) ∧ (m_sV S 3 (S.1 22)).1 3 = Int32.ofNat p ∧ pfx S (m_sV S 3 (S.1 22)) := by
    refine ⟨?_, hm.2.1, pfx_3 pf_refl _⟩
    simp only [J223_41, M213, Option.bind_some]
    rfl
  by_cases hi : isNm c ∨ isDg c ∨ c = 100 ∨ c = 91
  · -- the way to the leaf
    have way : M223 N S = J223_32 N S := by
      by_cases k1 : isNm c
      · rw [if_pos k1] at r5
        simp only [M223, r5, n1, cond_true, Option.bind_some]
      · rw [if_neg k1] at r5
        by_cases k2 : isDg c
        · rw [if_pos k2] at r7
          simp only [M223, r5, n0, cond_false, r7, n1, cond_true, Option.bind_some]
        · rw [if_neg k2] at r7
          by_cases k3 : c = 100
          · have a : mj_c2 .eq c 100 = true := decide_eq_true k3
            simp only [M223, r5, n0, cond_false, r7, r2, a, cond_true, Option.bind_some]
          · have a : mj_c2 .eq c 100 = false := decide_eq_false k3
            have b : mj_c2 .ne c 91 = false := decide_eq_false (fun q => q (by rcases hi with q | q | q | q; exact absurd q k1; exact absurd q k2; exact absurd q k3; exact q))
            simp only [M223, r5, n0, cond_false, r7, r2, a, b, Option.bind_some]
    have elv : (S.1 24).toInt = lv := by rw [hlv]; exact i_nat (by omega)
    by_cases h40 : lv < 40
    · have c40 : mj_c2 .ne (S.1 24) 40 = true := i_c2 (by show decide _ = true; apply decide_eq_true; rw [elv, q40]; omega)
      obtain ⟨S1, hS1⟩ : ∃ S1, m_sV S 24 (S.1 24 + 1) = S1 := ⟨_, rfl⟩
      have g1 : m_agr [24] [] [] S S1 := by rw [← hS1]; exact m_agr_sV m_agr_refl (by decide) _
      have g1' : m_agr iF iA [] S S1 := m_agr_mono g1 (by decide) F1 F4
      have p1 : pf S S1 := pf_ag g1 (by decide) P1
      have l1 : S1.1 24 = Int32.ofNat (lv + 1) := by
        rw [← hS1]
        show S.1 24 + 1 = _
        rw [hlv]
        exact i_inc (by omega)
      have m1 := mst_ag hm g1 (by decide)
      have f1 := fc_ag hf g1 (by decide)
      have d1 := dr_ag hd g1 (by decide)
      have s5 := M215_do (N := N) m1
      have s7 := M217_do (N := N) m1
      have s2 := M212_do (N := N) m1
      rw [hc] at s5 s7 s2
      have er : rIt tx p lv fcs.length = rLf tx p fcs.length := by
        unfold rIt
        rw [hc, if_pos ⟨hi, h40⟩]
      rw [er, way]
      by_cases k1 : isNm c
      · have hp : p < tx.length := pkz_nm (by rw [hc]; exact k1)
        rw [if_pos k1] at s5
        obtain ⟨S2, z1, z2, z3, z4⟩ := M224_do (N := N) d1 (by omega) (by omega) 1 (c - 65) 0 0 0
        have e : rLf tx p fcs.length = .inr (p + 1, (1, c - 65, 0, 0, 0, -1, -1), []) := by
          unfold rLf
          rw [hc, if_pos k1]
        rw [e]
        refine ⟨fun w hw => (by cases hw), fun q hq => ?_⟩
        cases hq
        have m2 := mst_ag m1 z3 (by decide)
        have gg : m_agr [22] [] [] S2 (m_sV S2 22 (S2.1 22 + 1)) := m_agr_sV m_agr_refl (by decide) _
        refine ⟨m_sV S2 22 (S2.1 22 + 1), ?_, mst_inc m2 hp, ?_, ?_, dr_ag z2 gg (by decide), m_agr_sV (m_agr_trans g1' (m_agr_mono z3 F2 F3 F4)) (by decide) _, pf_sV (pf_trans p1 z4) (by decide) _⟩
        · simp only [J223_32, c40, cond_true, hS1, s5, b1, cond_false, s2, z1, Option.bind_some]
        · show S2.1 24 = _
          rw [z3.1 24 (by decide)]
          exact l1
        · rw [List.append_nil]
          exact fc_ag (fc_ag f1 z3 (by decide)) gg (by decide)
      · rw [if_neg k1] at s5
        by_cases k4 : c = 91
        · have hp : p < tx.length := pkz_is (hc.trans k4) (by decide)
          have a91 : mj_c2 .ne c 91 = false := decide_eq_false (fun q => q k4)
          obtain ⟨x1, x2⟩ := M225_do (N := N) hN m1 hp f1 hfp d1 (by omega) (by omega)
          cases e1 : rRow tx p with
          | inl w =>
            have e : rLf tx p fcs.length = .inl w := by simp only [rLf, hc, if_neg k1, if_pos k4, e1]
            rw [e]
            refine ⟨fun w' hw => ?_, fun q hq => (by cases hq)⟩
            cases hw
            obtain ⟨S2, u1, u2, u4⟩ := x1 w e1
            refine ⟨S2, ?_, u2, pfx_trans p1 u4⟩
            simp only [J223_32, c40, cond_true, hS1, s5, b0, s2, a91, cond_false, u1, Option.bind_some]
            rfl
          | inr a =>
            have e : rLf tx p fcs.length = .inr (a.1, (5, Int32.ofNat fcs.length, Int32.ofNat a.2.length, 0, 0, -1, -1), a.2) := by simp only [rLf, hc, if_neg k1, if_pos k4, e1]
            rw [e]
            refine ⟨fun w hw => (by cases hw), fun q hq => ?_⟩
            cases hq
            obtain ⟨S2, u1, u2, u3, u4, u5, u6⟩ := x2 a e1
            refine ⟨S2, ?_, u2, ?_, u3, u4, m_agr_trans g1' (m_agr_mono u5 F7 F8 F4), pf_trans p1 u6⟩
            · simp only [J223_32, c40, cond_true, hS1, s5, b0, s2, a91, cond_false, u1, Option.bind_some]
              rfl
            · rw [u5.1 24 (by decide)]
              exact l1
        · have a91 : mj_c2 .ne c 91 = true := decide_eq_true k4
          by_cases k3 : c = 100
          · have hp : p < tx.length := pkz_is (hc.trans k3) (by decide)
            have k2 : ¬ isDg c := by rw [k3]; decide
            rw [if_neg k2] at s7
            obtain ⟨x2, x1⟩ := M226_do (N := N) (n := 1) hN (by decide) m1 d1 (by omega) (by omega)
            cases e1 : rDc tx 1 p with
            | inl w =>
              have e : rLf tx p fcs.length = .inl w := by simp only [rLf, hc, if_neg k1, if_neg k4, if_pos k3, e1]
              rw [e]
              refine ⟨fun w' hw => ?_, fun q hq => (by cases hq)⟩
              cases hw
              obtain ⟨S2, u1, u2, u4⟩ := x1 w e1
              refine ⟨S2, ?_, u2, pfx_trans p1 u4⟩
              have u1' : M226 N 1 S1 = some (0, S2) := u1
              simp only [J223_32, c40, cond_true, hS1, s5, b0, s2, a91, s7, n0, cond_false, u1', Option.bind_some]
              rfl
            | inr a =>
              have e : rLf tx p fcs.length = .inr (a.1, a.2, []) := by simp only [rLf, hc, if_neg k1, if_neg k4, if_pos k3, e1]
              rw [e]
              refine ⟨fun w hw => (by cases hw), fun q hq => ?_⟩
              cases hq
              obtain ⟨S2, u1, u2, u3, u4, u5⟩ := x2 a e1
              refine ⟨S2, ?_, u2, ?_, ?_, u3, m_agr_trans g1' (m_agr_mono u4 F5 F6 F4), pf_trans p1 u5⟩
              · have u1' : M226 N 1 S1 = some (1, S2) := u1
                simp only [J223_32, c40, cond_true, hS1, s5, b0, s2, a91, s7, n0, cond_false, u1', Option.bind_some]
                rfl
              · rw [u4.1 24 (by decide)]
                exact l1
              · rw [List.append_nil]
                exact fc_ag f1 u4 (by decide)
          · have k2 : isDg c := by rcases hi with q | q | q | q; exact absurd q k1; exact q; exact absurd q k3; exact absurd q k4
            have hp : p < tx.length := pkz_dg (by rw [hc]; exact k2)
            rw [if_pos k2] at s7
            obtain ⟨x1, x2⟩ := M216_r (N := N) (lo := 0) (hi := 999) hN m1 (by decide)
            cases e1 : rNum tx p 0 999 with
            | inl w =>
              have e : rLf tx p fcs.length = .inl w := by simp only [rLf, hc, if_neg k1, if_neg k4, if_neg k3, e1]
              rw [e]
              refine ⟨fun w' hw => ?_, fun q hq => (by cases hq)⟩
              cases hw
              obtain ⟨S2, u1, u2, u3⟩ := x2 w e1
              refine ⟨S2, ?_, u2, pfx_trans p1 (pfx_ag u3 P3 P1)⟩
              simp only [J223_32, c40, cond_true, hS1, s5, b0, s2, a91, s7, n1, u1, n0, cond_false, Option.bind_some]
            | inr a =>
              obtain ⟨S2, u1, u2, u3, u4⟩ := x1 a e1
              have la := rNum_le (by omega) e1
              have ea : (Int32.ofNat a.2).toInt = a.2 := i_nat (by have : (999 : Int32).toInt = 999 := rfl; omega)
              have w2 := M212_do (N := N) u2
              have d2 := dr_ag d1 u4 (by decide)
              have f2 := fc_ag f1 u4 (by decide)
              have l2 : S2.1 24 = Int32.ofNat (lv + 1) := by rw [u4.1 24 (by decide)]; exact l1
              have g2 : m_agr iF iA [] S S2 := m_agr_trans g1' (m_agr_mono u4 F0 F1 F4)
              have p2 : pf S S2 := pf_trans p1 (pf_ag u4 P0 P1)
              by_cases k5 : pk tx a.1 = 100
              · have a100 : mj_c2 .ne (pk tx a.1) 100 = false := decide_eq_false (fun q => q k5)
                by_cases k6 : 1 ≤ a.2 ∧ a.2 ≤ 6
                · have v5 : M205 N (S2.1 26) 1 6 S2 = some (1, S2) := by
                    have t1 : mj_c2 .lt (S2.1 26) 1 = false := i_c2 (by show decide _ = false; apply decide_eq_false; rw [u3, ea, q_1]; omega)
                    have t2 : mj_c2 .gt (S2.1 26) 6 = false := i_c2 (by show decide _ = false; apply decide_eq_false; rw [u3, ea, show (6 : Int32).toInt = 6 from rfl]; omega)
                    simp only [M205, t1, t2, cond_false]
                    rfl
                  obtain ⟨y2, y1⟩ := M226_do (N := N) (n := a.2) hN k6 u2 d2 (by omega) (by omega)
                  cases e2 : rDc tx a.2 a.1 with
                  | inl w =>
                    have e : rLf tx p fcs.length = .inl w := by simp only [rLf, hc, if_neg k1, if_neg k4, if_neg k3, e1, if_pos k5, if_pos k6, e2]
                    rw [e]
                    refine ⟨fun w' hw => ?_, fun q hq => (by cases hq)⟩
                    cases hw
                    obtain ⟨S3, t1, t2, t4⟩ := y1 w e2
                    rw [← u3] at t1
                    refine ⟨S3, ?_, t2, pfx_trans p2 t4⟩
                    simp only [J223_32, c40, cond_true, hS1, s5, b0, s2, a91, s7, n1, u1, w2, a100, cond_false, v5, b1, t1, J223_177, Option.bind_some]
                    rfl
                  | inr b =>
                    have e : rLf tx p fcs.length = .inr (b.1, b.2, []) := by simp only [rLf, hc, if_neg k1, if_neg k4, if_neg k3, e1, if_pos k5, if_pos k6, e2]
                    rw [e]
                    refine ⟨fun w hw => (by cases hw), fun q hq => ?_⟩
                    cases hq
                    obtain ⟨S3, t1, t2, t3, t4, t5⟩ := y2 b e2
                    rw [← u3] at t1
                    refine ⟨S3, ?_, t2, ?_, ?_, t3, m_agr_trans g2 (m_agr_mono t4 F5 F6 F4), pf_trans p2 t5⟩
                    · simp only [J223_32, c40, cond_true, hS1, s5, b0, s2, a91, s7, n1, u1, w2, a100, cond_false, v5, b1, t1, J223_177, Option.bind_some]
                      rfl
                    · rw [t4.1 24 (by decide)]
                      exact l2
                    · rw [List.append_nil]
                      exact fc_ag f2 t4 (by decide)
                · have v5 : M205 N (S2.1 26) 1 6 S2 = some (0, S2) := by
                    by_cases t : a.2 < 1
                    · have t1 : mj_c2 .lt (S2.1 26) 1 = true := i_c2 (by show decide _ = true; apply decide_eq_true; rw [u3, ea, q_1]; omega)
                      simp only [M205, t1, cond_true]
                      rfl
                    · have t1 : mj_c2 .lt (S2.1 26) 1 = false := i_c2 (by show decide _ = false; apply decide_eq_false; rw [u3, ea, q_1]; omega)
                      have t2 : mj_c2 .gt (S2.1 26) 6 = true := i_c2 (by show decide _ = true; apply decide_eq_true; rw [u3, ea, show (6 : Int32).toInt = 6 from rfl]; omega)
                      simp only [M205, t1, t2, cond_false, cond_true]
                      rfl
                  have e : rLf tx p fcs.length = .inl p := by simp only [rLf, hc, if_neg k1, if_neg k4, if_neg k3, e1, if_pos k5, if_neg k6]
                  rw [e]
                  refine ⟨fun w hw => ⟨m_sV S2 3 (S1.1 22), ?_, ?_, pfx_3 p2 _⟩, fun q hq => (by cases hq)⟩
                  · simp only [J223_32, c40, cond_true, hS1, s5, b0, s2, a91, s7, n1, u1, w2, a100, cond_false, v5, M213, J223_177, Option.bind_some]
                    rfl
                  · cases hw
                    exact m1.2.1
              · have a100 : mj_c2 .ne (pk tx a.1) 100 = true := decide_eq_true k5
                have e : rLf tx p fcs.length = .inr (a.1, (0, Int32.ofNat a.2, 0, 0, 0, -1, -1), []) := by simp only [rLf, hc, if_neg k1, if_neg k4, if_neg k3, e1, if_neg k5]
                rw [e]
                refine ⟨fun w hw => (by cases hw), fun q hq => ?_⟩
                cases hq
                obtain ⟨S3, z1, z2, z3, z4⟩ := M224_do (N := N) d2 (by omega) (by omega) 0 (Int32.ofNat a.2) 0 0 0
                refine ⟨S3, ?_, mst_ag u2 z3 (by decide), ?_, ?_, z2, m_agr_trans g2 (m_agr_mono z3 F2 F3 F4), pf_trans p2 z4⟩
                · rw [← u3] at z1
                  simp only [J223_32, c40, cond_true, hS1, s5, b0, s2, a91, s7, n1, u1, w2, a100, z1, Option.bind_some]
                · rw [z3.1 24 (by decide)]
                  exact l2
                · rw [List.append_nil]
                  exact fc_ag f2 z3 (by decide)
    · have c40 : mj_c2 .ne (S.1 24) 40 = false := i_c2 (by show decide _ = false; apply decide_eq_false; rw [elv, q40]; omega)
      have er : rIt tx p lv fcs.length = .inl p := by
        unfold rIt
        rw [if_neg (fun q => h40 q.2)]
      rw [er, way]
      refine ⟨fun w hw => ?_, fun q hq => (by cases hq)⟩
      cases hw
      refine ⟨_, ?_, no.2⟩
      simp only [J223_32, c40, cond_false]
      exact no.1
  · have er : rIt tx p lv fcs.length = .inl p := by
      unfold rIt
      rw [hc, if_neg (fun q => hi q.1)]
    rw [er]
    refine ⟨fun w hw => ?_, fun q hq => (by cases hq)⟩
    cases hw
    have k1 : ¬ isNm c := fun q => hi (Or.inl q)
    have k2 : ¬ isDg c := fun q => hi (Or.inr (Or.inl q))
    rw [if_neg k1] at r5
    rw [if_neg k2] at r7
    have a : mj_c2 .eq c 100 = false := decide_eq_false (fun q => hi (Or.inr (Or.inr (Or.inl q))))
    have b : mj_c2 .ne c 91 = true := decide_eq_true (fun q => hi (Or.inr (Or.inr (Or.inr q))))
    refine ⟨_, ?_, no.2⟩
    simp only [M223, r5, n0, cond_false, r7, r2, a, b, cond_true, Option.bind_some]
    exact no.1
end RIT
