section EXN
variable {N : Nat} {tx : List Int32}
/-- the end of brackets -/
theorem brk_do (hN : 2000 ≤ N) {d : Nat} {S : mS} {r : Rd} {D : List Nat} {K : Ks} {sn cm : Int32} (h : pend tx 0 S r D ((20, cm) :: K) (d + 1) sn) (hx : nxOK 0 sn (pk tx r.1)) (hd : tbc K ≤ d) : (pk tx r.1 = 41 → ∃ S', B229_0 N S = some (.inl S') ∧ rf tx S' (r.1 + 1, r.2.1, tbN K r.2.2.1, r.2.2.2) (D ++ [(tbN K r.2.2.1).length - 1]) (tbK K) (d - tbc K) cm ∧ pf S S') ∧ (pk tx r.1 ≠ 41 → ∃ S', B229_0 N S = some (.inr (0, S')) ∧ S'.1 3 = Int32.ofNat r.1 ∧ pfx S S') := by
  have n0 : mj_c1 .ne 0 = false := by decide
  have n1 : mj_c1 .ne 1 = true := by decide
  have e := stop_do hN h hx
  obtain ⟨S1, a1, ⟨g1, g2, g3, g4, g5, g6, g7, g8, g9⟩, a3, a4, a5⟩ := pend_close hN h (by decide) (fun k hk => by cases hk; exact Or.inl rfl)
  have a1' : M232 N 0 S = some S1 := a1
  have hl := g1.1.2.1
  have hp := g1.2.2
  rw [List.length_cons] at g6
  obtain ⟨p1, p2, p3, p4, p5, p6, p7⟩ := sk_pop (d' := d) (sn' := cm) g5 (by have := g5.2.2.2.2.1; omega) (by
    have := g5.2.2.1 K.length (20, cm) (by rw [List.reverse_cons, List.getElem?_append_right (by rw [List.length_reverse]; exact Nat.le_refl _), List.length_reverse, Nat.sub_self]; rfl)
    exact this.2.2)
  have cw : mj_c1 .ne (S1.1 29) = true := i_ne0 (by omega)
  have w := M219_do (N := N) g1 41
  rw [e]
  constructor
  · intro hc
    have hlt := pkz_is hc (by decide)
    rw [if_pos hc] at w
    obtain ⟨S2, hS2⟩ : ∃ S2, m_sV S1 22 (S1.1 22 + 1) = S2 := ⟨_, rfl⟩
    rw [hS2] at w
    have q2 : m_agr [22] [] [] S1 S2 := by rw [← hS2]; exact m_agr_sV m_agr_refl (by decide) _
    have m2 : mst S2 tx (r.1 + 1) := by rw [← hS2]; exact mst_inc g1 hlt
    have e29 : S2.1 29 = S1.1 29 := q2.1 29 (by decide)
    have e30 : S2.1 30 = S1.1 30 := q2.1 30 (by decide)
    have e28 : S2.2.1 28 = S1.2.1 28 := q2.2.1 28 (by decide)
    have en : (S2.1 29 - 1).toInt = K.length := by rw [e29, p2]; exact i_nat (by omega)
    have c28 : 0 ≤ (S2.1 29 - 1).toInt ∧ (S2.1 29 - 1).toInt < mN 28 := by rw [show mN 28 = 200 from rfl]; omega
    have et : (S2.1 29 - 1).toInt.toNat = K.length := by omega
    have v28 : S2.2.1 28 K.length = cm := by rw [e28]; exact p4
    have c01 : S2.2.1 28 (S2.1 29 - 1).toInt.toNat = 0 ∨ S2.2.1 28 (S2.1 29 - 1).toInt.toNat = 1 := by rw [et, v28]; exact p5
    have e301 : S2.1 30 - 1 = Int32.ofNat d := i_eq (by rw [e30, g5.2.2.2.1, i_sub (by rw [q_1, i_nat (by have := g5.2.2.2.2.1; omega)]; omega) (by rw [q_1, i_nat (by have := g5.2.2.2.2.1; omega)]; have := g5.2.2.2.2.1; omega), q_1, i_nat (by have := g5.2.2.2.2.1; omega)]; omega)
    obtain ⟨S3, hS3⟩ : ∃ S3, m_sV (m_sV (m_sV S2 29 (S2.1 29 - 1)) 30 (S2.1 30 - 1)) 31 cm = S3 := ⟨_, rfl⟩
    have q3 : m_agr [29, 30, 31] [] [] S2 S3 := by rw [← hS3]; exact m_agr_sV (m_agr_sV (m_agr_sV m_agr_refl (by decide) _) (by decide) _) (by decide) _
    have s3 : skR S3 K.reverse d cm := p7 S3 (by rw [← hS3, ← hS2]; rfl) (by rw [← hS3]; show S2.1 29 - 1 = _; rw [e29]; exact p2) (by rw [← hS3]; exact e301) (by rw [← hS3]; rfl)
    have d3 := dr_ag (dr_ag g3 q2 (by decide)) q3 (by decide)
    obtain ⟨S4, b1, b2, b3, b4, b5, b6, b7⟩ := L227_do (N := N) K d S3 r.2.2.1 (by omega) hd d3 a5 s3
    have b1' : M227 N S3 = some S4 := t_lp_more _ _ _ (by omega) b1
    have m4 := mst_ag (mst_ag m2 q3 (by decide)) b6 (by decide)
    refine ⟨S4, ?_, ⟨m4, ?_, b2, fc_ag (fc_ag (fc_ag g4 q2 (by decide)) q3 (by decide)) b6 (by decide), b3, ?_, ?_, g8, ?_⟩, pf_trans a4 (pf_trans (pf_ag q2 (by decide) (by decide)) (pf_trans (pf_ag q3 (by decide) (by decide)) b7))⟩
    · simp only [J229_70, a1', cw, cond_true, w, n1, if_pos c28, et, v28, hS3, b1', Option.bind_some]
      rw [if_pos p5]
    · rw [b6.1 24 (by decide), q3.1 24 (by decide), q2.1 24 (by decide)]
      exact g2
    · dsimp only
      omega
    · dsimp only
      omega
    · rw [List.length_append, List.length_singleton] at g9 ⊢
      exact g9
  · intro hc
    rw [if_neg hc] at w
    refine ⟨m_sV S1 3 (S1.1 22), ?_, g1.2.1, pfx_3 a4 _⟩
    simp only [J229_70, a1', cw, cond_true, w, n0, cond_false, Option.bind_some]
/-- the end of the expression -/
theorem fin_do (hN : 2000 ≤ N) {d : Nat} {S : mS} {r : Rd} {D : List Nat} {sn : Int32} (h : pend tx 0 S r D [] d sn) (hx : nxOK 0 sn (pk tx r.1)) : ∃ S', B229_0 N S = some (.inr (1, S')) ∧ rf tx S' r (D ++ [r.2.2.1.length - 1]) [] d sn ∧ mj_c1 .le (S'.1 29) = true ∧ pf S S' ∧ 1 ≤ r.2.2.1.length := by
  have e := stop_do hN h hx
  obtain ⟨S1, a1, a2, a3, a4, a5⟩ := pend_close hN h (by decide) (fun k hk => by cases hk)
  have a1' : M232 N 0 S = some S1 := a1
  have e29 : S1.1 29 = 0 := a2.2.2.2.2.1.1
  refine ⟨S1, ?_, a2, by rw [e29]; decide, a4, a5⟩
  have cw : mj_c1 .ne (S1.1 29) = false := by rw [e29]; decide
  rw [e]
  simp only [J229_70, a1', cw, cond_false, Option.bind_some]
/-- a minus sign or a bracket is begun -/
theorem push_do (hN : 2000 ≤ N) {d : Nat} {S : mS} {r : Rd} {D : List Nat} {K : Ks} {sn : Int32} (h : rf tx S r D K d sn) (hc : pk tx r.1 = 45 ∨ pk tx r.1 = 40) : (d < 5 → ∃ S', B221_0 N S = some (.inl S') ∧ pf S S' ∧ (pk tx r.1 = 45 → rf tx S' (r.1 + 1, r.2) D ((21, sn) :: K) (d + 1) sn) ∧ (pk tx r.1 = 40 → rf tx S' (r.1 + 1, r.2) D ((20, sn) :: K) (d + 1) 0)) ∧ (¬ d < 5 → ∃ S', B221_0 N S = some (.inr (0, S')) ∧ S'.1 3 = Int32.ofNat r.1 ∧ pfx S S') := by
  obtain ⟨g1, g2, g3, g4, g5, g6, g7, g8, g9⟩ := h
  have hl := g1.1.2.1
  have hlt : r.1 < tx.length := hc.elim (fun q => pkz_is q (by decide)) (fun q => pkz_is q (by decide))
  have r2 := M212_do (N := N) g1
  have hd5 := g5.2.2.2.2.1
  have e30 : (S.1 30).toInt = d := by rw [g5.2.2.2.1]; exact i_nat (by omega)
  have q5 : (5 : Int32).toInt = 5 := rfl
  have way : B221_0 N S = J221_18 N S := by
    rcases hc with q | q
    · have c : mj_c2 .eq (pk tx r.1) 45 = true := decide_eq_true q
      simp only [B221_0, r2, c, cond_true, Option.bind_some]
    · have c : mj_c2 .eq (pk tx r.1) 45 = false := by rw [q]; decide
      have c2 : mj_c2 .ne (pk tx r.1) 40 = false := by rw [q]; decide
      simp only [B221_0, r2, c, c2, cond_false, Option.bind_some]
  constructor
  · intro h5
    have c5 : mj_c2 .ne (S.1 30) 5 = true := i_c2 (by show decide _ = true; apply decide_eq_true; rw [e30, q5]; omega)
    -- what is common to both
    have main : ∀ (s sn' : Int32), (s = 20 ∧ sn' = 0) ∨ (s = 21 ∧ sn' = sn) → ∃ S', J221_52 N s S = some (.inl S') ∧ pf S S' ∧ rf tx S' (r.1 + 1, r.2) D ((s, sn) :: K) (d + 1) sn' := by
      intro s sn' hs
      obtain ⟨S1, b1, b2, b3, b4, b5⟩ := M222_do (N := N) g5 (by omega) s
      have en : (S1.1 29 - 1).toInt = K.length := by rw [b5, i_sub (by rw [q_1, i_nat (by omega)]; omega) (by rw [q_1, i_nat (by omega)]; omega), q_1, i_nat (by omega)]; omega
      have c27 : 0 ≤ (S1.1 29 - 1).toInt ∧ (S1.1 29 - 1).toInt < mN 27 := by rw [show mN 27 = 200 from rfl]; omega
      have et : (S1.1 29 - 1).toInt.toNat = K.length := by omega
      have h01 : sn' = 0 ∨ sn' = 1 := by
        rcases hs with ⟨-, q⟩ | ⟨-, q⟩
        · exact Or.inl q
        · rw [q]; exact g5.2.2.2.2.2.2
      obtain ⟨S2, hS2⟩ : ∃ S2, m_sV (m_sV (m_sV S1 31 sn') 30 (S1.1 30 + 1)) 22 (S1.1 22 + 1) = S2 := ⟨_, rfl⟩
      have q2 : m_agr [22, 30, 31] [] [] S1 S2 := by rw [← hS2]; exact m_agr_sV (m_agr_sV (m_agr_sV m_agr_refl (by decide) _) (by decide) _) (by decide) _
      have m1 := mst_ag g1 b3 (by decide)
      have m2 : mst S2 tx (r.1 + 1) := by
        have := mst_inc m1 hlt
        refine ⟨⟨?_, this.1.2.1, ?_, this.1.2.2.2⟩, ?_, this.2.2⟩
        · rw [q2.1 2 (by decide)]
          exact m1.1.1
        · rw [q2.2.1 1 (by decide)]
          exact m1.1.2.2.1
        · rw [← hS2]
          exact this.2.1
      have s2 : skR S2 ((s, sn) :: K).reverse (d + 1) sn' := by
        rw [List.reverse_cons]
        obtain ⟨u1, u2, u3, u4, u5, u6, u7⟩ := b2
        refine ⟨by rw [q2.1 29 (by decide)]; exact u1, u2, ?_, ?_, by omega, by rw [← hS2]; rfl, h01⟩
        · rw [q2.2.1 27 (by decide), q2.2.1 28 (by decide)]
          exact u3
        · rw [← hS2]
          show S1.1 30 + 1 = _
          rw [u4]
          exact i_inc (by omega)
      have q12 := m_agr_trans (m_agr_mono b3 (F' := [22, 29, 30, 31]) (A' := [27, 28]) (B' := []) (by decide) (by decide) (by decide)) (m_agr_mono q2 (by decide) (by decide) (by decide))
      refine ⟨S2, ?_, pf_ag q12 (by decide) (by decide), ⟨m2, by rw [q12.1 24 (by decide)]; exact g2, dr_ag g3 q12 (by decide), fc_ag g4 q12 (by decide), s2, ?_, ?_, g8, g9⟩⟩
      · rcases hs with ⟨rfl, rfl⟩ | ⟨rfl, rfl⟩
        · have c : mj_c2 .eq (20 : Int32) 20 = true := by decide
          simp only [J221_52, b1, if_pos c27, et, b4, c, cond_true, J221_83, J221_84, if_pos h01, Option.bind_some]
          rw [← hS2]
          rfl
        · have c : mj_c2 .eq (21 : Int32) 20 = false := by decide
          have e31 : S1.1 31 = sn' := b2.2.2.2.2.2.1
          rcases h01 with q | q
          · have c1 : mj_c1 .eq (S1.1 31) = true := by rw [e31, q]; decide
            simp only [J221_52, b1, if_pos c27, et, b4, c, cond_false, c1, cond_true, J221_83, J221_84, if_pos (show (0 : Int32) = 0 ∨ (0 : Int32) = 1 from Or.inl rfl), Option.bind_some]
            rw [← hS2, q]
            rfl
          · have c1 : mj_c1 .eq (S1.1 31) = false := by rw [e31, q]; decide
            simp only [J221_52, b1, if_pos c27, et, b4, c, cond_false, c1, J221_84, if_pos (show (1 : Int32) = 0 ∨ (1 : Int32) = 1 from Or.inr rfl), Option.bind_some]
            rw [← hS2, q]
            rfl
      · dsimp only [List.length_cons]
        omega
      · dsimp only
        omega
    rw [way]
    rcases hc with q | q
    · have c : mj_c2 .ne (pk tx r.1) 45 = false := by rw [q]; decide
      obtain ⟨S', u1, u2, u3⟩ := main 21 sn (Or.inr ⟨rfl, rfl⟩)
      refine ⟨S', ?_, u2, fun _ => u3, fun q2 => absurd (q.symm.trans q2) (by decide)⟩
      simp only [J221_18, c5, cond_true, r2, c, cond_false, Option.bind_some]
      exact u1
    · have c : mj_c2 .ne (pk tx r.1) 45 = true := by rw [q]; decide
      obtain ⟨S', u1, u2, u3⟩ := main 20 0 (Or.inl ⟨rfl, rfl⟩)
      refine ⟨S', ?_, u2, fun q2 => absurd (q.symm.trans q2) (by decide), fun _ => u3⟩
      simp only [J221_18, c5, cond_true, r2, c, Option.bind_some]
      exact u1
  · intro h5
    have c5 : mj_c2 .ne (S.1 30) 5 = false := i_c2 (by show decide _ = false; apply decide_eq_false; rw [e30, q5]; omega)
    refine ⟨m_sV S 3 (S.1 22), ?_, g1.2.1, pfx_3 pf_refl _⟩
    rw [way]
    simp only [J221_18, c5, cond_false, M213, Option.bind_some]
    rfl
/-- a leaf, and the minus signs before it -/
theorem item_do (hN : 2000 ≤ N) {d : Nat} {S : mS} {r : Rd} {D : List Nat} {K : Ks} {sn : Int32} (h : rf tx S r D K d sn) (h45 : pk tx r.1 ≠ 45) (h40 : pk tx r.1 ≠ 40) (hd : tbc K ≤ d) : (∀ w, rIt tx r.1 r.2.1 r.2.2.2.length = .inl w → ∃ S', B221_0 N S = some (.inr (0, S')) ∧ S'.1 3 = Int32.ofNat w ∧ pfx S S') ∧ (∀ q, rIt tx r.1 r.2.1 r.2.2.2.length = .inr q → ∃ S', B221_0 N S = some (.inr (1, S')) ∧ pf S S' ∧ rf tx S' (q.1, r.2.1 + 1, tbN K (r.2.2.1 ++ [q.2.1]), r.2.2.2 ++ q.2.2) (D ++ [(tbN K (r.2.2.1 ++ [q.2.1])).length - 1]) (tbK K) (d - tbc K) sn) := by
  obtain ⟨g1, g2, g3, g4, g5, g6, g7, g8, g9⟩ := h
  have hl := g1.1.2.1
  have r2 := M212_do (N := N) g1
  have c1 : mj_c2 .eq (pk tx r.1) 45 = false := decide_eq_false h45
  have c2 : mj_c2 .ne (pk tx r.1) 40 = true := decide_eq_true h40
  have n0 : mj_c1 .ne 0 = false := by decide
  have n1 : mj_c1 .ne 1 = true := by decide
  obtain ⟨x1, x2⟩ := M223_do (N := N) hN g1 g2 g8 g4 g7 g3 (by omega) g9
  constructor
  · intro w hw
    obtain ⟨S', a1, a2, a4⟩ := x1 w hw
    refine ⟨S', ?_, a2, a4⟩
    simp only [B221_0, r2, c1, c2, cond_false, cond_true, a1, n0, Option.bind_some]
  · intro q hq
    obtain ⟨S1, a1, a2, a3, a4, a5, a6, a7⟩ := x2 q hq
    have lt := rIt_ok g8 hq
    obtain ⟨⟨l1, l2, l3, l4, l5, l6, l7, l8⟩, l9, l10, l11⟩ := lt
    dsimp only at l1 l2 l4 l6 l8 l9
    rw [List.length_append, List.length_singleton] at l4
    rw [List.length_append] at l6
    have el : (r.2.2.1 ++ [q.2.1]).length = r.2.2.1.length + 1 := by rw [List.length_append]; rfl
    have d1 : dr S1 (r.2.2.1 ++ [q.2.1]) (D ++ [(r.2.2.1 ++ [q.2.1]).length - 1]) := by
      rw [el, show r.2.2.1.length + 1 - 1 = r.2.2.1.length by omega]
      exact a5
    obtain ⟨S2, b1, b2, b3, b4, b5, b6, b7⟩ := L227_do (N := N) K d S1 _ (by rw [el]; omega) hd d1 (by rw [el]; omega) (sk_ag g5 a6 (by decide))
    have b1' : M227 N S1 = some S2 := t_lp_more _ _ _ (by omega) b1
    rw [el] at b4
    refine ⟨S2, ?_, pf_trans a7 b7, ⟨mst_ag a2 b6 (by decide), by rw [b6.1 24 (by decide)]; exact a3, b2, fc_ag a4 b6 (by decide), b3, ?_, ?_, l8, ?_⟩⟩
    · simp only [B221_0, r2, c1, c2, cond_false, cond_true, a1, n1, b1', Option.bind_some]
    · dsimp only
      omega
    · show (r.2.2.2 ++ q.2.2).length ≤ q.1
      rw [List.length_append]
      omega
    · rw [List.length_append, List.length_singleton]
      dsimp only
      omega
end EXN
