/-! EXPRESSIONS, THE REFERENCE -/
/-- no sign follows that would be taken here -/
def nxOK (b : Nat) (sn c : Int32) : Prop := (b ≤ 2 → bd c ≠ 2) ∧ (b ≤ 1 → bd c ≠ 1) ∧ (b = 0 → bd c ≠ 0 ∨ sn = 1)
/-- operations that bind at least so tightly as b are still to be closed: then the state is r -/
def pend (tx : List Int32) (b : Nat) (S : mS) (r : Rd) (D : List Nat) (K : Ks) (d : Nat) (sn : Int32) : Prop := ∃ (P : Ks) (xs : List Nat) (nds0 : List Nd), rf tx S (r.1, r.2.1, nds0, r.2.2.2) (D ++ xs.reverse) (P ++ K) d sn ∧ (∀ k ∈ P, isOp k.1 ∧ b ≤ tgt k.1) ∧ xs.length = P.length + 1 ∧ xs.head? = some (nds0.length - 1) ∧ 1 ≤ nds0.length ∧ clN P xs nds0 = r.2.2.1
theorem sg_bd (c : Int32) : (bd c = 2 ∧ isOp (sg c) ∧ tgt (sg c) = 2) ∨ (bd c = 1 ∧ isOp (sg c) ∧ tgt (sg c) = 1) ∨ (bd c = 0 ∧ isOp (sg c) ∧ tgt (sg c) = 0) ∨ (bd c = -1000 ∧ sg c = -1) := by
  unfold isOp
  by_cases h1 : c = 37
  · subst h1; decide
  · by_cases h2 : c = 42
    · subst h2; decide
    · by_cases h3 : c = 43
      · subst h3; decide
      · by_cases h4 : c = 45
        · subst h4; decide
        · by_cases h5 : c = 47
          · subst h5; decide
          · by_cases h6 : c = 60
            · subst h6; decide
            · by_cases h7 : c = 61
              · subst h7; decide
              · by_cases h8 : c = 62
                · subst h8; decide
                · refine Or.inr (Or.inr (Or.inr ⟨?_, ?_⟩))
                  · unfold bd
                    rw [if_neg h1, if_neg h2, if_neg h3, if_neg h4, if_neg h5, if_neg h6, if_neg h7, if_neg h8]
                  · unfold sg
                    rw [if_neg h6, if_neg h8, if_neg h7, if_neg h3, if_neg h4, if_neg h2, if_neg h5, if_neg h1]
theorem sg_of {c : Int32} {b : Nat} (hb : b < 3) (h : bd c = Int32.ofNat b) : isOp (sg c) ∧ tgt (sg c) = b := by
  have e : b = 0 ∨ b = 1 ∨ b = 2 := by omega
  rcases sg_bd c with ⟨h1, h2, h3⟩ | ⟨h1, h2, h3⟩ | ⟨h1, h2, h3⟩ | ⟨h1, h2⟩ <;> rw [h1] at h <;> rcases e with rfl | rfl | rfl <;> first | exact ⟨h2, h3⟩ | exact absurd h (by decide)
theorem clN_snoc {s c : Int32} {x : Nat} : ∀ (P : Ks) (xs : List Nat) (nds : List Nd), xs.length = P.length + 1 → xs.head? = some (nds.length - 1) → 1 ≤ nds.length → clN (P ++ [(s, c)]) (xs ++ [x]) nds = clN P xs nds ++ [(3, s, 0, 0, 0, Int32.ofNat x, Int32.ofNat ((clN P xs nds).length - 1))] := by
  intro P
  induction P with
  | nil =>
    intro xs nds hx hh h1
    obtain ⟨y, rfl⟩ : ∃ y, xs = [y] := by
      match xs, hx with
      | [y], _ => exact ⟨y, rfl⟩
    cases hh
    rfl
  | cons k P ih =>
    intro xs nds hx hh h1
    obtain ⟨y, w, xs, rfl⟩ : ∃ y w r, xs = y :: w :: r := by
      match xs, hx with
      | y :: w :: r, _ => exact ⟨y, w, r, rfl⟩
    have el : (nds ++ [((3 : Int32), k.1, (0 : Int32), (0 : Int32), (0 : Int32), Int32.ofNat w, Int32.ofNat y)]).length = nds.length + 1 := by rw [List.length_append]; rfl
    exact ih (nds.length :: xs) _ (by rw [List.length_cons, List.length_cons, List.length_cons] at hx; rw [List.length_cons]; omega) (by rw [el]; rfl) (by rw [el]; omega)
section EXM
variable {N : Nat} {tx : List Int32}
theorem pend_mono {b b' d : Nat} {S : mS} {r : Rd} {D : List Nat} {K : Ks} {sn : Int32} (h : pend tx b' S r D K d sn) (hb : b ≤ b') : pend tx b S r D K d sn := by
  obtain ⟨P, xs, nds0, h1, h2, h3⟩ := h
  exact ⟨P, xs, nds0, h1, fun k hk => ⟨(h2 k hk).1, by have := (h2 k hk).2; omega⟩, h3⟩
theorem pend_st {b d : Nat} {S : mS} {r : Rd} {D : List Nat} {K : Ks} {sn : Int32} (h : pend tx b S r D K d sn) : mst S tx r.1 ∧ S.1 31 = sn ∧ (sn = 0 ∨ sn = 1) ∧ r.2.1 ≤ 40 := by
  obtain ⟨P, xs, nds0, ⟨h1, h2, h3, h4, h5, h6⟩, -⟩ := h
  exact ⟨h1, h5.2.2.2.2.2.1, h5.2.2.2.2.2.2, h6.2.2.1⟩
theorem pend_close (hN : 2000 ≤ N) {b d : Nat} {S : mS} {r : Rd} {D : List Nat} {K : Ks} {sn : Int32} (h : pend tx b S r D K d sn) (hb : b ≤ 3) (hK : okK b K) : ∃ S', M232 N (Int32.ofNat b) S = some S' ∧ rf tx S' r (D ++ [r.2.2.1.length - 1]) K d sn ∧ m_agr cF cA [] S S' ∧ pf S S' ∧ 1 ≤ r.2.2.1.length := by
  obtain ⟨P, xs, nds0, ⟨h1, h2, h3, h4, h5, h6, h7, h8, h9⟩, k1, k2, k3, k4, k5⟩ := h
  dsimp only at h1 h2 h3 h4 h6 h7 h8 h9
  rw [List.length_append] at h6 h9
  rw [List.length_reverse] at h9
  have hl := h1.1.2.1
  have hp := h1.2.2
  obtain ⟨S', a1, a2, a3, a4, a5, a6⟩ := L232_do (N := N) hb hK P S nds0 xs k2 k1 (by omega) k3 k4 h3 h5
  rw [k5] at a2 a4
  refine ⟨S', t_lp_more _ _ _ (by omega) a1, ⟨mst_ag h1 a5 (by decide), by rw [a5.1 24 (by decide)]; exact h2, a2, fc_ag h4 a5 (by decide), a3, by omega, h7, h8, ?_⟩, a5, a6, by omega⟩
  rw [List.length_append, List.length_singleton]
  omega
/-- a sign that is taken -/
theorem sign_do (hN : 2000 ≤ N) {b d : Nat} {S : mS} {r : Rd} {D : List Nat} {K : Ks} {sn : Int32} (h : pend tx b S r D K d sn) (hb : b < 3) (hK : okK b K) (hc : bd (pk tx r.1) = Int32.ofNat b) (hs : b = 0 → sn = 0) : ∃ S' sn', B229_0 N S = some (.inr (1, S')) ∧ mj_c1 .le (S'.1 29) = false ∧ rf tx S' (r.1 + 1, r.2) (D ++ [r.2.2.1.length - 1]) ((sg (pk tx r.1), sn') :: K) d sn' ∧ (1 ≤ b → sn' = sn) ∧ (b = 0 → sn' = 1) ∧ pf S S' := by
  obtain ⟨m1, m2, m3, m4⟩ := pend_st h
  obtain ⟨hlt, hne⟩ := bd_pk hb hc
  obtain ⟨o1, o2⟩ := sg_of hb hc
  obtain ⟨S1, a1, a2, a3, a4, a5⟩ := pend_close hN h (by omega) hK
  obtain ⟨g1, g2, g3, g4, g5, g6, g7, g8, g9⟩ := a2
  have hl := m1.1.2.1
  have r2 := M212_do (N := N) m1
  obtain ⟨s, hsg⟩ : ∃ s, sg (pk tx r.1) = s := ⟨_, rfl⟩
  rw [hsg] at o1 o2 ⊢
  have e31 : S1.1 31 = sn := g5.2.2.2.2.2.1
  unfold isOp at o1
  -- with the new word on comparisons
  have main : ∀ sn', (sn' = 0 ∨ sn' = 1) → ∃ S', J229_50 N s sn' S1 = some (1, S') ∧ mj_c1 .le (S'.1 29) = false ∧ rf tx S' (r.1 + 1, r.2) (D ++ [r.2.2.1.length - 1]) ((s, sn') :: K) d sn' ∧ pf S S' := by
    intro sn' h01
    obtain ⟨S2, hS2⟩ : ∃ S2, m_sV S1 31 sn' = S2 := ⟨_, rfl⟩
    have q1 : m_agr [31] [] [] S1 S2 := by rw [← hS2]; exact m_agr_sV m_agr_refl (by decide) _
    have s2 : skR S2 K.reverse d sn' := by
      obtain ⟨u1, u2, u3, u4, u5, u6, u7⟩ := g5
      rw [← hS2]
      exact ⟨u1, u2, u3, u4, u5, rfl, h01⟩
    obtain ⟨S3, b1, b2, b3, b4, b5⟩ := M222_do (N := N) s2 (by omega) s
    have q3 := m_agr_trans (m_agr_mono q1 (F' := [29, 31]) (A' := [27, 28]) (B' := []) (by decide) (by decide) (by decide)) (m_agr_mono b3 (by decide) (by decide) (by decide))
    have q4 : m_agr [22] [] [] S3 (m_sV S3 22 (S3.1 22 + 1)) := m_agr_sV m_agr_refl (by decide) _
    have p3 := mst_inc (mst_ag g1 q3 (by decide)) hlt
    refine ⟨m_sV S3 22 (S3.1 22 + 1), ?_, ?_, ⟨p3, ?_, dr_ag (dr_ag g3 q3 (by decide)) q4 (by decide), fc_ag (fc_ag g4 q3 (by decide)) q4 (by decide), ?_, ?_, ?_, g8, g9⟩, pf_sV (pf_trans a4 (pf_ag q3 (by decide) (by decide))) (by decide) _⟩
    · simp only [J229_50, if_pos h01, hS2, b1, Option.bind_some]
    · exact i_c1 (by show decide _ = false; apply decide_eq_false; show ¬ ((S3.1 29).toInt ≤ 0); rw [b5, i_nat (by omega)]; omega)
    · show S3.1 24 = _
      rw [q3.1 24 (by decide)]
      exact g2
    · rw [List.reverse_cons]
      exact sk_ag b2 q4 (by decide)
    · dsimp only [List.length_cons]
      omega
    · dsimp only
      omega
  have e3 : mj_c2 .ge s 3 = decide (3 ≤ s.toInt) := by
    by_cases k : 3 ≤ s.toInt
    · rw [decide_eq_true k]
      exact i_c2 (by show decide _ = true; apply decide_eq_true; rw [q_3]; omega)
    · rw [decide_eq_false k]
      exact i_c2 (by show decide _ = false; apply decide_eq_false; rw [q_3]; omega)
  have J24 : J229_24 N s S = (bif mj_c1 .ne sn then J229_50 N s 1 S1 else bif decide (3 ≤ s.toInt) then J229_50 N s 0 S1 else J229_50 N s 1 S1) := by
    simp only [J229_24, M231_do, o2, a1, e31, e3, J229_45, Option.bind_some]
  by_cases hb0 : b = 0
  · have sn0 := hs hb0
    have t0 : ¬ 3 ≤ s.toInt := by
      intro k
      unfold tgt at o2
      rw [if_neg (by omega)] at o2
      split at o2 <;> omega
    obtain ⟨S', u1, u2, u3, u4⟩ := main 1 (Or.inr rfl)
    refine ⟨S', 1, ?_, u2, u3, fun q => absurd q (by omega), fun _ => rfl, u4⟩
    have c1 : mj_c2 .gt s 2 = false := i_c2 (by show decide _ = false; apply decide_eq_false; rw [q_2]; omega)
    have c2 : mj_c1 .lt s = false := i_c1 (by show decide _ = false; apply decide_eq_false; omega)
    have c3 : mj_c1 .ne (S.1 31) = false := by rw [m2, sn0]; decide
    simp only [B229_0, r2, M230_do, hsg, c1, c2, c3, cond_false, Option.bind_some]
    rw [J24, sn0, decide_eq_false t0]
    show (J229_50 N s 1 S1).map Sum.inr = _
    rw [u1]
    rfl
  · have t1 : 3 ≤ s.toInt := by
      unfold tgt at o2
      split at o2 <;> omega
    obtain ⟨S', u1, u2, u3, u4⟩ := main sn m3
    refine ⟨S', sn, ?_, u2, u3, fun _ => rfl, fun q => absurd q hb0, u4⟩
    have c1 : mj_c2 .gt s 2 = true := i_c2 (by show decide _ = true; apply decide_eq_true; rw [q_2]; omega)
    simp only [B229_0, r2, M230_do, hsg, c1, cond_true, Option.bind_some]
    rw [J24, decide_eq_true t1]
    rcases m3 with e | e
    · rw [e] at u1 ⊢
      show (J229_50 N s 0 S1).map Sum.inr = _
      rw [u1]
      rfl
    · rw [e] at u1 ⊢
      show (J229_50 N s 1 S1).map Sum.inr = _
      rw [u1]
      rfl
/-- nothing more is taken: the brackets' end, or the expression's -/
theorem stop_do (hN : 2000 ≤ N) {d : Nat} {S : mS} {r : Rd} {D : List Nat} {K : Ks} {sn : Int32} (h : pend tx 0 S r D K d sn) (hx : nxOK 0 sn (pk tx r.1)) : B229_0 N S = J229_70 N S := by
  obtain ⟨m1, m2, m3, m4⟩ := pend_st h
  have r2 := M212_do (N := N) m1
  obtain ⟨x1, x2, x3⟩ := hx
  rcases sg_bd (pk tx r.1) with ⟨h1, -⟩ | ⟨h1, -⟩ | ⟨h1, h2, h3⟩ | ⟨h1, h2⟩
  · exact absurd h1 (x1 (by omega))
  · exact absurd h1 (x2 (by omega))
  · have s1 : sn = 1 := (x3 rfl).elim (fun q => absurd h1 q) id
    unfold isOp at h2
    have t0 : (sg (pk tx r.1)).toInt < 3 := by
      unfold tgt at h3
      split at h3
      · omega
      · split at h3 <;> omega
    have c1 : mj_c2 .gt (sg (pk tx r.1)) 2 = false := i_c2 (by show decide _ = false; apply decide_eq_false; rw [q_2]; omega)
    have c2 : mj_c1 .lt (sg (pk tx r.1)) = false := i_c1 (by show decide _ = false; apply decide_eq_false; omega)
    have c3 : mj_c1 .ne (S.1 31) = true := by rw [m2, s1]; decide
    simp only [B229_0, r2, M230_do, c1, c2, c3, cond_false, cond_true, Option.bind_some]
  · have c1 : mj_c2 .gt (-1) 2 = false := by decide
    have c2 : mj_c1 .lt (-1) = true := by decide
    simp only [B229_0, r2, M230_do, h2, c1, c2, cond_false, cond_true, Option.bind_some]
end EXM
