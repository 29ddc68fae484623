section NDT
variable {N : Nat}
theorem dr_pop {S : mS} {nds : List Nd} {ds rest : List Nat} (h : dr S nds (ds ++ rest)) : dr (m_sV S 33 (Int32.ofNat ds.length)) nds ds := by
  obtain ⟨d1, d2, d3, d4, d5, d6⟩ := h
  rw [List.length_append] at d5
  refine ⟨d1, d2, d3, rfl, by omega, fun i x hi => d6 i x ?_⟩
  rw [List.getElem?_append_left (List.getElem?_eq_some_iff.mp hi).1]
  exact hi
/-- the last node's sides -/
theorem dr_side {S : mS} {nds : List Nd} {ds : List Nat} {k a b c d l r : Int32} (h : dr S (nds ++ [(k, a, b, c, d, l, r)]) ds) (l' r' : Int32) : dr (m_sA (m_sA S 18 (480 + nds.length) l') 19 (480 + nds.length) r') (nds ++ [(k, a, b, c, d, l', r')]) ds ∧ dr (m_sA S 18 (480 + nds.length) l') (nds ++ [(k, a, b, c, d, l', r)]) ds := by
  obtain ⟨d1, d2, d3, d4, d5, d6⟩ := h
  have last := d3 nds.length _ (by rw [List.getElem?_append_right (Nat.le_refl _), Nat.sub_self]; rfl)
  rw [List.length_append] at d1 d2
  simp only [ndAt, Prod.mk.injEq] at last
  obtain ⟨m1, m2, m3, m4, m5, m6, m7⟩ := last
  have old : ∀ (i : Nat) (nd : Nd), i < nds.length → nds[i]? = some nd → ndAt S (480 + i) = nd := fun i nd hi he => d3 i nd (by rw [List.getElem?_append_left hi]; exact he)
  constructor
  · refine ⟨by rw [List.length_append]; exact d1, by rw [List.length_append]; exact d2, fun i nd hi => ?_, d4, d5, fun i x hi => ?_⟩
    · by_cases e : i = nds.length
      · subst e
        rw [List.getElem?_append_right (Nat.le_refl _), Nat.sub_self] at hi
        cases hi
        simp [ndAt, m_sA, m1, m2, m3, m4, m5]
      · have hlt : i < nds.length := by
          have := (List.getElem?_eq_some_iff.mp hi).1
          rw [List.length_append] at this
          simp at this
          omega
        rw [List.getElem?_append_left hlt] at hi
        rw [← old i nd hlt hi]
        simp [ndAt, m_sA, e]
    · have := d6 i x hi
      simpa [m_sA] using this
  · refine ⟨by rw [List.length_append]; exact d1, by rw [List.length_append]; exact d2, fun i nd hi => ?_, d4, d5, fun i x hi => ?_⟩
    · by_cases e : i = nds.length
      · subst e
        rw [List.getElem?_append_right (Nat.le_refl _), Nat.sub_self] at hi
        cases hi
        simp [ndAt, m_sA, m1, m2, m3, m4, m5, m7]
      · have hlt : i < nds.length := by
          have := (List.getElem?_eq_some_iff.mp hi).1
          rw [List.length_append] at this
          simp at this
          omega
        rw [List.getElem?_append_left hlt] at hi
        rw [← old i nd hlt hi]
        simp [ndAt, m_sA, e]
    · have := d6 i x hi
      simpa [m_sA] using this
theorem M233_do {S : mS} {nds : List Nd} {ds : List Nat} {x y : Nat} (h : dr S nds (ds ++ [x, y])) (h1 : nds.length < 160) (g : Int32) : ∃ S', M233 N g S = some S' ∧ dr S' (nds ++ [(3, g, 0, 0, 0, Int32.ofNat x, Int32.ofNat y)]) (ds ++ [nds.length]) ∧ m_agr [23, 33] [13, 14, 15, 16, 17, 18, 19, 32] [] S S' ∧ pf S S' := by
  obtain ⟨d1, d2, d3, d4, d5, d6⟩ := id h
  rw [List.length_append] at d4 d5
  simp only [List.length_cons, List.length_nil] at d4 d5
  have hx := d6 ds.length x (by rw [List.getElem?_append_right (Nat.le_refl _), Nat.sub_self]; rfl)
  have hy := d6 (ds.length + 1) y (by rw [List.getElem?_append_right (by omega), show ds.length + 1 - ds.length = 1 by omega]; rfl)
  have e3 : (S.1 33).toInt = ds.length + 2 := by rw [d4]; exact i_nat (by omega)
  have f1 : (S.1 33 - 1).toInt = ds.length + 1 := by rw [i_sub (by rw [q_1]; omega) (by rw [q_1]; omega), q_1, e3]; omega
  have f2 : (S.1 33 - 2).toInt = ds.length := by rw [i_sub (by rw [q_2]; omega) (by rw [q_2]; omega), q_2, e3]; omega
  have f3 : S.1 33 - 2 = Int32.ofNat ds.length := i_eq f2
  have c1 : 0 ≤ (S.1 33 - 1).toInt ∧ (S.1 33 - 1).toInt < mN 32 := by rw [show mN 32 = 60 from rfl]; omega
  have c2 : 0 ≤ (S.1 33 - 2).toInt ∧ (S.1 33 - 2).toInt < mN 32 := by rw [show mN 32 = 60 from rfl]; omega
  obtain ⟨S2, a1, a2, a3, a4⟩ := M224_do (N := N) (dr_pop h) h1 (by omega) 3 g 0 0 0
  have e23 : S2.1 23 = Int32.ofNat (nds.length + 1) := by
    have := a2.1
    rw [List.length_append] at this
    exact this
  have e0 : (480 : Int32).toInt = 480 := rfl
  have g1 : (480 + S2.1 23).toInt = 481 + nds.length := by rw [e23, i_add (by rw [e0, i_nat (by omega)]; omega) (by rw [e0, i_nat (by omega)]; omega), e0, i_nat (by omega)]; omega
  have g2 : (480 + S2.1 23 - 1).toInt = 480 + nds.length := by rw [i_sub (by rw [q_1]; omega) (by rw [q_1]; omega), q_1, g1]; omega
  have c18 : 0 ≤ (480 + S2.1 23 - 1).toInt ∧ (480 + S2.1 23 - 1).toInt < mN 18 := by rw [show mN 18 = 640 from rfl]; omega
  have c19 : 0 ≤ (480 + S2.1 23 - 1).toInt ∧ (480 + S2.1 23 - 1).toInt < mN 19 := by rw [show mN 19 = 640 from rfl]; omega
  refine ⟨m_sA (m_sA S2 18 (480 + nds.length) (Int32.ofNat x)) 19 (480 + nds.length) (Int32.ofNat y), ?_, (dr_side a2 _ _).1, ?_, pf_sA (pf_sA (pf_trans (pf_sV pf_refl (by decide) _) a4) (by unfold pfA; omega) _) (by unfold pfA; omega) _⟩
  · rw [← f3] at a1
    simp only [M233, if_pos c1, if_pos c2, a1, if_pos c18, if_pos c19, show (S.1 33 - 1).toInt.toNat = ds.length + 1 by omega, show (S.1 33 - 2).toInt.toNat = ds.length by omega, hx, hy, show (480 + S2.1 23 - 1).toInt.toNat = 480 + nds.length by omega, Option.bind_some]
  · exact m_agr_sA (m_agr_sA (m_agr_trans (m_agr_sV m_agr_refl (by decide) _) a3) (by decide) _ _) (by decide) _ _
theorem M228_do {S : mS} {nds : List Nd} {ds : List Nat} {x : Nat} (h : dr S nds (ds ++ [x])) (h1 : nds.length < 160) : ∃ S', M228 N S = some S' ∧ dr S' (nds ++ [(2, 0, 0, 0, 0, Int32.ofNat x, -1)]) (ds ++ [nds.length]) ∧ m_agr [23, 33] [13, 14, 15, 16, 17, 18, 19, 32] [] S S' ∧ pf S S' := by
  obtain ⟨d1, d2, d3, d4, d5, d6⟩ := id h
  rw [List.length_append] at d4 d5
  simp only [List.length_cons, List.length_nil] at d4 d5
  have hx := d6 ds.length x (by rw [List.getElem?_append_right (Nat.le_refl _), Nat.sub_self]; rfl)
  have e3 : (S.1 33).toInt = ds.length + 1 := by rw [d4]; exact i_nat (by omega)
  have f1 : (S.1 33 - 1).toInt = ds.length := by rw [i_sub (by rw [q_1]; omega) (by rw [q_1]; omega), q_1, e3]; omega
  have f3 : S.1 33 - 1 = Int32.ofNat ds.length := i_eq f1
  have c1 : 0 ≤ (S.1 33 - 1).toInt ∧ (S.1 33 - 1).toInt < mN 32 := by rw [show mN 32 = 60 from rfl]; omega
  obtain ⟨S2, a1, a2, a3, a4⟩ := M224_do (N := N) (dr_pop h) h1 (by omega) 2 0 0 0 0
  have e23 : S2.1 23 = Int32.ofNat (nds.length + 1) := by
    have := a2.1
    rw [List.length_append] at this
    exact this
  have e0 : (480 : Int32).toInt = 480 := rfl
  have g1 : (480 + S2.1 23).toInt = 481 + nds.length := by rw [e23, i_add (by rw [e0, i_nat (by omega)]; omega) (by rw [e0, i_nat (by omega)]; omega), e0, i_nat (by omega)]; omega
  have g2 : (480 + S2.1 23 - 1).toInt = 480 + nds.length := by rw [i_sub (by rw [q_1]; omega) (by rw [q_1]; omega), q_1, g1]; omega
  have c18 : 0 ≤ (480 + S2.1 23 - 1).toInt ∧ (480 + S2.1 23 - 1).toInt < mN 18 := by rw [show mN 18 = 640 from rfl]; omega
  refine ⟨m_sA S2 18 (480 + nds.length) (Int32.ofNat x), ?_, (dr_side a2 _ 0).2, ?_, pf_sA (pf_trans (pf_sV pf_refl (by decide) _) a4) (by unfold pfA; omega) _⟩
  · rw [← f3] at a1
    simp only [M228, if_pos c1, a1, if_pos c18, show (S.1 33 - 1).toInt.toNat = ds.length by omega, hx, show (480 + S2.1 23 - 1).toInt.toNat = 480 + nds.length by omega, Option.bind_some]
  · exact m_agr_sA (m_agr_trans (m_agr_sV m_agr_refl (by decide) _) a3) (by decide) _ _
end NDT
