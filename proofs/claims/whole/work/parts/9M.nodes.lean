/-! THE REFERENCE'S DRAFT: its nodes (kind, four numbers, left, right) and the operands that wait -/
abbrev Nd : Type := Int32 × Int32 × Int32 × Int32 × Int32 × Int32 × Int32
def ndAt (S : mS) (i : Nat) : Nd := (S.2.1 13 i, S.2.1 14 i, S.2.1 15 i, S.2.1 16 i, S.2.1 17 i, S.2.1 18 i, S.2.1 19 i)
def dr (S : mS) (nds : List Nd) (ds : List Nat) : Prop := S.1 23 = Int32.ofNat nds.length ∧ nds.length ≤ 160 ∧ (∀ (i : Nat) (nd : Nd), nds[i]? = some nd → ndAt S (480 + i) = nd) ∧ S.1 33 = Int32.ofNat ds.length ∧ ds.length ≤ 59 ∧ ∀ (i d : Nat), ds[i]? = some d → S.2.1 32 i = Int32.ofNat d
/-- what the reading of an expression leaves as it was: all but the draft's nodes and faces and the parser's own fields -/
def pfA (j i : Nat) : Prop := j ≠ 27 ∧ j ≠ 28 ∧ j ≠ 32 ∧ ¬ (13 ≤ j ∧ j ≤ 20 ∧ 480 ≤ i)
def pfV : List Nat := [22, 23, 24, 25, 26, 29, 30, 31, 33]
def pf (S S' : mS) : Prop := (∀ j, j ∉ pfV → S'.1 j = S.1 j) ∧ (∀ j i, pfA j i → S'.2.1 j i = S.2.1 j i) ∧ ∀ j, S'.2.2 j = S.2.2 j
theorem pf_refl {S : mS} : pf S S := ⟨fun _ _ => rfl, fun _ _ _ => rfl, fun _ => rfl⟩
theorem pf_trans {S S1 S2 : mS} (x : pf S S1) (y : pf S1 S2) : pf S S2 := ⟨fun j h => (y.1 j h).trans (x.1 j h), fun j i h => (y.2.1 j i h).trans (x.2.1 j i h), fun j => (y.2.2 j).trans (x.2.2 j)⟩
theorem pf_sV {S S' : mS} (x : pf S S') {j : Nat} (hj : j ∈ pfV) (v : Int32) : pf S (m_sV S' j v) := ⟨fun q hq => (if_neg (fun (z : q = j) => hq (by rw [z]; exact hj))).trans (x.1 q hq), x.2.1, x.2.2⟩
theorem pf_sA {S S' : mS} (x : pf S S') {j i : Nat} (hj : ¬ pfA j i) (v : Int32) : pf S (m_sA S' j i v) := ⟨x.1, fun q p hq => (if_neg (fun (z : q = j ∧ p = i) => hj (by rw [← z.1, ← z.2]; exact hq))).trans (x.2.1 q p hq), x.2.2⟩
theorem pf_ag {F A : List Nat} {S S' : mS} (h : m_agr F A [] S S') (hF : ∀ j ∈ F, j ∈ pfV) (hA : ∀ j ∈ A, j = 27 ∨ j = 28 ∨ j = 32) : pf S S' := by
  refine ⟨fun j hj => h.1 j (fun q => hj (hF j q)), fun j i hj => ?_, fun j => h.2.2 j List.not_mem_nil⟩
  have : j ∉ A := fun q => by
    have := hA j q
    unfold pfA at hj
    omega
  rw [h.2.1 j this]
/-- the same, but for the place that is wrong -/
def pfx (S S' : mS) : Prop := (∀ j, j ∉ 3 :: pfV → S'.1 j = S.1 j) ∧ (∀ j i, pfA j i → S'.2.1 j i = S.2.1 j i) ∧ ∀ j, S'.2.2 j = S.2.2 j
theorem pfx_of {S S' : mS} (h : pf S S') : pfx S S' := ⟨fun j hj => h.1 j (fun q => hj (List.mem_cons_of_mem _ q)), h.2⟩
theorem pfx_trans {S S1 S2 : mS} (x : pf S S1) (y : pfx S1 S2) : pfx S S2 := ⟨fun j h => (y.1 j h).trans (x.1 j (fun q => h (List.mem_cons_of_mem _ q))), fun j i h => (y.2.1 j i h).trans (x.2.1 j i h), fun j => (y.2.2 j).trans (x.2.2 j)⟩
theorem pfx_3 {S S' : mS} (x : pf S S') (v : Int32) : pfx S (m_sV S' 3 v) := ⟨fun q hq => (if_neg (fun (z : q = 3) => hq (by rw [z]; exact List.mem_cons_self))).trans (x.1 q (fun z => hq (List.mem_cons_of_mem _ z))), x.2⟩
theorem pfx_ag {F A : List Nat} {S S' : mS} (h : m_agr F A [] S S') (hF : ∀ j ∈ F, j ∈ 3 :: pfV) (hA : ∀ j ∈ A, j = 27 ∨ j = 28 ∨ j = 32) : pfx S S' := by
  refine ⟨fun j hj => h.1 j (fun q => hj (hF j q)), fun j i hj => ?_, fun j => h.2.2 j List.not_mem_nil⟩
  have : j ∉ A := fun q => by
    have := hA j q
    unfold pfA at hj
    omega
  rw [h.2.1 j this]
theorem m_gA_ne {S : mS} {j j' i i' : Nat} {v : Int32} (h : ¬ (j' = j ∧ i' = i)) : (m_sA S j i v).2.1 j' i' = S.2.1 j' i' := if_neg h
section NDS
variable {N : Nat}
theorem M224_do {S : mS} {nds : List Nd} {ds : List Nat} (h : dr S nds ds) (h1 : nds.length < 160) (h2 : ds.length < 59) (k a b c d : Int32) : ∃ S', M224 N k a b c d S = some S' ∧ dr S' (nds ++ [(k, a, b, c, d, -1, -1)]) (ds ++ [nds.length]) ∧ m_agr [23, 33] [13, 14, 15, 16, 17, 18, 19, 32] [] S S' ∧ pf S S' := by
  obtain ⟨d1, d2, d3, d4, d5, d6⟩ := h
  have e0 : (480 : Int32).toInt = 480 := rfl
  have eN : (480 + S.1 23).toInt = 480 + nds.length := by rw [d1, i_add (by rw [e0, i_nat (by omega)]; omega) (by rw [e0, i_nat (by omega)]; omega), e0, i_nat (by omega)]
  have eD : (S.1 33).toInt = ds.length := by rw [d4]; exact i_nat (by omega)
  have nN : (480 + S.1 23).toInt.toNat = 480 + nds.length := by omega
  have nD : (S.1 33).toInt.toNat = ds.length := by omega
  have c13 : 0 ≤ (480 + S.1 23).toInt ∧ (480 + S.1 23).toInt < mN 13 := by rw [show mN 13 = 640 from rfl]; omega
  have c14 : 0 ≤ (480 + S.1 23).toInt ∧ (480 + S.1 23).toInt < mN 14 := by rw [show mN 14 = 640 from rfl]; omega
  have c15 : 0 ≤ (480 + S.1 23).toInt ∧ (480 + S.1 23).toInt < mN 15 := by rw [show mN 15 = 640 from rfl]; omega
  have c16 : 0 ≤ (480 + S.1 23).toInt ∧ (480 + S.1 23).toInt < mN 16 := by rw [show mN 16 = 640 from rfl]; omega
  have c17 : 0 ≤ (480 + S.1 23).toInt ∧ (480 + S.1 23).toInt < mN 17 := by rw [show mN 17 = 640 from rfl]; omega
  have c18 : 0 ≤ (480 + S.1 23).toInt ∧ (480 + S.1 23).toInt < mN 18 := by rw [show mN 18 = 640 from rfl]; omega
  have c19 : 0 ≤ (480 + S.1 23).toInt ∧ (480 + S.1 23).toInt < mN 19 := by rw [show mN 19 = 640 from rfl]; omega
  have c32 : 0 ≤ (S.1 33).toInt ∧ (S.1 33).toInt < mN 32 := by rw [show mN 32 = 60 from rfl]; omega
  refine ⟨m_sV (m_sV (m_sA (m_sA (m_sA (m_sA (m_sA (m_sA (m_sA (m_sA S 13 (480 + nds.length) k) 14 (480 + nds.length) a) 15 (480 + nds.length) b) 16 (480 + nds.length) c) 17 (480 + nds.length) d) 18 (480 + nds.length) (-1)) 19 (480 + nds.length) (-1)) 32 ds.length (S.1 23)) 33 (S.1 33 + 1)) 23 (S.1 23 + 1), ?_, ⟨?_, ?_, ?_, ?_, ?_, ?_⟩, ?_, ?_⟩
  · unfold M224
    rw [if_pos c13, if_pos c14, if_pos c15, if_pos c16, if_pos c17, if_pos c18, if_pos c19, if_pos c32, nN, nD]
  · show S.1 23 + 1 = _
    rw [d1, List.length_append]
    exact i_inc (by omega)
  · rw [List.length_append]
    exact h1
  · intro i nd hi
    by_cases e : i = nds.length
    · subst e
      rw [List.getElem?_append_right (Nat.le_refl _), Nat.sub_self] at hi
      cases hi
      simp [ndAt, m_sV, m_sA]
    · have hlt : i < nds.length := by
        have := (List.getElem?_eq_some_iff.mp hi).1
        rw [List.length_append] at this
        simp at this
        omega
      rw [List.getElem?_append_left hlt] at hi
      rw [← d3 i nd hi]
      simp [ndAt, m_sV, m_sA, e]
  · show S.1 33 + 1 = _
    rw [d4, List.length_append]
    exact i_inc (by omega)
  · rw [List.length_append]
    exact h2
  · intro i x hi
    show (if 32 = 32 ∧ i = ds.length then S.1 23 else S.2.1 32 i) = _
    by_cases e : i = ds.length
    · subst e
      rw [List.getElem?_append_right (Nat.le_refl _), Nat.sub_self] at hi
      cases hi
      rw [if_pos ⟨rfl, rfl⟩]
      exact d1
    · have hlt : i < ds.length := by
        have := (List.getElem?_eq_some_iff.mp hi).1
        rw [List.length_append] at this
        simp at this
        omega
      rw [List.getElem?_append_left hlt] at hi
      rw [if_neg (fun z => e z.2)]
      exact d6 i x hi
  · exact m_agr_sV (m_agr_sV (m_agr_sA (m_agr_sA (m_agr_sA (m_agr_sA (m_agr_sA (m_agr_sA (m_agr_sA (m_agr_sA m_agr_refl (by decide) _ _) (by decide) _ _) (by decide) _ _) (by decide) _ _) (by decide) _ _) (by decide) _ _) (by decide) _ _) (by decide) _ _) (by decide) _) (by decide) _
  · exact pf_sV (pf_sV (pf_sA (pf_sA (pf_sA (pf_sA (pf_sA (pf_sA (pf_sA (pf_sA pf_refl (by unfold pfA; omega) _) (by unfold pfA; omega) _) (by unfold pfA; omega) _) (by unfold pfA; omega) _) (by unfold pfA; omega) _) (by unfold pfA; omega) _) (by unfold pfA; omega) _) (by unfold pfA; omega) _) (by decide) _) (by decide) _
end NDS
