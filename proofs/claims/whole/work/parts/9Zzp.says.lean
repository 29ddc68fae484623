/-! PRINTED PROGRAMS, THE REFERENCE -/
/-- the statements' rows of a slot -/
def rowsR (S : mS) (sl : Nat) (sts : List St) : Prop := S.2.1 5 sl = Int32.ofNat sts.length ∧ ∀ (i : Nat) (t : St), sts[i]? = some t → t.1 ≤ 3 ∧ S.2.1 6 (24 * sl + i) = Int32.ofNat t.1 ∧ S.2.1 7 (24 * sl + i) = Int32.ofNat t.2.1 ∧ (t.1 ≠ 3 → S.2.1 8 (24 * sl + i) = Int32.ofNat t.2.2.1 ∧ S.2.1 9 (24 * sl + i) = Int32.ofNat t.2.2.2.1) ∧ (t.1 = 2 → S.2.1 10 (24 * sl + i) = Int32.ofNat t.2.2.2.2.1) ∧ S.2.1 11 (24 * sl + i) = Int32.ofNat t.2.2.2.2.2.1
/-- the blocks that are open, the last one first: whose, and which of the two -/
def frR (S : mS) (FR : List (Nat × Nat)) : Prop := S.1 56 = Int32.ofNat FR.length ∧ FR.length ≤ 5 ∧ ∀ (j : Nat) (b : Nat × Nat), FR.reverse[j]? = some b → S.2.1 53 j = Int32.ofNat b.1 ∧ S.2.1 55 j = Int32.ofNat b.2
section SAP
variable {N : Nat} {x1 : Int32} {sl : Nat} {sts : List St} {nds : List Nd} {fcs : List Int32} {H : mj_H}
/-- all of a printing's state -/
def sst (S : mS) (sl : Nat) (sts : List St) (nds : List Nd) (fcs : List Int32) (tx : List Int32) (FR : List (Nat × Nat)) : Prop := txR tx S ∧ rowsR S sl sts ∧ nodesR S sl nds fcs ∧ frR S FR
theorem rows_ag {S S' : mS} {F A B : List Nat} (h : rowsR S sl sts) (a : m_agr F A B S S') (c : 5 ∉ A ∧ 6 ∉ A ∧ 7 ∉ A ∧ 8 ∉ A ∧ 9 ∉ A ∧ 10 ∉ A ∧ 11 ∉ A) : rowsR S' sl sts := by
  obtain ⟨c1, c2, c3, c4, c5, c6, c7⟩ := c
  unfold rowsR
  rw [a.2.1 5 c1, a.2.1 6 c2, a.2.1 7 c3, a.2.1 8 c4, a.2.1 9 c5, a.2.1 10 c6, a.2.1 11 c7]
  exact h
theorem fr_ag {S S' : mS} {FR : List (Nat × Nat)} {F A B : List Nat} (h : frR S FR) (a : m_agr F A B S S') (c : 56 ∉ F ∧ 53 ∉ A ∧ 55 ∉ A) : frR S' FR := by
  unfold frR
  rw [a.1 56 c.1, a.2.1 53 c.2.1, a.2.1 55 c.2.2]
  exact h
theorem sst_c {S S' : mS} {tx w : List Int32} {FR : List (Nat × Nat)} (h : sst S sl sts nds fcs tx FR) (ht : txR (tx ++ w) S') (a : m_agr [2, 40] [1, 39] [] S S') : sst S' sl sts nds fcs (tx ++ w) FR := ⟨ht, rows_ag h.2.1 a (by decide), nodes_ag h.2.2.1 a (by decide), fr_ag h.2.2.2 a (by decide)⟩
theorem ag2 {S S' : mS} (a : m_agr [2] [1] [] S S') : m_agr [2, 40] [1, 39] [] S S' := m_agr_mono a (by decide) (by decide) (by decide)
/-- an expression -/
theorem M250_do (hN : 2000 ≤ N) (hs : x1.toInt = sl) (hsl : sl < 3) (hn : nds.length ≤ 160) (hfc : fcs.length ≤ 160) (h24 : sts.length ≤ 24) {A B lo i a f s : Nat} {t : St} (hx : exT H A B nds fcs 45 lo i a f) {S : mS} {tx : List Int32} {FR : List (Nat × Nat)} (h : sst S sl sts nds fcs tx FR) (hst : sts[s]? = some t) (hk : t.1 ≠ 3) (hi : t.2.2.2.1 = i) (hl : tx.length + (prX nds fcs 45 i).length ≤ 160) : ∃ S', M250 N x1 (Int32.ofNat s) S = some S' ∧ sst S' sl sts nds fcs (tx ++ prX nds fcs 45 i) FR ∧ m_agr [2, 40] [1, 39] [] S S' := by
  have hlt := (List.getElem?_eq_some_iff.mp hst).1
  have e := i_24 (i := Int32.ofNat s) hs (by omega) (i_nat (by omega)) (by omega)
  have tt : (24 * x1 + Int32.ofNat s).toInt.toNat = 24 * sl + s := by omega
  have c9 : 0 ≤ (24 * x1 + Int32.ofNat s).toInt ∧ (24 * x1 + Int32.ofNat s).toInt < mN 9 := by rw [show mN 9 = 96 from rfl]; omega
  have v9 : S.2.1 9 (24 * sl + s) = Int32.ofNat i := by
    rw [← hi]
    exact ((h.2.1.2 s t hst).2.2.2.1 hk).2
  have fal := exT_fal _ _ _ _ _ hx
  have ag0 : m_agr [40] [] [] S (m_sV S 40 0) := m_agr_sV m_agr_refl (by decide) _
  have tk0 : tkR (m_sV S 40 0) [] := ⟨rfl, by decide, fun i x h => (by cases h)⟩
  obtain ⟨S1, a1, a2, a3⟩ := M251_do (N := N) (x := Int32.ofNat i) tk0 (by decide)
  have ag1 := m_agr_trans (m_agr_mono ag0 (F' := [40]) (A' := [39]) (B' := []) (by decide) (by decide) (by decide)) a3
  obtain ⟨S2, b1, b2, b3, b4⟩ := SX_do (N := N) (x1 := x1) hN hs hsl hn hfc 45 lo i a f hx S1 tx [] (txR_ag h.1 ag1 (by decide)) (nodes_ag h.2.2.1 ag1 (by decide)) a2 (by decide) hl
  have ag2 : m_agr [2, 40] [1, 39] [] S S2 := m_agr_trans (m_agr_mono ag1 (by decide) (by decide) (by decide)) b3
  refine ⟨S2, ?_, sst_c h b1 ag2, ag2⟩
  have fin : t_lp (B250_20 N) 1 (x1, S2) = some S2 := by
    refine t_end ?_ 0
    have c : mj_c1 .le (S2.1 40) = true := by rw [b2.1]; decide
    simp only [B250_20, c, cond_true]
  have main := b4 1 _ fin
  have main2 : L250_20 N (x1, S1) = some S2 := t_lp_more _ _ _ (by omega) main
  unfold M250
  rw [if_pos c9, tt, v9, a1]
  exact main2
end SAP
