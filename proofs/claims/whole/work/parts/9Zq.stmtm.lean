/-! STATEMENTS, THE REFERENCE -/
/-- what the reading of a program leaves as it was -/
def pgA (j i : Nat) : Prop := pfA j i ∧ j ≠ 34 ∧ j ≠ 35 ∧ ¬ (j = 5 ∧ i = 3) ∧ ¬ (6 ≤ j ∧ j ≤ 11 ∧ 72 ≤ i)
def pgV : List Nat := [22, 23, 24, 25, 26, 29, 30, 31, 33, 36]
def pg (S S' : mS) : Prop := (∀ j, j ∉ pgV → S'.1 j = S.1 j) ∧ (∀ j i, pgA j i → S'.2.1 j i = S.2.1 j i) ∧ ∀ j i, ¬ (j = 12 ∧ 72 ≤ i) → S'.2.2 j i = S.2.2 j i
theorem pg_refl {S : mS} : pg S S := ⟨fun _ _ => rfl, fun _ _ _ => rfl, fun _ _ _ => rfl⟩
theorem pg_trans {S S1 S2 : mS} (x : pg S S1) (y : pg S1 S2) : pg S S2 := ⟨fun j h => (y.1 j h).trans (x.1 j h), fun j i h => (y.2.1 j i h).trans (x.2.1 j i h), fun j i h => (y.2.2 j i h).trans (x.2.2 j i h)⟩
theorem pg_sV {S S' : mS} (x : pg S S') {j : Nat} (hj : j ∈ pgV) (v : Int32) : pg S (m_sV S' j v) := ⟨fun q hq => (if_neg (fun (z : q = j) => hq (by rw [z]; exact hj))).trans (x.1 q hq), x.2.1, x.2.2⟩
theorem pg_sA {S S' : mS} (x : pg S S') {j i : Nat} (hj : ¬ pgA j i) (v : Int32) : pg S (m_sA S' j i v) := ⟨x.1, fun q p hq => (if_neg (fun (z : q = j ∧ p = i) => hj (by rw [← z.1, ← z.2]; exact hq))).trans (x.2.1 q p hq), x.2.2⟩
theorem pg_sB {S S' : mS} (x : pg S S') {i : Nat} (hi : 72 ≤ i) (v : Int64) : pg S (m_sB S' 12 i v) := ⟨x.1, x.2.1, fun q p hq => (if_neg (fun (z : q = 12 ∧ p = i) => hq ⟨z.1, by omega⟩)).trans (x.2.2 q p hq)⟩
theorem pg_pf {S S' : mS} (h : pf S S') : pg S S' := ⟨fun j hj => h.1 j (fun q => hj (by
    have : ∀ j ∈ pfV, j ∈ pgV := by decide
    exact this j q)), fun j i hj => h.2.1 j i hj.1, fun j i _ => by rw [h.2.2 j]⟩
/-- the same, but for the place that is wrong -/
def pgx (S S' : mS) : Prop := (∀ j, j ∉ 3 :: pgV → S'.1 j = S.1 j) ∧ (∀ j i, pgA j i → S'.2.1 j i = S.2.1 j i) ∧ ∀ j i, ¬ (j = 12 ∧ 72 ≤ i) → S'.2.2 j i = S.2.2 j i
theorem pgx_of {S S' : mS} (h : pg S S') : pgx S S' := ⟨fun j hj => h.1 j (fun q => hj (List.mem_cons_of_mem _ q)), h.2⟩
theorem pgx_trans {S S1 S2 : mS} (x : pg S S1) (y : pgx S1 S2) : pgx S S2 := ⟨fun j h => (y.1 j h).trans (x.1 j (fun q => h (List.mem_cons_of_mem _ q))), fun j i h => (y.2.1 j i h).trans (x.2.1 j i h), fun j i h => (y.2.2 j i h).trans (x.2.2 j i h)⟩
theorem pgx_3 {S S' : mS} (x : pg S S') (v : Int32) : pgx S (m_sV S' 3 v) := ⟨fun q hq => (if_neg (fun (z : q = 3) => hq (by rw [z]; exact List.mem_cons_self))).trans (x.1 q (fun z => hq (List.mem_cons_of_mem _ z))), x.2⟩
theorem pgx_pf {S S' : mS} (h : pfx S S') : pgx S S' := ⟨fun j hj => h.1 j (fun q => hj (by
    have : ∀ j ∈ 3 :: pfV, j ∈ 3 :: pgV := by decide
    exact this j q)), fun j i hj => h.2.1 j i hj.1, fun j i _ => by rw [h.2.2 j]⟩
/-- the draft's nodes -/
def drN (S : mS) (nds : List Nd) : Prop := S.1 23 = Int32.ofNat nds.length ∧ nds.length ≤ 160 ∧ ∀ (i : Nat) (nd : Nd), nds[i]? = some nd → ndAt S (480 + i) = nd
/-- the draft's statements -/
def drS (S : mS) (sts : List St) : Prop := S.2.1 5 3 = Int32.ofNat sts.length ∧ sts.length ≤ 24 ∧ ∀ (i : Nat) (t : St), sts[i]? = some t → t.1 ≤ 3 ∧ S.2.1 6 (72 + i) = Int32.ofNat t.1 ∧ S.2.1 7 (72 + i) = Int32.ofNat t.2.1 ∧ (t.1 ≠ 3 → S.2.1 8 (72 + i) = Int32.ofNat t.2.2.1 ∧ S.2.1 9 (72 + i) = Int32.ofNat t.2.2.2.1) ∧ (t.1 = 2 → S.2.1 10 (72 + i) = Int32.ofNat t.2.2.2.2.1) ∧ S.2.1 11 (72 + i) = Int32.ofNat t.2.2.2.2.2.1
/-- the blocks that are open, the last one first: whose, and which of the two -/
def skB (S : mS) (B : List (Nat × Nat)) : Prop := S.1 36 = Int32.ofNat B.length ∧ B.length ≤ 4 ∧ ∀ (j : Nat) (b : Nat × Nat), B.reverse[j]? = some b → S.2.1 34 j = Int32.ofNat b.1 ∧ S.2.1 35 j = Int32.ofNat b.2
def rq (tx : List Int32) (S : mS) (s : Rs) (B : List (Nat × Nat)) : Prop := mst S tx s.2.1 ∧ S.1 24 = Int32.ofNat s.2.2.1 ∧ drN S s.2.2.2.1 ∧ fcR S s.2.2.2.2 ∧ drS S s.1 ∧ skB S B ∧ s.2.2.2.1.length ≤ s.2.1 ∧ s.2.2.2.2.length ≤ s.2.1 ∧ s.2.2.1 ≤ 40
section MST
variable {N : Nat} {tx : List Int32}
theorem drN_of {S : mS} {nds : List Nd} {ds : List Nat} (h : dr S nds ds) : drN S nds := ⟨h.1, h.2.1, h.2.2.1⟩
theorem i_72 {i : Nat} (h : i ≤ 24) : (72 + Int32.ofNat i).toInt = 72 + i := by
  have e : (72 : Int32).toInt = 72 := rfl
  rw [i_add (by rw [e, i_nat (by omega)]; omega) (by rw [e, i_nat (by omega)]; omega), e, i_nat (by omega)]
/-- an expression -/
theorem M220_do (hN : 2000 ≤ N) {S : mS} {r : Rd} {i : Nat} (hi : i < 24) (hm : mst S tx r.1) (h24 : S.1 24 = Int32.ofNat r.2.1) (hn : drN S r.2.2.1) (hf : fcR S r.2.2.2) (b1 : r.2.2.1.length ≤ r.1) (b2 : r.2.2.2.length ≤ r.1) (b3 : r.2.1 ≤ 40) {n : Nat} (hmu : 29 < n) : (∀ w, rX tx n 0 0 r = .inl w → ∃ S', M220 N (Int32.ofNat i) S = some (0, S') ∧ S'.1 3 = Int32.ofNat w ∧ pgx S S') ∧ (∀ q, rX tx n 0 0 r = .inr q → ∃ S', M220 N (Int32.ofNat i) S = some (1, S') ∧ mst S' tx q.1 ∧ S'.1 24 = Int32.ofNat q.2.1 ∧ drN S' q.2.2.1 ∧ fcR S' q.2.2.2 ∧ S'.2.1 8 (72 + i) = Int32.ofNat r.2.2.1.length ∧ S'.2.1 9 (72 + i) = Int32.ofNat (q.2.2.1.length - 1) ∧ q.2.2.1.length ≤ q.1 ∧ q.2.2.2.length ≤ q.1 ∧ q.2.1 ≤ 40 ∧ pg S S' ∧ S'.1 36 = S.1 36 ∧ ∀ j k, pfA j k → ¬ ((j = 8 ∨ j = 9) ∧ k = 72 + i) → S'.2.1 j k = S.2.1 j k) := by
  have hl := hm.1.2.1
  have e72 := i_72 (i := i) (by omega)
  have c8 : 0 ≤ (72 + Int32.ofNat i).toInt ∧ (72 + Int32.ofNat i).toInt < mN 8 := by rw [show mN 8 = 96 from rfl]; omega
  have c9 : 0 ≤ (72 + Int32.ofNat i).toInt ∧ (72 + Int32.ofNat i).toInt < mN 9 := by rw [show mN 9 = 96 from rfl]; omega
  have et : (72 + Int32.ofNat i).toInt.toNat = 72 + i := by omega
  obtain ⟨S0, hS0⟩ : ∃ S0, m_sA (m_sV (m_sV (m_sV (m_sV S 29 0) 30 0) 31 0) 33 0) 8 (72 + Int32.ofNat i).toInt.toNat (S.1 23) = S0 := ⟨_, rfl⟩
  have ag : m_agr [29, 30, 31, 33] [8] [] S S0 := by rw [← hS0]; exact m_agr_sA (m_agr_sV (m_agr_sV (m_agr_sV (m_agr_sV m_agr_refl (by decide) _) (by decide) _) (by decide) _) (by decide) _) (by decide) _ _
  have p0 : pg S S0 := by rw [← hS0, et]; exact pg_sA (pg_sV (pg_sV (pg_sV (pg_sV pg_refl (by decide) _) (by decide) _) (by decide) _) (by decide) _) (by unfold pgA; omega) _
  have d0 : dr S0 r.2.2.1 [] := by
    refine ⟨by rw [ag.1 23 (by decide)]; exact hn.1, hn.2.1, ?_, by rw [← hS0]; rfl, by decide, fun i d h => (by cases h)⟩
    unfold ndAt
    rw [ag.2.1 13 (by decide), ag.2.1 14 (by decide), ag.2.1 15 (by decide), ag.2.1 16 (by decide), ag.2.1 17 (by decide), ag.2.1 18 (by decide), ag.2.1 19 (by decide)]
    exact hn.2.2
  have s0 : skR S0 ([] : Ks).reverse 0 0 := ⟨by rw [← hS0]; rfl, by decide, fun i k h => (by cases h), by rw [← hS0]; rfl, by decide, by rw [← hS0]; rfl, Or.inl rfl⟩
  have f0 : rf tx S0 r [] [] 0 0 := ⟨mst_ag hm ag (by decide), by rw [ag.1 24 (by decide)]; exact h24, d0, fc_ag hf ag (by decide), s0, by rw [List.length_nil]; omega, b2, b3, by rw [List.length_nil]; omega⟩
  obtain ⟨e1, e2⟩ := (RX_do (x1 := Int32.ofNat i) (tx := tx) hN n).2 0 (by decide) 0 r [] [] 0 S0 (by unfold xmu; omega) (fun k hk => by cases hk) (fun _ => rfl) f0
  constructor
  · intro w hw
    obtain ⟨S', a1, a2, a3⟩ := e1 w hw
    rw [← hS0] at a1
    exact ⟨S', M220_of hN c8 a1, a2, pgx_trans p0 (pgx_pf a3)⟩
  · intro q hq
    obtain ⟨S1, sn1, a1, a2, a3, a4, a5⟩ := e2 q hq
    have hq1 := (pend_st a1).1.2.2
    obtain ⟨S2, g1, g2, g3, g4, g5⟩ := fin_do hN a1 a3
    have g6 := a5 _ (RS_end (x1 := Int32.ofNat i) (by omega) g1 g3 c9)
    rw [← hS0] at g6
    have g7 := M220_of hN c8 g6
    rw [et] at g7
    have f02 : pf S0 S2 := pf_trans a4 g4
    obtain ⟨k1, k2, k3, k4, k5, k6, k7, k8, k9⟩ := g2
    rw [List.length_nil] at k6
    have e23 : S2.1 23 - 1 = Int32.ofNat (q.2.2.1.length - 1) := i_eq (by rw [k3.1, i_sub (by rw [q_1, i_nat (by omega)]; omega) (by rw [q_1, i_nat (by omega)]; omega), q_1, i_nat (by omega)]; omega)
    rw [e23] at g7
    obtain ⟨S3, hS3⟩ : ∃ S3, m_sA S2 9 (72 + i) (Int32.ofNat (q.2.2.1.length - 1)) = S3 := ⟨_, rfl⟩
    rw [hS3] at g7
    have ag3 : m_agr [] [9] [] S2 S3 := by rw [← hS3]; exact m_agr_sA m_agr_refl (by decide) _ _
    refine ⟨S3, g7, mst_ag k1 ag3 (by decide), by rw [ag3.1 24 (by decide)]; exact k2, drN_of (dr_ag k3 ag3 (by decide)), fc_ag k4 ag3 (by decide), ?_, ?_, by omega, k7, k8, ?_, ?_, ?_⟩
    · rw [ag3.2.1 8 (by decide), f02.2.1 8 (72 + i) (by unfold pfA; omega), ← hS0, et]
      show (if 8 = 8 ∧ 72 + i = 72 + i then S.1 23 else _) = _
      rw [if_pos ⟨rfl, rfl⟩]
      exact hn.1
    · rw [← hS3]
      show (if 9 = 9 ∧ 72 + i = 72 + i then _ else _) = _
      rw [if_pos ⟨rfl, rfl⟩]
    · have : pg S S2 := pg_trans p0 (pg_pf f02)
      rw [← hS3]
      exact pg_sA this (by unfold pgA; omega) _
    · rw [ag3.1 36 (by decide), f02.1 36 (by decide), ag.1 36 (by decide)]
    · intro j k hj hjk
      have h1 : S3.2.1 j k = S2.2.1 j k := by
        rw [← hS3]
        exact if_neg (fun z => hjk ⟨Or.inr z.1, z.2⟩)
      have h2 : S0.2.1 j k = S.2.1 j k := by
        rw [← hS0, et]
        exact if_neg (fun z => hjk ⟨Or.inl z.1, z.2⟩)
      rw [h1, f02.2.1 j k hj, h2]
/-- a block is entered -/
theorem M218_do {S : mS} {s : Rs} {B : List (Nat × Nat)} {i sec : Nat} (h : rq tx S s B) (hsec : sec ≤ 1) : (pk tx s.2.1 = 123 ∧ B.length < 4 → ∃ S', M218 N (Int32.ofNat i) (Int32.ofNat sec) S = some (1, S') ∧ rq tx S' (s.1, s.2.1 + 1, s.2.2) ((i, sec) :: B) ∧ pg S S') ∧ (¬ (pk tx s.2.1 = 123 ∧ B.length < 4) → ∃ S', M218 N (Int32.ofNat i) (Int32.ofNat sec) S = some (0, S') ∧ S'.1 3 = Int32.ofNat s.2.1 ∧ pgx S S') := by
  obtain ⟨h1, h2, h3, h4, h5, h6, h7, h8, h9⟩ := h
  have hl := h1.1.2.1
  have r2 := M212_do (N := N) h1
  obtain ⟨b1, b2, b3⟩ := id h6
  have e36 : (S.1 36).toInt = B.length := by rw [b1]; exact i_nat (by omega)
  have q4 : (4 : Int32).toInt = 4 := rfl
  have no : J218_17 N S = some (0, m_sV S 3 (S.1 22)) := by
    simp only [J218_17, M213, Option.bind_some]
    rfl
  constructor
  · rintro ⟨hc, hB⟩
    have hlt := pkz_is hc (by decide)
    have c1 : mj_c2 .ne (pk tx s.2.1) 123 = false := decide_eq_false (fun q => q hc)
    have c2 : mj_c2 .ne (S.1 36) 4 = true := i_c2 (by show decide _ = true; apply decide_eq_true; rw [e36, q4]; omega)
    have c34 : 0 ≤ (S.1 36).toInt ∧ (S.1 36).toInt < mN 34 := by rw [show mN 34 = 5 from rfl]; omega
    have c35 : 0 ≤ (S.1 36).toInt ∧ (S.1 36).toInt < mN 35 := by rw [show mN 35 = 5 from rfl]; omega
    have et : (S.1 36).toInt.toNat = B.length := by omega
    have c01 : Int32.ofNat sec = 0 ∨ Int32.ofNat sec = 1 := by
      have : sec = 0 ∨ sec = 1 := by omega
      rcases this with rfl | rfl
      · exact Or.inl rfl
      · exact Or.inr rfl
    have ei : S.1 36 + 1 = Int32.ofNat (B.length + 1) := by rw [b1]; exact i_inc (by omega)
    obtain ⟨S', hS'⟩ : ∃ S', m_sV (m_sA (m_sA (m_sV S 22 (S.1 22 + 1)) 34 B.length (Int32.ofNat i)) 35 B.length (Int32.ofNat sec)) 36 (S.1 36 + 1) = S' := ⟨_, rfl⟩
    have ag : m_agr [22, 36] [34, 35] [] S S' := by rw [← hS']; exact m_agr_sV (m_agr_sA (m_agr_sA (m_agr_sV m_agr_refl (by decide) _) (by decide) _ _) (by decide) _ _) (by decide) _
    have m' : mst S' tx (s.2.1 + 1) := by
      have := mst_inc h1 hlt
      refine ⟨txR_ag h1.1 ag (by decide), ?_, this.2.2⟩
      rw [← hS']
      exact this.2.1
    refine ⟨S', ?_, ⟨m', by rw [ag.1 24 (by decide)]; exact h2, ?_, fc_ag h4 ag (by decide), ?_, ⟨?_, ?_, ?_⟩, ?_, ?_, h9⟩, ?_⟩
    · simp only [M218, r2, c1, c2, cond_false, cond_true, if_pos c34, if_pos c35, if_pos c01, et, hS', Option.bind_some]
    · unfold drN ndAt
      rw [ag.1 23 (by decide), ag.2.1 13 (by decide), ag.2.1 14 (by decide), ag.2.1 15 (by decide), ag.2.1 16 (by decide), ag.2.1 17 (by decide), ag.2.1 18 (by decide), ag.2.1 19 (by decide)]
      exact h3
    · unfold drS
      rw [ag.2.1 5 (by decide), ag.2.1 6 (by decide), ag.2.1 7 (by decide), ag.2.1 8 (by decide), ag.2.1 9 (by decide), ag.2.1 10 (by decide), ag.2.1 11 (by decide)]
      exact h5
    · rw [← hS', List.length_cons]
      exact ei
    · rw [List.length_cons]
      omega
    · intro j b hj
      rw [List.reverse_cons] at hj
      by_cases ej : j = B.length
      · rw [List.getElem?_append_right (by rw [List.length_reverse]; omega), List.length_reverse, ej, Nat.sub_self] at hj
        cases hj
        rw [← hS']
        simp [m_sV, m_sA, ej]
      · have hlt2 : j < B.reverse.length := by
          have := (List.getElem?_eq_some_iff.mp hj).1
          rw [List.length_append] at this
          simp at this
          rw [List.length_reverse]
          omega
        rw [List.getElem?_append_left hlt2] at hj
        have := b3 j b hj
        rw [← hS']
        simpa [m_sV, m_sA, ej] using this
    · dsimp only
      omega
    · dsimp only
      omega
    · rw [← hS']
      exact pg_sV (pg_sA (pg_sA (pg_sV pg_refl (by decide) _) (by unfold pgA; omega) _) (by unfold pgA; omega) _) (by decide) _
  · intro hc
    refine ⟨m_sV S 3 (S.1 22), ?_, h1.2.1, pgx_3 pg_refl _⟩
    by_cases h123 : pk tx s.2.1 = 123
    · have hB : ¬ B.length < 4 := fun q => hc ⟨h123, q⟩
      have c1 : mj_c2 .ne (pk tx s.2.1) 123 = false := decide_eq_false (fun q => q h123)
      have c2 : mj_c2 .ne (S.1 36) 4 = false := i_c2 (by show decide _ = false; apply decide_eq_false; rw [e36, q4]; omega)
      simp only [M218, r2, c1, c2, cond_false, Option.bind_some]
      exact no
    · have c1 : mj_c2 .ne (pk tx s.2.1) 123 = true := decide_eq_true h123
      simp only [M218, r2, c1, cond_true, Option.bind_some]
      exact no
end MST
