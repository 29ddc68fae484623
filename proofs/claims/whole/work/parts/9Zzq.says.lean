section SAQ
variable {N : Nat} {x1 : Int32} {sl : Nat} {sts : List St} {nds : List Nd} {fcs : List Int32} {H : mj_H}
def hdS (nds : List Nd) (fcs : List Int32) (t : St) : List Int32 := if t.1 = 0 then [Int32.ofNat (65 + t.2.1), 61] ++ prX nds fcs 45 t.2.2.2.1 ++ [59] else if t.1 = 1 then [33] ++ prX nds fcs 45 t.2.2.2.1 ++ [59] else if t.1 = 2 then [63] ++ prX nds fcs 45 t.2.2.2.1 ++ [123] else [42] ++ dgs t.2.1 ++ [123]
def sg4 (S S' : mS) : Prop := m_agr [2, 40, 56] [1, 39, 53, 55] [] S S'
theorem sg4_of {S S' : mS} (a : m_agr [2, 40] [1, 39] [] S S') : sg4 S S' := m_agr_mono a (by decide) (by decide) (by decide)
/-- a block is opened -/
theorem fr_push {S : mS} {FR : List (Nat × Nat)} {s : Nat} (h : frR S FR) (hl : FR.length ≤ 4) : frR (m_sV (m_sA (m_sA S 53 FR.length (Int32.ofNat s)) 55 FR.length 0) 56 (S.1 56 + 1)) ((s, 0) :: FR) := by
  obtain ⟨h1, h2, h3⟩ := h
  refine ⟨?_, by rw [List.length_cons]; omega, fun j b hj => ?_⟩
  · show S.1 56 + 1 = _
    rw [h1, List.length_cons]
    exact i_inc (by omega)
  · rw [List.reverse_cons] at hj
    by_cases ej : j = FR.length
    · rw [List.getElem?_append_right (by rw [List.length_reverse]; omega), List.length_reverse, ej, Nat.sub_self] at hj
      cases hj
      rw [ej]
      simp [m_sV, m_sA]
    · have hlt : j < FR.reverse.length := by
        have := (List.getElem?_eq_some_iff.mp hj).1
        rw [List.length_append] at this
        simp at this
        rw [List.length_reverse]
        omega
      rw [List.getElem?_append_left hlt] at hj
      have := h3 j b hj
      simpa [m_sV, m_sA, ej] using this
/-- a statement's head -/
theorem M248_do (hN : 2000 ≤ N) (hs : x1.toInt = sl) (hsl : sl < 3) (hn : nds.length ≤ 160) (hfc : fcs.length ≤ 160) (h24 : sts.length ≤ 24) {s : Nat} {t : St} (hst : sts[s]? = some t) (hx : t.1 ≠ 3 → ∃ A B lo a f, exT H A B nds fcs 45 lo t.2.2.2.1 a f) (hab : (t.1 = 0 → t.2.1 < 6) ∧ (t.1 = 3 → t.2.1 ≤ 20)) {S : mS} {tx : List Int32} {FR : List (Nat × Nat)} (h : sst S sl sts nds fcs tx FR) (hF : 2 ≤ t.1 → FR.length ≤ 4) (hl : tx.length + (hdS nds fcs t).length ≤ 160) : ∃ S', M248 N x1 (Int32.ofNat s) S = some S' ∧ sst S' sl sts nds fcs (tx ++ hdS nds fcs t) (if t.1 < 2 then FR else (s, 0) :: FR) ∧ sg4 S S' := by
  have hlt := (List.getElem?_eq_some_iff.mp hst).1
  have e := i_24 (i := Int32.ofNat s) hs (by omega) (i_nat (by omega)) (by omega)
  have tt : (24 * x1 + Int32.ofNat s).toInt.toNat = 24 * sl + s := by omega
  have c6 : 0 ≤ (24 * x1 + Int32.ofNat s).toInt ∧ (24 * x1 + Int32.ofNat s).toInt < mN 6 := by rw [show mN 6 = 96 from rfl]; omega
  have c7 : 0 ≤ (24 * x1 + Int32.ofNat s).toInt ∧ (24 * x1 + Int32.ofNat s).toInt < mN 7 := by rw [show mN 7 = 96 from rfl]; omega
  have v6 : ∀ S' : mS, m_agr [2, 40] [1, 39] [] S S' → S'.2.1 6 (24 * sl + s) = Int32.ofNat t.1 := fun S' a => by rw [a.2.1 6 (by decide)]; exact (h.2.1.2 s t hst).2.1
  have v7 : ∀ S' : mS, m_agr [2, 40] [1, 39] [] S S' → S'.2.1 7 (24 * sl + s) = Int32.ofNat t.2.1 := fun S' a => by rw [a.2.1 7 (by decide)]; exact (h.2.1.2 s t hst).2.2.1
  have v60 := v6 S m_agr_refl
  have v70 := v7 S m_agr_refl
  have k3 : t.1 ≤ 3 := (h.2.1.2 s t hst).1
  have nz : ∀ k : Nat, k ≤ 3 → mj_c1 .ne (Int32.ofNat k) = decide (k ≠ 0) := by
    intro k hk
    have : k = 0 ∨ k = 1 ∨ k = 2 ∨ k = 3 := by omega
    rcases this with rfl | rfl | rfl | rfl <;> rfl
  -- the end of a simple statement
  have fin59 : ∀ (S1 : mS) (ty : List Int32), t.1 < 2 → sst S1 sl sts nds fcs ty FR → m_agr [2, 40] [1, 39] [] S S1 → ty.length + 1 ≤ 160 → ∃ S', J248_103 N (Int32.ofNat s) (24 * x1 + Int32.ofNat s) S1 = some S' ∧ sst S' sl sts nds fcs (ty ++ [59]) FR ∧ sg4 S S' := by
    intro S1 ty ht2 h1 ag hl1
    obtain ⟨S2, a1, a2, a3⟩ := M206_do (N := N) (c := 59) h1.1 (by omega) (by decide)
    refine ⟨S2, ?_, sst_c h1 a2 (ag2 a3), sg4_of (m_agr_trans ag (ag2 a3))⟩
    have w := v6 S1 ag
    have hk : t.1 = 0 ∨ t.1 = 1 := by omega
    rcases hk with q | q
    · have b : mj_c1 .eq (Int32.ofNat t.1) = true := by rw [q]; decide
      simp only [J248_103, if_pos c6, tt, w, b, cond_true, J248_122, a1, J248_167, Option.bind_some]
    · have b : mj_c1 .eq (Int32.ofNat t.1) = false := by rw [q]; decide
      have b2 : mj_c2 .ne (Int32.ofNat t.1) 1 = false := by rw [q]; decide
      simp only [J248_103, if_pos c6, tt, w, b, b2, cond_false, J248_122, a1, J248_167, Option.bind_some]
  -- the end of one that opens braces
  have fin123 : ∀ (S1 : mS) (ty : List Int32), ¬ t.1 < 2 → sst S1 sl sts nds fcs ty FR → m_agr [2, 40] [1, 39] [] S S1 → ty.length + 1 ≤ 160 → ∃ S', J248_103 N (Int32.ofNat s) (24 * x1 + Int32.ofNat s) S1 = some S' ∧ sst S' sl sts nds fcs (ty ++ [123]) ((s, 0) :: FR) ∧ sg4 S S' := by
    intro S1 ty ht2 h1 ag hl1
    obtain ⟨S2, a1, a2, a3⟩ := M206_do (N := N) (c := 123) h1.1 (by omega) (by decide)
    have h2 := sst_c h1 a2 (ag2 a3)
    have hf4 := hF (by omega)
    have e56 : (S2.1 56).toInt = FR.length := by rw [h2.2.2.2.1]; exact i_nat (by omega)
    have c53 : 0 ≤ (S2.1 56).toInt ∧ (S2.1 56).toInt < mN 53 := by rw [show mN 53 = 8 from rfl]; omega
    have c55 : 0 ≤ (S2.1 56).toInt ∧ (S2.1 56).toInt < mN 55 := by rw [show mN 55 = 8 from rfl]; omega
    have t56 : (S2.1 56).toInt.toNat = FR.length := by omega
    have fp := fr_push (s := s) h2.2.2.2 hf4
    obtain ⟨S3, hS3⟩ : ∃ S3, m_sV (m_sA (m_sA S2 53 FR.length (Int32.ofNat s)) 55 FR.length 0) 56 (S2.1 56 + 1) = S3 := ⟨_, rfl⟩
    rw [hS3] at fp
    have ag3 : m_agr [56] [53, 55] [] S2 S3 := by rw [← hS3]; exact m_agr_sV (m_agr_sA (m_agr_sA m_agr_refl (by decide) _ _) (by decide) _ _) (by decide) _
    refine ⟨S3, ?_, ⟨txR_ag h2.1 ag3 (by decide), rows_ag h2.2.1 ag3 (by decide), nodes_ag h2.2.2.1 ag3 (by decide), fp⟩, m_agr_trans (sg4_of (m_agr_trans ag (ag2 a3))) (m_agr_mono ag3 (by decide) (by decide) (by decide))⟩
    have w := v6 S1 ag
    have b : mj_c1 .eq (Int32.ofNat t.1) = false := i_c1 (by show decide _ = false; apply decide_eq_false; rw [i_nat (by omega)]; omega)
    have b2 : mj_c2 .ne (Int32.ofNat t.1) 1 = true := i_c2 (by show decide _ = true; apply decide_eq_true; rw [i_nat (by omega), q_1]; omega)
    simp only [J248_103, if_pos c6, tt, w, b, b2, cond_false, cond_true, a1, if_pos c53, if_pos c55, t56, hS3, J248_167, Option.bind_some]
  -- the expression or the number
  have mid : ∀ (S1 : mS) (ty : List Int32), t.1 ≠ 3 → sst S1 sl sts nds fcs ty FR → m_agr [2, 40] [1, 39] [] S S1 → ty.length + (prX nds fcs 45 t.2.2.2.1).length ≤ 160 → ∃ S2, sst S2 sl sts nds fcs (ty ++ prX nds fcs 45 t.2.2.2.1) FR ∧ m_agr [2, 40] [1, 39] [] S S2 ∧ J248_74 N x1 (Int32.ofNat s) (24 * x1 + Int32.ofNat s) S1 = J248_103 N (Int32.ofNat s) (24 * x1 + Int32.ofNat s) S2 := by
    intro S1 ty hk h1 ag hl1
    obtain ⟨A, B, lo, a, f, hx'⟩ := hx hk
    obtain ⟨S2, a1, a2, a3⟩ := M250_do (N := N) hN hs hsl hn hfc h24 hx' h1 hst hk rfl hl1
    refine ⟨S2, a2, m_agr_trans ag a3, ?_⟩
    have w := v6 S1 ag
    have b : mj_c2 .ne (Int32.ofNat t.1) 3 = true := i_c2 (by show decide _ = true; apply decide_eq_true; rw [i_nat (by omega), q_3]; omega)
    simp only [J248_74, if_pos c6, tt, w, b, cond_true, a1, Option.bind_some]
  unfold hdS at hl ⊢
  by_cases h0 : t.1 = 0
  · rw [if_pos h0] at hl ⊢
    rw [if_pos (show t.1 < 2 by omega)]
    have h6 := hab.1 h0
    have hl2 : tx.length + (2 + ((prX nds fcs 45 t.2.2.2.1).length + 1)) ≤ 160 := by
      rw [List.length_append, List.length_append, List.length_singleton] at hl
      have : ([Int32.ofNat (65 + t.2.1), 61] : List Int32).length = 2 := rfl
      omega
    have e65 : 65 + Int32.ofNat t.2.1 = Int32.ofNat (65 + t.2.1) := by
      apply i_eq
      have q : (65 : Int32).toInt = 65 := rfl
      rw [i_add (by rw [q, i_nat (by omega)]; omega) (by rw [q, i_nat (by omega)]; omega), q, i_nat (by omega)]
      omega
    obtain ⟨S1, a1, a2, a3⟩ := M206_do (N := N) (c := Int32.ofNat (65 + t.2.1)) h.1 (by omega) (by rw [i_nat (by omega)]; omega)
    have h1 := sst_c h a2 (ag2 a3)
    obtain ⟨S2, b1, b2, b3⟩ := M206_do (N := N) (c := 61) h1.1 (by rw [List.length_append, List.length_singleton]; omega) (by decide)
    have h2 := sst_c h1 b2 (ag2 b3)
    obtain ⟨S3, d1, d2, d3⟩ := mid S2 _ (by omega) h2 (m_agr_trans (ag2 a3) (ag2 b3)) (by rw [List.length_append, List.length_append, List.length_singleton, List.length_singleton]; omega)
    obtain ⟨S4, f1, f2, f3⟩ := fin59 S3 _ (by omega) d1 d2 (by rw [List.length_append, List.length_append, List.length_append, List.length_singleton, List.length_singleton]; omega)
    refine ⟨S4, ?_, ?_, f3⟩
    · have b : mj_c1 .ne (Int32.ofNat t.1) = false := by rw [h0]; decide
      simp only [M248, if_pos c6, tt, v60, b, cond_false, if_pos c7, v70, e65, a1, b1, d3, f1, Option.bind_some]
    · have e' : tx ++ ([Int32.ofNat (65 + t.2.1), 61] ++ prX nds fcs 45 t.2.2.2.1 ++ [59]) = tx ++ [Int32.ofNat (65 + t.2.1)] ++ [61] ++ prX nds fcs 45 t.2.2.2.1 ++ [59] := by simp
      rw [e']
      exact f2
  · rw [if_neg h0] at hl ⊢
    have b0 : mj_c1 .ne (Int32.ofNat t.1) = true := by rw [nz t.1 k3]; exact decide_eq_true h0
    by_cases h1' : t.1 = 1
    · rw [if_pos h1'] at hl ⊢
      rw [if_pos (show t.1 < 2 by omega)]
      rw [List.length_append, List.length_append, List.length_singleton, List.length_singleton] at hl
      obtain ⟨S1, a1, a2, a3⟩ := M206_do (N := N) (c := 33) h.1 (by omega) (by decide)
      have h1 := sst_c h a2 (ag2 a3)
      obtain ⟨S3, d1, d2, d3⟩ := mid S1 _ (by omega) h1 (ag2 a3) (by rw [List.length_append, List.length_singleton]; omega)
      obtain ⟨S4, f1, f2, f3⟩ := fin59 S3 _ (by omega) d1 d2 (by rw [List.length_append, List.length_append, List.length_singleton]; omega)
      refine ⟨S4, ?_, ?_, f3⟩
      · have b : mj_c2 .ne (Int32.ofNat t.1) 1 = false := by rw [h1']; decide
        simp only [M248, if_pos c6, tt, v60, b0, cond_true, b, cond_false, J248_71, a1, d3, f1, Option.bind_some]
      · rw [← List.append_assoc, ← List.append_assoc]
        exact f2
    · rw [if_neg h1'] at hl ⊢
      rw [if_neg (show ¬ t.1 < 2 by omega)]
      have b1 : mj_c2 .ne (Int32.ofNat t.1) 1 = true := i_c2 (by show decide _ = true; apply decide_eq_true; rw [i_nat (by omega), q_1]; omega)
      by_cases h2' : t.1 = 2
      · rw [if_pos h2'] at hl ⊢
        rw [List.length_append, List.length_append, List.length_singleton, List.length_singleton] at hl
        obtain ⟨S1, a1, a2, a3⟩ := M206_do (N := N) (c := 63) h.1 (by omega) (by decide)
        have h1 := sst_c h a2 (ag2 a3)
        obtain ⟨S3, d1, d2, d3⟩ := mid S1 _ (by omega) h1 (ag2 a3) (by rw [List.length_append, List.length_singleton]; omega)
        obtain ⟨S4, f1, f2, f3⟩ := fin123 S3 _ (by omega) d1 d2 (by rw [List.length_append, List.length_append, List.length_singleton]; omega)
        refine ⟨S4, ?_, ?_, f3⟩
        · have b : mj_c2 .ne (Int32.ofNat t.1) 2 = false := by rw [h2']; decide
          simp only [M248, if_pos c6, tt, v60, b0, b1, cond_true, b, cond_false, J248_71, a1, d3, f1, Option.bind_some]
        · rw [← List.append_assoc, ← List.append_assoc]
          exact f2
      · rw [if_neg h2'] at hl ⊢
        have h3' : t.1 = 3 := by omega
        have h20 := hab.2 h3'
        rw [List.length_append, List.length_append, List.length_singleton, List.length_singleton] at hl
        obtain ⟨S1, a1, a2, a3⟩ := M206_do (N := N) (c := 42) h.1 (by omega) (by decide)
        have h1 := sst_c h a2 (ag2 a3)
        obtain ⟨S3, d1, d2, d3⟩ := M249_do (N := N) (n := t.2.1) h1.1 (by omega) (by rw [List.length_append, List.length_singleton]; omega)
        have ag3 := m_agr_trans (ag2 a3) (ag2 d3)
        obtain ⟨S4, f1, f2, f3⟩ := fin123 S3 _ (by omega) (sst_c h1 d2 (ag2 d3)) ag3 (by rw [List.length_append, List.length_append, List.length_singleton]; omega)
        refine ⟨S4, ?_, ?_, f3⟩
        · have b : mj_c2 .ne (Int32.ofNat t.1) 2 = true := by rw [h3']; decide
          have b3 : mj_c2 .ne (Int32.ofNat t.1) 3 = false := by rw [h3']; decide
          have w6 := v6 S1 (ag2 a3)
          have w7 := v7 S1 (ag2 a3)
          simp only [M248, if_pos c6, tt, v60, b0, b1, cond_true, b, J248_71, a1, J248_74, w6, b3, cond_false, if_pos c7, w7, d1, f1, Option.bind_some]
        · rw [← List.append_assoc, ← List.append_assoc]
          exact f2
end SAQ
