/-! FRAMES OF THE REFERENCE'S RUN: whose, which set, how often still; the last one first -/
def frL (S : mS) (FR : List (Nat × Nat × Nat)) : Prop := S.1 56 = Int32.ofNat FR.length ∧ FR.length ≤ 4 ∧ ∀ (j : Nat) (b : Nat × Nat × Nat), FR.reverse[j]? = some b → S.2.1 53 j = Int32.ofNat b.1 ∧ S.2.1 54 j = Int32.ofNat b.2.1 ∧ S.2.1 55 j = Int32.ofNat b.2.2
theorem frL_ag {S S' : mS} {FR : List (Nat × Nat × Nat)} (h : frL S FR) {F A B : List Nat} (a : m_agr F A B S S') (c : 56 ∉ F ∧ 53 ∉ A ∧ 54 ∉ A ∧ 55 ∉ A) : frL S' FR := by
  unfold frL
  rw [a.1 56 c.1, a.2.1 53 c.2.1, a.2.1 54 c.2.2.1, a.2.1 55 c.2.2.2]
  exact h
theorem fr_last {b : Nat × Nat × Nat} {FR : List (Nat × Nat × Nat)} : (b :: FR).reverse[FR.length]? = some b := by
  rw [List.reverse_cons, List.getElem?_append_right (by rw [List.length_reverse]; omega), List.length_reverse, Nat.sub_self]
  rfl
theorem fr_low {b : Nat × Nat × Nat} {FR : List (Nat × Nat × Nat)} {j : Nat} {c : Nat × Nat × Nat} (h : FR.reverse[j]? = some c) : (b :: FR).reverse[j]? = some c ∧ j < FR.length := by
  have hj := (List.getElem?_eq_some_iff.mp h).1
  rw [List.length_reverse] at hj
  refine ⟨?_, hj⟩
  rw [List.reverse_cons, List.getElem?_append_left (by rw [List.length_reverse]; omega)]
  exact h
theorem fr_inv {b : Nat × Nat × Nat} {FR : List (Nat × Nat × Nat)} {j : Nat} {c : Nat × Nat × Nat} (h : (b :: FR).reverse[j]? = some c) : (j = FR.length ∧ c = b) ∨ (j < FR.length ∧ FR.reverse[j]? = some c) := by
  have hj := (List.getElem?_eq_some_iff.mp h).1
  rw [List.length_reverse, List.length_cons] at hj
  by_cases e : j = FR.length
  · rw [e, fr_last] at h
    exact Or.inl ⟨e, (Option.some.inj h).symm⟩
  · rw [List.reverse_cons, List.getElem?_append_left (by rw [List.length_reverse]; omega)] at h
    exact Or.inr ⟨by omega, h⟩
section FRM
variable {N : Nat} {S : mS} {FR : List (Nat × Nat × Nat)}
/-- the last frame -/
theorem frL_top {b : Nat × Nat × Nat} (h : frL S (b :: FR)) : S.1 56 = Int32.ofNat (FR.length + 1) ∧ S.1 56 - 1 = Int32.ofNat FR.length ∧ S.2.1 53 FR.length = Int32.ofNat b.1 ∧ S.2.1 54 FR.length = Int32.ofNat b.2.1 ∧ S.2.1 55 FR.length = Int32.ofNat b.2.2 ∧ FR.length ≤ 3 := by
  obtain ⟨h1, h2, h3⟩ := h
  rw [List.length_cons] at h1 h2
  have := h3 _ _ fr_last
  refine ⟨h1, ?_, this.1, this.2.1, this.2.2, by omega⟩
  rw [h1, show (1 : Int32) = Int32.ofNat 1 from rfl, n_sub (by omega) (by omega), Nat.add_sub_cancel]
theorem frL_pop {b : Nat × Nat × Nat} (h : frL S (b :: FR)) : frL (m_sV S 56 (Int32.ofNat FR.length)) FR := by
  obtain ⟨h1, h2, h3⟩ := h
  rw [List.length_cons] at h2
  exact ⟨rfl, by omega, fun j c hj => h3 j c (fr_low hj).1⟩
theorem frL_left {b : Nat × Nat × Nat} {l : Nat} (h : frL S (b :: FR)) : frL (m_sA S 55 FR.length (Int32.ofNat l)) ((b.1, b.2.1, l) :: FR) := by
  obtain ⟨h1, h2, h3⟩ := h
  refine ⟨h1, h2, fun j c hj => ?_⟩
  rcases fr_inv hj with ⟨e1, e2⟩ | ⟨e1, e2⟩
  · have := h3 _ _ fr_last
    rw [e1, e2]
    refine ⟨?_, ?_, ?_⟩
    · show (if 53 = 55 ∧ FR.length = FR.length then Int32.ofNat l else S.2.1 53 FR.length) = _
      rw [if_neg (fun q => absurd q.1 (by decide))]; exact this.1
    · show (if 54 = 55 ∧ FR.length = FR.length then Int32.ofNat l else S.2.1 54 FR.length) = _
      rw [if_neg (fun q => absurd q.1 (by decide))]; exact this.2.1
    · show (if 55 = 55 ∧ FR.length = FR.length then Int32.ofNat l else S.2.1 55 FR.length) = _
      rw [if_pos ⟨rfl, rfl⟩]
  · have := h3 j c (fr_low e2).1
    refine ⟨?_, ?_, ?_⟩
    · show (if 53 = 55 ∧ j = FR.length then Int32.ofNat l else S.2.1 53 j) = _
      rw [if_neg (fun q => absurd q.1 (by decide))]; exact this.1
    · show (if 54 = 55 ∧ j = FR.length then Int32.ofNat l else S.2.1 54 j) = _
      rw [if_neg (fun q => absurd q.1 (by decide))]; exact this.2.1
    · show (if 55 = 55 ∧ j = FR.length then Int32.ofNat l else S.2.1 55 j) = _
      rw [if_neg (by omega)]; exact this.2.2
/-- any change of how often the last one still is done, and it is taken away -/
theorem frL_popl {b : Nat × Nat × Nat} {v : Int32} (h : frL S (b :: FR)) : frL (m_sV (m_sA S 55 FR.length v) 56 (Int32.ofNat FR.length)) FR := by
  obtain ⟨h1, h2, h3⟩ := h
  rw [List.length_cons] at h2
  refine ⟨rfl, by omega, fun j c hj => ?_⟩
  obtain ⟨l1, l2⟩ := fr_low (b := b) hj
  have := h3 j c l1
  refine ⟨?_, ?_, ?_⟩
  · show (if 53 = 55 ∧ j = FR.length then v else S.2.1 53 j) = _
    rw [if_neg (fun q => absurd q.1 (by decide))]; exact this.1
  · show (if 54 = 55 ∧ j = FR.length then v else S.2.1 54 j) = _
    rw [if_neg (fun q => absurd q.1 (by decide))]; exact this.2.1
  · show (if 55 = 55 ∧ j = FR.length then v else S.2.1 55 j) = _
    rw [if_neg (by omega)]; exact this.2.2
/-- openFrame -/
theorem M277_do {s set l : Nat} (h : frL S FR) (hl : FR.length < 4) : ∃ S', M277 N (Int32.ofNat s) (Int32.ofNat set) (Int32.ofNat l) S = some S' ∧ frL S' ((s, set, l) :: FR) ∧ m_agr [56] [53, 54, 55] [] S S' := by
  obtain ⟨h1, h2, h3⟩ := h
  have t : (Int32.ofNat FR.length).toInt.toNat = FR.length := n_t (by omega)
  have k53 : 0 ≤ (Int32.ofNat FR.length).toInt ∧ (Int32.ofNat FR.length).toInt < mN 53 := n_at (by omega) (by show _ < 8; omega)
  have k54 : 0 ≤ (Int32.ofNat FR.length).toInt ∧ (Int32.ofNat FR.length).toInt < mN 54 := k53
  have k55 : 0 ≤ (Int32.ofNat FR.length).toInt ∧ (Int32.ofNat FR.length).toInt < mN 55 := k53
  refine ⟨m_sV (m_sA (m_sA (m_sA S 53 FR.length (Int32.ofNat s)) 54 FR.length (Int32.ofNat set)) 55 FR.length (Int32.ofNat l)) 56 (Int32.ofNat (FR.length + 1)), ?_, ⟨by rw [List.length_cons]; rfl, by rw [List.length_cons]; omega, fun j c hj => ?_⟩, m_agr_sV (m_agr_sA (m_agr_sA (m_agr_sA m_agr_refl (by decide) _ _) (by decide) _ _) (by decide) _ _) (by decide) _⟩
  · simp only [M277, h1, if_pos k53, if_pos k54, if_pos k55, t, i_inc (show FR.length < 1000000 by omega)]
  · show (if 53 = 55 ∧ j = FR.length then Int32.ofNat l else if 53 = 54 ∧ j = FR.length then Int32.ofNat set else if 53 = 53 ∧ j = FR.length then Int32.ofNat s else S.2.1 53 j) = _ ∧ (if 54 = 55 ∧ j = FR.length then Int32.ofNat l else if 54 = 54 ∧ j = FR.length then Int32.ofNat set else if 54 = 53 ∧ j = FR.length then Int32.ofNat s else S.2.1 54 j) = _ ∧ (if 55 = 55 ∧ j = FR.length then Int32.ofNat l else if 55 = 54 ∧ j = FR.length then Int32.ofNat set else if 55 = 53 ∧ j = FR.length then Int32.ofNat s else S.2.1 55 j) = _
    rcases fr_inv hj with ⟨e1, e2⟩ | ⟨e1, e2⟩
    · rw [e1, e2, if_neg (fun q => absurd q.1 (by decide)), if_neg (fun q => absurd q.1 (by decide)), if_pos ⟨rfl, rfl⟩, if_neg (fun q => absurd q.1 (by decide)), if_pos ⟨rfl, rfl⟩, if_pos ⟨rfl, rfl⟩]
      exact ⟨rfl, rfl, rfl⟩
    · rw [if_neg (by omega), if_neg (by omega), if_neg (by omega), if_neg (by omega), if_neg (by omega), if_neg (by omega), if_neg (by omega), if_neg (by omega), if_neg (by omega)]
      exact h3 j c e2
end FRM
/-- which set is worked with, and where the block ends -/
def topB (sts : List St) (FR : List (Nat × Nat × Nat)) (cs hi : Nat) : Prop := match FR with
  | [] => cs = 0 ∧ hi = sts.length
  | b :: _ => ∃ t, sts[b.1]? = some t ∧ ((t.1 = 3 ∧ cs = b.2.1 ∧ hi = t.2.2.2.2.2.1) ∨ (t.1 = 2 ∧ b.2.2 = 1 ∧ cs = b.2.1 + 1 ∧ hi = t.2.2.2.2.1) ∨ (t.1 = 2 ∧ b.2.2 = 0 ∧ cs = b.2.1 + 2 ∧ hi = t.2.2.2.2.2.1))
section FRN
variable {N : Nat} {S : mS} {FR : List (Nat × Nat × Nat)} {sl cs hi : Nat} {sts : List St} {nds : List Nd} {fcs : List Int32}
theorem fr_idx {b : Nat × Nat × Nat} {t : St} (hsl : sl < 3) (h : frL S (b :: FR)) (hp : pgR S sl sts nds fcs) (ht : sts[b.1]? = some t) : (0 ≤ (Int32.ofNat FR.length).toInt ∧ (Int32.ofNat FR.length).toInt < 8) ∧ (Int32.ofNat FR.length).toInt.toNat = FR.length ∧ 24 * Int32.ofNat sl + Int32.ofNat b.1 = Int32.ofNat (24 * sl + b.1) ∧ (0 ≤ (Int32.ofNat (24 * sl + b.1)).toInt ∧ (Int32.ofNat (24 * sl + b.1)).toInt < 96) ∧ (Int32.ofNat (24 * sl + b.1)).toInt.toNat = 24 * sl + b.1 ∧ mj_c1 .ne (S.1 56) = true := by
  obtain ⟨h1, h2, h3, h4, h5, h6⟩ := frL_top h
  have hb := (List.getElem?_eq_some_iff.mp ht).1
  have := hp.2.1
  refine ⟨by rw [i_nat (by omega)]; omega, n_t (by omega), ix_24, by rw [i_nat (by omega)]; omega, n_t (by omega), ?_⟩
  rw [h1]
  exact i_c1 (by
    show decide _ = true
    rw [i_nat (by omega)]
    exact decide_eq_true (by omega))
/-- blockEnd -/
theorem M266_do (hsl : sl < 3) (hp : pgR S sl sts nds fcs) (h : frL S FR) (ht : topB sts FR cs hi) : M266 N (Int32.ofNat sl) S = some (Int32.ofNat hi, S) := by
  cases FR with
  | nil =>
    obtain ⟨-, e⟩ := ht
    have n0 : mj_c1 .ne (S.1 56) = false := by rw [h.1]; decide
    have k5 : 0 ≤ (Int32.ofNat sl).toInt ∧ (Int32.ofNat sl).toInt < mN 5 := n_at (by omega) (by show _ < 4; omega)
    have t5 : (Int32.ofNat sl).toInt.toNat = sl := n_t (by omega)
    simp only [M266, n0, cond_false, if_pos k5, t5, hp.1, e]
  | cons b FR =>
    obtain ⟨t, t1, t2⟩ := ht
    obtain ⟨h1, h2, h3, h4, h5, h6⟩ := frL_top h
    obtain ⟨k8, t8, ei, k96, t96, n1⟩ := fr_idx hsl h hp t1
    obtain ⟨r1, r2, r3, r4, r5, r6, r7⟩ := hp.2.2.2.2.1 b.1 t t1
    have k53 : 0 ≤ (Int32.ofNat FR.length).toInt ∧ (Int32.ofNat FR.length).toInt < mN 53 := k8
    have k55 : 0 ≤ (Int32.ofNat FR.length).toInt ∧ (Int32.ofNat FR.length).toInt < mN 55 := k8
    have k6 : 0 ≤ (Int32.ofNat (24 * sl + b.1)).toInt ∧ (Int32.ofNat (24 * sl + b.1)).toInt < mN 6 := k96
    have k10 : 0 ≤ (Int32.ofNat (24 * sl + b.1)).toInt ∧ (Int32.ofNat (24 * sl + b.1)).toInt < mN 10 := k96
    have k11 : 0 ≤ (Int32.ofNat (24 * sl + b.1)).toInt ∧ (Int32.ofNat (24 * sl + b.1)).toInt < mN 11 := k96
    rcases t2 with ⟨q1, q2, q3⟩ | ⟨q1, q2, q3, q4⟩ | ⟨q1, q2, q3, q4⟩
    · rw [q1] at r2
      have c : mj_c2 .ne (Int32.ofNat 3) 2 = true := by decide
      simp only [M266, n1, cond_true, h2, if_pos k53, t8, h3, ei, if_pos k6, t96, r2, c, J266_65, if_pos k11, r6, J266_71, q3]
    · have r5' := r5 q1
      rw [q1] at r2
      rw [q2] at h5
      have c : mj_c2 .ne (Int32.ofNat 2) 2 = false := by decide
      have c2 : mj_c2 .ne (Int32.ofNat 1) 1 = false := by decide
      simp only [M266, n1, cond_true, h2, if_pos k53, t8, h3, ei, if_pos k6, t96, r2, c, cond_false, if_pos k55, h5, c2, if_pos k10, r5', J266_71, q4]
    · rw [q1] at r2
      rw [q2] at h5
      have c : mj_c2 .ne (Int32.ofNat 2) 2 = false := by decide
      have c2 : mj_c2 .ne (Int32.ofNat 0) 1 = true := by decide
      simp only [M266, n1, cond_true, h2, if_pos k53, t8, h3, ei, if_pos k6, t96, r2, c, cond_false, if_pos k55, h5, c2, J266_65, if_pos k11, r6, J266_71, q4]
/-- currentSet -/
theorem M276_do (hsl : sl < 3) (hp : pgR S sl sts nds fcs) (h : frL S FR) (ht : topB sts FR cs hi) : M276 N (Int32.ofNat sl) S = some (Int32.ofNat cs, S) := by
  cases FR with
  | nil =>
    obtain ⟨e, -⟩ := ht
    have n0 : mj_c1 .ne (S.1 56) = false := by rw [h.1]; decide
    rw [e]
    simp only [M276, n0, cond_false]
    rfl
  | cons b FR =>
    obtain ⟨t, t1, t2⟩ := ht
    obtain ⟨h1, h2, h3, h4, h5, h6⟩ := frL_top h
    obtain ⟨k8, t8, ei, k96, t96, n1⟩ := fr_idx hsl h hp t1
    obtain ⟨r1, r2, r3, r4, r5, r6, r7⟩ := hp.2.2.2.2.1 b.1 t t1
    have k53 : 0 ≤ (Int32.ofNat FR.length).toInt ∧ (Int32.ofNat FR.length).toInt < mN 53 := k8
    have k54 : 0 ≤ (Int32.ofNat FR.length).toInt ∧ (Int32.ofNat FR.length).toInt < mN 54 := k8
    have k55 : 0 ≤ (Int32.ofNat FR.length).toInt ∧ (Int32.ofNat FR.length).toInt < mN 55 := k8
    have k6 : 0 ≤ (Int32.ofNat (24 * sl + b.1)).toInt ∧ (Int32.ofNat (24 * sl + b.1)).toInt < mN 6 := k96
    rcases t2 with ⟨q1, q2, q3⟩ | ⟨q1, q2, q3, q4⟩ | ⟨q1, q2, q3, q4⟩
    · rw [q1] at r2
      have c : mj_c2 .ne (Int32.ofNat 3) 3 = false := by decide
      simp only [M276, n1, cond_true, h2, if_pos k53, t8, h3, ei, if_pos k6, t96, r2, c, cond_false, if_pos k54, h4, q2]
    · rw [q1] at r2
      rw [q2] at h5
      have c : mj_c2 .ne (Int32.ofNat 2) 3 = true := by decide
      have c2 : mj_c2 .ne (Int32.ofNat 1) 1 = false := by decide
      have i1 : Int32.ofNat b.2.1 + 1 = Int32.ofNat (b.2.1 + 1) := by rw [show (1 : Int32) = Int32.ofNat 1 from rfl, n_add]
      simp only [M276, n1, cond_true, h2, if_pos k53, t8, h3, ei, if_pos k6, t96, r2, c, if_pos k55, h5, c2, cond_false, if_pos k54, h4, i1, J276_72, q3]
    · rw [q1] at r2
      rw [q2] at h5
      have c : mj_c2 .ne (Int32.ofNat 2) 3 = true := by decide
      have c2 : mj_c2 .ne (Int32.ofNat 0) 1 = true := by decide
      have i1 : Int32.ofNat b.2.1 + 2 = Int32.ofNat (b.2.1 + 2) := by rw [show (2 : Int32) = Int32.ofNat 2 from rfl, n_add]
      simp only [M276, n1, cond_true, h2, if_pos k53, t8, h3, ei, if_pos k6, t96, r2, c, if_pos k55, h5, c2, if_pos k54, h4, i1, J276_72, q3]
end FRN
