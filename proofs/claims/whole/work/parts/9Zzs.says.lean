section SAS
variable {N : Nat} {x1 : Int32} {sl : Nat} {sts : List St} {nds : List Nd} {fcs : List Int32} {H : mj_H}
theorem SE_next (hs : x1.toInt = sl) (hsl : sl < 3) (h24 : sts.length ≤ 24) {S : mS} {tx : List Int32} {FR : List (Nat × Nat)} {s : Nat} {res : Int32 × mS} (h : sst S sl sts nds fcs tx FR) (hlt : s < sts.length) (hb : ∀ b r, FR = b :: r → b.1 < 24 ∧ ∃ x, bnd sts b x ∧ s ≠ x) (k : AEr N x1 s S res) : SEr N x1 sts.length FR s S res := by
  have b0 : mj_c1 .eq 0 = true := by decide
  have stop : ∀ n, t_lp (B247_13 N) (n + 1) (x1, Int32.ofNat s, 0, S) = some S := fun n => t_end (by simp only [B247_13, b0, cond_true]) n
  have key : t_lp (B247_13 N) (FR.length + 2) (x1, Int32.ofNat s, moreI FR, S) = some S := by
    cases FR with
    | nil => exact stop 1
    | cons b r =>
      obtain ⟨h1, x, h2, h3⟩ := hb b r rfl
      obtain ⟨i, fi, t, t1, t2, t3, t4⟩ := B247_top (N := N) hs hsl h.2.1 h.2.2.2 h2 h1 (show s ≤ 24 by omega)
      rw [if_neg h3] at t4
      have fB : B247_13 N (x1, Int32.ofNat s, 1, S) = some (.inl (x1, Int32.ofNat s, 0, S)) := by
        rw [t4]
        simp only [J247_98, b0, cond_true, J247_183]
      exact (t_one fB _).trans (stop _)
  unfold SEr
  rw [key]
  show rstP N x1 sts.length s S = _
  unfold rstP
  rw [if_pos hlt]
  exact k
/-- a block's end, and nothing opens again -/
theorem SE_pop (hs : x1.toInt = sl) (hsl : sl < 3) (h24 : sts.length ≤ 24) {S : mS} {tx : List Int32} {b : Nat × Nat} {FR : List (Nat × Nat)} {s : Nat} {t : St} (h : sst S sl sts nds fcs tx (b :: FR)) (hs24 : s ≤ 24) (h1 : b.1 < 24) (hb : bnd sts b s) (ht : sts[b.1]? = some t) (hn : ¬ (t.1 = 2 ∧ b.2 = 0 ∧ t.2.2.2.2.1 < t.2.2.2.2.2.1)) (hl : tx.length + 1 ≤ 160) : ∃ S', sst S' sl sts nds fcs (tx ++ [125]) FR ∧ sg4 S S' ∧ ∀ res, SEr N x1 sts.length FR s S' res → SEr N x1 sts.length (b :: FR) s S res := by
  have b1 : mj_c1 .eq 1 = false := by decide
  obtain ⟨i, fi, t', t1, t2, t3, t4⟩ := B247_top (N := N) hs hsl h.2.1 h.2.2.2 hb h1 hs24
  rw [ht] at t1
  cases t1
  rw [if_pos rfl] at t4
  obtain ⟨S1, a1, a2, a3⟩ := M206_do (N := N) (c := 125) h.1 (by omega) (by decide)
  have hh := sst_c h a2 (ag2 a3)
  obtain ⟨f1, f2, f3, f4, f5⟩ := fr_top hh.2.2.2
  have ag3 : m_agr [56] [] [] S1 (m_sV S1 56 (S1.1 56 - 1)) := m_agr_sV m_agr_refl (by decide) _
  have J160 : J247_160 N x1 (Int32.ofNat s) S1 = some (.inl (x1, Int32.ofNat s, moreI FR, m_sV S1 56 (S1.1 56 - 1))) := by
    cases FR with
    | nil =>
      have c : mj_c1 .le (S1.1 56 - 1) = true := i_c1 (by show decide _ = true; apply decide_eq_true; rw [f1]; exact Int.le_refl _)
      simp only [J247_160, c, cond_true, J247_182, J247_183]
      rfl
    | cons y r =>
      rw [List.length_cons] at f1
      have c : mj_c1 .le (S1.1 56 - 1) = false := i_c1 (by show decide _ = false; apply decide_eq_false; omega)
      simp only [J247_160, c, cond_false, J247_182, J247_183]
      rfl
  have fB : B247_13 N (x1, Int32.ofNat s, 1, S) = some (.inl (x1, Int32.ofNat s, moreI FR, m_sV S1 56 (S1.1 56 - 1))) := by
    rw [t4, ← J160]
    by_cases k : t.1 = 2 ∧ b.2 = 0
    · have efi : fi = 1 := by rw [t3, if_pos k]
      have c : mj_c1 .eq (Int32.ofNat fi) = false := by rw [efi]; decide
      have ti : i.toInt.toNat = 24 * sl + b.1 := by omega
      have c10 : 0 ≤ i.toInt ∧ i.toInt < mN 10 := by rw [show mN 10 = 96 from rfl]; omega
      have c11 : 0 ≤ i.toInt ∧ i.toInt < mN 11 := by rw [show mN 11 = 96 from rfl]; omega
      obtain ⟨r1, r2, r3, r4, r5, r6⟩ := hh.2.1.2 b.1 t ht
      obtain ⟨t'', u1, u2, u3, u4, u5, u6⟩ := hb
      rw [ht] at u1
      cases u1
      have u5 := u5 k.1
      have ge : mj_c2 .ge (Int32.ofNat t.2.2.2.2.1) (Int32.ofNat t.2.2.2.2.2.1) = true := i_c2 (by show decide _ = true; apply decide_eq_true; rw [i_nat (by omega), i_nat (by omega)]; have := fun q => hn ⟨k.1, k.2, q⟩; omega)
      simp only [J247_98, b1, cond_false, a1, c, if_pos c10, if_pos c11, ti, r5 k.1, r6, ge, cond_true, Option.bind_some]
    · have efi : fi = 0 := by rw [t3, if_neg k]
      have c : mj_c1 .eq (Int32.ofNat fi) = true := by rw [efi]; decide
      simp only [J247_98, b1, cond_false, a1, c, cond_true, Option.bind_some]
  refine ⟨m_sV S1 56 (S1.1 56 - 1), ⟨txR_ag hh.1 ag3 (by decide), rows_ag hh.2.1 ag3 (by decide), nodes_ag hh.2.2.1 ag3 (by decide), f5⟩, m_agr_trans (sg4_of (ag2 a3)) (m_agr_mono ag3 (by decide) (by decide) (by decide)), fun res k => ?_⟩
  unfold SEr at k ⊢
  rw [List.length_cons, show FR.length + 1 + 2 = FR.length + 2 + 1 by omega]
  show ((t_lp (B247_13 N) (FR.length + 2 + 1) (x1, Int32.ofNat s, 1, S)).bind _) = _
  rw [t_one fB]
  exact k
/-- the first of two blocks ends -/
theorem SE_colon (hs : x1.toInt = sl) (hsl : sl < 3) (h24 : sts.length ≤ 24) {S : mS} {tx : List Int32} {b : Nat × Nat} {FR : List (Nat × Nat)} {s : Nat} {t : St} (h : sst S sl sts nds fcs tx (b :: FR)) (hlt : s < sts.length) (h1 : b.1 < 24) (hb : bnd sts b s) (ht : sts[b.1]? = some t) (hk : t.1 = 2 ∧ b.2 = 0) (hm : t.2.2.2.2.1 < t.2.2.2.2.2.1) (hl : tx.length + 3 ≤ 160) : ∃ S', sst S' sl sts nds fcs (tx ++ [125, 58, 123]) ((b.1, 1) :: FR) ∧ sg4 S S' ∧ ∀ res, AEr N x1 s S' res → SEr N x1 sts.length (b :: FR) s S res := by
  have b1 : mj_c1 .eq 1 = false := by decide
  have b0 : mj_c1 .eq 0 = true := by decide
  obtain ⟨i, fi, t', t1, t2, t3, t4⟩ := B247_top (N := N) hs hsl h.2.1 h.2.2.2 hb h1 (show s ≤ 24 by omega)
  rw [ht] at t1
  cases t1
  rw [if_pos rfl] at t4
  obtain ⟨S1, a1, a2, a3⟩ := M206_do (N := N) (c := 125) h.1 (by omega) (by decide)
  have hh := sst_c h a2 (ag2 a3)
  obtain ⟨S2, c1, c2, c3⟩ := M206_do (N := N) (c := 58) hh.1 (by rw [List.length_append, List.length_singleton]; omega) (by decide)
  have hh2 := sst_c hh c2 (ag2 c3)
  obtain ⟨S3, d1, d2, d3⟩ := M206_do (N := N) (c := 123) hh2.1 (by rw [List.length_append, List.length_append, List.length_singleton, List.length_singleton]; omega) (by decide)
  have hh3 := sst_c hh2 d2 (ag2 d3)
  obtain ⟨f1, f2, f3, f4, f5⟩ := fr_top hh3.2.2.2
  have efi : fi = 1 := by rw [t3, if_pos hk]
  have c : mj_c1 .eq (Int32.ofNat fi) = false := by rw [efi]; decide
  have ti : i.toInt.toNat = 24 * sl + b.1 := by omega
  have c10 : 0 ≤ i.toInt ∧ i.toInt < mN 10 := by rw [show mN 10 = 96 from rfl]; omega
  have c11 : 0 ≤ i.toInt ∧ i.toInt < mN 11 := by rw [show mN 11 = 96 from rfl]; omega
  obtain ⟨r1, r2, r3, r4, r5, r6⟩ := hh.2.1.2 b.1 t ht
  obtain ⟨t'', u1, u2, u3, u4, u5, u6⟩ := hb
  rw [ht] at u1
  cases u1
  have u5 := u5 hk.1
  have ge : mj_c2 .ge (Int32.ofNat t.2.2.2.2.1) (Int32.ofNat t.2.2.2.2.2.1) = false := i_c2 (by show decide _ = false; apply decide_eq_false; rw [i_nat (by omega), i_nat (by omega)]; omega)
  have c55 : 0 ≤ (S3.1 56 - 1).toInt ∧ (S3.1 56 - 1).toInt < mN 55 := by rw [show mN 55 = 8 from rfl]; omega
  have t55 : (S3.1 56 - 1).toInt.toNat = FR.length := by omega
  obtain ⟨S4, hS4⟩ : ∃ S4, m_sA S3 55 FR.length 1 = S4 := ⟨_, rfl⟩
  have ag4 : m_agr [] [55] [] S3 S4 := by rw [← hS4]; exact m_agr_sA m_agr_refl (by decide) _ _
  have fB : B247_13 N (x1, Int32.ofNat s, 1, S) = some (.inl (x1, Int32.ofNat s, 0, S4)) := by
    rw [t4]
    simp only [J247_98, b1, cond_false, a1, c, if_pos c10, if_pos c11, ti, r5 hk.1, r6, ge, c1, d1, if_pos c55, t55, hS4, J247_183, Option.bind_some]
  have fr4 : frR S4 ((b.1, 1) :: FR) := by
    obtain ⟨p1, p2, p3⟩ := hh3.2.2.2
    refine ⟨by rw [ag4.1 56 (by decide)]; exact p1, p2, fun j q hj => ?_⟩
    rw [List.reverse_cons] at hj
    by_cases ej : j = FR.length
    · rw [List.getElem?_append_right (by rw [List.length_reverse]; omega), List.length_reverse, ej, Nat.sub_self] at hj
      cases hj
      rw [ej, ag4.2.1 53 (by decide)]
      refine ⟨f2, ?_⟩
      rw [← hS4]
      exact if_pos ⟨rfl, rfl⟩
    · have hlt2 : j < FR.reverse.length := by
        have := (List.getElem?_eq_some_iff.mp hj).1
        rw [List.length_append] at this
        simp at this
        rw [List.length_reverse]
        omega
      rw [List.getElem?_append_left hlt2] at hj
      have := p3 j q (by rw [List.reverse_cons]; exact ap_g hj)
      rw [ag4.2.1 53 (by decide), ← hS4]
      refine ⟨this.1, ?_⟩
      rw [← this.2]
      exact if_neg (fun z => ej z.2)
  have stop : ∀ n, t_lp (B247_13 N) (n + 1) (x1, Int32.ofNat s, 0, S4) = some S4 := fun n => t_end (by simp only [B247_13, b0, cond_true]) n
  refine ⟨S4, ⟨?_, rows_ag hh3.2.1 ag4 (by decide), nodes_ag hh3.2.2.1 ag4 (by decide), fr4⟩, m_agr_trans (sg4_of (m_agr_trans (ag2 a3) (m_agr_trans (ag2 c3) (ag2 d3)))) (m_agr_mono ag4 (by decide) (by decide) (by decide)), fun res k => ?_⟩
  · have e : tx ++ [125, 58, 123] = tx ++ [125] ++ [58] ++ [123] := by simp
    rw [e]
    exact txR_ag hh3.1 ag4 (by decide)
  · unfold SEr
    rw [List.length_cons, show FR.length + 1 + 2 = FR.length + 1 + 1 + 1 by omega]
    show ((t_lp (B247_13 N) (FR.length + 1 + 1 + 1) (x1, Int32.ofNat s, 1, S)).bind _) = _
    rw [t_one fB, stop]
    show rstP N x1 sts.length s S4 = _
    unfold rstP
    rw [if_pos hlt]
    exact k
/-- from a statement's head to sayEnds -/
theorem AE_SE (hN : 2000 ≤ N) (hs : x1.toInt = sl) (hsl : sl < 3) (h24 : sts.length ≤ 24) {S S1 : mS} {tx : List Int32} {FR : List (Nat × Nat)} {s : Nat} {res : Int32 × mS} (hlt : s < sts.length) (h : sst S1 sl sts nds fcs tx FR) (hM : M248 N x1 (Int32.ofNat s) S = some S1) (k : SEr N x1 sts.length FR (s + 1) S1 res) : AEr N x1 s S res := by
  unfold AEr
  rw [hM]
  exact LP_SE hN hs hsl h24 h.2.1 h.2.2.2 (by omega) k
end SAS
