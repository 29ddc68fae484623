/-! RUN, AS IT IS CALLED: the reference, and both -/
/-- what a run does to the reference -/
def mrF (j : Nat) (S S' : mS) : Prop := m_agr [0, 44, 45, 50, 51, 52, 56] [18, 37, 41, 43, 47, 49, 53, 54, 55, 57, 58, 59] [21, 38, 42, 46, 48, 60, 61] S S' ∧ (∀ p, ¬ (160 * j ≤ p ∧ p < 160 * j + 160) → S'.2.1 18 p = S.2.1 18 p) ∧ (∀ q, q ≠ j → S'.2.1 57 q = S.2.1 57 q ∧ S'.2.1 58 q = S.2.1 58 q ∧ S'.2.2 61 q = S.2.2 61 q) ∧ ∀ p, ¬ (64 * j ≤ p ∧ p < 64 * j + 64) → S'.2.1 59 p = S.2.1 59 p ∧ S'.2.2 60 p = S.2.2 60 p
section RCM
variable {N j : Nat} {sts : List St} {nds : List Nd} {fcs : List Int32} {H : mj_H} {A B : Nat} {l : List (Nat × Nat)} {o : Option Nat}
theorem mrF_of {S S1 S2 : mS} (hnl : nds.length ≤ 160) (f : fmR j nds (m_sV S 0 0) S1) (g : rfr j S1 S2) : mrF j S S2 := by
  have a0 : m_agr [0, 44, 45, 50, 51, 52, 56] [18, 37, 41, 43, 47, 49, 53, 54, 55, 57, 58, 59] [21, 38, 42, 46, 48, 60, 61] S (m_sV S 0 0) := m_agr_sV m_agr_refl (by decide) _
  refine ⟨m_agr_trans (m_agr_trans a0 (m_agr_mono f.1 (by decide) (by decide) (by decide))) (m_agr_mono g.1 (by decide) (by decide) (by decide)), fun p hp => ?_, fun q hq => ?_, fun p hp => ?_⟩
  · rw [g.1.2.1 18 (by decide), f.2 p (fun i nd e1 e2 => absurd (List.getElem?_eq_some_iff.mp e2).1 (by omega))]
    rfl
  · obtain ⟨g1, g2, g3⟩ := g.2.1 q hq
    rw [g1, g2, g3, f.1.2.1 57 (by decide), f.1.2.1 58 (by decide), f.1.2.2 61 (by decide)]
    exact ⟨rfl, rfl, rfl⟩
  · obtain ⟨g1, g2⟩ := g.2.2 p hp
    rw [g1, g2, f.1.2.1 59 (by decide), f.1.2.2 60 (by decide)]
    exact ⟨rfl, rfl⟩
/-- a program's rows stay -/
theorem pgR_o {S S' : mS} {sl : Nat} (h : pgR S sl sts nds fcs) (no : ∀ k, 5 ≤ k → k ≤ 20 → k ≠ 18 → S'.2.1 k = S.2.1 k) (n12 : S'.2.2 12 = S.2.2 12) (n18 : ∀ i, i < 160 → S'.2.1 18 (160 * sl + i) = S.2.1 18 (160 * sl + i)) : pgR S' sl sts nds fcs := by
  obtain ⟨q1, q2, q3, q4, q5, q6, q7⟩ := h
  refine ⟨by rw [no 5 (by omega) (by omega) (by omega)]; exact q1, q2, q3, q4, fun i t hi => ?_, fun i nd hi => ?_, fun i x hi => ?_⟩
  · rw [no 6 (by omega) (by omega) (by omega), no 7 (by omega) (by omega) (by omega), no 8 (by omega) (by omega) (by omega), no 9 (by omega) (by omega) (by omega), no 10 (by omega) (by omega) (by omega), no 11 (by omega) (by omega) (by omega), n12]
    exact q5 i t hi
  · have hl := (List.getElem?_eq_some_iff.mp hi).1
    have nd' : ndAt S' (160 * sl + i) = ndAt S (160 * sl + i) := by
      unfold ndAt
      rw [no 13 (by omega) (by omega) (by omega), no 14 (by omega) (by omega) (by omega), no 15 (by omega) (by omega) (by omega), no 16 (by omega) (by omega) (by omega), no 17 (by omega) (by omega) (by omega), n18 i (by omega), no 19 (by omega) (by omega) (by omega)]
    rw [nd']
    exact q6 i nd hi
  · rw [no 20 (by omega) (by omega) (by omega)]
    exact q7 i x hi
theorem pgR_ag {S S' : mS} {sl : Nat} {F A' B' : List Nat} (h : pgR S sl sts nds fcs) (a : m_agr F A' B' S S') (c : ∀ k ∈ A', k < 5 ∨ 20 < k) (c12 : 12 ∉ B') : pgR S' sl sts nds fcs := pgR_o h (fun k h1 h2 _ => a.2.1 k (fun w => absurd (c k w) (by omega))) (a.2.2 12 c12) (fun i _ => by rw [a.2.1 18 (fun w => absurd (c 18 w) (by omega))])
theorem M259_go (hN : 100000000000000000 ≤ N) (hj : j < 3) {S : mS} {Ls : Nat → Ss} {s : Int32} (hs : s.toInt = j) (hp4 : S.2.1 4 j = 1) (hp : pgR S j sts nds fcs) (hL : pgL sts nds) (hc : chn H l o) (hb : bk (sT H sts nds fcs 5 A B) sts l 0 sts.length) (hf : fold_ l 1 ≤ 2147483648) (hA : rsA S Ls) : match (rnB sts (rnS sts nds fcs 5) 25 0 sts.length zst 1).1 with
    | .inl w => ∃ S', M259 N s S = some (w, S') ∧ S'.2.1 57 j = 0 ∧ mrF j S S' ∧ pgR S' j sts nds fcs ∧ S'.1 0 = 0 ∧ S'.1 52 = Int32.ofNat (rnB sts (rnS sts nds fcs 5) 25 0 sts.length zst 1).2 ∧ ∃ Ls', rsA S' Ls'
    | .inr L' => (L' = [] ∧ ∃ S', M259 N s S = some (-3, S') ∧ S'.2.1 57 j = 0 ∧ mrF j S S' ∧ pgR S' j sts nds fcs ∧ S'.1 0 = 0 ∧ S'.1 52 = Int32.ofNat (rnB sts (rnS sts nds fcs 5) 25 0 sts.length zst 1).2 ∧ ∃ Ls', rsA S' Ls') ∨ (L' ≠ [] ∧ ∃ S', M259 N s S = some (0, S') ∧ outR S' j (dvO (insOs L' [])) ∧ S'.2.2 61 j = Int64.ofNat (tot (dvO (insOs L' []))) ∧ S'.2.1 57 j = 1 ∧ mrF j S S' ∧ pgR S' j sts nds fcs ∧ S'.1 0 = 0 ∧ S'.1 52 = Int32.ofNat (rnB sts (rnS sts nds fcs 5) 25 0 sts.length zst 1).2 ∧ ∃ Ls', rsA S' Ls') := by
  have hsE := i_eq hs
  have hnl := hp.2.2.1
  have hfc := hp.2.2.2.1
  have h24 := hp.2.1
  have m0 := ((M246_do (N := N) (S := S) s).2 j hj hs).2 hp4
  have b0 : mj_c1 .le 0 = true := by decide
  have k57 : 0 ≤ s.toInt ∧ s.toInt < mN 57 := by
    rw [hs]
    exact ⟨by omega, by show (j : Int) < 3; omega⟩
  have t57 : s.toInt.toNat = j := by rw [hs]; rfl
  have good := (rn_good (H := H) hnl hfc h24 5).2 A B l o 0 sts.length 25 zst 1 (Nat.le_refl _) (by omega) hc hb hf zst_gds (Nat.le_refl _) (by omega)
  have m260 := M260_do (N := N) (sl := j) (S := m_sV S 0 0) (Ls := Ls) hN hj hp hL hc hb hf hA
  rw [← hsE] at m260
  generalize rnB sts (rnS sts nds fcs 5) 25 0 sts.length zst 1 = R at good m260 ⊢
  obtain ⟨r1, mo'⟩ := R
  have z0 : ∀ {S1 S2 : mS}, fmR j nds (m_sV S 0 0) S1 → rfr j S1 S2 → S2.1 0 = 0 := fun f g => by
    rw [g.1.1 0 (by decide), f.1.1 0 (by decide)]
    rfl
  have x57 : ∀ {X : mS}, (m_sA X 57 j 0).2.1 57 j = 0 := fun {X} => by
    show (if 57 = 57 ∧ j = j then (0 : Int32) else _) = 0
    rw [if_pos ⟨rfl, rfl⟩]
  have pg : ∀ {S1 S2 : mS}, pgR S1 j sts nds fcs → rfr j S1 S2 → pgR S2 j sts nds fcs := fun p g => pgR_ag p g.1 (by decide) (by decide)
  cases r1 with
  | inl w =>
    obtain ⟨S1, a1, a2, a3, a4, Ls', a5⟩ := m260
    have g : w = -1 ∨ w = -2 := good.2.2
    have bw : mj_c1 .ne w = true := by rcases g with rfl | rfl <;> decide
    refine ⟨m_sA S1 57 j 0, ?_, x57, mrF_of hnl a2 rfr_57, pg a3 rfr_57, z0 a2 (rfr_57 (v := 0)), a4, Ls', rsA_ag a5 (rfr_57 (sl := j) (S := S1) (v := 0)).1 (by decide)⟩
    simp only [M259, m0, b0, cond_true, Option.bind_some, a1, if_pos k57, t57, bw, J259_40]
  | inr L' =>
    obtain ⟨S1, Ls', a1, a2, a3, a4, a5, a6, a7⟩ := m260
    obtain ⟨g1, g2, g3⟩ : gds L' ∧ L'.length ≤ mo' ∧ toF L' ≤ toF zst * fold_ l 1 := good.2.2
    have gm : mo' ≤ 64 := good.2.1
    have tz : toF zst = 1 := rfl
    rw [tz, Nat.one_mul] at g3
    by_cases hn : L' = []
    · rw [if_pos hn] at a1
      have bw : mj_c1 .ne (-3) = true := by decide
      refine Or.inl ⟨hn, m_sA S1 57 j 0, ?_, x57, mrF_of hnl a2 rfr_57, pg a3 rfr_57, z0 a2 (rfr_57 (v := 0)), a4, Ls', rsA_ag a5 (rfr_57 (sl := j) (S := S1) (v := 0)).1 (by decide)⟩
      simp only [M259, m0, b0, cond_true, Option.bind_some, a1, if_pos k57, t57, bw, J259_40]
    · rw [if_neg hn] at a1
      have bw : mj_c1 .ne 0 = false := by decide
      have le := eqs_len a7 a6 g1
      have ne : Ls' 0 ≠ [] := by
        intro e
        rw [e] at le
        exact hn (List.length_eq_zero_iff.mp le.symm)
      have te : toF (Ls' 0) = toF L' := a7 _
      have oe := outc_eq (eqs_symm a7) g1 a6
      have i4 := (insOs_ok L' [] g1.2 trivial (fun p hp => by cases hp) (fun p hp => by cases hp)).2.2.2
      obtain ⟨n, hn9⟩ : ∃ n : Nat, n = 1999 := ⟨1999, rfl⟩
      rw [← hn9] at oe
      have hl : (rowS (wO (Ls' 0)) n).length ≤ 64 := by
        rw [← oe]
        have : ([] : Sp).length = 0 := rfl
        omega
      have rf0 : rfr j S1 (m_sA S1 57 j 0) := rfr_57
      obtain ⟨S2, b1, b2, b3, b4, b5⟩ := M287_do (N := N) (by omega) hn9 hj (rsL_rfr (a5 0 (by omega)) rf0) a6.2 ne (by omega) hl
      rw [← hsE] at b1
      rw [← oe] at b2 b3
      have rf2 := rfr_trans rf0 b5
      refine Or.inr ⟨hn, S2, ?_, b2, b3, b4, mrF_of hnl a2 rf2, pg a3 rf2, z0 a2 rf2, ?_, Ls', rsA_ag a5 rf2.1 (by decide)⟩
      · simp only [M259, m0, b0, cond_true, cond_false, Option.bind_some, a1, if_pos k57, t57, bw, J259_40, b1]
      · rw [rf2.1.1 52 (by decide)]
        exact a4
end RCM
