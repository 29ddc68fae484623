/-! A WHOLE RUN OF THE REFERENCE -/
def fmR (sl : Nat) (nds : List Nd) (S S' : mS) : Prop := m_agr [44, 45, 50, 51, 52, 56] [18, 37, 41, 43, 47, 49, 53, 54, 55] [21, 38, 42, 46, 48] S S' ∧ ∀ p, (∀ i nd, p = 160 * sl + i → nds[i]? = some nd → nd.1 ≠ 4) → S'.2.1 18 p = S.2.1 18 p
section RAL
variable {N sl : Nat} {sts : List St} {nds : List Nd} {fcs : List Int32} {H : mj_H} {A B : Nat} {l : List (Nat × Nat)} {o : Option Nat}
theorem Wc_5 : 24 * Wc 5 + 10 ≤ 100000000000000000 := by
  have : Wc 5 = 26703881406263 := rfl
  omega
theorem L260_26_do (hN : 100000 ≤ N) {S : mS} : ∃ S', (∀ r, L260_49 N (Int32.ofNat sl, 0, 0, S') = some r → L260_26 N (Int32.ofNat sl, 0, S) = some r) ∧ (∀ q, q < 6 → S'.2.1 47 q = 0) ∧ jfr 0 S S' ∧ S'.2.2 = S.2.2 ∧ S'.2.1 49 = S.2.1 49 := by
  have key : ∀ (d i : Nat) (S1 : mS), i + d = 6 → (∀ q, q < i → S1.2.1 47 q = 0) → jfr 0 S S1 → S1.2.2 = S.2.2 → S1.2.1 49 = S.2.1 49 → ∃ S', t_lp (B260_26 N) (d + 1) (Int32.ofNat sl, Int32.ofNat i, S1) = L260_49 N (Int32.ofNat sl, 0, 0, S') ∧ (∀ q, q < 6 → S'.2.1 47 q = 0) ∧ jfr 0 S S' ∧ S'.2.2 = S.2.2 ∧ S'.2.1 49 = S.2.1 49 := by
    intro d
    induction d with
    | zero =>
      intro i S1 hi hz hf e1 e2
      have c : mj_c2 .ge (Int32.ofNat i) 6 = true := c_geT (a := i) (b := 6) (by omega) (by omega) (by omega)
      refine ⟨S1, ?_, fun q hq => hz q (by omega), hf, e1, e2⟩
      apply t_lp_map
      simp only [B260_26, c, cond_true]
    | succ d ih =>
      intro i S1 hi hz hf e1 e2
      have c : mj_c2 .ge (Int32.ofNat i) 6 = false := c_geF (a := i) (b := 6) (by omega) (by omega) (by omega)
      have k47 : 0 ≤ (Int32.ofNat i).toInt ∧ (Int32.ofNat i).toInt < mN 47 := n_at (by omega) (by show _ < 3840; omega)
      have t47 : (Int32.ofNat i).toInt.toNat = i := n_t (by omega)
      have st : B260_26 N (Int32.ofNat sl, Int32.ofNat i, S1) = some (.inl (Int32.ofNat sl, Int32.ofNat (i + 1), m_sA S1 47 i 0)) := by
        simp only [B260_26, c, cond_false, if_pos k47, t47, i_inc (show i < 1000000 by omega)]
      rw [t_one st]
      have j1 : jfr 0 S1 (m_sA S1 47 (384 * 0 + 6 * 0 + i) 0) := jfr_47 (by omega) (by omega)
      rw [show 384 * 0 + 6 * 0 + i = i by omega] at j1
      refine ih (i + 1) _ (by omega) (fun q hq => ?_) (jfr_trans hf j1) e1 ?_
      · show (if 47 = 47 ∧ q = i then 0 else S1.2.1 47 q) = 0
        by_cases e : q = i
        · rw [if_pos ⟨rfl, e⟩]
        · rw [if_neg (fun w => e w.2)]; exact hz q (by omega)
      · rw [← e2]
        funext q
        show (if 49 = 47 ∧ q = i then 0 else S1.2.1 49 q) = _
        rw [if_neg (fun w => absurd w.1 (by decide))]
  obtain ⟨S', k1, k2⟩ := key 6 0 S (by omega) (fun q hq => absurd hq (by omega)) jfr_refl rfl rfl
  refine ⟨S', fun r h => ?_, k2⟩
  rw [h] at k1
  exact t_lp_more _ _ _ (by omega) k1
theorem M260_do (hN : 100000000000000000 ≤ N) (hsl : sl < 3) {S : mS} {Ls : Nat → Ss} (hp : pgR S sl sts nds fcs) (hL : pgL sts nds) (hc : chn H l o) (hb : bk (sT H sts nds fcs 5 A B) sts l 0 sts.length) (hf : fold_ l 1 ≤ 2147483648) (hA : rsA S Ls) : match (rnB sts (rnS sts nds fcs 5) 25 0 sts.length zst 1).1 with
    | .inl w => ∃ S', M260 N (Int32.ofNat sl) S = some (w, S') ∧ fmR sl nds S S' ∧ pgR S' sl sts nds fcs ∧ S'.1 52 = Int32.ofNat (rnB sts (rnS sts nds fcs 5) 25 0 sts.length zst 1).2 ∧ ∃ Ls', rsA S' Ls'
    | .inr L' => ∃ S' Ls', M260 N (Int32.ofNat sl) S = some (if L' = [] then -3 else 0, S') ∧ fmR sl nds S S' ∧ pgR S' sl sts nds fcs ∧ S'.1 52 = Int32.ofNat (rnB sts (rnS sts nds fcs 5) 25 0 sts.length zst 1).2 ∧ rsA S' Ls' ∧ gds (Ls' 0) ∧ eqs (Ls' 0) L' := by
  have h24 := hp.2.1
  have hnl := hp.2.2.1
  have hfc := hp.2.2.2.1
  -- the one state in the beginning
  obtain ⟨Sv, hSv⟩ : ∃ q, m_sV (m_sV S 56 0) 52 1 = q := ⟨_, rfl⟩
  have agv : m_agr [56, 52] [] [] S Sv := by rw [← hSv]; exact m_agr_sV (m_agr_sV m_agr_refl (by decide) _) (by decide) _
  obtain ⟨S0, hS0⟩ : ∃ q, m_sB (m_sA Sv 49 0 1) 48 0 1 = q := ⟨_, rfl⟩
  have j0 : jfr 0 Sv S0 := by
    rw [← hS0]
    exact jfr_trans jfr_49 (jfr_48 (set := 0) (i := 0) (by omega))
  obtain ⟨S1, a1, a2, a3, a4, a5⟩ := L260_26_do (N := N) (sl := sl) (S := S0) (by omega)
  have j1 : jfr 0 Sv S1 := jfr_trans j0 a3
  have ag1 : m_agr [50, 52, 56] [47, 49] [48] S S1 := m_agr_trans (m_agr_mono agv (by decide) (by decide) (by decide)) (m_agr_mono j1.1 (by decide) (by decide) (by decide))
  have p1 : pgR S1 sl sts nds fcs := by
    obtain ⟨q1, q2, q3, q4, q5, q6, q7⟩ := hp
    have no : ∀ j, 5 ≤ j → j ≤ 20 → S1.2.1 j = S.2.1 j := fun j h1 h2 => ag1.2.1 j (fun w => by
      simp only [List.mem_cons, List.not_mem_nil, or_false] at w
      omega)
    refine ⟨by rw [no 5 (by omega) (by omega)]; exact q1, q2, q3, q4, fun i t hi => ?_, fun i nd hi => ?_, fun i x hi => ?_⟩
    · rw [no 6 (by omega) (by omega), no 7 (by omega) (by omega), no 8 (by omega) (by omega), no 9 (by omega) (by omega), no 10 (by omega) (by omega), no 11 (by omega) (by omega), ag1.2.2 12 (by decide)]
      exact q5 i t hi
    · have nd' : ndAt S1 (160 * sl + i) = ndAt S (160 * sl + i) := by
        unfold ndAt
        rw [no 13 (by omega) (by omega), no 14 (by omega) (by omega), no 15 (by omega) (by omega), no 16 (by omega) (by omega), no 17 (by omega) (by omega), no 18 (by omega) (by omega), no 19 (by omega) (by omega)]
      rw [nd']
      exact q6 i nd hi
    · rw [no 20 (by omega) (by omega)]
      exact q7 i x hi
  -- dice
  obtain ⟨S2, b1, b2, b3, b4, b5⟩ := L260_49_do (N := N) (x1 := Int32.ofNat sl) hN (i_nat (by omega)) hsl hL (fun i t hi h3 => by
    obtain ⟨A', B', a, f, hx⟩ := sT_ex 5 A B l 0 sts.length hb i t (Nat.zero_le _) (List.getElem?_eq_some_iff.mp hi).1 hi h3
    exact exT_dcIn _ _ _ _ _ hx) p1
  have f12 : fmR sl nds S S2 := by
    refine ⟨m_agr_trans (m_agr_mono ag1 (by decide) (by decide) (by decide)) (m_agr_mono b4 (by decide) (by decide) (by decide)), fun p hpp => ?_⟩
    rw [b5 p hpp, ag1.2.1 18 (by decide)]
  have e56 : S2.1 56 = Int32.ofNat 0 := by
    rw [b4.1 56 (by decide), j1.1.1 56 (by decide), ← hSv]
    rfl
  have e52 : S2.1 52 = Int32.ofNat 1 := by
    rw [b4.1 52 (by decide), j1.1.1 52 (by decide), ← hSv]
    rfl
  have fr2 : frL S2 [] := ⟨e56, by decide, fun j b hj => by cases hj⟩
  have r1 : rsL S1 0 zst := by
    refine ⟨?_, by decide, fun i x hx => ?_⟩
    · rw [a5, ← hS0]
      rfl
    · have hi := (List.getElem?_eq_some_iff.mp hx).1
      have e : i = 0 := by
        have : zst.length = 1 := rfl
        omega
      subst e
      rw [← Option.some.inj hx]
      refine ⟨?_, fun n hn => ?_⟩
      · rw [a4, ← hS0]
        rfl
      · rw [show 384 * 0 + 6 * 0 + n = n by omega, a2 n hn]
        exact (stf_z hn).symm
  have A1 : rsA S1 (upL Ls 0 zst) := rsA_up (rsA_ag hA agv (by decide)) j1 r1
  have A2 : rsA S2 (upL Ls 0 zst) := rsA_ag A1 b4 (by decide)
  have run := RR_do (N := N) (sl := sl) (sts := sts) (nds := nds) (fcs := fcs) (H := H) (by omega) hsl hnl hfc hL.1 h24 5 A B l o 0 sts.length 25 (Nat.le_refl _) (by omega) hc hb hf S2 [] 0 (upL Ls 0 zst) zst 1 ⟨⟨b2, b3⟩, fr2, ⟨rfl, rfl⟩, A2, by rw [upL_eq]; exact zst_gds, by rw [upL_eq]; exact eqs_refl, zst_gds, by decide, by decide, e52, Nat.zero_le _⟩ (fun i _ hi => hL.2.1 i hi)
  have gd := (rn_good (H := H) hnl hfc h24 5).2 A B l o 0 sts.length 25 zst 1 (Nat.le_refl _) (by omega) hc hb hf zst_gds (by decide) (by decide)
  have ll := (bk_rng _ _ _ hb).2
  have w5 := Wc_5
  have wl : l.length * Wc 5 ≤ 24 * Wc 5 := Nat.mul_le_mul_right _ (by omega)
  have fin : ∀ n r, n ≤ N → LPk N sl n 0 S2 r → M260 N (Int32.ofNat sl) S = some r := by
    intro n r hn h
    have h' : L260_94 N (Int32.ofNat sl, 0, S2) = some r := t_lp_more _ _ _ hn h
    have := a1 _ (b1 _ h')
    simp only [M260, hSv, hS0, this]
  generalize rnB sts (rnS sts nds fcs 5) 25 0 sts.length zst 1 = R at run gd ⊢
  obtain ⟨R1, mo⟩ := R
  have hp2 : ∀ S', rH S2 S' → pgR S' sl sts nds fcs := fun S' h => (pcx_ag ⟨b2, b3⟩ h rH_c).1
  have fm2 : ∀ S', rH S2 S' → fmR sl nds S S' := fun S' h => ⟨m_agr_trans f12.1 (m_agr_mono h (by decide) (by decide) (by decide)), fun p hpp => by rw [h.2.1 18 (by decide)]; exact f12.2 p hpp⟩
  cases R1 with
  | inl w =>
    obtain ⟨S', k, c1, c2, c3, c4, c5⟩ := run
    exact ⟨S', fin _ _ (by omega) (c5 0), fm2 S' c2, hp2 S' c2, c3, c4⟩
  | inr L' =>
    obtain ⟨S', k, Ls', c1, c2, c3, c4, c5, c6, c7, c8, c9⟩ := run
    obtain ⟨-, -, g3, -⟩ := gd
    have len := eqs_len c8 c7 g3
    have e := LP_end (N := N) (n := 0) hsl (hp2 S' c2) c4 (c5 0 (by omega))
    have ee : (if Ls' 0 = [] then (-3 : Int32) else 0) = if L' = [] then -3 else 0 := by
      by_cases h1 : L' = []
      · rw [if_pos h1, if_pos]
        rw [h1] at len
        exact List.eq_nil_of_length_eq_zero len
      · rw [if_neg h1, if_neg]
        intro h2
        rw [h2] at len
        exact h1 (List.eq_nil_of_length_eq_zero len.symm)
    rw [ee] at e
    exact ⟨S', Ls', fin _ _ (by omega) (c9 _ _ e), fm2 S' c2, hp2 S' c2, c3, c5, c7, c8⟩
end RAL
