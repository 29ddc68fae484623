/-! NUMBER, THE REFERENCE -/
theorem scn_big {tx : List Int32} : ∀ (n p v : Nat), min (v * 10 ^ ((scn tx n p v).1 - p)) 1000 ≤ (scn tx n p v).2 ∧ p ≤ (scn tx n p v).1 := by
  intro n
  induction n with
  | zero =>
    intro p v
    refine ⟨?_, Nat.le_refl _⟩
    show min (v * 10 ^ (p - p)) 1000 ≤ v
    rw [Nat.sub_self, Nat.pow_zero, Nat.mul_one]
    exact Nat.min_le_left _ _
  | succ n ih =>
    intro p v
    rw [scn]
    by_cases hd : 48 ≤ (pk tx p).toInt ∧ (pk tx p).toInt < 58
    · rw [if_pos hd]
      obtain ⟨h1, h2⟩ := ih (p + 1) (min (10 * v + ((pk tx p).toInt - 48).toNat) 1000)
      obtain ⟨q, hq⟩ : ∃ q, scn tx n (p + 1) (min (10 * v + ((pk tx p).toInt - 48).toNat) 1000) = q := ⟨_, rfl⟩
      rw [hq] at h1 h2 ⊢
      refine ⟨?_, by omega⟩
      obtain ⟨k, hk⟩ : ∃ k, q.1 = p + 1 + k := ⟨q.1 - (p + 1), by omega⟩
      rw [hk, show p + 1 + k - (p + 1) = k by omega] at h1
      rw [hk, show p + 1 + k - p = k + 1 by omega, Nat.pow_succ, Nat.mul_comm (10 ^ k) 10, ← Nat.mul_assoc]
      have hp : 1 ≤ 10 ^ k := Nat.one_le_pow _ _ (by decide)
      by_cases hc : 10 * v + ((pk tx p).toInt - 48).toNat ≤ 1000
      · rw [Nat.min_eq_left hc] at h1
        have : v * 10 * 10 ^ k ≤ (10 * v + ((pk tx p).toInt - 48).toNat) * 10 ^ k := Nat.mul_le_mul_right _ (by omega)
        omega
      · rw [show min (10 * v + ((pk tx p).toInt - 48).toNat) 1000 = 1000 by omega] at h1
        have : 1000 * 1 ≤ 1000 * 10 ^ k := Nat.mul_le_mul_left _ hp
        omega
    · rw [if_neg hd]
      refine ⟨?_, Nat.le_refl _⟩
      show min (v * 10 ^ (p - p)) 1000 ≤ v
      rw [Nat.sub_self, Nat.pow_zero, Nat.mul_one]
      exact Nat.min_le_left _ _
/-- what the reference asks is what the class asks -/
theorem num_same {tx : List Int32} {n p : Nat} {lo hi : Int32} (hh : hi.toInt ≤ 999) (hd : 48 ≤ (pk tx p).toInt ∧ (pk tx p).toInt < 58) : ((scn tx (n + 1) p 0).1 = p + 1 ∨ pk tx p ≠ 48) → lo.toInt ≤ (scn tx (n + 1) p 0).2 → ((scn tx (n + 1) p 0).2 : Int) ≤ hi.toInt → numOK tx p (scn tx (n + 1) p 0).1 (scn tx (n + 1) p 0).2 lo hi := by
  intro hz h1 h2
  have hs : scn tx (n + 1) p 0 = scn tx n (p + 1) (min (10 * 0 + ((pk tx p).toInt - 48).toNat) 1000) := by rw [scn, if_pos hd]
  obtain ⟨b1, b2⟩ := scn_big (tx := tx) n (p + 1) (min (10 * 0 + ((pk tx p).toInt - 48).toNat) 1000)
  rw [← hs] at b1 b2
  refine ⟨b2, ?_, hz, h1, h2⟩
  rcases hz with hz | hz
  · omega
  · have h48 : (pk tx p).toInt ≠ 48 := fun q => hz (Int32.toInt_inj.mp (q.trans (show (48 : Int) = (48 : Int32).toInt from rfl)))
    obtain ⟨k, hk⟩ : ∃ k, (scn tx (n + 1) p 0).1 = p + 1 + k := ⟨(scn tx (n + 1) p 0).1 - (p + 1), by omega⟩
    rw [hk, show p + 1 + k - (p + 1) = k by omega, Nat.min_eq_left (show 10 * 0 + ((pk tx p).toInt - 48).toNat ≤ 1000 by omega)] at b1
    rw [hk]
    by_cases hk3 : k ≤ 2
    · omega
    · have e1 : 10 ^ 3 ≤ 10 ^ k := Nat.pow_le_pow_right (by decide) (by omega)
      have e2 : 1 * 10 ^ k ≤ (10 * 0 + ((pk tx p).toInt - 48).toNat) * 10 ^ k := Nat.mul_le_mul_right _ (by omega)
      omega
section NUR
variable {N : Nat} {tx : List Int32} {lo hi : Int32}
theorem mst_at {S : mS} {p : Nat} {x : Int32} (h : mst S tx p) (hp : p < tx.length) : mst (m_sV (m_sV S 26 x) 22 (S.1 22 + 1)) tx (p + 1) := by
  obtain ⟨h1, h2, h3⟩ := h
  have hl := h1.2.1
  refine ⟨h1, ?_, hp⟩
  show S.1 22 + 1 = _
  rw [h2]
  exact i_inc (by omega)
theorem mst_26 {S : mS} {p : Nat} {x : Int32} (h : mst S tx p) : mst (m_sV S 26 x) tx p := h
/-- the loop's exit -/
def nx (N : Nat) (lo hi : Int32) (tx : List Int32) (p0 p : Nat) (S : mS) : Option (Int32 × mS) := if p = p0 + 1 ∨ pk tx p0 ≠ 48 then J216_115 N lo hi (Int32.ofNat p0) 0 S else J216_115 N lo hi (Int32.ofNat p0) 1 S
theorem L216_do {p0 : Nat} : ∀ (n p v : Nat) (S : mS), n + p = tx.length → v ≤ 1000 → p0 ≤ p → (p = p0 → 48 ≤ (pk tx p).toInt ∧ (pk tx p).toInt < 58) → mst S tx p → S.1 26 = Int32.ofNat v → ∃ S', t_lp (B216_26 N) (n + 1) (lo, hi, Int32.ofNat p0, S) = nx N lo hi tx p0 (scn tx n p v).1 S' ∧ mst S' tx (scn tx n p v).1 ∧ S'.1 26 = Int32.ofNat (scn tx n p v).2 ∧ m_agr [22, 26] [] [] S S' ∧ (scn tx n p v).2 ≤ 1000 := by
  have b0 : mj_c1 .eq 0 = true := by decide
  have b1 : mj_c1 .eq 1 = false := by decide
  have stop : ∀ (n p : Nat) (S : mS), p0 + 1 ≤ p → mst S tx p → ¬ (48 ≤ (pk tx p).toInt ∧ (pk tx p).toInt < 58) → t_lp (B216_26 N) (n + 1) (lo, hi, Int32.ofNat p0, S) = nx N lo hi tx p0 p S := by
    intro n p S hp h hd
    have m := M217_do (N := N) h
    rw [if_neg hd] at m
    have hl := h.1.2.1
    have hpl := h.2.2
    have e0 : (Int32.ofNat p0).toInt = p0 := i_nat (by omega)
    have hm : 0 ≤ (Int32.ofNat p0).toInt ∧ (Int32.ofNat p0).toInt < mN 1 := by rw [mN_1]; omega
    have hn : (Int32.ofNat p0).toInt.toNat = p0 := by omega
    have ht : S.2.1 1 p0 = pk tx p0 := by
      refine h.1.2.2.1 p0 _ ?_
      unfold pk
      rw [List.getElem?_eq_getElem (by omega)]
      rfl
    apply t_lp_map
    unfold nx
    by_cases h48 : pk tx p0 = 48
    · have c1 : mj_c2 .ne (pk tx p0) 48 = false := decide_eq_false (fun q => q h48)
      have eD : (S.1 22 - Int32.ofNat p0).toInt = p - p0 := by rw [h.2.1, i_sub (by rw [i_nat (by omega), e0]; omega) (by rw [i_nat (by omega), e0]; omega), i_nat (by omega), e0]
      by_cases hq : p = p0 + 1
      · have c2 : mj_c2 .le (S.1 22 - Int32.ofNat p0) 1 = true := i_c2 (by show decide _ = true; apply decide_eq_true; rw [q_1]; omega)
        rw [if_pos (Or.inl hq)]
        simp only [B216_26, m, b0, cond_true, if_pos hm, hn, ht, c1, cond_false, c2, J216_114, Option.bind_some]
      · have c2 : mj_c2 .le (S.1 22 - Int32.ofNat p0) 1 = false := i_c2 (by show decide _ = false; apply decide_eq_false; rw [q_1]; omega)
        rw [if_neg (fun z => z.elim hq (fun y => y h48))]
        simp only [B216_26, m, b0, cond_true, if_pos hm, hn, ht, c1, cond_false, c2, Option.bind_some]
    · have c1 : mj_c2 .ne (pk tx p0) 48 = true := decide_eq_true h48
      rw [if_pos (Or.inr h48)]
      simp only [B216_26, m, b0, cond_true, if_pos hm, hn, ht, c1, J216_114, Option.bind_some]
  intro n
  induction n with
  | zero =>
    intro p v S hn hv hp hpd h h26
    have hd : ¬ (48 ≤ (pk tx p).toInt ∧ (pk tx p).toInt < 58) := by
      rcases pk_rng (p := p) ⟨h.1.2.1, h.1.2.2.2⟩ with ⟨e, -⟩ | ⟨-, -, e⟩
      · rw [e, q_0]
        omega
      · omega
    exact ⟨S, stop 0 p S (by rcases Nat.lt_or_ge p0 p with q | q; exact q; exact absurd (hpd (by omega)) hd) h hd, h, h26, m_agr_refl, hv⟩
  | succ n ih =>
    intro p v S hn hv hp hpd h h26
    by_cases hd : 48 ≤ (pk tx p).toInt ∧ (pk tx p).toInt < 58
    · have m := M217_do (N := N) h
      rw [if_pos hd] at m
      have m2 := M212_do (N := N) h
      have e10 : (10 : Int32).toInt = 10 := rfl
      have e48 : (48 : Int32).toInt = 48 := rfl
      have ev : (Int32.ofNat v).toInt = v := i_nat (by omega)
      have eM : (10 * Int32.ofNat v).toInt = 10 * v := by rw [i_mul (by rw [e10]; omega) (by rw [e10]; omega), e10, ev]
      have eA : (10 * Int32.ofNat v + pk tx p).toInt = 10 * v + (pk tx p).toInt := by rw [i_add (by omega) (by omega), eM]
      have eS : (10 * Int32.ofNat v + pk tx p - 48).toInt = 10 * v + (pk tx p).toInt - 48 := by rw [i_sub (by rw [e48]; omega) (by rw [e48]; omega), e48, eA]
      have hsc : scn tx (n + 1) p v = scn tx n (p + 1) (min (10 * v + ((pk tx p).toInt - 48).toNat) 1000) := by
        rw [scn, if_pos hd]
      rw [hsc]
      obtain ⟨x, hx⟩ : ∃ x, 10 * Int32.ofNat v + pk tx p - 48 = x := ⟨_, rfl⟩
      rw [hx] at eS
      have hT := mst_at (x := Int32.ofNat (min (10 * v + ((pk tx p).toInt - 48).toNat) 1000)) (mst_26 (x := x) h) (by omega)
      obtain ⟨S', f1, f2, f3, f4, f5⟩ := ih (p + 1) (min (10 * v + ((pk tx p).toInt - 48).toNat) 1000) (m_sV (m_sV (m_sV S 26 x) 26 (Int32.ofNat (min (10 * v + ((pk tx p).toInt - 48).toNat) 1000))) 22 ((m_sV S 26 x).1 22 + 1)) (by omega) (by omega) (by omega) (fun q => absurd q (by omega)) hT rfl
      refine ⟨S', ?_, f2, f3, m_agr_trans (m_agr_sV (m_agr_sV (m_agr_sV m_agr_refl (by decide) _) (by decide) _) (by decide) _) f4, f5⟩
      rw [t_lp]
      have fB : B216_26 N (lo, hi, Int32.ofNat p0, S) = some (.inl (lo, hi, Int32.ofNat p0, m_sV (m_sV (m_sV S 26 x) 26 (Int32.ofNat (min (10 * v + ((pk tx p).toInt - 48).toNat) 1000))) 22 ((m_sV S 26 x).1 22 + 1))) := by
        by_cases hg : 1000 < 10 * v + (pk tx p).toInt - 48
        · have bg : mj_c2 .le x 1000 = false := i_c2 (by show decide _ = false; apply decide_eq_false; rw [eS, q_1000]; omega)
          rw [show min (10 * v + ((pk tx p).toInt - 48).toNat) 1000 = 1000 by omega]
          simp only [B216_26, m, b1, cond_false, m2, h26, hx, bg, J216_73, Option.bind_some]
          rfl
        · have bg : mj_c2 .le x 1000 = true := i_c2 (by show decide _ = true; apply decide_eq_true; rw [eS, q_1000]; omega)
          have ex : x = Int32.ofNat (min (10 * v + ((pk tx p).toInt - 48).toNat) 1000) := i_eq (by rw [eS]; omega)
          simp only [B216_26, m, b1, cond_false, m2, h26, hx, bg, cond_true, J216_73, Option.bind_some, ← ex]
      rw [fB]
      exact f1
    · have hsc : scn tx (n + 1) p v = (p, v) := by rw [scn, if_neg hd]
      rw [hsc]
      exact ⟨S, stop _ p S (by rcases Nat.lt_or_ge p0 p with q | q; exact q; exact absurd (hpd (by omega)) hd) h hd, h, h26, m_agr_refl, hv⟩
/-- number, the reference -/
theorem M216_do (hN : 2000 ≤ N) {S : mS} {p : Nat} (h : mst S tx p) (hh : hi.toInt ≤ 999) : ∃ S', mst S' tx (scn tx (tx.length - p) p 0).1 ∧ m_agr [3, 22, 26] [] [] S S' ∧ ((numOK tx p (scn tx (tx.length - p) p 0).1 (scn tx (tx.length - p) p 0).2 lo hi ∧ M216 N lo hi S = some (1, S') ∧ S'.1 26 = Int32.ofNat (scn tx (tx.length - p) p 0).2 ∧ S'.1 3 = S.1 3) ∨ (¬ numOK tx p (scn tx (tx.length - p) p 0).1 (scn tx (tx.length - p) p 0).2 lo hi ∧ M216 N lo hi S = some (0, S') ∧ S'.1 3 = Int32.ofNat p)) := by
  have hl := h.1.2.1
  have b0 : mj_c1 .ne 0 = false := by decide
  have b1 : mj_c1 .ne 1 = true := by decide
  have c0 : mj_c1 .eq 0 = true := by decide
  have m := M217_do (N := N) h
  by_cases hd : 48 ≤ (pk tx p).toInt ∧ (pk tx p).toInt < 58
  · rw [if_pos hd] at m
    have hlt : p < tx.length := by
      rcases pk_rng (p := p) ⟨h.1.2.1, h.1.2.2.2⟩ with ⟨e, -⟩ | ⟨-, -, e⟩
      · rw [e, q_0] at hd
        omega
      · exact e
    obtain ⟨n, hn⟩ : ∃ n, tx.length - p = n + 1 := ⟨tx.length - p - 1, by omega⟩
    rw [hn]
    obtain ⟨S1, f1, f2, f3, f4, f5⟩ := L216_do (N := N) (lo := lo) (hi := hi) (p0 := p) (n + 1) p 0 (m_sV S 26 0) (by omega) (by omega) (Nat.le_refl _) (fun _ => hd) (mst_26 h) rfl
    obtain ⟨q, hq⟩ : ∃ q, scn tx (n + 1) p 0 = q := ⟨_, rfl⟩
    have same := num_same (tx := tx) (n := n) (p := p) (lo := lo) (hi := hi) hh hd
    rw [hq] at f1 f2 f3 f5 same ⊢
    have ev : (Int32.ofNat q.2).toInt = q.2 := i_nat (by omega)
    have key : ∀ r, nx N lo hi tx p q.1 S1 = some r → M216 N lo hi S = some r := by
      intro r e
      rw [e] at f1
      have l : L216_26 N (lo, hi, Int32.ofNat p, m_sV S 26 0) = some r := t_lp_more _ _ _ (by omega) f1
      simp only [M216, m, b1, cond_true, h.2.1, l, Option.bind_some]
    have bad : J216_134 N (Int32.ofNat p) S1 = some (0, m_sV S1 3 (Int32.ofNat p)) := by
      simp only [J216_134, M213, c0, cond_true, J216_147, Option.bind_some]
      rfl
    have ag : m_agr [3, 22, 26] [] [] S S1 := m_agr_trans (m_agr_sV m_agr_refl (by decide) _) (m_agr_mono f4 (by decide) (by decide) (by decide))
    have wrong : ¬ numOK tx p q.1 q.2 lo hi → nx N lo hi tx p q.1 S1 = some (0, m_sV S1 3 (Int32.ofNat p)) → ∃ S', mst S' tx q.1 ∧ m_agr [3, 22, 26] [] [] S S' ∧ ((numOK tx p q.1 q.2 lo hi ∧ M216 N lo hi S = some (1, S') ∧ S'.1 26 = Int32.ofNat q.2 ∧ S'.1 3 = S.1 3) ∨ (¬ numOK tx p q.1 q.2 lo hi ∧ M216 N lo hi S = some (0, S') ∧ S'.1 3 = Int32.ofNat p)) := fun e1 e2 => ⟨m_sV S1 3 (Int32.ofNat p), f2, m_agr_sV ag (by decide) _, Or.inr ⟨e1, key _ e2, rfl⟩⟩
    by_cases hz : q.1 = p + 1 ∨ pk tx p ≠ 48
    · have m205 := M205_do (N := N) (x := S1.1 26) (lo := lo) (hi := hi) (S := S1)
      rw [f3, ev] at m205
      by_cases hr : lo.toInt ≤ q.2 ∧ (q.2 : Int) ≤ hi.toInt
      · rw [if_pos hr] at m205
        have hok := same hz hr.1 hr.2
        refine ⟨S1, f2, ag, Or.inl ⟨hok, key _ ?_, f3, ?_⟩⟩
        · unfold nx
          rw [if_pos hz]
          simp only [J216_115, b0, cond_false, f3, m205, b1, cond_true, J216_142, J216_147, Option.bind_some]
          rfl
        · exact f4.1 3 (by decide)
      · rw [if_neg hr] at m205
        refine wrong (fun z => hr ⟨z.2.2.2.1, z.2.2.2.2⟩) ?_
        unfold nx
        rw [if_pos hz]
        simp only [J216_115, b0, cond_false, f3, m205, bad, Option.bind_some]
    · refine wrong (fun z => hz z.2.2.1) ?_
      unfold nx
      rw [if_neg hz]
      simp only [J216_115, b1, cond_true, bad]
  · rw [if_neg hd] at m
    have hs : scn tx (tx.length - p) p 0 = (p, 0) := by
      cases tx.length - p with
      | zero => rfl
      | succ n => rw [scn, if_neg hd]
    rw [hs]
    refine ⟨m_sV S 3 (S.1 22), h, m_agr_sV m_agr_refl (by decide) _, Or.inr ⟨fun q => by have := q.1; omega, ?_, h.2.1⟩⟩
    simp only [M216, m, b0, cond_false, M213, Option.bind_some]
    rfl
end NUR
