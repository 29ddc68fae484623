/-! THE DRAFT IS KEPT IN A SLOT -/
section KEP
variable {N : Nat}
/-- i statements' rows are copied -/
def cpR (S0 S : mS) (sl i : Nat) : Prop := S.1 = S0.1 ∧ (∀ j p, S.2.1 j p = if (6 ≤ j ∧ j ≤ 11) ∧ 24 * sl ≤ p ∧ p < 24 * sl + i then S0.2.1 j (72 + (p - 24 * sl)) else S0.2.1 j p) ∧ ∀ j p, S.2.2 j p = if j = 12 ∧ 24 * sl ≤ p ∧ p < 24 * sl + i then S0.2.2 12 (72 + (p - 24 * sl)) else S0.2.2 j p
/-- i nodes' rows are copied -/
def cqR (S0 S : mS) (sl i : Nat) : Prop := S.1 = S0.1 ∧ (∀ j p, S.2.1 j p = if (13 ≤ j ∧ j ≤ 20) ∧ 160 * sl ≤ p ∧ p < 160 * sl + i then S0.2.1 j (480 + (p - 160 * sl)) else S0.2.1 j p) ∧ S.2.2 = S0.2.2
theorem i_160 {s : Int32} {j k : Nat} (hs : s.toInt = j) (hj : j < 4) (hk : k ≤ 160) : (160 * s + Int32.ofNat k).toInt = 160 * j + k := by
  have e : (160 : Int32).toInt = 160 := rfl
  rw [i_add (by rw [i_mul (by rw [e]; omega) (by rw [e]; omega), e, i_nat (by omega)]; omega) (by rw [i_mul (by rw [e]; omega) (by rw [e]; omega), e, i_nat (by omega)]; omega), i_mul (by rw [e]; omega) (by rw [e]; omega), e, hs, i_nat (by omega)]
theorem i_480 {k : Nat} (hk : k ≤ 160) : (480 + Int32.ofNat k).toInt = 480 + k := by
  have e : (480 : Int32).toInt = 480 := rfl
  rw [i_add (by rw [e, i_nat (by omega)]; omega) (by rw [e, i_nat (by omega)]; omega), e, i_nat (by omega)]
theorem L243_139_do {S0 : mS} {s : Int32} {sl : Nat} (hs : s.toInt = sl) (hl : sl < 3) : ∀ (n i : Nat) (S : mS), i + n = 160 → cqR S0 S sl i → ∃ S', t_lp (B243_139 N) (n + 1) (s, Int32.ofNat i, S) = some S' ∧ cqR S0 S' sl 160 := by
  intro n
  induction n with
  | zero =>
    intro i S hi h
    have c : mj_c2 .ge (Int32.ofNat i) 160 = true := i_c2 (by show decide _ = true; apply decide_eq_true; rw [i_nat (by omega), show (160 : Int32).toInt = 160 from rfl]; omega)
    have : i = 160 := by omega
    subst this
    exact ⟨S, t_end (by simp only [B243_139, c, cond_true]) _, h⟩
  | succ n ih =>
    intro i S hi h
    have c : mj_c2 .ge (Int32.ofNat i) 160 = false := i_c2 (by show decide _ = false; apply decide_eq_false; rw [i_nat (by omega), show (160 : Int32).toInt = 160 from rfl]; omega)
    have e1 := i_480 (k := i) (by omega)
    have e2 := i_160 (k := i) hs (by omega) (by omega)
    have t1 : (480 + Int32.ofNat i).toInt.toNat = 480 + i := by omega
    have t2 : (160 * s + Int32.ofNat i).toInt.toNat = 160 * sl + i := by omega
    have cA : ∀ j, 13 ≤ j → j ≤ 20 → mN j = 640 := by
      intro j h1 h2
      have : j = 13 ∨ j = 14 ∨ j = 15 ∨ j = 16 ∨ j = 17 ∨ j = 18 ∨ j = 19 ∨ j = 20 := by omega
      rcases this with rfl | rfl | rfl | rfl | rfl | rfl | rfl | rfl <;> rfl
    have ca : ∀ j, 13 ≤ j → j ≤ 20 → 0 ≤ (480 + Int32.ofNat i).toInt ∧ (480 + Int32.ofNat i).toInt < mN j := fun j h1 h2 => by rw [cA j h1 h2]; omega
    have cb : ∀ j, 13 ≤ j → j ≤ 20 → 0 ≤ (160 * s + Int32.ofNat i).toInt ∧ (160 * s + Int32.ofNat i).toInt < mN j := fun j h1 h2 => by rw [cA j h1 h2]; omega
    obtain ⟨S', hS'⟩ : ∃ S', m_sA (m_sA (m_sA (m_sA (m_sA (m_sA (m_sA (m_sA S 13 (160 * sl + i) (S.2.1 13 (480 + i))) 14 (160 * sl + i) (S.2.1 14 (480 + i))) 15 (160 * sl + i) (S.2.1 15 (480 + i))) 16 (160 * sl + i) (S.2.1 16 (480 + i))) 17 (160 * sl + i) (S.2.1 17 (480 + i))) 18 (160 * sl + i) (S.2.1 18 (480 + i))) 19 (160 * sl + i) (S.2.1 19 (480 + i))) 20 (160 * sl + i) (S.2.1 20 (480 + i)) = S' := ⟨_, rfl⟩
    have fB : B243_139 N (s, Int32.ofNat i, S) = some (.inl (s, Int32.ofNat (i + 1), S')) := by
      rw [← i_inc (k := i) (by omega)]
      simp only [B243_139, c, cond_false, if_pos (ca 13 (by decide) (by decide)), if_pos (ca 14 (by decide) (by decide)), if_pos (ca 15 (by decide) (by decide)), if_pos (ca 16 (by decide) (by decide)), if_pos (ca 17 (by decide) (by decide)), if_pos (ca 18 (by decide) (by decide)), if_pos (ca 19 (by decide) (by decide)), if_pos (ca 20 (by decide) (by decide)), if_pos (cb 13 (by decide) (by decide)), if_pos (cb 14 (by decide) (by decide)), if_pos (cb 15 (by decide) (by decide)), if_pos (cb 16 (by decide) (by decide)), if_pos (cb 17 (by decide) (by decide)), if_pos (cb 18 (by decide) (by decide)), if_pos (cb 19 (by decide) (by decide)), if_pos (cb 20 (by decide) (by decide)), t1, t2, hS']
    have val : ∀ j p, S'.2.1 j p = if (13 ≤ j ∧ j ≤ 20) ∧ p = 160 * sl + i then S.2.1 j (480 + i) else S.2.1 j p := by
      intro j p
      rw [← hS']
      show (if j = 20 ∧ p = 160 * sl + i then S.2.1 20 (480 + i) else if j = 19 ∧ p = 160 * sl + i then S.2.1 19 (480 + i) else if j = 18 ∧ p = 160 * sl + i then S.2.1 18 (480 + i) else if j = 17 ∧ p = 160 * sl + i then S.2.1 17 (480 + i) else if j = 16 ∧ p = 160 * sl + i then S.2.1 16 (480 + i) else if j = 15 ∧ p = 160 * sl + i then S.2.1 15 (480 + i) else if j = 14 ∧ p = 160 * sl + i then S.2.1 14 (480 + i) else if j = 13 ∧ p = 160 * sl + i then S.2.1 13 (480 + i) else S.2.1 j p) = _
      by_cases hp : p = 160 * sl + i
      · by_cases hj : 13 ≤ j ∧ j ≤ 20
        · have C : (13 ≤ j ∧ j ≤ 20) ∧ p = 160 * sl + i := ⟨hj, hp⟩
          rw [if_pos C]
          have : j = 13 ∨ j = 14 ∨ j = 15 ∨ j = 16 ∨ j = 17 ∨ j = 18 ∨ j = 19 ∨ j = 20 := by omega
          rcases this with rfl | rfl | rfl | rfl | rfl | rfl | rfl | rfl <;> simp [hp]
        · have C : ¬ ((13 ≤ j ∧ j ≤ 20) ∧ p = 160 * sl + i) := fun q => hj q.1
          rw [if_neg C, if_neg (by omega), if_neg (by omega), if_neg (by omega), if_neg (by omega), if_neg (by omega), if_neg (by omega), if_neg (by omega), if_neg (by omega)]
      · rw [if_neg (fun q => hp q.2), if_neg (fun q => hp q.2), if_neg (fun q => hp q.2), if_neg (fun q => hp q.2), if_neg (fun q => hp q.2), if_neg (fun q => hp q.2), if_neg (fun q => hp q.2), if_neg (fun q => hp q.2), if_neg (fun q => hp q.2)]
    rw [t_one fB]
    refine ih (i + 1) S' (by omega) ⟨by rw [← hS']; exact h.1, fun j p => ?_, by rw [← hS']; exact h.2.2⟩
    rw [val, h.2.1 j p, h.2.1 j (480 + i)]
    by_cases hj : 13 ≤ j ∧ j ≤ 20
    · by_cases hp : p = 160 * sl + i
      · rw [if_pos ⟨hj, hp⟩, if_neg (by omega), if_pos ⟨hj, by omega, by omega⟩, hp, show 160 * sl + i - 160 * sl = i by omega]
      · rw [if_neg (fun q => hp q.2)]
        by_cases hr : 160 * sl ≤ p ∧ p < 160 * sl + i
        · rw [if_pos ⟨hj, hr⟩, if_pos ⟨hj, by omega, by omega⟩]
        · rw [if_neg (fun q => hr q.2), if_neg (fun q => hr ⟨q.2.1, by omega⟩)]
    · rw [if_neg (fun q => hj q.1), if_neg (fun q => hj q.1), if_neg (fun q => hj q.1)]
theorem L243_21_do {S0 : mS} {s : Int32} {sl : Nat} (hN : 2000 ≤ N) (hs : s.toInt = sl) (hl : sl < 3) : ∀ (n i : Nat) (S : mS), i + n = 24 → cpR S0 S sl i → ∃ S1 S', t_lp (B243_21 N) (n + 1) (s, Int32.ofNat i, S) = some S' ∧ cpR S0 S1 sl 24 ∧ cqR S1 S' sl 160 := by
  intro n
  induction n with
  | zero =>
    intro i S hi h
    have c : mj_c2 .ge (Int32.ofNat i) 24 = true := i_c2 (by show decide _ = true; apply decide_eq_true; rw [i_nat (by omega), show (24 : Int32).toInt = 24 from rfl]; omega)
    have : i = 24 := by omega
    subst this
    obtain ⟨S', a1, a2⟩ := L243_139_do (N := N) (S0 := S) hs hl 160 0 S rfl ⟨rfl, fun j p => by rw [if_neg (by omega)], rfl⟩
    refine ⟨S, S', ?_, h, a2⟩
    refine (t_lp_map (x := L243_139 N (s, 0, S)) ?_).trans (t_lp_more _ _ _ (by omega) a1)
    simp only [B243_21, c, cond_true]
  | succ n ih =>
    intro i S hi h
    have c : mj_c2 .ge (Int32.ofNat i) 24 = false := i_c2 (by show decide _ = false; apply decide_eq_false; rw [i_nat (by omega), show (24 : Int32).toInt = 24 from rfl]; omega)
    have e1 := i_72 (i := i) (by omega)
    have e2 := i_24 (i := Int32.ofNat i) hs (by omega) (i_nat (by omega)) (by omega)
    have t1 : (72 + Int32.ofNat i).toInt.toNat = 72 + i := by omega
    have t2 : (24 * s + Int32.ofNat i).toInt.toNat = 24 * sl + i := by omega
    have cA : ∀ j, 6 ≤ j → j ≤ 12 → mN j = 96 := by
      intro j h1 h2
      have : j = 6 ∨ j = 7 ∨ j = 8 ∨ j = 9 ∨ j = 10 ∨ j = 11 ∨ j = 12 := by omega
      rcases this with rfl | rfl | rfl | rfl | rfl | rfl | rfl <;> rfl
    have ca : ∀ j, 6 ≤ j → j ≤ 12 → 0 ≤ (72 + Int32.ofNat i).toInt ∧ (72 + Int32.ofNat i).toInt < mN j := fun j h1 h2 => by rw [cA j h1 h2]; omega
    have cb : ∀ j, 6 ≤ j → j ≤ 12 → 0 ≤ (24 * s + Int32.ofNat i).toInt ∧ (24 * s + Int32.ofNat i).toInt < mN j := fun j h1 h2 => by rw [cA j h1 h2]; omega
    obtain ⟨S', hS'⟩ : ∃ S', m_sB (m_sA (m_sA (m_sA (m_sA (m_sA (m_sA S 6 (24 * sl + i) (S.2.1 6 (72 + i))) 7 (24 * sl + i) (S.2.1 7 (72 + i))) 8 (24 * sl + i) (S.2.1 8 (72 + i))) 9 (24 * sl + i) (S.2.1 9 (72 + i))) 10 (24 * sl + i) (S.2.1 10 (72 + i))) 11 (24 * sl + i) (S.2.1 11 (72 + i))) 12 (24 * sl + i) (S.2.2 12 (72 + i)) = S' := ⟨_, rfl⟩
    have fB : B243_21 N (s, Int32.ofNat i, S) = some (.inl (s, Int32.ofNat (i + 1), S')) := by
      rw [← i_inc (k := i) (by omega)]
      simp only [B243_21, c, cond_false, if_pos (ca 6 (by decide) (by decide)), if_pos (ca 7 (by decide) (by decide)), if_pos (ca 8 (by decide) (by decide)), if_pos (ca 9 (by decide) (by decide)), if_pos (ca 10 (by decide) (by decide)), if_pos (ca 11 (by decide) (by decide)), if_pos (ca 12 (by decide) (by decide)), if_pos (cb 6 (by decide) (by decide)), if_pos (cb 7 (by decide) (by decide)), if_pos (cb 8 (by decide) (by decide)), if_pos (cb 9 (by decide) (by decide)), if_pos (cb 10 (by decide) (by decide)), if_pos (cb 11 (by decide) (by decide)), if_pos (cb 12 (by decide) (by decide)), t1, t2, hS']
    have val : ∀ j p, S'.2.1 j p = if (6 ≤ j ∧ j ≤ 11) ∧ p = 24 * sl + i then S.2.1 j (72 + i) else S.2.1 j p := by
      intro j p
      rw [← hS']
      show (if j = 11 ∧ p = 24 * sl + i then S.2.1 11 (72 + i) else if j = 10 ∧ p = 24 * sl + i then S.2.1 10 (72 + i) else if j = 9 ∧ p = 24 * sl + i then S.2.1 9 (72 + i) else if j = 8 ∧ p = 24 * sl + i then S.2.1 8 (72 + i) else if j = 7 ∧ p = 24 * sl + i then S.2.1 7 (72 + i) else if j = 6 ∧ p = 24 * sl + i then S.2.1 6 (72 + i) else S.2.1 j p) = _
      by_cases hp : p = 24 * sl + i
      · by_cases hj : 6 ≤ j ∧ j ≤ 11
        · have C : (6 ≤ j ∧ j ≤ 11) ∧ p = 24 * sl + i := ⟨hj, hp⟩
          rw [if_pos C]
          have : j = 6 ∨ j = 7 ∨ j = 8 ∨ j = 9 ∨ j = 10 ∨ j = 11 := by omega
          rcases this with rfl | rfl | rfl | rfl | rfl | rfl <;> simp [hp]
        · have C : ¬ ((6 ≤ j ∧ j ≤ 11) ∧ p = 24 * sl + i) := fun q => hj q.1
          rw [if_neg C, if_neg (by omega), if_neg (by omega), if_neg (by omega), if_neg (by omega), if_neg (by omega), if_neg (by omega)]
      · rw [if_neg (fun q => hp q.2), if_neg (fun q => hp q.2), if_neg (fun q => hp q.2), if_neg (fun q => hp q.2), if_neg (fun q => hp q.2), if_neg (fun q => hp q.2), if_neg (fun q => hp q.2)]
    have valB : ∀ j p, S'.2.2 j p = if j = 12 ∧ p = 24 * sl + i then S.2.2 12 (72 + i) else S.2.2 j p := by
      intro j p
      rw [← hS']
      rfl
    rw [t_one fB]
    refine ih (i + 1) S' (by omega) ⟨by rw [← hS']; exact h.1, fun j p => ?_, fun j p => ?_⟩
    · rw [val, h.2.1 j p, h.2.1 j (72 + i)]
      by_cases hj : 6 ≤ j ∧ j ≤ 11
      · by_cases hp : p = 24 * sl + i
        · rw [if_pos ⟨hj, hp⟩, if_neg (by omega), if_pos ⟨hj, by omega, by omega⟩, hp, show 24 * sl + i - 24 * sl = i by omega]
        · rw [if_neg (fun q => hp q.2)]
          by_cases hr : 24 * sl ≤ p ∧ p < 24 * sl + i
          · rw [if_pos ⟨hj, hr⟩, if_pos ⟨hj, by omega, by omega⟩]
          · rw [if_neg (fun q => hr q.2), if_neg (fun q => hr ⟨q.2.1, by omega⟩)]
      · rw [if_neg (fun q => hj q.1), if_neg (fun q => hj q.1), if_neg (fun q => hj q.1)]
    · rw [valB, h.2.2 j p, h.2.2 12 (72 + i)]
      by_cases hj : j = 12
      · subst hj
        by_cases hp : p = 24 * sl + i
        · rw [if_pos ⟨rfl, hp⟩, if_neg (by omega), if_pos ⟨rfl, by omega, by omega⟩, hp, show 24 * sl + i - 24 * sl = i by omega]
        · rw [if_neg (fun q => hp q.2)]
          by_cases hr : 24 * sl ≤ p ∧ p < 24 * sl + i
          · rw [if_pos ⟨rfl, hr⟩, if_pos ⟨rfl, by omega, by omega⟩]
          · rw [if_neg (fun q => hr q.2), if_neg (fun q => hr ⟨q.2.1, by omega⟩)]
      · rw [if_neg (fun q => hj q.1), if_neg (fun q => hj q.1), if_neg (fun q => hj q.1)]
/-- what has become of the rows -/
theorem M243_do (hN : 2000 ≤ N) {S : mS} {s : Int32} {sl : Nat} (hs : s.toInt = sl) (hl : sl < 3) : ∃ S', M243 N s S = some S' ∧ S'.1 = S.1 ∧ S'.2.1 4 sl = 1 ∧ S'.2.1 5 sl = S.2.1 5 3 ∧ (∀ j i, 6 ≤ j → j ≤ 11 → i < 24 → S'.2.1 j (24 * sl + i) = S.2.1 j (72 + i)) ∧ (∀ j i, 13 ≤ j → j ≤ 20 → i < 160 → S'.2.1 j (160 * sl + i) = S.2.1 j (480 + i)) ∧ (∀ i, i < 24 → S'.2.2 12 (24 * sl + i) = S.2.2 12 (72 + i)) ∧ (∀ j p, ¬ ((j = 4 ∨ j = 5) ∧ p = sl) → ¬ ((6 ≤ j ∧ j ≤ 11) ∧ 24 * sl ≤ p ∧ p < 24 * sl + 24) → ¬ ((13 ≤ j ∧ j ≤ 20) ∧ 160 * sl ≤ p ∧ p < 160 * sl + 160) → S'.2.1 j p = S.2.1 j p) ∧ ∀ j p, ¬ (j = 12 ∧ 24 * sl ≤ p ∧ p < 24 * sl + 24) → S'.2.2 j p = S.2.2 j p := by
  have t : s.toInt.toNat = sl := by omega
  have c4 : 0 ≤ s.toInt ∧ s.toInt < mN 4 := by rw [show mN 4 = 4 from rfl]; omega
  have c5 : 0 ≤ s.toInt ∧ s.toInt < mN 5 := by rw [show mN 5 = 4 from rfl]; omega
  obtain ⟨S0, hS0⟩ : ∃ S0, m_sA (m_sA S 4 sl 1) 5 sl (S.2.1 5 3) = S0 := ⟨_, rfl⟩
  have v0 : ∀ j p, S0.2.1 j p = if j = 5 ∧ p = sl then S.2.1 5 3 else if j = 4 ∧ p = sl then 1 else S.2.1 j p := fun j p => by rw [← hS0]; rfl
  obtain ⟨S1, S', a1, ⟨a2, a3, a4⟩, a5, a6, a7⟩ := L243_21_do (N := N) (S0 := S0) hN hs hl 24 0 S0 rfl ⟨rfl, fun j p => by rw [if_neg (by omega)], fun j p => by rw [if_neg (by omega)]⟩
  refine ⟨S', ?_, by rw [a5, a2, ← hS0]; rfl, ?_, ?_, ?_, ?_, ?_, ?_, ?_⟩
  · unfold M243
    rw [if_pos c4, if_pos c5, t, hS0]
    exact t_lp_more _ _ _ (by omega) a1
  · rw [a6, if_neg (by omega), a3, if_neg (by omega), v0, if_neg (by omega), if_pos ⟨rfl, rfl⟩]
  · rw [a6, if_neg (by omega), a3, if_neg (by omega), v0, if_pos ⟨rfl, rfl⟩]
  · intro j i j1 j2 hi
    rw [a6, if_neg (by omega), a3, if_pos ⟨⟨j1, j2⟩, by omega, by omega⟩, show 24 * sl + i - 24 * sl = i by omega, v0, if_neg (by omega), if_neg (by omega)]
  · intro j i j1 j2 hi
    rw [a6, if_pos ⟨⟨j1, j2⟩, by omega, by omega⟩, show 160 * sl + i - 160 * sl = i by omega, a3, if_neg (by omega), v0, if_neg (by omega), if_neg (by omega)]
  · intro i hi
    rw [a7, a4, if_pos ⟨rfl, by omega, by omega⟩, show 24 * sl + i - 24 * sl = i by omega, ← hS0]
    rfl
  · intro j p h1 h2 h3
    rw [a6, if_neg h3, a3, if_neg h2, v0, if_neg (fun q => h1 ⟨Or.inr q.1, q.2⟩), if_neg (fun q => h1 ⟨Or.inl q.1, q.2⟩)]
  · intro j p h1
    rw [a7, a4, if_neg h1, ← hS0]
    rfl
end KEP
