section DCA
variable {N : Nat}
theorem ls_fD {φ : Nat → Nat} {j : Nat} : ∀ m, j ≤ m → (∀ f, j < f → f ≤ m → φ f = 0) → ls (fD m) φ = ls (fD j) φ := by
  intro m
  induction m with
  | zero => intro h _; rw [show j = 0 by omega]
  | succ m ih =>
    intro h hz
    by_cases e : j = m + 1
    · rw [e]
    · rw [fD, ls, hz (m + 1) (by omega) (by omega), Nat.zero_add]
      exact ih (by omega) (fun f h1 h2 => hz f h1 (by omega))
/-- one sum is added up -/
theorem L263_29_do {m s : Nat} {n k : Int32} (hm : m ≤ 20) (hs : s ≤ 120) {S : mS} {T : Nat → Nat} (h : nowR S T) : ∀ (d f : Nat), f + d = m + 1 → 1 ≤ f → t_lp (B263_29 N) (d + 1) (n, Int32.ofNat m, k, Int32.ofNat s, Int64.ofNat (ls (fD (f - 1)) (fun f => if f ≤ s then T (s - f) else 0)), Int32.ofNat f, S) = some (.inl (n, Int32.ofNat m, k, Int32.ofNat s + (-1), m_sB S 38 s (Int64.ofNat (ls (fD m) (fun f => if f ≤ s then T (s - f) else 0))))) := by
  have cs : 0 ≤ (Int32.ofNat s).toInt ∧ (Int32.ofNat s).toInt < mN 38 := n_at (by omega) (show s < 121 by omega)
  have ts := n_t (a := s) (by omega)
  intro d
  induction d with
  | zero =>
    intro f hf h1
    have c : mj_c2 .gt (Int32.ofNat f) (Int32.ofNat m) = true := (c_gt (by omega) (by omega)).trans (decide_eq_true (by omega))
    refine t_end ?_ _
    rw [show f - 1 = m by omega]
    simp only [B263_29, c, cond_true, J263_63, if_pos cs, ts, Option.map_some]
  | succ d ih =>
    intro f hf h1
    have c : mj_c2 .gt (Int32.ofNat f) (Int32.ofNat m) = false := (c_gt (by omega) (by omega)).trans (decide_eq_false (by omega))
    by_cases e : s < f
    · have c2 : mj_c2 .gt (Int32.ofNat f) (Int32.ofNat s) = true := (c_gt (by omega) (by omega)).trans (decide_eq_true (by omega))
      refine t_end ?_ _
      rw [ls_fD (j := f - 1) m (by omega) (fun g h1 _ => if_neg (by omega))]
      simp only [B263_29, c, c2, cond_true, cond_false, J263_63, if_pos cs, ts, Option.map_some]
    · have c2 : mj_c2 .gt (Int32.ofNat f) (Int32.ofNat s) = false := (c_gt (by omega) (by omega)).trans (decide_eq_false (by omega))
      have i1 : Int32.ofNat s - Int32.ofNat f = Int32.ofNat (s - f) := n_sub (by omega) (by omega)
      have c3 : 0 ≤ (Int32.ofNat (s - f)).toInt ∧ (Int32.ofNat (s - f)).toInt < mN 38 := n_at (by omega) (show s - f < 121 by omega)
      have t3 := n_t (a := s - f) (by omega)
      have v : S.2.2 38 (s - f) = Int64.ofNat (T (s - f)) := h _ (by omega)
      have w : ls (fD (f - 1)) (fun f => if f ≤ s then T (s - f) else 0) + T (s - f) = ls (fD (f + 1 - 1)) (fun f => if f ≤ s then T (s - f) else 0) := by
        obtain ⟨g, rfl⟩ : ∃ g, f = g + 1 := ⟨f - 1, by omega⟩
        show _ = ls (fD (g + 1)) _
        rw [fD, ls, if_pos (by omega), Nat.add_comm]
        rfl
      have e1 : B263_29 N (n, Int32.ofNat m, k, Int32.ofNat s, Int64.ofNat (ls (fD (f - 1)) (fun f => if f ≤ s then T (s - f) else 0)), Int32.ofNat f, S) = some (.inl (n, Int32.ofNat m, k, Int32.ofNat s, Int64.ofNat (ls (fD (f + 1 - 1)) (fun f => if f ≤ s then T (s - f) else 0)), Int32.ofNat (f + 1), S)) := by
        rw [← i_inc (by omega), ← w]
        simp only [B263_29, c, c2, cond_false, i1, if_pos c3, t3, v, l_add]
      rw [t_one e1]
      exact ih (f + 1) (by omega) (by omega)
/-- one die more -/
theorem L263_18_do (hN : 2000 ≤ N) {m j : Nat} {n k : Int32} (hm : m ≤ 20) : ∀ (s : Nat) (S : mS), s ≤ 120 → nowR S (fun x => if s < x then addN m (j + 1) x else addN m j x) → ∃ S', t_lp (B263_18 N) (s + 2) (n, Int32.ofNat m, k, Int32.ofNat s, S) = some (.inl (n, Int32.ofNat m, k + 1, S')) ∧ nowR S' (addN m (j + 1)) ∧ m_agr [] [] [38] S S' := by
  have bd : ∀ (s : Nat) (S : mS), s ≤ 120 → nowR S (fun x => if s < x then addN m (j + 1) x else addN m j x) → ∃ S', B263_18 N (n, Int32.ofNat m, k, Int32.ofNat s, S) = some (.inl (n, Int32.ofNat m, k, Int32.ofNat s + (-1), S')) ∧ nowR S' (fun x => if s ≤ x then addN m (j + 1) x else addN m j x) ∧ m_agr [] [] [38] S S' := by
    intro s S hs h
    have c : mj_c1 .lt (Int32.ofNat s) = false := c1_lt (by omega)
    have a := L263_29_do (N := N) (n := n) (k := k) hm hs h m 1 (by omega) (by omega)
    have lsE : ls (fD m) (fun f => if f ≤ s then (fun x => if s < x then addN m (j + 1) x else addN m j x) (s - f) else 0) = addN m (j + 1) s := by
      refine ls_congr _ (fun f hf => ?_)
      have := (fD_mem m f hf).1
      dsimp only
      rw [if_neg (show ¬ s < s - f by omega)]
    rw [lsE] at a
    refine ⟨m_sB S 38 s (Int64.ofNat (addN m (j + 1) s)), ?_, ?_, ag_38⟩
    · simp only [B263_18, c, cond_false]
      exact t_lp_more _ _ _ (by omega) a
    · intro x hx
      rw [now_set h x hx]
      congr 1
      dsimp only
      by_cases e : x = s
      · rw [if_pos e, if_pos (by omega), e]
      · rw [if_neg e]
        by_cases e2 : s < x
        · rw [if_pos e2, if_pos (by omega)]
        · rw [if_neg e2, if_neg (by omega)]
  intro s
  induction s with
  | zero =>
    intro S hs h
    obtain ⟨S1, a1, a2, a3⟩ := bd 0 S hs h
    refine ⟨S1, ?_, fun x hx => ?_, a3⟩
    · rw [t_one a1]
      have c : mj_c1 .lt (Int32.ofNat 0 + (-1)) = true := by decide
      exact t_end (by simp only [B263_18, c, cond_true]) _
    · rw [a2 x hx]
      dsimp only
      rw [if_pos (by omega)]
  | succ s ih =>
    intro S hs h
    obtain ⟨S1, a1, a2, a3⟩ := bd (s + 1) S hs h
    rw [n_dec (by omega) (by omega), Nat.add_sub_cancel] at a1
    obtain ⟨S2, b1, b2, b3⟩ := ih S1 (by omega) (fun x hx => by
      rw [a2 x hx]
      dsimp only
      by_cases e : s < x
      · rw [if_pos e, if_pos (by omega)]
      · rw [if_neg e, if_neg (by omega)])
    exact ⟨S2, by rw [t_one a1]; exact b1, b2, m_agr_trans a3 b3⟩
/-- dice added up -/
theorem M263_do (hN : 2000 ≤ N) {n m : Nat} (hn : n ≤ 6) (hm : m ≤ 20) {S : mS} (h : nowR S (fun _ => 0)) : ∃ S', M263 N (Int32.ofNat n) (Int32.ofNat m) S = some S' ∧ nowR S' (addN m n) ∧ m_agr [] [] [38] S S' := by
  have key : ∀ (d j : Nat) (S : mS), j + d = n → nowR S (addN m j) → ∃ S', t_lp (B263_9 N) (d + 1) (Int32.ofNat n, Int32.ofNat m, Int32.ofNat j, S) = some S' ∧ nowR S' (addN m n) ∧ m_agr [] [] [38] S S' := by
    intro d
    induction d with
    | zero =>
      intro j S hj h
      have c : mj_c2 .ge (Int32.ofNat j) (Int32.ofNat n) = true := (c_ge (by omega) (by omega)).trans (decide_eq_true (by omega))
      refine ⟨S, t_end (by simp only [B263_9, c, cond_true]) _, ?_, m_agr_refl⟩
      rw [show j = n by omega] at h
      exact h
    | succ d ih =>
      intro j S hj h
      have c : mj_c2 .ge (Int32.ofNat j) (Int32.ofNat n) = false := (c_ge (by omega) (by omega)).trans (decide_eq_false (by omega))
      obtain ⟨S1, a1, a2, a3⟩ := L263_18_do (N := N) (n := Int32.ofNat n) (k := Int32.ofNat j) (j := j) hN hm 120 S (by omega) (fun x hx => by rw [h x hx]; dsimp only; rw [if_neg (by omega)])
      obtain ⟨S2, b1, b2, b3⟩ := ih (j + 1) S1 (by omega) a2
      refine ⟨S2, ?_, b2, m_agr_trans a3 b3⟩
      rw [i_inc (by omega)] at a1
      have e : B263_9 N (Int32.ofNat n, Int32.ofNat m, Int32.ofNat j, S) = some (.inl (Int32.ofNat n, Int32.ofNat m, Int32.ofNat (j + 1), S1)) := by
        simp only [B263_9, c, cond_false]
        exact t_lp_more _ _ _ (by omega) a1
      rw [t_one e]
      exact b1
  obtain ⟨S', a1, a2, a3⟩ := key n 0 (m_sB S 38 0 (Int64.ofNat 1)) (by omega) (fun s hs => by
    rw [now_set h s hs]
    rfl)
  exact ⟨S', t_lp_more _ _ _ (by omega) a1, a2, m_agr_trans ag_38 a3⟩
end DCA
