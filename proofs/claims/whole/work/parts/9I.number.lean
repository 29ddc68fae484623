section NUN
variable {xt : mj_X} {ct : Nat → Value} {O : OR} {N z : Nat} {tx : List Int32} {st lv : Nat} {wp : Int32} {lo hi : Int32}
/-- a thrown IllegalArgumentException, and the place that was wrong -/
def pthr (z : Nat) (tx : List Int32) (p st lv p0 : Nat) (G : mj_H) {α : Type} (x : Option ((α ⊕ Nat) × mj_H)) : Prop := ∃ F, x = some (.inr G.2.1, mj_new F 6 (.inr (13, []))) ∧ pst z F tx p st lv (Int32.ofNat p0) ∧ (∀ q, q ≠ z + 5 → F.1 q = G.1 q) ∧ F.2 = G.2
theorem J99_66_do {G : mj_H} {p0 p v : Nat} (h : pst z G tx p st lv wp) (h0 : p0 ≤ p) (h00 : p0 ≤ tx.length) (hv : v ≤ 1000) : (numOK tx p0 p v lo hi ∧ J99_66 xt ct O N (z + 5) lo hi (Int32.ofNat p0) (Int32.ofNat v) G = some (.inl (Int32.ofNat v), G)) ∨ (¬ numOK tx p0 p v lo hi ∧ pthr z tx p st lv p0 G (J99_66 xt ct O N (z + 5) lo hi (Int32.ofNat p0) (Int32.ofNat v) G)) := by
  have hl := h.2.2.2.1.1
  have hp := h.2.2.2.2
  have k1 : gK G (z + 5) 1 = some () := gK_of h.1
  have g3 : gI G (z + 5) 1 3 = some (Int32.ofNat p) := gI_of h.1 rfl
  have g0 : gA G (z + 5) 1 0 = some (z + 6) := gA_of h.1 rfl
  have eD : (Int32.ofNat p - Int32.ofNat p0).toInt = p - p0 := by rw [i_sub (by rw [i_nat (by omega), i_nat (by omega)]; omega) (by rw [i_nat (by omega), i_nat (by omega)]; omega), i_nat (by omega), i_nat (by omega)]
  have ev : (Int32.ofNat v).toInt = v := i_nat (by omega)
  obtain ⟨F, n1, n2, n3, n4⟩ := C87_no (xt := xt) (ct := ct) (O := O) (N := N) h (Int32.ofNat p0)
  have yes := fun w => C87_yes (xt := xt) (ct := ct) (O := O) (N := N) (H := G) w (x := z + 5)
  have bad : J99_66 xt ct O N (z + 5) lo hi (Int32.ofNat p0) (Int32.ofNat v) G = some (.inr G.2.1, mj_new F 6 (.inr (13, []))) → ¬ numOK tx p0 p v lo hi → (numOK tx p0 p v lo hi ∧ J99_66 xt ct O N (z + 5) lo hi (Int32.ofNat p0) (Int32.ofNat v) G = some (.inl (Int32.ofNat v), G)) ∨ (¬ numOK tx p0 p v lo hi ∧ pthr z tx p st lv p0 G (J99_66 xt ct O N (z + 5) lo hi (Int32.ofNat p0) (Int32.ofNat v) G)) := fun e1 e2 => Or.inr ⟨e2, F, e1, n2, n3, n4⟩
  by_cases d1 : p ≤ p0
  · have b : mj_c1 .le (Int32.ofNat p - Int32.ofNat p0) = true := i_c1 (by show decide _ = true; apply decide_eq_true; omega)
    refine bad ?_ (fun q => by have := q.1; omega)
    simp only [J99_66, g3, b, cond_true, J99_90, J99_91, k1, n1, tc, Option.bind_some]
  have b : mj_c1 .le (Int32.ofNat p - Int32.ofNat p0) = false := i_c1 (by show decide _ = false; apply decide_eq_false; omega)
  by_cases d2 : p0 + 3 < p
  · have b2 : mj_c2 .gt (Int32.ofNat p - Int32.ofNat p0) 3 = true := i_c2 (by show decide _ = true; apply decide_eq_true; rw [q_3]; omega)
    refine bad ?_ (fun q => by have := q.2.1; omega)
    simp only [J99_66, g3, b, b2, cond_true, cond_false, J99_90, J99_91, k1, n1, tc, Option.bind_some]
  have b2 : mj_c2 .gt (Int32.ofNat p - Int32.ofNat p0) 3 = false := i_c2 (by show decide _ = false; apply decide_eq_false; rw [q_3]; omega)
  -- the range, once the digits are right
  have rng : (p = p0 + 1 ∨ pk tx p0 ≠ 48) → J99_66 xt ct O N (z + 5) lo hi (Int32.ofNat p0) (Int32.ofNat v) G = J99_118 xt ct O N (z + 5) lo hi (Int32.ofNat p0) (Int32.ofNat v) 1 (z + 5) G → (numOK tx p0 p v lo hi ∧ J99_66 xt ct O N (z + 5) lo hi (Int32.ofNat p0) (Int32.ofNat v) G = some (.inl (Int32.ofNat v), G)) ∨ (¬ numOK tx p0 p v lo hi ∧ pthr z tx p st lv p0 G (J99_66 xt ct O N (z + 5) lo hi (Int32.ofNat p0) (Int32.ofNat v) G)) := by
    intro hz e
    cases c1 : mj_c2 .lt (Int32.ofNat v) lo with
    | true =>
      have := of_decide_eq_true c1
      rw [Int32.lt_iff_toInt_lt, ev] at this
      refine bad ?_ (fun q => by have := q.2.2.2.1; omega)
      rw [e]
      simp only [J99_118, J99_139, J99_140, k1, yes, tc, c1, cond_true, n1, Option.bind_some]
    | false =>
      have h1 := of_decide_eq_false c1
      rw [Int32.lt_iff_toInt_lt, ev] at h1
      cases c2 : mj_c2 .gt (Int32.ofNat v) hi with
      | true =>
        have := of_decide_eq_true c2
        rw [Int32.lt_iff_toInt_lt, ev] at this
        refine bad ?_ (fun q => by have := q.2.2.2.2; omega)
        rw [e]
        simp only [J99_118, J99_139, J99_140, k1, yes, tc, c1, c2, cond_true, cond_false, n1, Option.bind_some]
      | false =>
        have h2 := of_decide_eq_false c2
        rw [Int32.lt_iff_toInt_lt, ev] at h2
        refine Or.inl ⟨⟨by omega, by omega, hz, by omega, by omega⟩, ?_⟩
        rw [e]
        simp only [J99_118, J99_140, k1, yes, tc, c1, c2, cond_false, Option.bind_some]
  by_cases d3 : p = p0 + 1
  · have b3 : mj_c2 .eq (Int32.ofNat p - Int32.ofNat p0) 1 = true := i_c2 (by show decide _ = true; apply decide_eq_true; rw [q_1]; omega)
    refine rng (Or.inl d3) ?_
    simp only [J99_66, g3, b, b2, cond_false, J99_91, k1, yes, tc, b3, cond_true, J99_113, Option.bind_some]
  · have b3 : mj_c2 .eq (Int32.ofNat p - Int32.ofNat p0) 1 = false := i_c2 (by show decide _ = false; apply decide_eq_false; rw [q_1]; omega)
    obtain ⟨-, ⟨cs, h2, h3, h4⟩, -⟩ := id h
    have e : tx[p0]? = some (pk tx p0) := by
      unfold pk
      rw [List.getElem?_eq_getElem (by omega)]
      rfl
    have a : aC xt G (z + 6) (Int32.ofNat p0) = some (pk tx p0) := aC_of h2 (by rw [i_nat (by omega)]; omega) (by rw [show (Int32.ofNat p0).toInt.toNat = p0 by rw [i_nat (by omega)]; omega]; exact h4 p0 _ e)
    by_cases d4 : pk tx p0 = 48
    · have b4 : mj_c2 .eq (pk tx p0) 48 = true := decide_eq_true d4
      refine bad ?_ (fun q => by rcases q.2.2.1 with r | r; exact d3 r; exact r d4)
      simp only [J99_66, g3, b, b2, cond_false, J99_91, k1, yes, tc, b3, g0, a, b4, cond_true, J99_118, n1, Option.bind_some]
    · have b4 : mj_c2 .eq (pk tx p0) 48 = false := decide_eq_false d4
      refine rng (Or.inr d4) ?_
      simp only [J99_66, g3, b, b2, cond_false, J99_91, k1, yes, tc, b3, g0, a, b4, J99_113, Option.bind_some]
/-- number, the class -/
theorem C99_do (hN : 2000 ≤ N) {H : mj_H} {p : Nat} (h : pst z H tx p st lv wp) : ∃ G, pst z G tx (scn tx (tx.length - p) p 0).1 st lv wp ∧ (∀ q, q ≠ z + 5 → G.1 q = H.1 q) ∧ G.2 = H.2 ∧ ((numOK tx p (scn tx (tx.length - p) p 0).1 (scn tx (tx.length - p) p 0).2 lo hi ∧ C99 xt ct O N (z + 5) lo hi H = some (.inl (Int32.ofNat (scn tx (tx.length - p) p 0).2), G)) ∨ (¬ numOK tx p (scn tx (tx.length - p) p 0).1 (scn tx (tx.length - p) p 0).2 lo hi ∧ pthr z tx (scn tx (tx.length - p) p 0).1 st lv p G (C99 xt ct O N (z + 5) lo hi H))) := by
  have hl := h.2.2.2.1.1
  have hp := h.2.2.2.2
  have g3 : gI H (z + 5) 1 3 = some (Int32.ofNat p) := gI_of h.1 rfl
  obtain ⟨G, e1, e2, e3, e4, e5, e6⟩ := L99_do (xt := xt) (ct := ct) (O := O) (N := N) (lo := lo) (hi := hi) (x3 := Int32.ofNat p) (tx.length - p) p 0 0 H (by omega) (by omega) (by omega) h
  refine ⟨G, e2, e3, e4, ?_⟩
  have hj := J99_66_do (xt := xt) (ct := ct) (O := O) (N := N) (lo := lo) (hi := hi) e2 e6 hp e5
  have key : C99 xt ct O N (z + 5) lo hi H = J99_66 xt ct O N (z + 5) lo hi (Int32.ofNat p) (Int32.ofNat (scn tx (tx.length - p) p 0).2) G := by
    have c : C99 xt ct O N (z + 5) lo hi H = L99_11 xt ct O N (z + 5, lo, hi, Int32.ofNat p, 0, 0, H) := by
      simp only [C99, g3, Option.bind_some]
    rw [c]
    rcases hj with ⟨-, hj⟩ | ⟨-, F, hj, -⟩
    · rw [hj] at e1 ⊢
      exact t_lp_more _ _ _ (by omega) e1
    · rw [hj] at e1 ⊢
      exact t_lp_more _ _ _ (by omega) e1
  rw [key]
  exact hj
end NUN
