theorem set_take3 {bs : List Value} {p : Nat} {a b c : Value} (h : p + 3 ≤ bs.length) : (((bs.set (p + 2) c).set (p + 1) b).set p a).take (p + 3) = bs.take p ++ [a, b, c] := by
  apply List.ext_getElem?
  intro i
  rw [List.getElem?_take]
  by_cases h1 : i < p
  · rw [if_pos (by omega), List.getElem?_set_ne (by omega), List.getElem?_set_ne (by omega), List.getElem?_set_ne (by omega), List.getElem?_append_left (by rw [List.length_take]; omega), List.getElem?_take, if_pos h1]
  · rw [List.getElem?_append_right (by rw [List.length_take]; omega), List.length_take, Nat.min_eq_left (by omega)]
    by_cases h2 : i < p + 3
    · rw [if_pos h2]
      have : i = p ∨ i = p + 1 ∨ i = p + 2 := by omega
      rcases this with rfl | rfl | rfl
      · rw [List.getElem?_set_self (by rw [List.length_set, List.length_set]; omega), Nat.sub_self]
        rfl
      · rw [List.getElem?_set_ne (by omega), List.getElem?_set_self (by rw [List.length_set]; omega), show p + 1 - p = 1 by omega]
        rfl
      · rw [List.getElem?_set_ne (by omega), List.getElem?_set_ne (by omega), List.getElem?_set_self (by omega), show p + 2 - p = 2 by omega]
        rfl
    · rw [if_neg h2]
      obtain ⟨k, hk⟩ : ∃ k, i - p = k + 3 := ⟨i - p - 3, by omega⟩
      rw [hk]
      rfl
theorem set_take2 {bs : List Value} {p : Nat} {a b : Value} (h : p + 2 ≤ bs.length) : ((bs.set (p + 1) b).set p a).take (p + 2) = bs.take p ++ [a, b] := by
  apply List.ext_getElem?
  intro i
  rw [List.getElem?_take]
  by_cases h1 : i < p
  · rw [if_pos (by omega), List.getElem?_set_ne (by omega), List.getElem?_set_ne (by omega), List.getElem?_append_left (by rw [List.length_take]; omega), List.getElem?_take, if_pos h1]
  · rw [List.getElem?_append_right (by rw [List.length_take]; omega), List.length_take, Nat.min_eq_left (by omega)]
    by_cases h2 : i < p + 2
    · rw [if_pos h2]
      have : i = p ∨ i = p + 1 := by omega
      rcases this with rfl | rfl
      · rw [List.getElem?_set_self (by rw [List.length_set]; omega), Nat.sub_self]
        rfl
      · rw [List.getElem?_set_ne (by omega), List.getElem?_set_self (by omega), show p + 1 - p = 1 by omega]
        rfl
    · rw [if_neg h2]
      obtain ⟨k, hk⟩ : ∃ k, i - p = k + 2 := ⟨i - p - 2, by omega⟩
      rw [hk]
      rfl
theorem set_take1 {bs : List Value} {p : Nat} {a : Value} (h : p + 1 ≤ bs.length) : (bs.set p a).take (p + 1) = bs.take p ++ [a] := by
  apply List.ext_getElem?
  intro i
  rw [List.getElem?_take]
  by_cases h1 : i < p
  · rw [if_pos (by omega), List.getElem?_set_ne (by omega), List.getElem?_append_left (by rw [List.length_take]; omega), List.getElem?_take, if_pos h1]
  · rw [List.getElem?_append_right (by rw [List.length_take]; omega), List.length_take, Nat.min_eq_left (by omega)]
    by_cases h2 : i < p + 1
    · rw [if_pos h2]
      have : i = p := by omega
      subst this
      rw [List.getElem?_set_self (by omega), Nat.sub_self]
      rfl
    · rw [if_neg h2]
      obtain ⟨k, hk⟩ : ∃ k, i - p = k + 1 := ⟨i - p - 1, by omega⟩
      rw [hk]
      rfl
section GCH
variable {xt : mj_X} {ct : Nat → Value} {O : OR} {N : Nat}
/-- a byte is written -/
theorem sN_by {H : mj_H} {a i n : Nat} {bs : List Value} {x : Int32} (h : H.1 a = some (.inl (.byte, bs))) (hx : x.toInt = i) (hi : i < bs.length) (hn : n ≤ 100) : sN .byte H a x (Int32.ofNat n) = some (mj_put H a (.inl (.byte, bs.set i (.int (Int32.ofNat n))))) := by
  have t : x.toInt.toNat = i := by omega
  rw [sN_of h (by omega) (by omega), t, by_nar hn]
theorem C54_do (hN : 2000 ≤ N) {H : mj_H} {a p n : Nat} {bs : List Value} (hd : dgT xt ct H) (h : H.1 a = some (.inl (.byte, bs))) (hn : n ≤ 999) (hp : p + (dgs n).length ≤ bs.length) (hb : bs.length ≤ 100000) : ∃ r bs', C54 xt ct O N (Int32.ofNat n) (Int32.ofNat (p + (dgs n).length)) a H = some (r, mj_put H a (.inl (.byte, bs'))) ∧ bs'.length = bs.length ∧ bs'.take (p + (dgs n).length) = bs.take p ++ (dgs n).map Value.int ∧ (bs.all (fun v => fits .byte v) = true → bs'.all (fun v => fits .byte v) = true) := by
  have e : (Int32.ofNat n).toInt = n := i_nat (by omega)
  have em : (-(Int32.ofNat n)).toInt = -n := by
    rw [Int32.toInt_neg, e]
    exact i_bm (by omega) (by omega)
  have emm : (-(-(Int32.ofNat n))).toInt = n := by
    rw [Int32.toInt_neg, em]
    rw [i_bm (by omega) (by omega)]
    omega
  have c0 : mj_c1 .ge (Int32.ofNat n) = true := i_c1 (by show decide _ = true; apply decide_eq_true; omega)
  have n0 : mj_c1 .ne 0 = false := by decide
  have b0 : mj_c1 .eq 0 = true := by decide
  have qm100 : (-100 : Int32).toInt = -100 := rfl
  have qm9 : (-9 : Int32).toInt = -9 := rfl
  have go : ∀ (k m : Nat) (r : Int32 × mj_H), t_lp (B54_22 xt ct O N) k (-(Int32.ofNat n), a, Int32.ofNat m, 0, H) = some r → k ≤ 10 → C54 xt ct O N (Int32.ofNat n) (Int32.ofNat m) a H = some r := by
    intro k m r hk hk2
    unfold C54
    rw [c0]
    show J54_12 xt ct O N (Int32.ofNat n) a (Int32.ofNat m) 0 H = _
    unfold J54_12
    rw [n0]
    exact t_lp_more _ _ _ (by omega) hk
  have dE : ∀ m : Nat, m < 900000 → Int32.ofNat (m + 1) + (-1) = Int32.ofNat m := by
    intro m hm
    apply i_eq
    have e1 : (Int32.ofNat (m + 1)).toInt = m + 1 := i_nat (by omega)
    rw [i_add (by rw [q_m1, e1]; omega) (by rw [q_m1, e1]; omega), q_m1, e1]
    omega
  have eN : ∀ m : Nat, m < 900000 → (Int32.ofNat m).toInt = m := fun m hm => i_nat (by omega)
  have fitB : ∀ m : Nat, m ≤ 100 → fits .byte (.int (Int32.ofNat m)) = true := by
    intro m hm
    have em : (Int32.ofNat m).toInt = m := i_nat (by omega)
    show (decide (-128 ≤ Int32.ofNat m) && decide (Int32.ofNat m ≤ 127)) = true
    rw [decide_eq_true (Int32.le_iff_toInt_le.mpr (by rw [em, show (-128 : Int32).toInt = -128 from rfl]; omega)), decide_eq_true (Int32.le_iff_toInt_le.mpr (by rw [em, show (127 : Int32).toInt = 127 from rfl]; omega))]
    rfl
  have allS : ∀ (l : List Value) (i m : Nat), m ≤ 100 → l.all (fun v => fits .byte v) = true → (l.set i (.int (Int32.ofNat m))).all (fun v => fits .byte v) = true := by
    intro l i m hm hl
    rw [List.all_eq_true] at hl ⊢
    intro x hx
    rcases List.mem_or_eq_of_mem_set hx with q | q
    · exact hl x q
    · rw [q]
      exact fitB m hm
  unfold dgs at hp ⊢
  by_cases h1 : n < 10
  · rw [if_pos h1] at hp ⊢
    simp only [List.length_cons, List.length_nil] at hp ⊢
    obtain ⟨t2, t3, v2, v3, g2, g3, z2, z3⟩ := dg_get hd emm (by omega)
    have a1 := g2 H z2
    have s1 := sN_by (n := 48 + n % 10) h (eN p (by omega)) (by omega) (by omega)
    have d1 : mj_c2 .gt (-(Int32.ofNat n)) (-100) = true := i_c2 (by show decide _ = true; apply decide_eq_true; rw [em, qm100]; omega)
    have d2 : mj_c2 .ge (-(Int32.ofNat n)) (-9) = true := i_c2 (by show decide _ = true; apply decide_eq_true; rw [em, qm9]; omega)
    rw [show n % 10 = n by omega] at a1 s1
    refine ⟨Int32.ofNat p, bs.set p (.int (Int32.ofNat (48 + n))), go 1 _ _ (t_end ?_ 0) (by decide), List.length_set, ?_, fun hh => allS _ _ _ (by omega) hh⟩
    · simp only [B54_22, d1, cond_true, v2, a1, dE p (by omega), s1, d2, J54_104, b0, J54_118, Option.bind_some]
      rfl
    · exact set_take1 (by omega)
  · rw [if_neg h1] at hp ⊢
    by_cases h2 : n < 100
    · rw [if_pos h2] at hp ⊢
      simp only [List.length_cons, List.length_nil] at hp ⊢
      obtain ⟨t2, t3, v2, v3, g2, g3, z2, z3⟩ := dg_get hd emm (by omega)
      have a1 := g2 H z2
      have ne3 : t3 ≠ a := fun q => by rw [q, h] at z3; cases z3
      have s1 := sN_by (n := 48 + n % 10) h (eN (p + 1) (by omega)) (by omega) (by omega)
      have a2 := g3 (mj_put H a (.inl (.byte, bs.set (p + 1) (.int (Int32.ofNat (48 + n % 10)))))) (by rw [mj_put_ne ne3]; exact z3)
      have s2 := sN_by (H := mj_put H a (.inl (.byte, bs.set (p + 1) (.int (Int32.ofNat (48 + n % 10)))))) (n := 48 + n / 10) mj_put_eq (eN p (by omega)) (by rw [List.length_set]; omega) (by omega)
      rw [put_put] at s2
      have d1 : mj_c2 .gt (-(Int32.ofNat n)) (-100) = true := i_c2 (by show decide _ = true; apply decide_eq_true; rw [em, qm100]; omega)
      have d2 : mj_c2 .ge (-(Int32.ofNat n)) (-9) = false := i_c2 (by show decide _ = false; apply decide_eq_false; rw [em, qm9]; omega)
      refine ⟨Int32.ofNat p, (bs.set (p + 1) (.int (Int32.ofNat (48 + n % 10)))).set p (.int (Int32.ofNat (48 + n / 10))), go 1 _ _ (t_end ?_ 0) (by decide), by rw [List.length_set, List.length_set], set_take2 (by omega), fun hh => allS _ _ _ (by omega) (allS _ _ _ (by omega) hh)⟩
      simp only [B54_22, d1, cond_true, v2, a1, dE (p + 1) (by omega), dE p (by omega), s1, d2, cond_false, v3, a2, s2, J54_104, b0, J54_118, Option.bind_some]
      rfl
    · rw [if_neg h2] at hp ⊢
      simp only [List.length_cons, List.length_nil] at hp ⊢
      have q100 : (100 : Int32).toInt = 100 := rfl
      -- the quotient and the rest
      have eq : (-(Int32.ofNat n) / 100).toInt = -((n / 100 : Nat) : Int) := by
        have := Int32.toInt_div (-(Int32.ofNat n)) 100
        rw [this, em, q100]
        have k1 : Int.tdiv (-(n : Int)) 100 = -((n / 100 : Nat) : Int) := by
          rw [Int.neg_tdiv, Int.tdiv_eq_ediv_of_nonneg (by omega)]
          omega
        rw [k1]
        exact i_bm (by omega) (by omega)
      have er : (-(Int32.ofNat n) / 100 * 100 - -(Int32.ofNat n)).toInt = ((n % 100 : Nat) : Int) := by
        have m1 : (-(Int32.ofNat n) / 100 * 100).toInt = -((n / 100 : Nat) : Int) * 100 := by rw [i_mul (by rw [eq, q100]; omega) (by rw [eq, q100]; omega), eq, q100]
        rw [i_sub (by rw [m1, em]; omega) (by rw [m1, em]; omega), m1, em]
        omega
      obtain ⟨t2, t3, v2, v3, g2, g3, z2, z3⟩ := dg_get hd er (by omega)
      have ne3 : t3 ≠ a := fun q => by rw [q, h] at z3; cases z3
      have ne2 : t2 ≠ a := fun q => by rw [q, h] at z2; cases z2
      have a1 := g2 H z2
      have s1 := sN_by (n := 48 + n % 100 % 10) h (eN (p + 2) (by omega)) (by omega) (by omega)
      have a2 := g3 (mj_put H a (.inl (.byte, bs.set (p + 2) (.int (Int32.ofNat (48 + n % 100 % 10)))))) (by rw [mj_put_ne ne3]; exact z3)
      have s2 := sN_by (H := mj_put H a (.inl (.byte, bs.set (p + 2) (.int (Int32.ofNat (48 + n % 100 % 10)))))) (n := 48 + n % 100 / 10) mj_put_eq (eN (p + 1) (by omega)) (by rw [List.length_set]; omega) (by omega)
      rw [put_put] at s2
      have d1 : mj_c2 .gt (-(Int32.ofNat n)) (-100) = false := i_c2 (by show decide _ = false; apply decide_eq_false; rw [em, qm100]; omega)
      obtain ⟨G, hG⟩ : ∃ G, mj_put H a (.inl (.byte, (bs.set (p + 2) (.int (Int32.ofNat (48 + n % 100 % 10)))).set (p + 1) (.int (Int32.ofNat (48 + n % 100 / 10))))) = G := ⟨_, rfl⟩
      have b1 : B54_22 xt ct O N (-(Int32.ofNat n), a, Int32.ofNat (p + 3), 0, H) = some (.inl (-(Int32.ofNat n) / 100, a, Int32.ofNat (p + 1), 0, G)) := by
        simp only [B54_22, d1, cond_false, v2, a1, dE (p + 2) (by omega), dE (p + 1) (by omega), s1, v3, a2, s2, hG, Option.bind_some]
      -- the first digit
      have eqm : (-(-(Int32.ofNat n) / 100)).toInt = ((n / 100 : Nat) : Int) := by
        rw [Int32.toInt_neg, eq, i_bm (by omega) (by omega)]
        omega
      obtain ⟨t2', t3', v2', v3', g2', g3', z2', z3'⟩ := dg_get hd eqm (by omega)
      have et2 : t2' = t2 := by rw [v2] at v2'; exact (Option.some.inj v2').symm
      subst et2
      have a3 := g2' G (by rw [← hG, mj_put_ne ne2]; exact z2)
      have s3 := sN_by (H := G) (a := a) (bs := (bs.set (p + 2) (.int (Int32.ofNat (48 + n % 100 % 10)))).set (p + 1) (.int (Int32.ofNat (48 + n % 100 / 10)))) (n := 48 + n / 100 % 10) (by rw [← hG]; exact mj_put_eq) (eN p (by omega)) (by rw [List.length_set, List.length_set]; omega) (by omega)
      rw [← hG, put_put] at s3
      have d2 : mj_c2 .gt (-(Int32.ofNat n) / 100) (-100) = true := i_c2 (by show decide _ = true; apply decide_eq_true; rw [eq, qm100]; omega)
      have d3 : mj_c2 .ge (-(Int32.ofNat n) / 100) (-9) = true := i_c2 (by show decide _ = true; apply decide_eq_true; rw [eq, qm9]; omega)
      rw [hG] at s3
      refine ⟨Int32.ofNat p, ((bs.set (p + 2) (.int (Int32.ofNat (48 + n % 100 % 10)))).set (p + 1) (.int (Int32.ofNat (48 + n % 100 / 10)))).set p (.int (Int32.ofNat (48 + n / 100 % 10))), go 2 _ _ ((t_one b1 1).trans (t_end ?_ 0)) (by decide), by rw [List.length_set, List.length_set, List.length_set], ?_, fun hh => allS _ _ _ (by omega) (allS _ _ _ (by omega) (allS _ _ _ (by omega) hh))⟩
      · simp only [B54_22, d2, cond_true, v2, a3, dE p (by omega), s3, d3, J54_104, b0, J54_118, Option.bind_some]
        rfl
      · have := set_take3 (bs := bs) (p := p) (a := .int (Int32.ofNat (48 + n / 100 % 10))) (b := .int (Int32.ofNat (48 + n % 100 / 10))) (c := .int (Int32.ofNat (48 + n % 100 % 10))) (by omega)
        rw [this, show n / 100 % 10 = n / 100 by omega, show n % 100 / 10 = n / 10 % 10 by omega, show n % 100 % 10 = n % 10 by omega]
        rfl
end GCH
