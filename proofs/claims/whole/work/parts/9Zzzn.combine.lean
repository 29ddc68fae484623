/-! OPERATIONS, THE CLASS -/
section CMB
variable {xt : mj_X} {ct : Nat → Value} {O : OR} {N z : Nat}
theorem C159_do {H : mj_H} {a b : Int32} (hb : b ≠ 0) : C159 xt ct O N a b H = some (fdv a b, H) := by
  unfold C159 fdv
  rw [if_pos hb]
  by_cases c : 0 ≤ (a ^^^ b).toInt
  · have e : mj_c1 .ge (a ^^^ b) = true := i_c1 (decide_eq_true c)
    rw [if_pos c, e]
    rfl
  · have e : mj_c1 .ge (a ^^^ b) = false := i_c1 (decide_eq_false c)
    rw [if_neg c, e]
    by_cases d : a / b * b = a
    · have e2 : mj_c2 .eq (a / b * b) a = true := decide_eq_true d
      rw [if_pos d, e2]
      rfl
    · have e2 : mj_c2 .eq (a / b * b) a = false := decide_eq_false d
      rw [if_neg d, e2]
      rfl
theorem C160_do {H : mj_H} {a b : Int32} (hb : b ≠ 0) : C160 xt ct O N a b H = some (fmd a b, H) := by
  unfold C160 fmd
  rw [if_pos hb]
  by_cases c : 0 ≤ (a ^^^ b).toInt
  · have e : mj_c1 .ge (a ^^^ b) = true := i_c1 (decide_eq_true c)
    rw [if_pos c, e]
    rfl
  · have e : mj_c1 .ge (a ^^^ b) = false := i_c1 (decide_eq_false c)
    rw [if_neg c, e]
    by_cases d : a - a / b * b = 0
    · have e2 : mj_c1 .eq (a - a / b * b) = true := decide_eq_true d
      rw [if_pos d, e2]
      rfl
    · have e2 : mj_c1 .eq (a - a / b * b) = false := decide_eq_false d
      rw [if_neg d, e2]
      rfl
theorem C158_do {H : mj_H} {c a b : Int32} : C158 xt ct O N c a b H = some (opV c a b, H) := by
  unfold C158 opV
  have dz : ∀ x : Int32, mj_c1 .ne x = decide (¬ x = 0) := fun _ => rfl
  have de : ∀ x y : Int32, mj_c2 .eq x y = decide (x = y) := fun _ _ => rfl
  have dn : ∀ x y : Int32, mj_c2 .ne x y = decide (¬ x = y) := fun _ _ => rfl
  have dg : ∀ x y : Int32, mj_c2 .ge x y = decide (y.toInt ≤ x.toInt) := fun _ _ => i_c2 rfl
  have dl : ∀ x y : Int32, mj_c2 .le x y = decide (x.toInt ≤ y.toInt) := fun _ _ => i_c2 rfl
  simp only [dz, de, dn, dg, dl, Bool.cond_decide]
  by_cases h1 : c = 37
  · rw [if_pos h1, if_pos h1]
    by_cases hb : b = 0
    · rw [if_neg (fun k => k hb), if_pos hb]; rfl
    · rw [if_pos hb, if_neg hb, C160_do hb]; rfl
  rw [if_neg h1, if_neg h1]
  by_cases h2 : c = 42
  · rw [if_pos h2, if_pos h2]
  rw [if_neg h2, if_neg h2]
  by_cases h3 : c = 43
  · rw [if_pos h3, if_pos h3]
  rw [if_neg h3, if_neg h3]
  by_cases h4 : c = 45
  · rw [if_pos h4, if_pos h4]
  rw [if_neg h4, if_neg h4]
  by_cases h5 : c = 47
  · rw [if_pos h5, if_pos h5]
    by_cases hb : b = 0
    · rw [if_neg (fun k => k hb), if_pos hb]; rfl
    · rw [if_pos hb, if_neg hb, C159_do hb]; rfl
  rw [if_neg h5, if_neg h5]
  by_cases h6 : c = 60
  · rw [if_pos h6, if_pos h6]
    by_cases d : b.toInt ≤ a.toInt
    · rw [if_pos d, if_neg (by omega)]; rfl
    · rw [if_neg d, if_pos (by omega)]; rfl
  rw [if_neg h6, if_neg h6]
  by_cases h7 : c = 62
  · rw [if_pos h7, if_pos h7]
    by_cases d : a.toInt ≤ b.toInt
    · rw [if_pos d, if_neg (by omega)]; rfl
    · rw [if_neg d, if_pos (by omega)]; rfl
  rw [if_neg h7, if_neg h7]
  by_cases d : a = b
  · rw [if_neg (fun k => k d), if_pos d]; rfl
  · rw [if_pos d, if_neg d]; rfl
/-- negate -/
theorem bst_neg (hN : 100000 ≤ N) {H : mj_H} {mo : Int32} {l : Sp} {r : List Sp} (h : bst z H (l :: r) mo) (hn : r.length < 40) (h4 : szS (l :: r) ≤ 4598) : ∃ K, C161 xt ct O N (z + 8) H = some K ∧ bst z K (ngS l :: r) mo ∧ bfr z H K := by
  obtain ⟨ho, V, T, F, W, hr, hs, hv⟩ := h
  have key : ∀ (d i : Nat) (H : mj_H) (V : Nat → Int32), i + d = szS (l :: r) → bO z H (r.length + 1) 0 mo → bR z H V T F W (fun _ => 0) → ∃ K V', t_lp (B161_21 xt ct O N) (d + 1) (z + 8, Int32.ofNat i, H) = some K ∧ bO z K (r.length + 1) 0 mo ∧ bR z K V' T F W (fun _ => 0) ∧ (∀ p, V' p = if i ≤ p ∧ p < szS (l :: r) then -(V p) else V p) ∧ bfr z H K := by
    intro d
    induction d with
    | zero =>
      intro i H V hi ho hr
      have g3 : gI H (z + 8) 3 3 = some (Int32.ofNat (r.length + 1)) := gI_of ho rfl
      have g2 : gA H (z + 8) 3 2 = some (z + 11) := gA_of ho rfl
      have a : aI xt H (z + 11) (Int32.ofNat (r.length + 1)) = some (Int32.ofNat (szS (l :: r))) := by rw [← hs.1]; exact IR_get hr.2.2.1 (by omega) (by omega)
      have c : mj_c2 .ge (Int32.ofNat i) (Int32.ofNat (szS (l :: r))) = true := (c_ge (by omega) (by omega)).trans (decide_eq_true (by omega))
      exact ⟨H, V, t_end (by simp only [B161_21, g2, g3, a, c, cond_true, Option.bind_some]) _, ho, hr, fun p => (if_neg (by omega)).symm, bfr_refl⟩
    | succ d ih =>
      intro i H V hi ho hr
      have g3 : gI H (z + 8) 3 3 = some (Int32.ofNat (r.length + 1)) := gI_of ho rfl
      have g2 : gA H (z + 8) 3 2 = some (z + 11) := gA_of ho rfl
      have g0 : gA H (z + 8) 3 0 = some (z + 9) := gA_of ho rfl
      have a : aI xt H (z + 11) (Int32.ofNat (r.length + 1)) = some (Int32.ofNat (szS (l :: r))) := by rw [← hs.1]; exact IR_get hr.2.2.1 (by omega) (by omega)
      have c : mj_c2 .ge (Int32.ofNat i) (Int32.ofNat (szS (l :: r))) = false := (c_ge (by omega) (by omega)).trans (decide_eq_false (by omega))
      have v : aI xt H (z + 9) (Int32.ofNat i) = some (V i) := IR_get hr.1 (by omega) (by omega)
      obtain ⟨K1, b1, b2, b3⟩ := bR_V hr (i := i) (-(V i)) (by omega)
      obtain ⟨K, V', e1, e2, e3, e4, e5⟩ := ih (i + 1) K1 _ (by omega) (bO_fr ho b3 (by omega)) b2
      refine ⟨K, V', ?_, e2, e3, fun p => ?_, bfr_trans (bfr_of b3 (by omega)) e5⟩
      · have st : B161_21 xt ct O N (z + 8, Int32.ofNat i, H) = some (.inl (z + 8, Int32.ofNat (i + 1), K1)) := by
          rw [← i_inc (by omega)]
          simp only [B161_21, g2, g3, a, c, cond_false, g0, v, b1, Option.bind_some]
        rw [t_one st]
        exact e1
      · rw [e4]
        by_cases q : p = i
        · rw [if_neg (by omega), if_pos q, if_pos (by omega), q]
        · rw [if_neg q]
          by_cases q2 : i ≤ p ∧ p < szS (l :: r)
          · rw [if_pos (by omega), if_pos q2]
          · rw [if_neg (by omega), if_neg q2]
  have sz : szS (l :: r) = l.length + szS r := rfl
  obtain ⟨K, V', e1, e2, e3, e4, e5⟩ := key l.length (szS r) H V (by omega) ho hr
  have nl : (ngS l).length = l.length := by unfold ngS; rw [List.length_map]
  refine ⟨K, ?_, ⟨e2, V', T, F, W, e3, ⟨?_, hs.2⟩, ?_⟩, e5⟩
  · have g3 : gI H (z + 8) 3 3 = some (Int32.ofNat (r.length + 1)) := gI_of ho rfl
    have g2 : gA H (z + 8) 3 2 = some (z + 11) := gA_of ho rfl
    have c : mj_c2 .ge (Int32.ofNat (r.length + 1)) 1 = true := (c_ge (b := 1) (by omega) (by omega)).trans (decide_eq_true (by omega))
    have d1 : Int32.ofNat (r.length + 1) - 1 = Int32.ofNat r.length := n_sub (b := 1) (by omega) (by omega)
    have a : aI xt H (z + 11) (Int32.ofNat r.length) = some (Int32.ofNat (szS r)) := by rw [← stk_top hs.2]; exact IR_get hr.2.2.1 (by omega) (by omega)
    simp only [C161, g3, c, cond_true, g2, d1, a, L161_21, Option.bind_some]
    exact t_lp_more _ _ _ (by omega) e1
  · show T (r.length + 1) = Int32.ofNat ((ngS l).length + szS r)
    rw [nl]
    exact hs.1
  · intro i p hp
    have hp' : (fl r ++ ngS l)[i]? = some p := hp
    have hv' : ∀ (i : Nat) (p : Int32 × Nat), (fl r ++ l)[i]? = some p → V i = p.1 ∧ W i = Int64.ofNat p.2 := hv
    rw [e4]
    by_cases c : i < (fl r).length
    · rw [List.getElem?_append_left c] at hp'
      rw [fl_len] at c
      rw [if_neg (by omega)]
      exact hv' i p (by rw [List.getElem?_append_left (by rw [fl_len]; exact c)]; exact hp')
    · have hi := (List.getElem?_eq_some_iff.mp hp').1
      rw [List.length_append, nl, fl_len] at hi
      rw [List.getElem?_append_right (by omega)] at hp'
      unfold ngS at hp'
      rw [List.getElem?_map] at hp'
      obtain ⟨q, hq, hqp⟩ := Option.map_eq_some_iff.mp hp'
      have := hv' i q (by rw [List.getElem?_append_right (by omega)]; exact hq)
      rw [fl_len] at c
      rw [if_pos (by omega), this.1, this.2, ← hqp]
      exact ⟨rfl, rfl⟩
end CMB
