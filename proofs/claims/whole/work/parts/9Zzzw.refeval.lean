/-! AN EXPRESSION WORKED OUT, THE REFERENCE -/
/-- what it looks at: nodes, faces, dice tables, one of the states -/
def eF (S : mS) (sl s lo hi : Nat) (nds : List Nd) (fcs : List Int32) (set row : Nat) (st : Nat → Int32) : Prop := (∀ (i : Nat) (nd : Nd), nds[i]? = some nd → ndW (ndAt S (160 * sl + i)) nd) ∧ (∀ (i : Nat) (x : Int32), fcs[i]? = some x → S.2.1 20 (160 * sl + i) = x) ∧ S.2.1 8 (24 * sl + s) = Int32.ofNat lo ∧ S.2.1 9 (24 * sl + s) = Int32.ofNat hi ∧ tab S sl nds lo (hi + 1) 40 ∧ ∀ k, k < 6 → S.2.1 47 (384 * set + 6 * row + k) = st k
theorem eF_ag {S S' : mS} {sl s lo hi set row : Nat} {nds : List Nd} {fcs : List Int32} {st : Nat → Int32} (h : eF S sl s lo hi nds fcs set row st) {F A B : List Nat} (a : m_agr F A B S S') (c : (∀ j, j ∈ A → ¬ (13 ≤ j ∧ j ≤ 20) ∧ j ≠ 8 ∧ j ≠ 9 ∧ j ≠ 47) ∧ 21 ∉ B) : eF S' sl s lo hi nds fcs set row st := by
  obtain ⟨h1, h2, h3, h4, h5, h6⟩ := h
  have no : ∀ j, (13 ≤ j ∧ j ≤ 20) ∨ j = 8 ∨ j = 9 ∨ j = 47 → S'.2.1 j = S.2.1 j := fun j hj => a.2.1 j (fun w => by have := c.1 j w; omega)
  have nd : ∀ i, ndAt S' i = ndAt S i := fun i => by
    unfold ndAt
    rw [no 13 (by omega), no 14 (by omega), no 15 (by omega), no 16 (by omega), no 17 (by omega), no 18 (by omega), no 19 (by omega)]
  refine ⟨fun i x hx => by rw [nd]; exact h1 i x hx, fun i x hx => by rw [no 20 (by omega)]; exact h2 i x hx, by rw [no 8 (by omega)]; exact h3, by rw [no 9 (by omega)]; exact h4, fun i nd n m k pick x1 x2 x3 x4 => ?_, fun k hk => by rw [no 47 (by omega)]; exact h6 k hk⟩
  obtain ⟨it, y1, y2, y3⟩ := h5 i nd n m k pick x1 x2 x3 x4
  refine ⟨it, y1, by rw [no 18 (by omega)]; exact y2, fun s hs => ?_⟩
  rw [a.2.2 21 c.2]
  exact y3 s hs
theorem wF_c : (∀ j, j ∈ [41, 43] → ¬ (13 ≤ j ∧ j ≤ 20) ∧ j ≠ 8 ∧ j ≠ 9 ∧ j ≠ 47) ∧ 21 ∉ [42, 46] := by decide
section REV
variable {N : Nat}
theorem ix_160 {sl i : Nat} : 160 * Int32.ofNat sl + Int32.ofNat i = Int32.ofNat (160 * sl + i) := by rw [show (160 : Int32) = Int32.ofNat 160 from rfl, n_mul, n_add]
theorem ix_24 {sl i : Nat} : 24 * Int32.ofNat sl + Int32.ofNat i = Int32.ofNat (24 * sl + i) := by rw [show (24 : Int32) = Int32.ofNat 24 from rfl, n_mul, n_add]
theorem ix_384 {a b k : Nat} : 384 * Int32.ofNat a + 6 * Int32.ofNat b + Int32.ofNat k = Int32.ofNat (384 * a + 6 * b + k) := by rw [show (384 : Int32) = Int32.ofNat 384 from rfl, show (6 : Int32) = Int32.ofNat 6 from rfl, n_mul, n_mul, n_add, n_add]
/-- dice -/
theorem L280_161_do (hN : 100000 ≤ N) {S0 : mS} {idx it : Nat} {w : Nat → Nat} (hidx : idx < 640) (hit : it < 40) (h18 : S0.2.1 18 idx = Int32.ofNat it) (h21 : ∀ s, s < 121 → S0.2.2 21 (121 * it + s) = Int64.ofNat (w s)) (hw : ∀ s, s < 121 → w s ≤ 2147483648) {r : List Sp} (hroom : szS (dcS w 121 :: r) ≤ 4800) (h : rst S0 ([] :: r)) : ∃ S', L280_161 N (Int32.ofNat idx, 0, S0) = some (1, S') ∧ rst S' (dcS w 121 :: r) ∧ wF S0 S' := by
  have mono : ∀ d s, s + d = 121 → (dcS w s).length ≤ (dcS w 121).length := by
    intro d
    induction d with
    | zero => intro s hs; rw [show s = 121 by omega]; exact Nat.le_refl _
    | succ d ih =>
      intro s hs
      have := ih (s + 1) (by omega)
      rw [dcS, List.length_append] at this
      omega
  have hroom' : (dcS w 121).length + szS r ≤ 4800 := hroom
  obtain ⟨R, hR⟩ : ∃ R, dcS w 121 = R := ⟨_, rfl⟩
  rw [hR] at mono hroom' ⊢
  have key : ∀ (d s : Nat) (S : mS), s + d = 121 → rst S (dcS w s :: r) → wF S0 S → ∃ S', t_lp (B280_161 N) (d + 1) (Int32.ofNat idx, Int32.ofNat s, S) = some (1, S') ∧ rst S' (R :: r) ∧ wF S0 S' := by
    intro d
    induction d with
    | zero =>
      intro s S hs h0 ha
      have c' : mj_c2 .ge (Int32.ofNat s) 121 = true := c_geT (a := s) (b := 121) (by omega) (by omega) (by omega)
      refine ⟨S, t_end (by simp only [B280_161, c', cond_true]) _, ?_, ha⟩
      rw [← hR, ← show s = 121 by omega]
      exact h0
    | succ d ih =>
      intro s S hs h0 ha
      have c' : mj_c2 .ge (Int32.ofNat s) 121 = false := c_geF (a := s) (b := 121) (by omega) (by omega) (by omega)
      have k1 : 0 ≤ (Int32.ofNat idx).toInt ∧ (Int32.ofNat idx).toInt < mN 18 := n_at (by omega) (by show _ < 640; omega)
      have a18 : S.2.1 18 idx = Int32.ofNat it := by rw [ha.2.1 18 (by decide)]; exact h18
      have ei : 121 * Int32.ofNat it + Int32.ofNat s = Int32.ofNat (121 * it + s) := by rw [show (121 : Int32) = Int32.ofNat 121 from rfl, n_mul, n_add]
      have k2 : 0 ≤ (Int32.ofNat (121 * it + s)).toInt ∧ (Int32.ofNat (121 * it + s)).toInt < mN 21 := n_at (by omega) (by show _ < 4840; omega)
      have a21 : S.2.2 21 (121 * it + s) = Int64.ofNat (w s) := by rw [ha.2.2 21 (by decide)]; exact h21 s (by omega)
      have t1 : (Int32.ofNat idx).toInt.toNat = idx := n_t (by omega)
      have t2 : (Int32.ofNat (121 * it + s)).toInt.toNat = 121 * it + s := n_t (by omega)
      have q0 : (0 : Int64).toInt = 0 := rfl
      have wb := hw s (by omega)
      by_cases e : w s = 0
      · have l1 : mj_c1 .le (lg_cmp (Int64.ofNat (w s)) 0) = true := by
          rw [lc_le, e]
          rfl
        have st : B280_161 N (Int32.ofNat idx, Int32.ofNat s, S) = some (.inl (Int32.ofNat idx, Int32.ofNat (s + 1), S)) := by
          simp only [B280_161, c', cond_false, if_pos k1, t1, a18, ei, if_pos k2, t2, a21, l1, cond_true, J280_203, i_inc (show s < 1000000 by omega)]
        rw [t_one st]
        refine ih (s + 1) S (by omega) ?_ ha
        rw [dcS, if_pos e, List.append_nil]
        exact h0
      · have l1 : mj_c1 .le (lg_cmp (Int64.ofNat (w s)) 0) = false := by
          rw [lc_le, j_nat (by omega), q0]
          exact decide_eq_false (by omega)
        have mm := mono d (s + 1) (by omega)
        rw [dcS, if_neg e, List.length_append, List.length_singleton] at mm
        obtain ⟨S1, b1, b2, b3⟩ := rst_put (N := N) (v := Int32.ofNat s) (w := w s) h0 (by show (dcS w s).length + szS r < 4800; omega)
        have st : B280_161 N (Int32.ofNat idx, Int32.ofNat s, S) = some (.inl (Int32.ofNat idx, Int32.ofNat (s + 1), S1)) := by
          simp only [B280_161, c', cond_false, if_pos k1, t1, a18, ei, if_pos k2, t2, a21, l1, b1, J280_203, i_inc (show s < 1000000 by omega), Option.bind_some]
        rw [t_one st]
        refine ih (s + 1) S1 (by omega) ?_ (m_agr_trans ha b3)
        rw [dcS, if_neg e]
        exact b2
  obtain ⟨S', a1, a2, a3⟩ := key 121 0 S0 (by omega) h m_agr_refl
  exact ⟨S', t_lp_more _ _ _ (by omega) a1, a2, a3⟩
/-- faces -/
theorem L280_218_do (hN : 100000 ≤ N) {S0 : mS} {sl idx b : Nat} {l : List Int32} (hsl : sl < 3) (hidx : idx < 640) (hb : b + l.length ≤ 160) (h8 : l.length ≤ 8) (h14 : S0.2.1 14 idx = Int32.ofNat b) (h15 : S0.2.1 15 idx = Int32.ofNat l.length) (h20 : ∀ (k : Nat) (x : Int32), l[k]? = some x → S0.2.1 20 (160 * sl + (b + k)) = x) {r : List Sp} (hroom : szS (onS l :: r) ≤ 4800) (h : rst S0 ([] :: r)) : ∃ S', L280_218 N (Int32.ofNat sl, Int32.ofNat idx, 0, S0) = some (1, S') ∧ rst S' (onS l :: r) ∧ wF S0 S' := by
  have ol : ∀ l : List Int32, (onS l).length = l.length := fun l => by unfold onS; rw [List.length_map]
  have hroom' : (onS l).length + szS r ≤ 4800 := hroom
  rw [ol] at hroom'
  have key : ∀ (d s : Nat) (S : mS), s + d = l.length → rst S (onS (l.take s) :: r) → wF S0 S → ∃ S', t_lp (B280_218 N) (d + 1) (Int32.ofNat sl, Int32.ofNat idx, Int32.ofNat s, S) = some (1, S') ∧ rst S' (onS l :: r) ∧ wF S0 S' := by
    intro d
    induction d with
    | zero =>
      intro s S hs h0 ha
      have k1 : 0 ≤ (Int32.ofNat idx).toInt ∧ (Int32.ofNat idx).toInt < mN 15 := n_at (by omega) (by show _ < 640; omega)
      have t1 : (Int32.ofNat idx).toInt.toNat = idx := n_t (by omega)
      have a15 : S.2.1 15 idx = Int32.ofNat l.length := by rw [ha.2.1 15 (by decide)]; exact h15
      have c := c_geT (a := s) (b := l.length) (by omega) (by omega) (by omega)
      refine ⟨S, t_end (by simp only [B280_218, if_pos k1, t1, a15, c, cond_true]) _, ?_, ha⟩
      rw [List.take_of_length_le (by omega)] at h0
      exact h0
    | succ d ih =>
      intro s S hs h0 ha
      have k1 : 0 ≤ (Int32.ofNat idx).toInt ∧ (Int32.ofNat idx).toInt < mN 15 := n_at (by omega) (by show _ < 640; omega)
      have k2 : 0 ≤ (Int32.ofNat idx).toInt ∧ (Int32.ofNat idx).toInt < mN 14 := k1
      have t1 : (Int32.ofNat idx).toInt.toNat = idx := n_t (by omega)
      have a15 : S.2.1 15 idx = Int32.ofNat l.length := by rw [ha.2.1 15 (by decide)]; exact h15
      have a14 : S.2.1 14 idx = Int32.ofNat b := by rw [ha.2.1 14 (by decide)]; exact h14
      have c := c_geF (a := s) (b := l.length) (by omega) (by omega) (by omega)
      have hs' : s < l.length := by omega
      have es : l[s]? = some l[s] := List.getElem?_eq_getElem hs'
      have ei : 160 * Int32.ofNat sl + Int32.ofNat b + Int32.ofNat s = Int32.ofNat (160 * sl + (b + s)) := by rw [ix_160, n_add, Nat.add_assoc]
      have k3 : 0 ≤ (Int32.ofNat (160 * sl + (b + s))).toInt ∧ (Int32.ofNat (160 * sl + (b + s))).toInt < mN 20 := n_at (by omega) (by show _ < 640; omega)
      have t3 : (Int32.ofNat (160 * sl + (b + s))).toInt.toNat = 160 * sl + (b + s) := n_t (by omega)
      have a20 : S.2.1 20 (160 * sl + (b + s)) = l[s] := by rw [ha.2.1 20 (by decide)]; exact h20 s _ es
      obtain ⟨S1, b1, b2, b3⟩ := rst_put (N := N) (v := l[s]) (w := 1) h0 (by show (onS (l.take s)).length + szS r < 4800; rw [ol, List.length_take]; omega)
      have b1' : M282 N l[s] 1 S = some S1 := b1
      have st : B280_218 N (Int32.ofNat sl, Int32.ofNat idx, Int32.ofNat s, S) = some (.inl (Int32.ofNat sl, Int32.ofNat idx, Int32.ofNat (s + 1), S1)) := by
        simp only [B280_218, if_pos k1, t1, a15, c, cond_false, if_pos k2, a14, ei, if_pos k3, t3, a20, b1', i_inc (show s < 1000000 by omega), Option.bind_some]
      rw [t_one st]
      refine ih (s + 1) S1 (by omega) ?_ (m_agr_trans ha b3)
      have : onS (l.take (s + 1)) = onS (l.take s) ++ [(l[s], 1)] := by
        unfold onS
        rw [List.take_add_one, es, List.map_append]
        rfl
      rw [this]
      exact b2
  obtain ⟨S', a1, a2, a3⟩ := key l.length 0 S0 (by omega) h m_agr_refl
  exact ⟨S', t_lp_more _ _ _ (by omega) a1, a2, a3⟩
/-- what is left of an expression, from node i on -/
def EL (N sl s set row i : Nat) (S : mS) (res : Int32 × mS) : Prop := t_lp (B279_26 N) (400 - i) (Int32.ofNat sl, Int32.ofNat s, Int32.ofNat set, Int32.ofNat row, 1, Int32.ofNat i, S) = some res
theorem EL_step {sl s set row i hi : Nat} {S S' : mS} {res : Int32 × mS} (hsl : sl < 3) (hs : s < 24) (hi2 : i ≤ hi) (h200 : hi < 160) (h9 : S.2.1 9 (24 * sl + s) = Int32.ofNat hi) (h : M280 N (Int32.ofNat sl) (Int32.ofNat i) (Int32.ofNat set) (Int32.ofNat row) S = some (1, S')) (k : EL N sl s set row (i + 1) S' res) : EL N sl s set row i S res := by
  unfold EL at k ⊢
  have ck : 0 ≤ (Int32.ofNat (24 * sl + s)).toInt ∧ (Int32.ofNat (24 * sl + s)).toInt < mN 9 := n_at (by omega) (by show _ < 96; omega)
  have t9 : (Int32.ofNat (24 * sl + s)).toInt.toNat = 24 * sl + s := n_t (by omega)
  have c1 : mj_c2 .gt (Int32.ofNat i) (Int32.ofNat hi) = false := (c_gt (by omega) (by omega)).trans (decide_eq_false (by omega))
  have e1 : mj_c1 .eq 1 = false := by decide
  have st : B279_26 N (Int32.ofNat sl, Int32.ofNat s, Int32.ofNat set, Int32.ofNat row, 1, Int32.ofNat i, S) = some (.inl (Int32.ofNat sl, Int32.ofNat s, Int32.ofNat set, Int32.ofNat row, 1, Int32.ofNat (i + 1), S')) := by
    simp only [B279_26, ix_24, if_pos ck, t9, h9, c1, cond_false, e1, h, i_inc (show i < 1000000 by omega), Option.bind_some]
  rw [show 400 - i = 400 - (i + 1) + 1 by omega, t_one st]
  exact k
theorem EL_bad {sl s set row i hi : Nat} {S S' : mS} (hsl : sl < 3) (hs : s < 24) (hi2 : i ≤ hi) (h200 : hi < 160) (h9 : S.2.1 9 (24 * sl + s) = Int32.ofNat hi) (h9' : S'.2.1 9 (24 * sl + s) = Int32.ofNat hi) (h : M280 N (Int32.ofNat sl) (Int32.ofNat i) (Int32.ofNat set) (Int32.ofNat row) S = some (0, S')) : EL N sl s set row i S (0, m_sV S' 51 (-1)) := by
  unfold EL
  have ck : 0 ≤ (Int32.ofNat (24 * sl + s)).toInt ∧ (Int32.ofNat (24 * sl + s)).toInt < mN 9 := n_at (by omega) (by show _ < 96; omega)
  have t9 : (Int32.ofNat (24 * sl + s)).toInt.toNat = 24 * sl + s := n_t (by omega)
  have c1 : mj_c2 .gt (Int32.ofNat i) (Int32.ofNat hi) = false := (c_gt (by omega) (by omega)).trans (decide_eq_false (by omega))
  have e1 : mj_c1 .eq 1 = false := by decide
  have e0 : mj_c1 .eq 0 = true := by decide
  have n0 : mj_c1 .ne 0 = false := by decide
  have o0 : (0 : Int32) = 0 ∨ (0 : Int32) = 1 := Or.inl rfl
  have st : B279_26 N (Int32.ofNat sl, Int32.ofNat s, Int32.ofNat set, Int32.ofNat row, 1, Int32.ofNat i, S) = some (.inl (Int32.ofNat sl, Int32.ofNat s, Int32.ofNat set, Int32.ofNat row, 0, Int32.ofNat (i + 1), S')) := by
    simp only [B279_26, ix_24, if_pos ck, t9, h9, c1, cond_false, e1, h, i_inc (show i < 1000000 by omega), Option.bind_some]
  rw [show 400 - i = 398 - i + 1 + 1 by omega, t_one st]
  apply t_end
  by_cases c2 : hi < i + 1
  · have c3 : mj_c2 .gt (Int32.ofNat (i + 1)) (Int32.ofNat hi) = true := (c_gt (by omega) (by omega)).trans (decide_eq_true c2)
    simp only [B279_26, ix_24, if_pos ck, t9, h9', c3, cond_true, J279_65, n0, cond_false, J279_75, true_or, or_true, if_true, Option.map_some]
  · have c3 : mj_c2 .gt (Int32.ofNat (i + 1)) (Int32.ofNat hi) = false := (c_gt (by omega) (by omega)).trans (decide_eq_false c2)
    simp only [B279_26, ix_24, if_pos ck, t9, h9', c3, cond_false, e0, cond_true, J279_65, n0, J279_75, true_or, or_true, if_true, Option.map_some]
theorem EL_end {sl s set row hi : Nat} {S : mS} (hsl : sl < 3) (hs : s < 24) (h200 : hi < 160) (h9 : S.2.1 9 (24 * sl + s) = Int32.ofNat hi) : EL N sl s set row (hi + 1) S (1, S) := by
  unfold EL
  have ck : 0 ≤ (Int32.ofNat (24 * sl + s)).toInt ∧ (Int32.ofNat (24 * sl + s)).toInt < mN 9 := n_at (by omega) (by show _ < 96; omega)
  have t9 : (Int32.ofNat (24 * sl + s)).toInt.toNat = 24 * sl + s := n_t (by omega)
  have c3 : mj_c2 .gt (Int32.ofNat (hi + 1)) (Int32.ofNat hi) = true := (c_gt (by omega) (by omega)).trans (decide_eq_true (by omega))
  have n1 : mj_c1 .ne 1 = true := by decide
  have o1 : (1 : Int32) = 0 ∨ (1 : Int32) = 1 := Or.inr rfl
  rw [show 400 - (hi + 1) = 398 - hi + 1 by omega]
  apply t_end
  simp only [B279_26, ix_24, if_pos ck, t9, h9, c3, cond_true, J279_65, n1, J279_75, true_or, or_true, if_true, Option.map_some]
end REV
