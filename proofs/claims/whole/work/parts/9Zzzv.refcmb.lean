section RCM
variable {N : Nat}
/-- the row of ways -/
def nw (S : mS) (g : Nat → Nat) : Prop := ∀ i, i < 1999 → S.2.2 46 i = Int64.ofNat (g i)
theorem nw_set {S : mS} {g : Nat → Nat} {k x : Nat} (h : nw S g) : nw (m_sB S 46 k (Int64.ofNat x)) (fun i => if i = k then x else g i) := by
  intro i hi
  show (if 46 = 46 ∧ i = k then Int64.ofNat x else S.2.2 46 i) = Int64.ofNat (if i = k then x else g i)
  by_cases e : i = k
  · rw [if_pos ⟨rfl, e⟩, if_pos e]
  · rw [if_neg (fun q => e q.2), if_neg e]
    exact h i hi
theorem nw_ext {S : mS} {g g' : Nat → Nat} (h : nw S g) (e : ∀ i, i < 1999 → g i = g' i) : nw S g' := fun i hi => by rw [← e i hi]; exact h i hi
theorem M283_one {S : mS} {c a b : Int32} {x2 x3 : Int32} {i j wi wj sz : Nat} {g : Nat → Nat} (hc : bd c ≠ -1000) (h45 : S.1 45 = Int32.ofNat sz) (hsz : sz ≤ 4800) (hi : i < 4800) (hj : j < sz) (ei : S.2.1 41 i = a ∧ S.2.2 42 i = Int64.ofNat wi) (ej : S.2.1 41 j = b ∧ S.2.2 42 j = Int64.ofNat wj) (hg : nw S g) : (inR (opV c a b) → B283_61 N (sg c, x2, x3, Int32.ofNat i, Int32.ofNat j, S) = some (.inl (sg c, x2, x3, Int32.ofNat i, Int32.ofNat (j + 1), m_sB S 46 (ix (opV c a b)) (Int64.ofNat (g (ix (opV c a b)) + wi * wj))))) ∧ (¬ inR (opV c a b) → B283_61 N (sg c, x2, x3, Int32.ofNat i, Int32.ofNat j, S) = some (.inr (.inr (0, S)))) := by
  have cg := c_geF (a := j) (b := sz) (by omega) (by omega) hj
  have ti : (Int32.ofNat i).toInt.toNat = i := n_t (by omega)
  have tj : (Int32.ofNat j).toInt.toNat = j := n_t (by omega)
  have ci : 0 ≤ (Int32.ofNat i).toInt ∧ (Int32.ofNat i).toInt < mN 41 := n_at (by omega) (by show _ < 4800; omega)
  have cj : 0 ≤ (Int32.ofNat j).toInt ∧ (Int32.ofNat j).toInt < mN 41 := n_at (by omega) (by show _ < 4800; omega)
  have ci2 : 0 ≤ (Int32.ofNat i).toInt ∧ (Int32.ofNat i).toInt < mN 42 := ci
  have cj2 : 0 ≤ (Int32.ofNat j).toInt ∧ (Int32.ofNat j).toInt < mN 42 := cj
  have q1 : (-999 : Int32).toInt = -999 := rfl
  have q2 : (999 : Int32).toInt = 999 := rfl
  have n1 : mj_c1 .ne 1 = true := by decide
  have n0 : mj_c1 .ne 0 = false := by decide
  obtain ⟨v, hv⟩ : ∃ v, opV c a b = v := ⟨_, rfl⟩
  -- the operation itself
  have op : (c = 37 ∨ c = 47 → b ≠ 0) → (inR v → J283_87 N (sg c) x2 x3 (Int32.ofNat i) (Int32.ofNat j) S = some (.inl (sg c, x2, x3, Int32.ofNat i, Int32.ofNat (j + 1), m_sB S 46 (ix v) (Int64.ofNat (g (ix v) + wi * wj))))) ∧ (¬ inR v → J283_87 N (sg c) x2 x3 (Int32.ofNat i) (Int32.ofNat j) S = some (.inr (.inr (0, S)))) := by
    intro hb
    have m4 := M284_do (N := N) (S := S) (a := a) (b := b) hc hb
    rw [hv] at m4
    have m5 := M205_do (N := N) (x := v) (lo := -999) (hi := 999) (S := S)
    rw [q1, q2] at m5
    constructor
    · intro hin
      rw [if_pos hin] at m5
      have hx := ix_lt hin
      have ea := ix_add hin
      have cx : 0 ≤ (Int32.ofNat (ix v)).toInt ∧ (Int32.ofNat (ix v)).toInt < mN 46 := n_at (by omega) (by show _ < 1999; omega)
      have tx : (Int32.ofNat (ix v)).toInt.toNat = ix v := n_t (by omega)
      unfold J283_87
      simp only [if_pos ci, if_pos cj, ti, tj, ei.1, ej.1, m4, m5, n1, cond_true, ea, if_pos cx, if_pos ci2, if_pos cj2, tx, ei.2, ej.2, hg _ hx, l_mul, l_add, i_inc (show j < 1000000 by omega), Option.bind_some]
    · intro hin
      rw [if_neg hin] at m5
      unfold J283_87
      simp only [if_pos ci, if_pos cj, ti, tj, ei.1, ej.1, m4, m5, n0, cond_false, Option.bind_some]
  rw [hv]
  by_cases k : c = 37 ∨ c = 47
  · have l5 : mj_c2 .le (sg c) 5 = false := by rcases k with e | e <;> rw [e] <;> decide
    by_cases hb : b = 0
    · have bz : mj_c1 .ne b = false := decide_eq_false (fun q => q hb)
      have nin : ¬ inR v := by
        have : v = 1000 := by
          rw [← hv]
          unfold opV
          rcases k with e | e
          · rw [if_pos e, if_pos hb]
          · rw [if_neg (by rw [e]; decide), if_neg (by rw [e]; decide), if_neg (by rw [e]; decide), if_neg (by rw [e]; decide), if_pos e, if_pos hb]
        rw [this]
        decide
      refine ⟨fun q => absurd q nin, fun _ => ?_⟩
      simp only [B283_61, h45, cg, cond_false, l5, if_pos cj, tj, ej.1, bz]
    · have bz : mj_c1 .ne b = true := decide_eq_true hb
      obtain ⟨o1, o2⟩ := op (fun _ => hb)
      refine ⟨fun q => ?_, fun q => ?_⟩
      · simp only [B283_61, h45, cg, cond_false, l5, if_pos cj, tj, ej.1, bz, cond_true]
        exact o1 q
      · simp only [B283_61, h45, cg, cond_false, l5, if_pos cj, tj, ej.1, bz, cond_true]
        exact o2 q
  · have l5 : mj_c2 .le (sg c) 5 = true := by
      unfold sg
      unfold bd at hc
      by_cases h6 : c = 60
      · rw [h6]; decide
      by_cases h8 : c = 62
      · rw [h8]; decide
      by_cases h7 : c = 61
      · rw [h7]; decide
      by_cases h3 : c = 43
      · rw [h3]; decide
      by_cases h4 : c = 45
      · rw [h4]; decide
      by_cases h2 : c = 42
      · rw [h2]; decide
      rw [if_neg (fun q => k (Or.inl q)), if_neg h2, if_neg h3, if_neg h4, if_neg (fun q => k (Or.inr q)), if_neg h6, if_neg h7, if_neg h8] at hc
      exact absurd rfl hc
    obtain ⟨o1, o2⟩ := op (fun q => absurd q k)
    refine ⟨fun q => ?_, fun q => ?_⟩
    · simp only [B283_61, h45, cg, cond_false, l5, cond_true]
      exact o1 q
    · simp only [B283_61, h45, cg, cond_false, l5, cond_true]
      exact o2 q
/-- a value of the first with all of the second -/
theorem M283_row {S0 : mS} {c : Int32} {x2 x3 : Int32} {i sz : Nat} {p : Int32 × Nat} (hc : bd c ≠ -1000) (h45 : S0.1 45 = Int32.ofNat sz) (hsz : sz ≤ 4800) (hi : i < 4800) (ei : S0.2.1 41 i = p.1 ∧ S0.2.2 42 i = Int64.ofNat p.2) : ∀ (ms : Sp) (j : Nat) (S : mS) (g : Nat → Nat), j + ms.length = sz → vw (fun q => S0.2.1 41 (j + q)) (fun q => S0.2.2 42 (j + q)) ms → m_agr [] [] [46] S0 S → nw S g → ((∀ q ∈ ms, inR (opV c p.1 q.1)) ∧ ∃ S', t_lp (B283_61 N) (ms.length + 1) (sg c, x2, x3, Int32.ofNat i, Int32.ofNat j, S) = some (.inl (sg c, x2, x3, Int32.ofNat (i + 1), S')) ∧ m_agr [] [] [46] S0 S' ∧ nw S' (fun k => g k + p.2 * sS ms (fun y => if opV c p.1 y = vAt k then 1 else 0))) ∨ ((∃ q ∈ ms, ¬ inR (opV c p.1 q.1)) ∧ ∃ S', t_lp (B283_61 N) (ms.length + 1) (sg c, x2, x3, Int32.ofNat i, Int32.ofNat j, S) = some (.inr (0, S')) ∧ m_agr [] [] [46] S0 S') := by
  intro ms
  induction ms with
  | nil =>
    intro j S g hj _ ha hg
    rw [List.length_nil] at hj
    have c1 := c_geT (a := j) (b := sz) (by omega) (by omega) (by omega)
    refine Or.inl ⟨fun q hq => (by cases hq), S, t_end ?_ _, ha, nw_ext hg (fun k _ => rfl)⟩
    simp only [B283_61, ha.1 45 (by decide), h45, c1, cond_true, i_inc (show i < 1000000 by omega)]
  | cons q ms ih =>
    intro j S g hj hvw ha hg
    rw [List.length_cons] at hj
    have ej : S0.2.1 41 j = q.1 ∧ S0.2.2 42 j = Int64.ofNat q.2 := hvw 0 q rfl
    obtain ⟨o1, o2⟩ := M283_one (N := N) (S := S) (c := c) (a := p.1) (b := q.1) (x2 := x2) (x3 := x3) (i := i) (j := j) (wi := p.2) (wj := q.2) (sz := sz) (g := g) hc ((ha.1 45 (by decide)).trans h45) hsz hi (by omega) (by rw [ha.2.1 41 (by decide), ha.2.2 42 (by decide)]; exact ei) (by rw [ha.2.1 41 (by decide), ha.2.2 42 (by decide)]; exact ej) hg
    by_cases hin : inR (opV c p.1 q.1)
    · have a1 := o1 hin
      have vw' : vw (fun r => S0.2.1 41 (j + 1 + r)) (fun r => S0.2.2 42 (j + 1 + r)) ms := fun r u hr => by
        have := hvw (r + 1) u (by rw [List.getElem?_cons_succ]; exact hr)
        dsimp only at this ⊢
        rw [show j + 1 + r = j + (r + 1) by omega]
        exact this
      have hx := ix_lt hin
      rcases ih (j + 1) _ _ (by omega) vw' (m_agr_sB ha (by decide) _ _) (nw_set (k := ix (opV c p.1 q.1)) (x := g (ix (opV c p.1 q.1)) + p.2 * q.2) hg) with ⟨b0, S', b1, b2, b3⟩ | ⟨⟨u, hu, b0⟩, S', b1, b2⟩
      · refine Or.inl ⟨fun u hu => ?_, S', by rw [List.length_cons, t_one a1]; exact b1, b2, nw_ext b3 (fun k hk => ?_)⟩
        · rcases List.mem_cons.mp hu with e | e
          · rw [e]; exact hin
          · exact b0 u e
        · try dsimp only
          show _ = g k + p.2 * (q.2 * (if opV c p.1 q.1 = vAt k then 1 else 0) + sS ms _)
          rw [Nat.mul_add, ← Nat.mul_assoc]
          by_cases e : k = ix (opV c p.1 q.1)
          · rw [if_pos e, e, ix_at hin, if_pos rfl, Nat.mul_one]
            omega
          · have : ¬ opV c p.1 q.1 = vAt k := fun w => e (vAt_inj hk hx (by rw [ix_at hin]; exact w.symm))
            rw [if_neg e, if_neg this, Nat.mul_zero]
            omega
      · exact Or.inr ⟨⟨u, List.mem_cons_of_mem _ hu, b0⟩, S', by rw [List.length_cons, t_one a1]; exact b1, b2⟩
    · exact Or.inr ⟨⟨q, List.mem_cons_self, hin⟩, S, t_end (o2 hin) _, ha⟩
/-- all pairs -/
theorem M283_all (hN : 100000 ≤ N) {S0 : mS} {c : Int32} {s1 sz : Nat} {x3 : Int32} {m : Sp} {res : mS → Option (Int32 × mS)} (hres : ∀ S, res S = (M281 N (m_sV (m_sV S 44 ((S.1 44) - 2)) 45 x3)).bind fun r9 => L283_195 N (0, r9)) (hc : bd c ≠ -1000) (h45 : S0.1 45 = Int32.ofNat sz) (hsz : sz ≤ 4800) (h1 : s1 + m.length = sz) (hvm : vw (fun q => S0.2.1 41 (s1 + q)) (fun q => S0.2.2 42 (s1 + q)) m) : ∀ (ls : Sp) (i : Nat) (S : mS) (g : Nat → Nat), i + ls.length = s1 → vw (fun q => S0.2.1 41 (i + q)) (fun q => S0.2.2 42 (i + q)) ls → m_agr [] [] [46] S0 S → nw S g → ((∀ p ∈ ls, ∀ q ∈ m, inR (opV c p.1 q.1)) ∧ ∃ S', t_lp (B283_52 N) (ls.length + 1) (sg c, Int32.ofNat s1, x3, Int32.ofNat i, S) = res S' ∧ m_agr [] [] [46] S0 S' ∧ nw S' (fun k => g k + pW c ls m (fun v => if v = vAt k then 1 else 0))) ∨ ((∃ p ∈ ls, ∃ q ∈ m, ¬ inR (opV c p.1 q.1)) ∧ ∃ S', t_lp (B283_52 N) (ls.length + 1) (sg c, Int32.ofNat s1, x3, Int32.ofNat i, S) = some (0, S') ∧ m_agr [] [] [46] S0 S') := by
  intro ls
  induction ls with
  | nil =>
    intro i S g hi _ ha hg
    rw [List.length_nil] at hi
    have c1 := c_geT (a := i) (b := s1) (by omega) (by omega) (by omega)
    refine Or.inl ⟨fun q hq => (by cases hq), S, ?_, ha, nw_ext hg (fun k _ => rfl)⟩
    rw [hres]
    apply t_lp_map
    simp only [B283_52, c1, cond_true]
    cases M281 N (m_sV (m_sV S 44 ((S.1 44) - 2)) 45 x3) with
    | none => rfl
    | some w => rfl
  | cons p ls ih =>
    intro i S g hi hvw ha hg
    rw [List.length_cons] at hi
    have c1 := c_geF (a := i) (b := s1) (by omega) (by omega) (by omega)
    have ei : S0.2.1 41 i = p.1 ∧ S0.2.2 42 i = Int64.ofNat p.2 := hvw 0 p rfl
    rcases M283_row (N := N) (x2 := Int32.ofNat s1) (x3 := x3) hc h45 hsz (show i < 4800 by omega) ei m s1 S g h1 hvm ha hg with ⟨a0, S1, a1, a2, a3⟩ | ⟨⟨u, hu, a0⟩, S1, a1, a2⟩
    · have st : B283_52 N (sg c, Int32.ofNat s1, x3, Int32.ofNat i, S) = some (.inl (sg c, Int32.ofNat s1, x3, Int32.ofNat (i + 1), S1)) := by
        simp only [B283_52, c1, cond_false]
        exact t_lp_more _ _ _ (by omega) a1
      have vw' : vw (fun r => S0.2.1 41 (i + 1 + r)) (fun r => S0.2.2 42 (i + 1 + r)) ls := fun r u hr => by
        have := hvw (r + 1) u (by rw [List.getElem?_cons_succ]; exact hr)
        dsimp only at this ⊢
        rw [show i + 1 + r = i + (r + 1) by omega]
        exact this
      rcases ih (i + 1) S1 _ (by omega) vw' a2 a3 with ⟨b0, S', b1, b2, b3⟩ | ⟨⟨u, hu, b0⟩, S', b1, b2⟩
      · refine Or.inl ⟨fun u hu => ?_, S', by rw [List.length_cons, t_one st]; exact b1, b2, nw_ext b3 (fun k hk => ?_)⟩
        · rcases List.mem_cons.mp hu with e | e
          · rw [e]; exact a0
          · exact b0 u e
        · have e : pW c (p :: ls) m (fun v => if v = vAt k then 1 else 0) = p.2 * sS m (fun y => if opV c p.1 y = vAt k then 1 else 0) + pW c ls m (fun v => if v = vAt k then 1 else 0) := rfl
          rw [e]
          exact Nat.add_assoc _ _ _
      · exact Or.inr ⟨⟨u, List.mem_cons_of_mem _ hu, b0⟩, S', by rw [List.length_cons, t_one st]; exact b1, b2⟩
    · have st : B283_52 N (sg c, Int32.ofNat s1, x3, Int32.ofNat i, S) = some (.inr (0, S1)) := by
        simp only [B283_52, c1, cond_false]
        exact t_lp_more _ _ _ (by omega) a1
      exact Or.inr ⟨⟨p, List.mem_cons_self, u, hu, a0⟩, S1, t_end st _, a2⟩
/-- the row of ways becomes a spread -/
theorem L283_195_do (hN : 100000 ≤ N) {w : Nat → Nat} (hw : ∀ i, i < 1999 → w i ≤ 2147483648) {r : List Sp} (hroom : szS (rowS w 1999 :: r) ≤ 4800) {S : mS} (h : rst S ([] :: r)) (hg : nw S w) : ∃ S', L283_195 N (0, S) = some (1, S') ∧ rst S' (rowS w 1999 :: r) ∧ wF S S' := by
  have mono : ∀ d s, s + d = 1999 → (rowS w s).length ≤ (rowS w 1999).length := by
    intro d
    induction d with
    | zero => intro s hs; rw [show s = 1999 by omega]; exact Nat.le_refl _
    | succ d ih =>
      intro s hs
      have := ih (s + 1) (by omega)
      rw [rowS, List.length_append] at this
      omega
  have hroom' : (rowS w 1999).length + szS r ≤ 4800 := hroom
  obtain ⟨R, hR⟩ : ∃ R, rowS w 1999 = R := ⟨_, rfl⟩
  rw [hR] at mono hroom' ⊢
  have key : ∀ (d s : Nat) (S0 : mS), s + d = 1999 → rst S0 (rowS w s :: r) → nw S0 w → wF S S0 → ∃ S', t_lp (B283_195 N) (d + 1) (Int32.ofNat s, S0) = some (1, S') ∧ rst S' (R :: r) ∧ wF S S' := by
    intro d
    induction d with
    | zero =>
      intro s S0 hs h0 hg0 ha
      have c := c_geT (a := s) (b := 1999) (by omega) (by omega) (by omega)
      have c' : mj_c2 .ge (Int32.ofNat s) 1999 = true := c
      refine ⟨S0, t_end (by simp only [B283_195, c', cond_true]) _, ?_, ha⟩
      rw [← hR, ← show s = 1999 by omega]
      exact h0
    | succ d ih =>
      intro s S0 hs h0 hg0 ha
      have c' : mj_c2 .ge (Int32.ofNat s) 1999 = false := c_geF (a := s) (b := 1999) (by omega) (by omega) (by omega)
      have ck : 0 ≤ (Int32.ofNat s).toInt ∧ (Int32.ofNat s).toInt < mN 46 := n_at (by omega) (by show _ < 1999; omega)
      have ts : (Int32.ofNat s).toInt.toNat = s := n_t (by omega)
      have gv := hg0 s (by omega)
      have q0 : (0 : Int64).toInt = 0 := rfl
      have wb := hw s (by omega)
      by_cases e : w s = 0
      · have l1 : mj_c1 .le (lg_cmp (Int64.ofNat (w s)) 0) = true := by
          rw [lc_le, e]
          rfl
        have st : B283_195 N (Int32.ofNat s, S0) = some (.inl (Int32.ofNat (s + 1), S0)) := by
          simp only [B283_195, c', cond_false, if_pos ck, ts, gv, l1, cond_true, J283_232, i_inc (show s < 1000000 by omega)]
        rw [t_one st]
        refine ih (s + 1) S0 (by omega) ?_ hg0 ha
        rw [rowS, if_pos e, List.append_nil]
        exact h0
      · have l1 : mj_c1 .le (lg_cmp (Int64.ofNat (w s)) 0) = false := by
          rw [lc_le, j_nat (by omega), q0]
          exact decide_eq_false (by omega)
        have mm := mono d (s + 1) (by omega)
        rw [rowS, if_neg e, List.length_append, List.length_singleton] at mm
        have ev : Int32.ofNat s - 999 = vAt s := by
          apply Int32.toInt_inj.mp
          have q9 : (999 : Int32).toInt = 999 := rfl
          rw [i_sub (by rw [i_nat (by omega), q9]; omega) (by rw [i_nat (by omega), q9]; omega), i_nat (by omega), q9, vAt_i (by omega)]
        obtain ⟨S1, b1, b2, b3⟩ := rst_put (N := N) (v := vAt s) (w := w s) h0 (by show (rowS w s).length + szS r < 4800; omega)
        have st : B283_195 N (Int32.ofNat s, S0) = some (.inl (Int32.ofNat (s + 1), S1)) := by
          simp only [B283_195, c', cond_false, if_pos ck, ts, gv, l1, ev, b1, J283_232, i_inc (show s < 1000000 by omega), Option.bind_some]
        rw [t_one st]
        have hg1 : nw S1 w := by
          obtain ⟨S1', x1⟩ : ∃ x, M282 N (vAt s) (Int64.ofNat (w s)) S0 = some x := ⟨_, b1⟩
          have e46 : S1.2.2 46 = S0.2.2 46 := by
            unfold M282 at b1
            split at b1
            · split at b1
              · cases b1
                funext p
                show (if 46 = 42 ∧ p = (S0.1 45).toInt.toNat then Int64.ofNat (w s) else S0.2.2 46 p) = _
                rw [if_neg (fun q => absurd q.1 (by decide))]
              · cases b1
            · cases b1
          intro i hi
          rw [e46]
          exact hg0 i hi
        refine ih (s + 1) S1 (by omega) ?_ hg1 (m_agr_trans ha b3)
        rw [rowS, if_neg e]
        exact b2
  obtain ⟨S', a1, a2, a3⟩ := key 1999 0 S (by omega) h hg m_agr_refl
  exact ⟨S', t_lp_more _ _ _ (by omega) a1, a2, a3⟩
/-- combine, the reference -/
theorem M283_do (hN : 100000 ≤ N) {S : mS} {c : Int32} {l m : Sp} {r : List Sp} (hc : bd c ≠ -1000) (h : rst S (m :: l :: r)) (hl : posS l) (hm : posS m) (ht : tot l * tot m ≤ 2147483648) (hn : r.length + 2 ≤ 40) (hsz : szS (m :: l :: r) ≤ 4800) (hroom : badW c l m = 0 → szS (rowS (wAt c l m) 1999 :: r) ≤ 4800) : ∃ b S', M283 N (sg c) S = some (b, S') ∧ wF S S' ∧ (badW c l m = 0 → b = 1 ∧ rst S' (rowS (wAt c l m) 1999 :: r)) ∧ (badW c l m ≠ 0 → b = 0) := by
  obtain ⟨h1, h2, h3, h4⟩ := h
  have h1' : S.1 44 = Int32.ofNat (r.length + 2) := h1
  have e1 : S.1 44 - 1 = Int32.ofNat (r.length + 1) := by rw [h1']; exact n_sub (b := 1) (by omega) (by omega)
  have e2 : S.1 44 - 2 = Int32.ofNat r.length := by rw [h1']; exact n_sub (b := 2) (by omega) (by omega)
  have b1 : S.2.1 43 (r.length + 1) = Int32.ofNat (l.length + szS r) := h3.1
  have b0 : S.2.1 43 r.length = Int32.ofNat (szS r) := h3.2.1
  have z1 : szS (m :: l :: r) = m.length + (l.length + szS r) := rfl
  have lr := fl_len r
  have hv' : ∀ (i : Nat) (p : Int32 × Nat), (fl r ++ l ++ m)[i]? = some p → S.2.1 41 i = p.1 ∧ S.2.2 42 i = Int64.ofNat p.2 := h4
  have vm : vw (fun q => S.2.1 41 (l.length + szS r + q)) (fun q => S.2.2 42 (l.length + szS r + q)) m := fun i p hi => hv' _ p (by
    rw [List.getElem?_append_right (by rw [List.length_append]; omega), List.length_append, show l.length + szS r + i - ((fl r).length + l.length) = i by omega]
    exact hi)
  have vl : vw (fun q => S.2.1 41 (szS r + q)) (fun q => S.2.2 42 (szS r + q)) l := fun i p hi => hv' _ p (by
    have := (List.getElem?_eq_some_iff.mp hi).1
    rw [List.getElem?_append_left (by rw [List.length_append]; omega), List.getElem?_append_right (by omega), show szS r + i - (fl r).length = i by omega]
    exact hi)
  -- the row is wiped
  have wipe : ∀ (d s : Nat) (S0 : mS), s + d = 1999 → (∀ p, p < s → S0.2.2 46 p = 0) → m_agr [] [] [46] S S0 → ∃ S', (∀ res, t_lp (B283_27 N) 1 (sg c, Int32.ofNat (l.length + szS r), Int32.ofNat (szS r), Int32.ofNat 1999, S') = some res → t_lp (B283_27 N) (d + 1) (sg c, Int32.ofNat (l.length + szS r), Int32.ofNat (szS r), Int32.ofNat s, S0) = some res) ∧ nw S' (fun _ => 0) ∧ m_agr [] [] [46] S S' := by
    intro d
    induction d with
    | zero =>
      intro s S0 hs hz ha
      refine ⟨S0, fun res hres => by rw [show s = 1999 by omega]; exact hres, fun i hi => ?_, ha⟩
      rw [hz i (by omega)]
      rfl
    | succ d ih =>
      intro s S0 hs hz ha
      have c' : mj_c2 .ge (Int32.ofNat s) 1999 = false := c_geF (a := s) (b := 1999) (by omega) (by omega) (by omega)
      have ck : 0 ≤ (Int32.ofNat s).toInt ∧ (Int32.ofNat s).toInt < mN 46 := n_at (by omega) (by show _ < 1999; omega)
      have ts : (Int32.ofNat s).toInt.toNat = s := n_t (by omega)
      obtain ⟨S', a1, a2, a3⟩ := ih (s + 1) (m_sB S0 46 s 0) (by omega) (fun p hp => by
        show (if 46 = 46 ∧ p = s then (0 : Int64) else S0.2.2 46 p) = 0
        by_cases e : p = s
        · rw [if_pos ⟨rfl, e⟩]
        · rw [if_neg (fun q => e q.2)]
          exact hz p (by omega)) (m_agr_sB ha (by decide) _ _)
      refine ⟨S', fun res hres => ?_, a2, a3⟩
      have st : B283_27 N (sg c, Int32.ofNat (l.length + szS r), Int32.ofNat (szS r), Int32.ofNat s, S0) = some (.inl (sg c, Int32.ofNat (l.length + szS r), Int32.ofNat (szS r), Int32.ofNat (s + 1), m_sB S0 46 s 0)) := by
        simp only [B283_27, c', cond_false, if_pos ck, ts, i_inc (show s < 1000000 by omega)]
      rw [t_one st]
      exact a1 res hres
  obtain ⟨S1, w1, w2, w3⟩ := wipe 1999 0 S (by omega) (fun p hp => by omega) m_agr_refl
  have start : ∀ res, L283_52 N (sg c, Int32.ofNat (l.length + szS r), Int32.ofNat (szS r), Int32.ofNat (szS r), S1) = some res → M283 N (sg c) S = some res := by
    intro res hres
    have ck1 : 0 ≤ (S.1 44 - 1).toInt ∧ (S.1 44 - 1).toInt < mN 43 := by rw [e1]; exact n_at (by omega) (by show _ < 64; omega)
    have ck2 : 0 ≤ (S.1 44 - 2).toInt ∧ (S.1 44 - 2).toInt < mN 43 := by rw [e2]; exact n_at (by omega) (by show _ < 64; omega)
    unfold M283
    rw [if_pos ck1, if_pos ck2, e1, e2, n_t (by omega), n_t (by omega), b1, b0]
    refine t_lp_more 2000 _ _ (by omega) (w1 res ?_)
    apply t_end
    have c' : mj_c2 .ge (Int32.ofNat 1999) 1999 = true := by decide
    simp only [B283_27, c', cond_true]
    show (L283_52 N (sg c, Int32.ofNat (l.length + szS r), Int32.ofNat (szS r), Int32.ofNat (szS r), S1)).map Sum.inr = _
    rw [hres]
    rfl
  have h45 : S.1 45 = Int32.ofNat (m.length + (l.length + szS r)) := h2
  rcases M283_all (N := N) hN (S0 := S) (x3 := Int32.ofNat (szS r)) (s1 := l.length + szS r) (sz := m.length + (l.length + szS r)) (fun _ => rfl) hc h45 (by omega) (by omega) vm l (szS r) S1 (fun _ => 0) (by omega) vl w3 w2 with ⟨a0, S2, a1, a2, a3⟩ | ⟨⟨p, hp1, q, hq1, a0⟩, S2, a1, a2⟩
  · have bz := badW_ok a0
    have hroom' := hroom bz
    have g2 : nw S2 (wAt c l m) := nw_ext a3 (fun k hk => by rw [Nat.zero_add]; rfl)
    have bd2 : ∀ i, i < 1999 → wAt c l m i ≤ 2147483648 := fun i hi => by
      have k1 : wAt c l m i ≤ pW c l m (fun _ => 1) := by
        have e : pW c l m (fun _ => 1) = wAt c l m i + pW c l m (fun v => if v = vAt i then 0 else 1) := by
          unfold wAt
          rw [← pW_add]
          congr 1
          funext v
          by_cases e : v = vAt i
          · rw [if_pos e, if_pos e]
          · rw [if_neg e, if_neg e]
        omega
      rw [pW_tot] at k1
      omega
    -- the two are taken away, a new one begins
    obtain ⟨S3, hS3⟩ : ∃ x, m_sV (m_sV S2 44 (S2.1 44 - 2)) 45 (Int32.ofNat (szS r)) = x := ⟨_, rfl⟩
    have r3 : rst S3 r := by
      rw [← hS3]
      refine ⟨?_, ?_, rsk_ext r h3.2.2 (fun i _ => by show S2.2.1 43 i = _; rw [a2.2.1 43 (by decide)]), fun i p hi => ?_⟩
      · show S2.1 44 - 2 = _
        rw [a2.1 44 (by decide), e2]
      · rfl
      · show S2.2.1 41 i = _ ∧ S2.2.2 42 i = _
        rw [a2.2.1 41 (by decide), a2.2.2 42 (by decide)]
        refine hv' i p ?_
        have := (List.getElem?_eq_some_iff.mp hi).1
        rw [List.append_assoc, List.getElem?_append_left this]
        exact hi
    obtain ⟨S4, d1, d2, d3⟩ := rst_open (N := N) r3 (by omega)
    have g4 : nw S4 (wAt c l m) := by
      have e46 : S4.2.2 = S2.2.2 := by
        unfold M281 at d1
        split at d1
        · cases d1
          rw [← hS3]
          rfl
        · cases d1
      intro i hi
      rw [e46]
      exact g2 i hi
    obtain ⟨S5, f1, f2, f3⟩ := L283_195_do (N := N) hN bd2 hroom' d2 g4
    have ag3 : wF S S3 := by
      rw [← hS3]
      exact m_agr_sV (m_agr_sV (m_agr_mono a2 (by decide) (by decide) (by decide)) (by decide) _) (by decide) _
    refine ⟨1, S5, start _ (t_lp_more _ _ _ (by omega) (a1.trans ?_)), m_agr_trans ag3 (m_agr_trans d3 f3), fun _ => ⟨rfl, f2⟩, fun q => absurd bz q⟩
    rw [hS3, d1]
    exact f1
  · have bz := badW_ne hl hm hp1 hq1 a0
    exact ⟨0, S2, start _ (t_lp_more _ _ _ (by omega) a1), m_agr_mono a2 (by decide) (by decide) (by decide), fun q => absurd q bz, fun _ => rfl⟩
end RCM
