/-! ROWS ON THE HEAP AS FUNCTIONS -/
def LR (H : mj_H) (r n : Nat) (T : Nat → Int64) : Prop := H.1 r = some (.inl (.long, (List.range n).map (fun i => .long (T i))))
def IR (H : mj_H) (r n : Nat) (T : Nat → Int32) : Prop := H.1 r = some (.inl (.int, (List.range n).map (fun i => .int (T i))))
def only (r : Nat) (H G : mj_H) : Prop := (∀ q, q ≠ r → G.1 q = H.1 q) ∧ G.2 = H.2
theorem only_put {r : Nat} {H : mj_H} {e : mj_E} : only r H (mj_put H r e) := ⟨fun _ h => mj_put_ne h, rfl⟩
theorem only_refl {r : Nat} {H : mj_H} : only r H H := ⟨fun _ _ => rfl, rfl⟩
theorem only_trans {r : Nat} {H G K : mj_H} (x : only r H G) (y : only r G K) : only r H K := ⟨fun q h => (y.1 q h).trans (x.1 q h), y.2.trans x.2⟩
section RWS
variable {xt : mj_X} {H G : mj_H} {r n : Nat}
theorem rg_at {f : Nat → Value} {n i : Nat} (h : i < n) : ((List.range n).map f)[i]? = some (f i) := by
  rw [List.getElem?_map, List.getElem?_range h]
  rfl
theorem rg_len {f : Nat → Value} {n : Nat} : ((List.range n).map f).length = n := by rw [List.length_map, List.length_range]
theorem LR_fr {T : Nat → Int64} (h : LR H r n T) (e : G.1 r = H.1 r) : LR G r n T := e.trans h
theorem IR_fr {T : Nat → Int32} (h : IR H r n T) (e : G.1 r = H.1 r) : IR G r n T := e.trans h
theorem LR_ext {T T' : Nat → Int64} (h : LR H r n T) (e : ∀ i, i < n → T i = T' i) : LR H r n T' := by
  unfold LR at *
  rw [h]
  congr 3
  refine List.map_congr_left (fun i hi => ?_)
  rw [e i (List.mem_range.mp hi)]
theorem IR_ext {T T' : Nat → Int32} (h : IR H r n T) (e : ∀ i, i < n → T i = T' i) : IR H r n T' := by
  unfold IR at *
  rw [h]
  congr 3
  refine List.map_congr_left (fun i hi => ?_)
  rw [e i (List.mem_range.mp hi)]
theorem LR_get {T : Nat → Int64} {i : Nat} (h : LR H r n T) (hi : i < n) (hn : i < 2147483648) : aL xt H r (Int32.ofNat i) = some (T i) := aL_of h (by rw [i_nat hn]; omega) (by rw [n_t hn]; exact rg_at hi)
theorem IR_get {T : Nat → Int32} {i : Nat} (h : IR H r n T) (hi : i < n) (hn : i < 2147483648) : aI xt H r (Int32.ofNat i) = some (T i) := aI_of h (by rw [i_nat hn]; omega) (by rw [n_t hn]; exact rg_at hi)
theorem LR_set {T : Nat → Int64} {i : Nat} {x : Int64} (h : LR H r n T) (hi : i < n) (hn : i < 2147483648) : ∃ G, sL H r (Int32.ofNat i) x = some G ∧ LR G r n (fun p => if p = i then x else T p) ∧ only r H G := by
  refine ⟨_, sL_of h (by rw [i_nat hn]; omega) (by rw [n_t hn, rg_len]; exact hi), ?_, only_put⟩
  unfold LR
  rw [mj_put_eq, n_t hn, m_rs]
  congr 3
  refine List.map_congr_left (fun p _ => ?_)
  dsimp only
  by_cases e : p = i
  · rw [if_pos e, if_pos e]
  · rw [if_neg e, if_neg e]
theorem IR_set {T : Nat → Int32} {i : Nat} {x : Int32} (h : IR H r n T) (hi : i < n) (hn : i < 2147483648) : ∃ G, sN .int H r (Int32.ofNat i) x = some G ∧ IR G r n (fun p => if p = i then x else T p) ∧ only r H G := by
  refine ⟨_, sN_of h (by rw [i_nat hn]; omega) (by rw [n_t hn, rg_len]; exact hi), ?_, only_put⟩
  unfold IR
  rw [mj_put_eq, n_t hn, m_rs]
  congr 3
  refine List.map_congr_left (fun p _ => ?_)
  dsimp only
  by_cases e : p = i
  · rw [if_pos e, if_pos e]
    rfl
  · rw [if_neg e, if_neg e]
theorem LR_len {T : Nat → Int64} (h : LR H r n T) : aN xt H r = some (Int32.ofNat n) := by rw [aN_of h, rg_len]
theorem IR_len {T : Nat → Int32} (h : IR H r n T) : aN xt H r = some (Int32.ofNat n) := by rw [aN_of h, rg_len]
variable {ct : Nat → Value} {O : OR} {N : Nat}
theorem C21_do {a b : Nat} (ha : a < 2147483648) (hb : b < 2147483648) : C21 xt ct O N (Int32.ofNat a) (Int32.ofNat b) H = some (Int32.ofNat (min a b), H) := by
  by_cases c : b < a
  · have e : mj_c2 .gt (Int32.ofNat a) (Int32.ofNat b) = true := (c_gt ha hb).trans (decide_eq_true c)
    rw [show min a b = b by omega]
    simp only [C21, e, cond_true, J21_10]
  · have e : mj_c2 .gt (Int32.ofNat a) (Int32.ofNat b) = false := (c_gt ha hb).trans (decide_eq_false c)
    rw [show min a b = a by omega]
    simp only [C21, e, cond_false, J21_10]
theorem C18_do {a b : Nat} (ha : a < 2147483648) (hb : b < 2147483648) : C18 xt ct O N (Int32.ofNat a) (Int32.ofNat b) H = some (Int32.ofNat (max a b), H) := by
  by_cases c : a < b
  · have e : mj_c2 .lt (Int32.ofNat a) (Int32.ofNat b) = true := (c_lt ha hb).trans (decide_eq_true c)
    rw [show max a b = b by omega]
    simp only [C18, e, cond_true, J18_10]
  · have e : mj_c2 .lt (Int32.ofNat a) (Int32.ofNat b) = false := (c_lt ha hb).trans (decide_eq_false c)
    rw [show max a b = a by omega]
    simp only [C18, e, cond_false, J18_10]
/-- a row is filled -/
theorem C145_do (hN : 2000 ≤ N) {T : Nat → Int64} {x : Int64} (h : LR H r n T) (hn : n ≤ 1000) : ∃ G, C145 xt ct O N r x H = some G ∧ LR G r n (fun _ => x) ∧ only r H G := by
  have key : ∀ (d i : Nat) (H : mj_H) (T : Nat → Int64), i + d = n → LR H r n T → (∀ p, p < i → T p = x) → ∃ G, t_lp (B145_6 xt ct O N) (d + 1) (r, x, Int32.ofNat i, Int32.ofNat n, H) = some G ∧ LR G r n (fun _ => x) ∧ only r H G := by
    intro d
    induction d with
    | zero =>
      intro i H T hi h hp
      have c : mj_c2 .ge (Int32.ofNat i) (Int32.ofNat n) = true := (c_ge (by omega) (by omega)).trans (decide_eq_true (by omega))
      exact ⟨H, t_end (by simp only [B145_6, c, cond_true]) _, LR_ext h (fun p hp2 => hp p (by omega)), only_refl⟩
    | succ d ih =>
      intro i H T hi h hp
      have c : mj_c2 .ge (Int32.ofNat i) (Int32.ofNat n) = false := (c_ge (by omega) (by omega)).trans (decide_eq_false (by omega))
      obtain ⟨H1, a1, a2, a3⟩ := LR_set (x := x) h (show i < n by omega) (by omega)
      obtain ⟨G, b1, b2, b3⟩ := ih (i + 1) H1 _ (by omega) a2 (fun p hp2 => by
        by_cases e : p = i
        · rw [if_pos e]
        · rw [if_neg e]
          exact hp p (by omega))
      refine ⟨G, ?_, b2, only_trans a3 b3⟩
      have st : B145_6 xt ct O N (r, x, Int32.ofNat i, Int32.ofNat n, H) = some (.inl (r, x, Int32.ofNat (i + 1), Int32.ofNat n, H1)) := by
        rw [← i_inc (by omega)]
        simp only [B145_6, c, cond_false, a1, Option.bind_some]
      rw [t_one st]
      exact b1
  obtain ⟨G, a1, a2, a3⟩ := key n 0 H T (by omega) h (fun p hp => by omega)
  refine ⟨G, ?_, a2, a3⟩
  simp only [C145, LR_len h, Option.bind_some]
  exact t_lp_more _ _ _ (by omega) a1
/-- a binomial -/
theorem C147_do (hN : 2000 ≤ N) {a b : Nat} (hb : a ≤ b) (h6 : b ≤ 6) : C147 xt ct O N (Int32.ofNat a) (Int32.ofNat b) H = some (Int64.ofNat (bn b a), H) := by
  have small : ∀ x, x < 7 → ∀ y, y < 7 → bn x y ≤ 20 := by decide
  have key : ∀ (d i : Nat), i + d = a → t_lp (B147_5 xt ct O N) (d + 1) (Int32.ofNat a, Int32.ofNat b, Int64.ofNat (bn (b - a + i) i), Int32.ofNat (i + 1), H) = some (Int64.ofNat (bn b a), H) := by
    intro d
    induction d with
    | zero =>
      intro i hi
      have c : mj_c2 .gt (Int32.ofNat (i + 1)) (Int32.ofNat a) = true := (c_gt (by omega) (by omega)).trans (decide_eq_true (by omega))
      have e : i = a := by omega
      subst e
      refine t_end ?_ _
      rw [show b - i + i = b by omega]
      simp only [B147_5, c, cond_true]
    | succ d ih =>
      intro i hi
      have c : mj_c2 .gt (Int32.ofNat (i + 1)) (Int32.ofNat a) = false := (c_gt (by omega) (by omega)).trans (decide_eq_false (by omega))
      have nz : (Int32.ofNat (i + 1)).toInt64 ≠ 0 := by
        rw [n_l (by omega)]
        intro e
        have := congrArg Int64.toInt e
        rw [j_nat (by omega)] at this
        have z : (0 : Int64).toInt = 0 := rfl
        rw [z] at this
        omega
      have ix : (Int32.ofNat b - Int32.ofNat a + Int32.ofNat (i + 1)).toInt64 = Int64.ofNat (b - a + i + 1) := by
        rw [n_sub (by omega) hb, n_add, n_l (by omega)]
        rfl
      have s1 := small (b - a + i) (by omega) i (by omega)
      have s2 : bn (b - a + i) i * (b - a + i + 1) ≤ 20 * 7 := Nat.mul_le_mul s1 (by omega)
      have v : Int64.ofNat (bn (b - a + i) i) * (Int32.ofNat b - Int32.ofNat a + Int32.ofNat (i + 1)).toInt64 / (Int32.ofNat (i + 1)).toInt64 = Int64.ofNat (bn (b - a + (i + 1)) (i + 1)) := by
        rw [ix, l_mul, n_l (by omega), j_divn (by omega) (by omega) (by omega), bn_step, Nat.mul_div_cancel _ (by omega)]
        rfl
      have st : B147_5 xt ct O N (Int32.ofNat a, Int32.ofNat b, Int64.ofNat (bn (b - a + i) i), Int32.ofNat (i + 1), H) = some (.inl (Int32.ofNat a, Int32.ofNat b, Int64.ofNat (bn (b - a + (i + 1)) (i + 1)), Int32.ofNat (i + 1 + 1), H)) := by
        rw [← i_inc (k := i + 1) (by omega)]
        simp only [B147_5, c, cond_false, if_pos nz, v]
      rw [t_one st]
      exact ih (i + 1) (by omega)
  have := key a 0 (by omega)
  rw [bn_0] at this
  exact t_lp_more _ _ _ (by omega) this
end RWS
