/-! SMALL NUMBERS AS INTS -/
theorem c_ge {a b : Nat} (ha : a < 2147483648) (hb : b < 2147483648) : mj_c2 .ge (Int32.ofNat a) (Int32.ofNat b) = decide (b ≤ a) := i_c2 (by show decide _ = _; rw [i_nat ha, i_nat hb]; exact decide_eq_decide.mpr (by omega))
theorem c_gt {a b : Nat} (ha : a < 2147483648) (hb : b < 2147483648) : mj_c2 .gt (Int32.ofNat a) (Int32.ofNat b) = decide (b < a) := i_c2 (by show decide _ = _; rw [i_nat ha, i_nat hb]; exact decide_eq_decide.mpr (by omega))
theorem c_lt {a b : Nat} (ha : a < 2147483648) (hb : b < 2147483648) : mj_c2 .lt (Int32.ofNat a) (Int32.ofNat b) = decide (a < b) := i_c2 (by show decide _ = _; rw [i_nat ha, i_nat hb]; exact decide_eq_decide.mpr (by omega))
theorem c_le {a b : Nat} (ha : a < 2147483648) (hb : b < 2147483648) : mj_c2 .le (Int32.ofNat a) (Int32.ofNat b) = decide (a ≤ b) := i_c2 (by show decide _ = _; rw [i_nat ha, i_nat hb]; exact decide_eq_decide.mpr (by omega))
theorem c_eq {a b : Nat} (ha : a < 2147483648) (hb : b < 2147483648) : mj_c2 .eq (Int32.ofNat a) (Int32.ofNat b) = decide (a = b) := i_c2 (by show decide _ = _; rw [i_nat ha, i_nat hb]; exact decide_eq_decide.mpr (by omega))
theorem c_ne {a b : Nat} (ha : a < 2147483648) (hb : b < 2147483648) : mj_c2 .ne (Int32.ofNat a) (Int32.ofNat b) = decide (a ≠ b) := i_c2 (by show decide _ = _; rw [i_nat ha, i_nat hb]; exact decide_eq_decide.mpr (by omega))
theorem c1_lt {a : Nat} (ha : a < 2147483648) : mj_c1 .lt (Int32.ofNat a) = false := i_c1 (by show decide _ = _; rw [i_nat ha]; exact decide_eq_false (by omega))
theorem n_at {a b : Nat} (ha : a < 2147483648) (h : a < b) : 0 ≤ (Int32.ofNat a).toInt ∧ (Int32.ofNat a).toInt < (b : Int) := by rw [i_nat ha]; omega
theorem n_t {a : Nat} (ha : a < 2147483648) : (Int32.ofNat a).toInt.toNat = a := by rw [i_nat ha]; omega
theorem n_add {a b : Nat} : Int32.ofNat a + Int32.ofNat b = Int32.ofNat (a + b) := (Int32.ofNat_add a b).symm
theorem n_mul {a b : Nat} : Int32.ofNat a * Int32.ofNat b = Int32.ofNat (a * b) := (Int32.ofNat_mul a b).symm
theorem n_sub {a b : Nat} (ha : a < 2147483648) (h : b ≤ a) : Int32.ofNat a - Int32.ofNat b = Int32.ofNat (a - b) := i_eq (by rw [i_sub (by rw [i_nat ha, i_nat (by omega)]; omega) (by rw [i_nat ha, i_nat (by omega)]; omega), i_nat ha, i_nat (by omega)]; omega)
theorem n_dec {a : Nat} (ha : a < 2147483648) (h : 1 ≤ a) : Int32.ofNat a + (-1) = Int32.ofNat (a - 1) := i_eq (by
  have q : (-1 : Int32).toInt = -1 := rfl
  rw [i_add (by rw [i_nat ha, q]; omega) (by rw [i_nat ha, q]; omega), i_nat ha, q]; omega)
theorem n_l {a : Nat} (ha : a < 2147483648) : (Int32.ofNat a).toInt64 = Int64.ofNat a := by
  apply Int64.toInt_inj.mp
  rw [Int32.toInt_toInt64, i_nat ha, j_nat (by omega)]
theorem l_add {a b : Nat} : Int64.ofNat a + Int64.ofNat b = Int64.ofNat (a + b) := (Int64.ofNat_add a b).symm
theorem l_mul {a b : Nat} : Int64.ofNat a * Int64.ofNat b = Int64.ofNat (a * b) := (Int64.ofNat_mul a b).symm
theorem pwN_pow {a : Nat} (ha : 1 ≤ a) : ∀ (t acc : Nat), acc * a ^ t ≤ 2147483648 → pwN a t acc = acc * a ^ t := by
  intro t
  induction t with
  | zero => intro acc h; rw [Nat.pow_zero, Nat.mul_one]; rfl
  | succ t ih =>
    intro acc h
    have e : acc * a ^ (t + 1) = acc * a * a ^ t := by rw [Nat.pow_succ, Nat.mul_comm (a ^ t), Nat.mul_assoc]
    rw [e] at h ⊢
    have p : 1 ≤ a ^ t := Nat.pow_pos ha
    have l : acc * a ≤ 2147483648 := Nat.le_trans (Nat.le_mul_of_pos_right _ p) h
    have q : prN acc a = acc * a := by unfold prN; omega
    rw [pwN, q]
    exact ih _ h
/-! DICE, THE REFERENCE -/
/-- the row in which sums are counted -/
def nowR (S : mS) (T : Nat → Nat) : Prop := ∀ s, s < 121 → S.2.2 38 s = Int64.ofNat (T s)
section DCR
variable {N : Nat}
theorem now_set {S : mS} {T : Nat → Nat} {i x : Nat} (h : nowR S T) : nowR (m_sB S 38 i (Int64.ofNat x)) (fun s => if s = i then x else T s) := by
  intro s hs
  show (if 38 = 38 ∧ s = i then Int64.ofNat x else S.2.2 38 s) = Int64.ofNat (if s = i then x else T s)
  by_cases e : s = i
  · rw [if_pos ⟨rfl, e⟩, if_pos e]
  · rw [if_neg (fun q => e q.2), if_neg e]
    exact h s hs
theorem ag_38 {S : mS} {i : Nat} {x : Int64} : m_agr [] [] [38] S (m_sB S 38 i x) := ⟨fun _ _ => rfl, fun _ _ => rfl, fun j hj => by
  funext p
  show (if j = 38 ∧ p = i then x else S.2.2 j p) = S.2.2 j p
  rw [if_neg (fun q => hj (by rw [q.1]; decide))]⟩
theorem eW_at {m k r f : Nat} (hf : 1 ≤ f ∧ f ≤ m) (hr : r ≤ k) : eW m k (m * r + f) = if f < m ∨ r = k then m ^ (k - r) else 0 := by
  have hm : 1 ≤ m := by omega
  have x1 : m * (k + 1) = m * k + m := Nat.mul_succ m k
  have x2 : m * r ≤ m * k := Nat.mul_le_mul_left m hr
  unfold eW
  by_cases c : f < m
  · have d1 : (m * r + f) % m = f := by rw [Nat.mul_add_mod, Nat.mod_eq_of_lt c]
    have d2 : (m * r + f) / m = r := by rw [Nat.mul_add_div (by omega), Nat.div_eq_of_lt c, Nat.add_zero]
    rw [if_neg (by omega), if_pos ⟨by omega, by omega⟩, if_pos (Or.inl c), d2]
  · have e : f = m := by omega
    subst e
    have d1 : (f * r + f) % f = 0 := by rw [Nat.mul_add_mod, Nat.mod_self]
    by_cases c2 : r = k
    · subst c2
      rw [if_pos (by omega), if_pos (Or.inr rfl), Nat.sub_self, Nat.pow_zero]
    · have : f * (r + 1) ≤ f * k := Nat.mul_le_mul_left f (by omega)
      rw [Nat.mul_succ] at this
      rw [if_neg (by omega), if_neg (fun q => q.1 d1), if_neg (by omega)]
/-- the sums to pos are counted -/
def eT (m k pos s : Nat) : Nat := if s ≤ pos then eW m k s else 0
theorem L262_10_do (hN : 2000 ≤ N) {m k r : Nat} (hm : 2 ≤ m ∧ m ≤ 20) (hk : k ≤ 3) (hr : r ≤ k) : ∀ (n f : Nat) (S : mS), f + n = m + 1 → 1 ≤ f → nowR S (eT m k (m * r + f - 1)) → ∃ S', t_lp (B262_10 N) (n + 1) (Int32.ofNat m, Int32.ofNat k, Int32.ofNat r, Int32.ofNat f, S) = some (.inl (Int32.ofNat m, Int32.ofNat k, Int32.ofNat (r + 1), S')) ∧ nowR S' (eT m k (m * r + m)) ∧ m_agr [] [] [38] S S' := by
  have x1 : m * r ≤ 20 * 3 := Nat.mul_le_mul hm.2 (by omega)
  intro n
  induction n with
  | zero =>
    intro f S hf h1 h
    have c : mj_c2 .gt (Int32.ofNat f) (Int32.ofNat m) = true := (c_gt (by omega) (by omega)).trans (decide_eq_true (by omega))
    refine ⟨S, t_end ?_ _, ?_, m_agr_refl⟩
    · rw [← i_inc (by omega)]
      simp only [B262_10, c, cond_true]
    · rw [show m * r + f - 1 = m * r + m by omega] at h
      exact h
  | succ n ih =>
    intro f S hf h1 h
    have c : mj_c2 .gt (Int32.ofNat f) (Int32.ofNat m) = false := (c_gt (by omega) (by omega)).trans (decide_eq_false (by omega))
    have go : ∀ S', B262_10 N (Int32.ofNat m, Int32.ofNat k, Int32.ofNat r, Int32.ofNat f, S) = some (.inl (Int32.ofNat m, Int32.ofNat k, Int32.ofNat r, Int32.ofNat (f + 1), S')) → nowR S' (eT m k (m * r + (f + 1) - 1)) → m_agr [] [] [38] S S' → ∃ S', t_lp (B262_10 N) (n + 1 + 1) (Int32.ofNat m, Int32.ofNat k, Int32.ofNat r, Int32.ofNat f, S) = some (.inl (Int32.ofNat m, Int32.ofNat k, Int32.ofNat (r + 1), S')) ∧ nowR S' (eT m k (m * r + m)) ∧ m_agr [] [] [38] S S' := by
      intro S' e1 e2 e3
      obtain ⟨S2, g1, g2, g3⟩ := ih (f + 1) S' (by omega) (by omega) e2
      exact ⟨S2, by rw [t_one e1]; exact g1, g2, m_agr_trans e3 g3⟩
    have at_ := eW_at (m := m) (k := k) (r := r) (f := f) ⟨h1, by omega⟩ hr
    have idx : Int32.ofNat m * Int32.ofNat r + Int32.ofNat f = Int32.ofNat (m * r + f) := by rw [n_mul, n_add]
    have ca : 0 ≤ (Int32.ofNat (m * r + f)).toInt ∧ (Int32.ofNat (m * r + f)).toInt < mN 38 := n_at (by omega) (show m * r + f < 121 by omega)
    have ta := n_t (a := m * r + f) (by omega)
    have pw : M238 N (Int32.ofNat m).toInt64 (Int32.ofNat k - Int32.ofNat r) S = some (Int64.ofNat (m ^ (k - r)), S) := by
      have b : m ^ (k - r) ≤ 20 ^ 3 := Nat.le_trans (Nat.pow_le_pow_left hm.2 _) (Nat.pow_le_pow_right (by decide) (by omega))
      rw [n_l (by omega), n_sub (by omega) hr, M238_do hN ⟨by omega, by omega⟩ (by omega), pwN_pow (by omega) _ _ (by rw [Nat.one_mul]; omega), Nat.one_mul]
    have set_ : (f < m ∨ r = k) → J262_27 N (Int32.ofNat m) (Int32.ofNat k) (Int32.ofNat r) (Int32.ofNat f) S = some (.inl (Int32.ofNat m, Int32.ofNat k, Int32.ofNat r, Int32.ofNat (f + 1), m_sB S 38 (m * r + f) (Int64.ofNat (m ^ (k - r))))) := by
      intro _
      have v : S.2.2 38 (m * r + f) = Int64.ofNat 0 := by
        rw [h _ (by omega)]
        unfold eT
        rw [if_neg (by omega)]
      rw [← i_inc (by omega)]
      simp only [J262_27, idx, if_pos ca, ta, pw, J262_58, v, l_add, Nat.zero_add, Option.bind_some]
    have tab : nowR (m_sB S 38 (m * r + f) (Int64.ofNat (eW m k (m * r + f)))) (eT m k (m * r + (f + 1) - 1)) := by
      intro s hs
      rw [now_set h s hs]
      congr 1
      unfold eT
      dsimp only
      by_cases e : s = m * r + f
      · rw [if_pos e, if_pos (by omega), e]
      · rw [if_neg e]
        by_cases e2 : s ≤ m * r + f - 1
        · rw [if_pos e2, if_pos (by omega)]
        · rw [if_neg e2, if_neg (by omega)]
    by_cases hfm : f < m
    · have c2 : mj_c2 .lt (Int32.ofNat f) (Int32.ofNat m) = true := (c_lt (by omega) (by omega)).trans (decide_eq_true hfm)
      rw [at_, if_pos (Or.inl hfm)] at tab
      refine go _ ?_ tab ag_38
      simp only [B262_10, c, c2, cond_false, cond_true]
      exact set_ (Or.inl hfm)
    · have c2 : mj_c2 .lt (Int32.ofNat f) (Int32.ofNat m) = false := (c_lt (by omega) (by omega)).trans (decide_eq_false hfm)
      by_cases hrk : r = k
      · have c3 : mj_c2 .ne (Int32.ofNat r) (Int32.ofNat k) = false := (c_ne (by omega) (by omega)).trans (decide_eq_false (fun q => q hrk))
        rw [at_, if_pos (Or.inr hrk)] at tab
        refine go _ ?_ tab ag_38
        simp only [B262_10, c, c2, c3, cond_false]
        exact set_ (Or.inr hrk)
      · have c3 : mj_c2 .ne (Int32.ofNat r) (Int32.ofNat k) = true := (c_ne (by omega) (by omega)).trans (decide_eq_true hrk)
        refine go S ?_ ?_ m_agr_refl
        · rw [← i_inc (by omega)]
          simp only [B262_10, c, c2, c3, cond_false, cond_true, J262_58]
        · intro s hs
          rw [h s hs]
          congr 1
          unfold eT
          by_cases e : s = m * r + f
          · rw [if_neg (by omega), if_pos (by omega), e, at_, if_neg (by omega)]
          · by_cases e2 : s ≤ m * r + f - 1
            · rw [if_pos e2, if_pos (by omega)]
            · rw [if_neg e2, if_neg (by omega)]
theorem M262_do (hN : 2000 ≤ N) {m k : Nat} (hm : 2 ≤ m ∧ m ≤ 20) (hk : k ≤ 3) {S : mS} (h : nowR S (fun _ => 0)) : ∃ S', M262 N (Int32.ofNat m) (Int32.ofNat k) S = some S' ∧ nowR S' (eW m k) ∧ m_agr [] [] [38] S S' := by
  have key : ∀ (n r : Nat) (S : mS), r + n = k + 1 → nowR S (eT m k (m * r)) → ∃ S', t_lp (B262_2 N) (n + 1) (Int32.ofNat m, Int32.ofNat k, Int32.ofNat r, S) = some S' ∧ nowR S' (eT m k (m * (k + 1))) ∧ m_agr [] [] [38] S S' := by
    intro n
    induction n with
    | zero =>
      intro r S hr h
      have c : mj_c2 .gt (Int32.ofNat r) (Int32.ofNat k) = true := (c_gt (by omega) (by omega)).trans (decide_eq_true (by omega))
      refine ⟨S, t_end ?_ _, ?_, m_agr_refl⟩
      · simp only [B262_2, c, cond_true]
      · rw [show r = k + 1 by omega] at h
        exact h
    | succ n ih =>
      intro r S hr h
      have c : mj_c2 .gt (Int32.ofNat r) (Int32.ofNat k) = false := (c_gt (by omega) (by omega)).trans (decide_eq_false (by omega))
      obtain ⟨S1, a1, a2, a3⟩ := L262_10_do (N := N) hN hm hk (show r ≤ k by omega) m 1 S (by omega) (by omega) h
      obtain ⟨S2, b1, b2, b3⟩ := ih (r + 1) S1 (by omega) (by rw [Nat.mul_succ]; exact a2)
      refine ⟨S2, ?_, b2, m_agr_trans a3 b3⟩
      have e : B262_2 N (Int32.ofNat m, Int32.ofNat k, Int32.ofNat r, S) = some (.inl (Int32.ofNat m, Int32.ofNat k, Int32.ofNat (r + 1), S1)) := by
        simp only [B262_2, c, cond_false]
        exact t_lp_more _ _ _ (by omega) a1
      rw [t_one e]
      exact b1
  obtain ⟨S', a1, a2, a3⟩ := key (k + 1) 0 S (by omega) (fun s hs => by
    rw [h s hs]
    congr 1
    unfold eT
    by_cases e : s ≤ m * 0
    · rw [if_pos e]
      have : s = 0 := by omega
      subst this
      unfold eW
      have : 1 ≤ m * (k + 1) := Nat.mul_pos (by omega) (by omega)
      rw [if_neg (by omega), if_neg (fun q => q.1 (Nat.zero_mod m))]
    · rw [if_neg e])
  refine ⟨S', t_lp_more _ _ _ (by omega) a1, fun s hs => ?_, a3⟩
  rw [a2 s hs]
  congr 1
  unfold eT
  by_cases e : s ≤ m * (k + 1)
  · rw [if_pos e]
  · rw [if_neg e, eW_far (by omega)]
end DCR
