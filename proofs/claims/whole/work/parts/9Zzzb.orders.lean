/-! DICE OF WHICH SOME ARE KEPT, THE REFERENCE: orders, what is kept -/
def oL : Nat → Nat → Nat → Nat → List Nat → Nat × Nat × Nat
  | _, w, run, prev, [] => (w, run, prev)
  | k, w, run, prev, x :: r => oL (k + 1) (w * (k + 1) / (if 0 < k ∧ x = prev then run + 1 else 1)) (if 0 < k ∧ x = prev then run + 1 else 1) x r
theorem oL_app (b : List Nat) : ∀ (a : List Nat) (k w run prev : Nat), oL k w run prev (a ++ b) = oL (k + a.length) (oL k w run prev a).1 (oL k w run prev a).2.1 (oL k w run prev a).2.2 b := by
  intro a
  induction a with
  | nil => intro k w run prev; rfl
  | cons x a ih =>
    intro k w run prev
    rw [List.cons_append, oL, ih, oL, List.length_cons, show k + 1 + a.length = k + (a.length + 1) by omega]
theorem oL_prev {f : Nat} : ∀ (a : List Nat) (k w run prev : Nat), a ≠ [] → (∀ x ∈ a, f < x) → f < (oL k w run prev a).2.2 := by
  intro a
  induction a with
  | nil => intro k w run prev h; exact absurd rfl h
  | cons x a ih =>
    intro k w run prev _ h
    rw [oL]
    cases a with
    | nil => exact h x List.mem_cons_self
    | cons y a => exact ih _ _ _ _ (by intro e; cases e) (fun z hz => h z (List.mem_cons_of_mem _ hz))
theorem oL_run {i w f : Nat} : ∀ (d j : Nat), 1 ≤ j → oL (i + j) (w * bn (i + j) j) j f (List.replicate d f) = (w * bn (i + j + d) (j + d), j + d, f) := by
  intro d
  induction d with
  | zero => intro j _; rfl
  | succ d ih =>
    intro j hj
    have e : w * bn (i + j) j * (i + j + 1) / (j + 1) = w * bn (i + (j + 1)) (j + 1) := by
      rw [Nat.mul_assoc, bn_step, ← Nat.mul_assoc, Nat.mul_div_cancel _ (by omega)]
      rfl
    rw [List.replicate_succ, oL, if_pos ⟨by omega, rfl⟩, e]
    have := ih (j + 1) (by omega)
    rw [show i + j + 1 = i + (j + 1) by omega, this, show i + (j + 1) + d = i + j + (d + 1) by omega, show j + 1 + d = j + (d + 1) by omega]
theorem bn_1 : ∀ n, bn n 1 = n := by
  intro n
  induction n with
  | zero => rfl
  | succ n ih => rw [bn, bn_0, ih]; omega
theorem oL_new {i w run prev f c : Nat} (h : i = 0 ∨ f ≠ prev) (hc : 1 ≤ c) : (oL i w run prev (List.replicate c f)).1 = w * bn (i + c) c := by
  obtain ⟨d, rfl⟩ : ∃ d, c = d + 1 := ⟨c - 1, by omega⟩
  rw [List.replicate_succ, oL, if_neg (by omega)]
  have e : w * (i + 1) / 1 = w * bn (i + 1) 1 := by rw [Nat.div_one, bn_1]
  have := oL_run (i := i) (w := w) (f := f) d 1 (by omega)
  rw [e, this, show i + 1 + d = i + (d + 1) by omega, Nat.add_comm 1 d]
def pre (a : List Nat) : Nat := (oL 0 1 0 0 a).1
theorem pre_rep {a : List Nat} {f c : Nat} (h : ∀ x ∈ a, f < x) : pre (a ++ List.replicate c f) = pre a * bn (a.length + c) c := by
  unfold pre
  by_cases hc : c = 0
  · subst hc
    rw [List.replicate_zero, List.append_nil, bn_0, Nat.mul_one]
  · rw [oL_app, oL_new _ (by omega), Nat.zero_add]
    by_cases ha : a = []
    · left; rw [ha]; rfl
    · right
      have := oL_prev a 0 1 0 0 ha h
      omega
/-- what is kept is added up: G tells of what place -/
def vs (G : Nat → Nat → Nat) : Nat → List Nat → Nat
  | _, [] => 0
  | i, x :: r => x * G i (i + 1) + vs G (i + 1) r
theorem vs_app {G : Nat → Nat → Nat} (b : List Nat) : ∀ (a : List Nat) (i : Nat), vs G i (a ++ b) = vs G i a + vs G (i + a.length) b := by
  intro a
  induction a with
  | nil => intro i; show _ = 0 + _; rw [Nat.zero_add]; rfl
  | cons x a ih =>
    intro i
    rw [List.cons_append, vs, vs, ih, List.length_cons, show i + 1 + a.length = i + (a.length + 1) by omega]
    omega
def gAd (G : Nat → Nat → Nat) : Prop := (∀ p r q, p ≤ r → r ≤ q → G p r + G r q = G p q) ∧ (∀ p, G p p = 0) ∧ ∀ p, G p (p + 1) ≤ 1
theorem vs_rep {G : Nat → Nat → Nat} (hG : gAd G) (f : Nat) : ∀ (c i : Nat), vs G i (List.replicate c f) = f * G i (i + c) := by
  intro c
  induction c with
  | zero => intro i; rw [Nat.add_zero, hG.2.1, Nat.mul_zero]; rfl
  | succ c ih =>
    intro i
    rw [List.replicate_succ, vs, ih, ← hG.1 i (i + 1) (i + (c + 1)) (by omega) (by omega), Nat.mul_add, show i + 1 + c = i + (c + 1) by omega]
theorem vs_le {G : Nat → Nat → Nat} (hG : gAd G) {M : Nat} : ∀ (a : List Nat) (i : Nat), (∀ x ∈ a, x ≤ M) → vs G i a ≤ M * a.length := by
  intro a
  induction a with
  | nil => intro i _; exact Nat.zero_le _
  | cons x a ih =>
    intro i h
    have h1 := ih (i + 1) (fun y hy => h y (List.mem_cons_of_mem _ hy))
    have h2 := Nat.mul_le_mul (h x List.mem_cons_self) (hG.2.2 i)
    rw [vs, List.length_cons, Nat.mul_succ]
    omega
theorem Gm_ad {k : Nat} : gAd (Gm k) := ⟨fun p r q h1 h2 => by unfold Gm; omega, fun p => by unfold Gm; omega, fun p => by unfold Gm; omega⟩
theorem Gx_ad {n k : Nat} : gAd (Gx n k) := ⟨fun p r q h1 h2 => by unfold Gx; omega, fun p => by unfold Gx; omega, fun p => by unfold Gx; omega⟩
/-- what is counted when all dice behind a show at most f -/
def Wk (n : Nat) (G : Nat → Nat → Nat) : Nat → List Nat → Nat → Nat
  | 0, _, _ => 0
  | 1, a, s => if s = vs G 0 (a ++ List.replicate (n - a.length) 1) then pre (a ++ List.replicate (n - a.length) 1) else 0
  | f + 2, a, s => sm (n - a.length + 1) (fun c => Wk n G (f + 1) (a ++ List.replicate c (f + 2)) s)
theorem U_from {n : Nat} {G : Nat → Nat → Nat} {F : List Nat} {f i : Nat} {h : Nat → Nat} (hi : i ≤ n) : U n Kr G (f :: F) i n h = sm (n - i + 1) (fun c => bn (i + c) c * U n Kr G F (i + c) n (fun s => h (s + f * G i (i + c)))) := by
  show sm (n + 1) (fun r => Kr i r * U n Kr G F r n (fun s => h (s + f * G i r))) = _
  rw [show n + 1 = i + (n - i + 1) by omega, sm_split, sm_zero i (fun r hr => by unfold Kr; rw [if_neg (by omega), Nat.zero_mul]), Nat.zero_add]
  refine sm_congr _ (fun c _ => ?_)
  unfold Kr
  rw [if_pos (by omega), show i + c - i = c by omega]
theorem Wk_U {n : Nat} {G : Nat → Nat → Nat} (hG : gAd G) : ∀ (f : Nat) (a : List Nat) (s : Nat), 1 ≤ f → a.length ≤ n → (∀ x ∈ a, f < x) → Wk n G f a s = pre a * U n Kr G (fD f) a.length n (fun x => dlt s (x + vs G 0 a)) := by
  intro f
  induction f with
  | zero => intro a s h; omega
  | succ f ih =>
    intro a s _ hn ha
    cases f with
    | zero =>
      show (if s = vs G 0 (a ++ List.replicate (n - a.length) 1) then pre (a ++ List.replicate (n - a.length) 1) else 0) = pre a * U n Kr G [1] a.length n _
      rw [U_from hn, sm_one (n - a.length) (n - a.length + 1) (by omega) (fun c h1 h2 => by
        show _ * (if a.length + c = n then _ else 0) = 0
        rw [if_neg (by omega), Nat.mul_zero])]
      show _ = pre a * (bn (a.length + (n - a.length)) (n - a.length) * (if a.length + (n - a.length) = n then dlt s (0 + 1 * G a.length (a.length + (n - a.length)) + vs G 0 a) else 0))
      rw [if_pos (show a.length + (n - a.length) = n by omega), pre_rep ha, vs_app, vs_rep hG]
      simp only [Nat.zero_add]
      rw [Nat.add_comm (1 * _) (vs G 0 a)]
      unfold dlt
      by_cases e : s = vs G 0 a + 1 * G a.length (a.length + (n - a.length))
      · rw [if_pos e, if_pos e.symm, Nat.mul_one]
      · rw [if_neg e, if_neg (fun q => e q.symm), Nat.mul_zero, Nat.mul_zero]
    | succ f =>
      show sm (n - a.length + 1) (fun c => Wk n G (f + 1) (a ++ List.replicate c (f + 2)) s) = pre a * U n Kr G ((f + 2) :: fD (f + 1)) a.length n _
      rw [U_from hn, ← sm_mul]
      refine sm_congr _ (fun c hc => ?_)
      have l : (a ++ List.replicate c (f + 2)).length = a.length + c := by rw [List.length_append, List.length_replicate]
      rw [ih (a ++ List.replicate c (f + 2)) s (by omega) (by omega) (fun x hx => by
        rcases List.mem_append.mp hx with q | q
        · have := ha x q; omega
        · rw [(List.mem_replicate.mp q).2]; omega), pre_rep ha, l, vs_app, vs_rep hG, Nat.zero_add, Nat.mul_assoc]
      congr 2
      have : (fun x => dlt s (x + (vs G 0 a + (f + 2) * G a.length (a.length + c)))) = (fun x => dlt s (x + (f + 2) * G a.length (a.length + c) + vs G 0 a)) := funext (fun x => by congr 1; omega)
      rw [this]
section DCO
variable {N : Nat}
/-- the row of what fell -/
def flR (S : mS) (a : List Nat) : Prop := ∀ (i x : Nat), a[i]? = some x → S.2.1 37 i = Int32.ofNat x
theorem L265_do {n : Nat} (hn : n ≤ 6) {S : mS} {a : List Nat} (hf : flR S a) (ha : a.length = n) (hx : ∀ x ∈ a, x ≤ 20) : ∀ (q p : List Nat) (w run prev : Nat), a = p ++ q → w ≤ 6 ^ p.length → run ≤ p.length → (∀ (j : Nat), p.length = j + 1 → p[j]? = some prev) → t_lp (B265_8 N) (q.length + 1) (Int32.ofNat n, Int64.ofNat w, Int32.ofNat run, Int32.ofNat p.length, S) = some (Int64.ofNat (oL p.length w run prev q).1, S) := by
  have p6 : (6 : Nat) ^ 6 = 46656 := by decide
  intro q
  induction q with
  | nil =>
    intro p w run prev hp _ _ _
    have : p.length = n := by rw [← ha, hp, List.append_nil]
    have c : mj_c2 .ge (Int32.ofNat p.length) (Int32.ofNat n) = true := (c_ge (by omega) (by omega)).trans (decide_eq_true (by omega))
    exact t_end (by simp only [B265_8, c, cond_true, oL]) _
  | cons x q ih =>
    intro p w run prev hp hw hrun hprev
    have hl : p.length + (q.length + 1) = n := by rw [← ha, hp, List.length_append, List.length_cons]
    have hw6 : w ≤ 46656 := Nat.le_trans hw (Nat.le_trans (Nat.pow_le_pow_right (by decide) (by omega)) (Nat.le_of_eq p6))
    have c : mj_c2 .ge (Int32.ofNat p.length) (Int32.ofNat n) = false := (c_ge (by omega) (by omega)).trans (decide_eq_false (by omega))
    have ax : a[p.length]? = some x := by rw [hp, List.getElem?_append_right (Nat.le_refl _), Nat.sub_self]; rfl
    have fx := hf _ _ ax
    have hx20 := hx x (by rw [hp]; exact List.mem_append_right _ List.mem_cons_self)
    obtain ⟨r', hr'⟩ : ∃ r', (if 0 < p.length ∧ x = prev then run + 1 else 1) = r' := ⟨_, rfl⟩
    have br : 1 ≤ r' ∧ r' ≤ p.length + 1 := by
      rw [← hr']
      split <;> omega
    have wb : w * (p.length + 1) ≤ 46656 * 6 := Nat.mul_le_mul hw6 (by omega)
    have j46 : J265_46 N (Int32.ofNat n) (Int64.ofNat w) (Int32.ofNat p.length) (Int32.ofNat r') S = some (.inl (Int32.ofNat n, Int64.ofNat (w * (p.length + 1) / r'), Int32.ofNat r', Int32.ofNat (p.length + 1), S)) := by
      have nz : (Int32.ofNat r').toInt64 ≠ 0 := by
        rw [n_l (by omega)]
        intro e
        have := congrArg Int64.toInt e
        rw [j_nat (by omega)] at this
        have z : (0 : Int64).toInt = 0 := rfl
        rw [z] at this
        omega
      simp only [J265_46, if_pos nz, i_inc (k := p.length) (by omega)]
      rw [n_l (by omega), n_l (by omega), l_mul, j_divn (by omega) (by omega) (by omega)]
    have step : B265_8 N (Int32.ofNat n, Int64.ofNat w, Int32.ofNat run, Int32.ofNat p.length, S) = some (.inl (Int32.ofNat n, Int64.ofNat (w * (p.length + 1) / r'), Int32.ofNat r', Int32.ofNat (p.length + 1), S)) := by
      by_cases h0 : p.length = 0
      · have c1 : mj_c1 .le (Int32.ofNat p.length) = true := i_c1 (by show decide _ = true; rw [i_nat (by omega)]; exact decide_eq_true (by omega))
        rw [if_neg (by omega)] at hr'
        subst hr'
        simp only [B265_8, c, c1, cond_true, cond_false, J265_45]
        exact j46
      · have c1 : mj_c1 .le (Int32.ofNat p.length) = false := i_c1 (by show decide _ = false; rw [i_nat (by omega)]; exact decide_eq_false (by omega))
        have cA : 0 ≤ (Int32.ofNat p.length).toInt ∧ (Int32.ofNat p.length).toInt < mN 37 := n_at (by omega) (show p.length < 6 by omega)
        have e1 : Int32.ofNat p.length - 1 = Int32.ofNat (p.length - 1) := n_sub (b := 1) (by omega) (by omega)
        have cB : 0 ≤ (Int32.ofNat (p.length - 1)).toInt ∧ (Int32.ofNat (p.length - 1)).toInt < mN 37 := n_at (by omega) (show p.length - 1 < 6 by omega)
        have fp : S.2.1 37 (p.length - 1) = Int32.ofNat prev := by
          have := hprev (p.length - 1) (by omega)
          exact hf _ _ (by rw [hp]; exact ap_g this)
        have hp20 : prev ≤ 20 := by
          have := hprev (p.length - 1) (by omega)
          exact hx prev (by rw [hp]; exact List.mem_append_left _ (List.mem_of_getElem? this))
        by_cases e : x = prev
        · have c2 : mj_c2 .ne (Int32.ofNat x) (Int32.ofNat prev) = false := (c_ne (by omega) (by omega)).trans (decide_eq_false (fun q => q e))
          rw [if_pos ⟨by omega, e⟩] at hr'
          simp only [B265_8, c, c1, cond_false, e1, if_pos cA, if_pos cB, n_t (a := p.length) (by omega), n_t (a := p.length - 1) (by omega), fx, fp, c2, i_inc (k := run) (by omega), hr']
          exact j46
        · have c2 : mj_c2 .ne (Int32.ofNat x) (Int32.ofNat prev) = true := (c_ne (by omega) (by omega)).trans (decide_eq_true e)
          rw [if_neg (fun q => e q.2)] at hr'
          subst hr'
          simp only [B265_8, c, c1, cond_false, cond_true, e1, if_pos cA, if_pos cB, n_t (a := p.length) (by omega), n_t (a := p.length - 1) (by omega), fx, fp, c2, J265_45]
          exact j46
    have lp : (p ++ [x]).length = p.length + 1 := by rw [List.length_append]; rfl
    have := ih (p ++ [x]) (w * (p.length + 1) / r') r' x (by rw [hp, List.append_assoc]; rfl) (by
      rw [lp, Nat.pow_succ]
      exact Nat.le_trans (Nat.div_le_self _ _) (Nat.mul_le_mul hw (by omega))) (by omega) (fun j hj => by
      have : j = p.length := by omega
      rw [this, List.getElem?_append_right (Nat.le_refl _), Nat.sub_self]
      rfl)
    rw [lp] at this
    rw [List.length_cons, t_one step, this, oL, hr']
theorem M265_do (hN : 2000 ≤ N) {n : Nat} (hn : n ≤ 6) {S : mS} {a : List Nat} (hf : flR S a) (ha : a.length = n) (hx : ∀ x ∈ a, x ≤ 20) : M265 N (Int32.ofNat n) S = some (Int64.ofNat (pre a), S) := by
  have := L265_do (N := N) hn hf ha hx a [] 1 0 0 rfl (Nat.le_refl _) (Nat.zero_le _) (fun j hj => by cases hj)
  exact t_lp_more _ _ _ (by omega) this
end DCO
