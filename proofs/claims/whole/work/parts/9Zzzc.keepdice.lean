/-! DICE OF WHICH SOME ARE KEPT, THE REFERENCE: all that can fall -/
section DCK
variable {N : Nat}
theorem ag_37 {S : mS} {i : Nat} {x : Int32} : m_agr [] [37] [38] S (m_sA S 37 i x) := ⟨fun _ _ => rfl, fun j hj => by
  funext p
  show (if j = 37 ∧ p = i then x else S.2.1 j p) = S.2.1 j p
  rw [if_neg (fun q => hj (by rw [q.1]; decide))], fun _ _ => rfl⟩
/-- places from p on are given f -/
theorem fill_do {σ ρ : Type} {B : σ → Option (σ ⊕ ρ)} {st : Nat → mS → σ} {n f : Nat} (hstep : ∀ i S, i < n → B (st i S) = some (.inl (st (i + 1) (m_sA S 37 i (Int32.ofNat f))))) : ∀ (d : Nat) (b : List Nat) (c : Nat) (S : mS), b.length + c + d = n → (∀ i x, (b ++ List.replicate c f)[i]? = some x → S.2.1 37 i = Int32.ofNat x) → ∃ S', t_lp B (d + 1) (st (b.length + c) S) = t_lp B 1 (st n S') ∧ flR S' (b ++ List.replicate (c + d) f) ∧ m_agr [] [37] [38] S S' ∧ S'.2.2 = S.2.2 := by
  intro d
  induction d with
  | zero =>
    intro b c S h hf
    exact ⟨S, by rw [show b.length + c = n by omega], hf, m_agr_refl, rfl⟩
  | succ d ih =>
    intro b c S h hf
    obtain ⟨S', a1, a2, a3, a4⟩ := ih b (c + 1) (m_sA S 37 (b.length + c) (Int32.ofNat f)) (by omega) (fun i x hx => by
      show (if 37 = 37 ∧ i = b.length + c then Int32.ofNat f else S.2.1 37 i) = _
      have e : b ++ List.replicate (c + 1) f = b ++ List.replicate c f ++ [f] := by rw [List.replicate_succ', List.append_assoc]
      have l : (b ++ List.replicate c f).length = b.length + c := by rw [List.length_append, List.length_replicate]
      rw [e] at hx
      by_cases q : i = b.length + c
      · rw [if_pos ⟨rfl, q⟩]
        rw [q, ← l, List.getElem?_append_right (Nat.le_refl _), Nat.sub_self] at hx
        cases hx
        rfl
      · rw [if_neg (fun w => q w.2)]
        have : i < (b ++ List.replicate c f).length := by
          have := (List.getElem?_eq_some_iff.mp hx).1
          rw [List.length_append, List.length_singleton] at this
          omega
        rw [List.getElem?_append_left this] at hx
        exact hf i x hx)
    refine ⟨S', ?_, by rw [show c + (d + 1) = c + 1 + d by omega]; exact a2, m_agr_trans ag_37 a3, a4⟩
    rw [t_one (hstep _ S (by omega))]
    exact a1
/-- what comes behind a: more, and which -/
def NX (a : List Nat) (more : Nat) (a' : List Nat) : Prop := (∃ b x d, a = b ++ x :: List.replicate d 1 ∧ 2 ≤ x ∧ more = 1 ∧ a' = b ++ List.replicate (d + 1) (x - 1)) ∨ (∃ d, a = List.replicate d 1 ∧ more = 0 ∧ a' = a)
def gK_ (n k : Nat) (lb : Int32) (G : Nat → Nat → Nat) : Prop := k ≤ n ∧ ((lb = 0 ∧ G = Gm k) ∨ (lb = 1 ∧ G = Gx n k))
theorem gK_ad {n k : Nat} {lb : Int32} {G : Nat → Nat → Nat} (h : gK_ n k lb G) : gAd G := by
  rcases h.2 with ⟨-, e⟩ | ⟨-, e⟩
  · rw [e]; exact Gm_ad
  · rw [e]; exact Gx_ad
/-- the last that is not 1 is looked for, and what comes next is laid -/
theorem L264_131_do (hN : 2000 ≤ N) {n : Nat} (hn : n ≤ 6) {lb k : Int32} {S : mS} {a a' : List Nat} {more : Nat} (hf : flR S a) (ha : a.length = n) (hx : ∀ x ∈ a, x ≤ 20) (hnx : NX a more a') : ∃ S', L264_131 N (Int32.ofNat n, lb, k, Int32.ofNat n - 1, S) = some (.inl (Int32.ofNat n, lb, k, Int32.ofNat more, S')) ∧ flR S' a' ∧ m_agr [] [37] [38] S S' ∧ S'.2.2 = S.2.2 := by
  have st0 : ∀ (b : List Nat) (D : Nat), a = b ++ List.replicate D 1 → ∀ d, d ≤ D → t_lp (B264_131 N) (d + 1) (Int32.ofNat n, lb, k, Int32.ofNat (b.length + d) - 1, S) = t_lp (B264_131 N) 1 (Int32.ofNat n, lb, k, Int32.ofNat b.length - 1, S) := by
    intro b D e d
    have hb : b.length + D = n := by rw [← ha, e, List.length_append, List.length_replicate]
    induction d with
    | zero => intro _; rfl
    | succ d ih =>
      intro hd
      have i1 : Int32.ofNat (b.length + (d + 1)) - 1 = Int32.ofNat (b.length + d) := n_sub (b := 1) (by omega) (by omega)
      have c1 : mj_c1 .lt (Int32.ofNat (b.length + d)) = false := c1_lt (by omega)
      have c2 : 0 ≤ (Int32.ofNat (b.length + d)).toInt ∧ (Int32.ofNat (b.length + d)).toInt < mN 37 := n_at (by omega) (show b.length + d < 6 by omega)
      have v : S.2.1 37 (b.length + d) = Int32.ofNat 1 := hf _ _ (by rw [e, List.getElem?_append_right (by omega), List.getElem?_replicate, if_pos (by omega)])
      have c3 : mj_c2 .ne (Int32.ofNat 1) 1 = false := by decide
      have i2 : Int32.ofNat (b.length + d) + (-1) = Int32.ofNat (b.length + d) - 1 := by rw [Int32.sub_eq_add_neg]
      have st : B264_131 N (Int32.ofNat n, lb, k, Int32.ofNat (b.length + d), S) = some (.inl (Int32.ofNat n, lb, k, Int32.ofNat (b.length + d) - 1, S)) := by
        simp only [B264_131, c1, cond_false, if_pos c2, n_t (a := b.length + d) (by omega), v, c3, i2]
      rw [i1, t_one st]
      exact ih (by omega)
  have e0 : mj_c1 .eq 0 = true := by decide
  have e1 : mj_c1 .eq 1 = false := by decide
  rcases hnx with ⟨b, x, d, h1, h2, rfl, h4⟩ | ⟨d, h1, rfl, h4⟩
  · have h1' : a = (b ++ [x]) ++ List.replicate d 1 := by rw [h1, List.append_assoc]; rfl
    have lb1 : (b ++ [x]).length = b.length + 1 := by rw [List.length_append]; rfl
    have hb : b.length + 1 + d = n := by rw [← ha, h1', List.length_append, lb1, List.length_replicate]
    have hx20 := hx x (by rw [h1]; exact List.mem_append_right _ List.mem_cons_self)
    have s0 := st0 (b ++ [x]) d h1' d (Nat.le_refl _)
    rw [lb1, hb] at s0
    have i1 : Int32.ofNat (b.length + 1) - 1 = Int32.ofNat b.length := n_sub (b := 1) (by omega) (by omega)
    have c1 : mj_c1 .lt (Int32.ofNat b.length) = false := c1_lt (by omega)
    have c2 : 0 ≤ (Int32.ofNat b.length).toInt ∧ (Int32.ofNat b.length).toInt < mN 37 := n_at (by omega) (show b.length < 6 by omega)
    have v : S.2.1 37 b.length = Int32.ofNat x := hf _ _ (by rw [h1, List.getElem?_append_right (Nat.le_refl _), Nat.sub_self]; rfl)
    have c3 : mj_c2 .ne (Int32.ofNat x) 1 = true := (c_ne (b := 1) (by omega) (by omega)).trans (decide_eq_true (by omega))
    have i2 : Int32.ofNat x - 1 = Int32.ofNat (x - 1) := n_sub (b := 1) (by omega) (by omega)
    obtain ⟨S', f1, f2, f3, f4⟩ := fill_do (B := B264_185 N) (st := fun i S => (Int32.ofNat n, lb, k, 1, Int32.ofNat (x - 1), Int32.ofNat i, S)) (n := n) (f := x - 1) (fun i S hi => by
      have c : mj_c2 .ge (Int32.ofNat i) (Int32.ofNat n) = false := (c_ge (by omega) (by omega)).trans (decide_eq_false (by omega))
      have c4 : 0 ≤ (Int32.ofNat i).toInt ∧ (Int32.ofNat i).toInt < mN 37 := n_at (by omega) (show i < 6 by omega)
      rw [← i_inc (by omega)]
      simp only [B264_185, c, cond_false, if_pos c4, n_t (a := i) (by omega)]) (d + 1) b 0 S (by omega) (fun i x hx => hf i x (by
        rw [List.replicate_zero, List.append_nil] at hx
        rw [h1]
        exact ap_g hx))
    rw [Nat.zero_add] at f2
    refine ⟨S', ?_, by rw [h4]; exact f2, f3, f4⟩
    refine t_lp_more (d + 1) _ _ (by omega) ?_
    rw [s0]
    have key : B264_131 N (Int32.ofNat n, lb, k, Int32.ofNat b.length, S) = (L264_185 N (Int32.ofNat n, lb, k, 1, Int32.ofNat (x - 1), Int32.ofNat b.length, S)).map Sum.inr := by
      simp only [B264_131, c1, cond_false, if_pos c2, n_t (a := b.length) (by omega), v, c3, cond_true, J264_153, J264_163, e1, i2]
    rw [i1]
    have l185 : L264_185 N (Int32.ofNat n, lb, k, 1, Int32.ofNat (x - 1), Int32.ofNat b.length, S) = some (.inl (Int32.ofNat n, lb, k, 1, S')) := by
      have c : mj_c2 .ge (Int32.ofNat n) (Int32.ofNat n) = true := (c_ge (by omega) (by omega)).trans (decide_eq_true (by omega))
      have e : B264_185 N (Int32.ofNat n, lb, k, 1, Int32.ofNat (x - 1), Int32.ofNat n, S') = some (.inr (.inl (Int32.ofNat n, lb, k, 1, S'))) := by
        simp only [B264_185, c, cond_true, J264_206, Option.map_some]
      exact t_lp_more (d + 1 + 1) _ _ (by omega) (f1.trans (t_end e _))
    rw [l185] at key
    exact t_end key _
  · have hd : d = n := by rw [← ha, h1, List.length_replicate]
    subst hd
    have s0 := st0 [] d (by rw [h1]; rfl) d (Nat.le_refl _)
    refine ⟨S, ?_, by rw [h4]; exact hf, m_agr_refl, rfl⟩
    refine t_lp_more (d + 1) _ _ (by omega) ?_
    have s1 : t_lp (B264_131 N) (d + 1) (Int32.ofNat d, lb, k, Int32.ofNat d - 1, S) = t_lp (B264_131 N) 1 (Int32.ofNat d, lb, k, Int32.ofNat 0 - 1, S) := by
      rw [List.length_nil, Nat.zero_add] at s0
      exact s0
    rw [s1]
    have c1 : mj_c1 .lt (Int32.ofNat 0 - 1) = true := by decide
    refine t_end ?_ _
    simp only [B264_131, c1, cond_true, J264_153, J264_163, e0, J264_206, Option.map_some]
    rfl
/-- what is kept is added up -/
theorem L264_37_do {n k : Nat} (hn : n ≤ 6) {lb : Int32} {G : Nat → Nat → Nat} (hG : gK_ n k lb G) {S : mS} {a : List Nat} (hf : flR S a) (ha : a.length = n) (hx : ∀ x ∈ a, x ≤ 20) : ∀ (q p : List Nat), a = p ++ q → t_lp (B264_37 N) (q.length + 1) (Int32.ofNat n, lb, Int32.ofNat k, Int32.ofNat (vs G 0 p), Int32.ofNat p.length, S) = t_lp (B264_37 N) 1 (Int32.ofNat n, lb, Int32.ofNat k, Int32.ofNat (vs G 0 a), Int32.ofNat n, S) := by
  have e0 : mj_c1 .eq 0 = true := by decide
  have e1 : mj_c1 .eq 1 = false := by decide
  intro q
  induction q with
  | nil =>
    intro p hp
    rw [List.append_nil] at hp
    rw [← hp, ha]
    rfl
  | cons x q ih =>
    intro p hp
    have hl : p.length + (q.length + 1) = n := by rw [← ha, hp, List.length_append, List.length_cons]
    have lp : (p ++ [x]).length = p.length + 1 := by rw [List.length_append]; rfl
    have c : mj_c2 .ge (Int32.ofNat p.length) (Int32.ofNat n) = false := (c_ge (by omega) (by omega)).trans (decide_eq_false (by omega))
    have fx := hf p.length x (by rw [hp, List.getElem?_append_right (Nat.le_refl _), Nat.sub_self]; rfl)
    have hx20 := hx x (by rw [hp]; exact List.mem_append_right _ List.mem_cons_self)
    have cA : 0 ≤ (Int32.ofNat p.length).toInt ∧ (Int32.ofNat p.length).toInt < mN 37 := n_at (by omega) (show p.length < 6 by omega)
    have vv : vs G 0 (p ++ [x]) = vs G 0 p + x * G p.length (p.length + 1) := by
      rw [vs_app, Nat.zero_add]
      show _ + (_ + 0) = _
      rw [Nat.add_zero]
    have step : B264_37 N (Int32.ofNat n, lb, Int32.ofNat k, Int32.ofNat (vs G 0 p), Int32.ofNat p.length, S) = some (.inl (Int32.ofNat n, lb, Int32.ofNat k, Int32.ofNat (vs G 0 (p ++ [x])), Int32.ofNat (p ++ [x]).length, S)) := by
      rw [vv, lp, ← i_inc (by omega)]
      obtain ⟨hk, hg⟩ := hG
      rcases hg with ⟨rfl, rfl⟩ | ⟨rfl, rfl⟩
      · by_cases q : p.length < k
        · have c2 : mj_c2 .ge (Int32.ofNat p.length) (Int32.ofNat k) = false := (c_ge (by omega) (by omega)).trans (decide_eq_false (by omega))
          rw [show Gm k p.length (p.length + 1) = 1 by unfold Gm; omega, Nat.mul_one, ← n_add]
          simp only [B264_37, c, cond_false, e0, cond_true, c2, J264_76, e1, if_pos cA, n_t (a := p.length) (by omega), fx, J264_98]
        · have c2 : mj_c2 .ge (Int32.ofNat p.length) (Int32.ofNat k) = true := (c_ge (by omega) (by omega)).trans (decide_eq_true (by omega))
          rw [show Gm k p.length (p.length + 1) = 0 by unfold Gm; omega, Nat.mul_zero, Nat.add_zero]
          simp only [B264_37, c, cond_false, e0, cond_true, c2, J264_76, J264_98]
      · have i1 : Int32.ofNat n - Int32.ofNat k = Int32.ofNat (n - k) := n_sub (by omega) hk
        by_cases q : p.length < n - k
        · have c2 : mj_c2 .lt (Int32.ofNat p.length) (Int32.ofNat (n - k)) = true := (c_lt (by omega) (by omega)).trans (decide_eq_true (by omega))
          rw [show Gx n k p.length (p.length + 1) = 0 by unfold Gx; omega, Nat.mul_zero, Nat.add_zero]
          simp only [B264_37, c, cond_false, e0, e1, cond_true, i1, c2, J264_76, J264_98]
        · have c2 : mj_c2 .lt (Int32.ofNat p.length) (Int32.ofNat (n - k)) = false := (c_lt (by omega) (by omega)).trans (decide_eq_false (by omega))
          rw [show Gx n k p.length (p.length + 1) = 1 by unfold Gx; omega, Nat.mul_one, ← n_add]
          simp only [B264_37, c, cond_false, e1, i1, c2, J264_76, if_pos cA, n_t (a := p.length) (by omega), fx, J264_98]
    rw [List.length_cons, t_one step]
    exact ih (p ++ [x]) (by rw [hp, List.append_assoc]; rfl)
/-- a round: what fell is counted, what comes next is laid -/
theorem B264_26_do (hN : 2000 ≤ N) {n k : Nat} (hn : n ≤ 6) {lb : Int32} {G : Nat → Nat → Nat} (hG : gK_ n k lb G) {S : mS} {T : Nat → Nat} {a a' : List Nat} {more : Nat} (hf : flR S a) (hT : nowR S T) (ha : a.length = n) (hx : ∀ x ∈ a, x ≤ 20) (hnx : NX a more a') : ∃ S', B264_26 N (Int32.ofNat n, lb, Int32.ofNat k, 1, S) = some (.inl (Int32.ofNat n, lb, Int32.ofNat k, Int32.ofNat more, S')) ∧ flR S' a' ∧ nowR S' (fun s => T s + if s = vs G 0 a then pre a else 0) ∧ m_agr [] [37] [38] S S' := by
  have e1 : mj_c1 .eq 1 = false := by decide
  have vb := vs_le (gK_ad hG) a 0 hx
  rw [ha] at vb
  have l37 := L264_37_do (N := N) hn hG hf ha hx a [] rfl
  have c : mj_c2 .ge (Int32.ofNat n) (Int32.ofNat n) = true := (c_ge (by omega) (by omega)).trans (decide_eq_true (by omega))
  have cv : 0 ≤ (Int32.ofNat (vs G 0 a)).toInt ∧ (Int32.ofNat (vs G 0 a)).toInt < mN 38 := n_at (by omega) (show vs G 0 a < 121 by omega)
  have tv := n_t (a := vs G 0 a) (by omega)
  have m265 := M265_do (N := N) hN hn hf ha hx
  have v : S.2.2 38 (vs G 0 a) = Int64.ofNat (T (vs G 0 a)) := hT _ (by omega)
  obtain ⟨S1, hS1⟩ : ∃ S1, m_sB S 38 (vs G 0 a) (Int64.ofNat (T (vs G 0 a) + pre a)) = S1 := ⟨_, rfl⟩
  have f1 : flR S1 a := by rw [← hS1]; exact hf
  obtain ⟨S', g1, g2, g3, g4⟩ := L264_131_do (N := N) (k := Int32.ofNat k) (lb := lb) hN hn f1 ha hx hnx
  have key : B264_37 N (Int32.ofNat n, lb, Int32.ofNat k, Int32.ofNat (vs G 0 a), Int32.ofNat n, S) = some (.inr (.inl (Int32.ofNat n, lb, Int32.ofNat k, Int32.ofNat more, S'))) := by
    simp only [B264_37, c, cond_true, if_pos cv, m265, Option.bind_some, tv, v, l_add, hS1, g1, Option.map_some]
  refine ⟨S', ?_, g2, fun s hs => ?_, ?_⟩
  · simp only [B264_26, e1, cond_false]
    refine t_lp_more (a.length + 1) _ _ (by omega) ?_
    have : t_lp (B264_37 N) (a.length + 1) (Int32.ofNat n, lb, Int32.ofNat k, Int32.ofNat (vs G 0 []), Int32.ofNat ([] : List Nat).length, S) = _ := l37
    exact this.trans (t_end key _)
  · rw [g4, ← hS1, now_set hT s hs]
    congr 1
    dsimp only
    by_cases e : s = vs G 0 a
    · rw [if_pos e, if_pos e, e]
    · rw [if_neg e, if_neg e, Nat.add_zero]
  · refine m_agr_trans ?_ g3
    rw [← hS1]
    exact m_agr_mono ag_38 (by decide) (by decide) (by decide)
/-- all that can fall behind a, at most f -/
def RUN (N n k : Nat) (lb : Int32) (G : Nat → Nat → Nat) (a0 : List Nat) (bd : Nat) (b : List Nat) (W : Nat → Nat) : Prop := ∀ (S : mS) (T : Nat → Nat), flR S a0 → nowR S T → ∃ r, r ≤ bd ∧ ∀ more a', NX b more a' → ∃ S', flR S' a' ∧ nowR S' (fun s => T s + W s) ∧ m_agr [] [37] [38] S S' ∧ ∀ F, t_lp (B264_26 N) (F + r) (Int32.ofNat n, lb, Int32.ofNat k, 1, S) = t_lp (B264_26 N) F (Int32.ofNat n, lb, Int32.ofNat k, Int32.ofNat more, S')
theorem RUN_do (hN : 2000 ≤ N) {n k : Nat} (hn : n ≤ 6) {lb : Int32} {G : Nat → Nat → Nat} (hG : gK_ n k lb G) : ∀ (f : Nat) (a : List Nat), 1 ≤ f → f ≤ 20 → a.length ≤ n → (∀ x ∈ a, f < x ∧ x ≤ 20) → RUN N n k lb G (a ++ List.replicate (n - a.length) f) (7 ^ f) (a ++ List.replicate (n - a.length) 1) (Wk n G f a) := by
  intro f
  induction f with
  | zero => intro a h; omega
  | succ f ih =>
    intro a _ hf20 han hax
    cases f with
    | zero =>
      intro S T hf hT
      refine ⟨1, by decide, fun more a' hnx => ?_⟩
      obtain ⟨S', b1, b2, b3, b4⟩ := B264_26_do (N := N) hN hn hG hf hT (by rw [List.length_append, List.length_replicate]; omega) (fun x hx => by
        rcases List.mem_append.mp hx with q | q
        · exact (hax x q).2
        · rw [(List.mem_replicate.mp q).2]; omega) hnx
      exact ⟨S', b2, b3, b4, fun F => t_one b1 F⟩
    | succ f =>
      have Q : ∀ c, c ≤ n - a.length → RUN N n k lb G (a ++ List.replicate c (f + 2) ++ List.replicate (n - a.length - c) (f + 1)) ((c + 1) * 7 ^ (f + 1)) (a ++ List.replicate (n - a.length) 1) (fun s => sm (c + 1) (fun c' => Wk n G (f + 1) (a ++ List.replicate c' (f + 2)) s)) := by
        intro c
        induction c with
        | zero =>
          intro _
          have := ih a (by omega) (by omega) han (fun x hx => ⟨by have := (hax x hx).1; omega, (hax x hx).2⟩)
          rw [List.replicate_zero, List.append_nil, Nat.sub_zero, Nat.zero_add, Nat.one_mul]
          have e : (fun s => sm 1 (fun c' => Wk n G (f + 1) (a ++ List.replicate c' (f + 2)) s)) = Wk n G (f + 1) a := by
            funext s
            show 0 + Wk n G (f + 1) (a ++ List.replicate 0 (f + 2)) s = _
            rw [Nat.zero_add, List.replicate_zero, List.append_nil]
          rw [e]
          exact this
        | succ c ihc =>
          intro hc
          have l1 : (a ++ List.replicate (c + 1) (f + 2)).length = a.length + (c + 1) := by rw [List.length_append, List.length_replicate]
          have R1 := ih (a ++ List.replicate (c + 1) (f + 2)) (by omega) (by omega) (by omega) (fun x hx => by
            rcases List.mem_append.mp hx with q | q
            · exact ⟨by have := (hax x q).1; omega, (hax x q).2⟩
            · rw [(List.mem_replicate.mp q).2]; omega)
          rw [l1, show n - (a.length + (c + 1)) = n - a.length - (c + 1) by omega] at R1
          have Q1 := ihc (by omega)
          intro S T hf hT
          obtain ⟨r1, r1b, r1d⟩ := R1 S T hf hT
          obtain ⟨S1, s1, s2, s3, s4⟩ := r1d 1 (a ++ List.replicate c (f + 2) ++ List.replicate (n - a.length - c) (f + 1)) (Or.inl ⟨a ++ List.replicate c (f + 2), f + 2, n - a.length - (c + 1), by
            rw [List.replicate_succ', List.append_assoc, List.append_assoc, List.append_assoc]
            rfl, by omega, rfl, by rw [show n - a.length - (c + 1) + 1 = n - a.length - c by omega]; rfl⟩)
          obtain ⟨r2, r2b, r2d⟩ := Q1 S1 _ s1 s2
          refine ⟨r2 + r1, by rw [Nat.add_mul (c + 1) 1, Nat.one_mul]; omega, fun more a' hnx => ?_⟩
          obtain ⟨S2, t1, t2, t3, t4⟩ := r2d more a' hnx
          refine ⟨S2, t1, fun s hs => ?_, m_agr_trans s3 t3, fun F => ?_⟩
          · rw [t2 s hs]
            congr 1
            show T s + Wk n G (f + 1) (a ++ List.replicate (c + 1) (f + 2)) s + sm (c + 1) (fun c' => Wk n G (f + 1) (a ++ List.replicate c' (f + 2)) s) = T s + (sm (c + 1) (fun c' => Wk n G (f + 1) (a ++ List.replicate c' (f + 2)) s) + Wk n G (f + 1) (a ++ List.replicate (c + 1) (f + 2)) s)
            omega
          · rw [← Nat.add_assoc, s4]
            exact t4 F
      have q := Q (n - a.length) (Nat.le_refl _)
      rw [Nat.sub_self, List.replicate_zero, List.append_nil] at q
      intro S T hf hT
      obtain ⟨r, r1, r2⟩ := q S T hf hT
      refine ⟨r, ?_, r2⟩
      have : (n - a.length + 1) * 7 ^ (f + 1) ≤ 7 * 7 ^ (f + 1) := Nat.mul_le_mul_right _ (by omega)
      rw [show f + 1 + 1 = (f + 1) + 1 from rfl, Nat.pow_succ, Nat.mul_comm (7 ^ (f + 1)) 7]
      omega
/-- dice of which some are kept -/
theorem M264_do (hN : 100000000000000000 ≤ N) {n m k : Nat} (hn : n ≤ 6) (hm : 1 ≤ m ∧ m ≤ 20) {lb : Int32} {G : Nat → Nat → Nat} (hG : gK_ n k lb G) {S : mS} (hT : nowR S (fun _ => 0)) : ∃ S', M264 N (Int32.ofNat n) (Int32.ofNat m) lb (Int32.ofNat k) S = some S' ∧ nowR S' (fun s => U n Kr G (fD m) 0 n (dlt s)) ∧ m_agr [] [37] [38] S S' := by
  obtain ⟨S1, f1, f2, f3, f4⟩ := fill_do (B := B264_3 N) (st := fun i S => (Int32.ofNat n, Int32.ofNat m, lb, Int32.ofNat k, Int32.ofNat i, S)) (n := n) (f := m) (fun i S hi => by
      have c : mj_c2 .ge (Int32.ofNat i) (Int32.ofNat n) = false := (c_ge (by omega) (by omega)).trans (decide_eq_false (by omega))
      have c4 : 0 ≤ (Int32.ofNat i).toInt ∧ (Int32.ofNat i).toInt < mN 37 := n_at (by omega) (show i < 6 by omega)
      rw [← i_inc (by omega)]
      simp only [B264_3, c, cond_false, if_pos c4, n_t (a := i) (by omega)]) n [] 0 S (by rw [List.length_nil]; omega) (fun i x hx => by cases hx)
  rw [Nat.zero_add, List.nil_append] at f2
  have R := RUN_do (N := N) (by omega) hn hG m [] hm.1 hm.2 (Nat.zero_le _) (fun x hx => by cases hx)
  rw [List.nil_append, List.nil_append, List.length_nil, Nat.sub_zero] at R
  obtain ⟨r, r1, r2⟩ := R S1 (fun _ => 0) f2 (fun s hs => by rw [f4]; exact hT s hs)
  obtain ⟨S2, a1, a2, a3, a4⟩ := r2 0 (List.replicate n 1) (Or.inr ⟨n, rfl, rfl, rfl⟩)
  have p20 : (7 : Nat) ^ m ≤ 7 ^ 20 := Nat.pow_le_pow_right (by decide) hm.2
  have p20' : (7 : Nat) ^ 20 = 79792266297612001 := by decide
  have c : mj_c2 .ge (Int32.ofNat n) (Int32.ofNat n) = true := (c_ge (by omega) (by omega)).trans (decide_eq_true (by omega))
  have e0 : mj_c1 .eq 0 = true := by decide
  have l26 : L264_26 N (Int32.ofNat n, lb, Int32.ofNat k, 1, S1) = some S2 := by
    refine t_lp_more (1 + r) _ _ (by omega) ?_
    rw [a4 1]
    exact t_end (by
      show B264_26 N (Int32.ofNat n, lb, Int32.ofNat k, 0, S2) = _
      simp only [B264_26, e0, cond_true]) _
  refine ⟨S2, ?_, fun s hs => ?_, m_agr_trans f3 a3⟩
  · refine t_lp_more (n + 1) _ _ (by omega) ?_
    have e : B264_3 N (Int32.ofNat n, Int32.ofNat m, lb, Int32.ofNat k, Int32.ofNat n, S1) = some (.inr S2) := by
      simp only [B264_3, c, cond_true, l26, Option.map_some]
    exact f1.trans (t_end e _)
  · rw [a2 s hs]
    congr 1
    dsimp only
    rw [Nat.zero_add, Wk_U (gK_ad hG) m [] s hm.1 (Nat.zero_le _) (fun x hx => by cases hx)]
    show 1 * U n Kr G (fD m) 0 n (fun x => dlt s (x + 0)) = _
    rw [Nat.one_mul]
    rfl
end DCK
