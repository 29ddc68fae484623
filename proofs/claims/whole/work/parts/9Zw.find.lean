/-! THE REFERENCE'S FACTORS -/
/-- a node that can be -/
def ndV (nd : Nd) : Prop := (nd.1 = 5 ∧ 1 ≤ nd.2.2.1.toInt ∧ nd.2.2.1.toInt ≤ 8) ∨ (nd.1 = 4 ∧ (1 ≤ nd.2.1.toInt ∧ nd.2.1.toInt ≤ 6) ∧ (2 ≤ nd.2.2.1.toInt ∧ nd.2.2.1.toInt ≤ 20) ∧ (0 ≤ nd.2.2.2.2.1.toInt ∧ nd.2.2.2.2.1.toInt ≤ 6)) ∨ (nd.1 ≠ 4 ∧ nd.1 ≠ 5)
theorem ndV_lf {H : mj_H} {A B b a f : Nat} {nd : Nd} {fl : List Int32} (h : lfT H A B nd b fl a f) : ndV nd := by
  obtain ⟨h1, h2, h3⟩ := h
  rcases h3 with ⟨v, c1, rfl, c3, c4, rfl⟩ | ⟨v, c1, rfl, c3, c4, rfl⟩ | ⟨n, m, how, keep, pick, k, w, ⟨d1, d2, d3⟩, rfl, c3, c4, rfl⟩ | ⟨r, rfl, c2, c3, c4, c5, c6, c7, rfl⟩
  · exact Or.inr (Or.inr ⟨show (0 : Int32) ≠ 4 by decide, show (0 : Int32) ≠ 5 by decide⟩)
  · exact Or.inr (Or.inr ⟨show (1 : Int32) ≠ 4 by decide, show (1 : Int32) ≠ 5 by decide⟩)
  · have em : (Int32.ofNat m).toInt = m := i_nat (by omega)
    have en : (Int32.ofNat n).toInt = n := i_nat (by omega)
    refine Or.inr (Or.inl ⟨rfl, by dsimp only; omega, by dsimp only; omega, ?_⟩)
    dsimp only
    rcases d3 with ⟨-, rfl, -, -⟩ | ⟨-, -, -, hk, rfl⟩ | ⟨-, -, hk, rfl⟩
    · decide
    · rw [i_nat (by omega)]; omega
    · rw [i_nat (by omega)]; omega
  · refine Or.inl ⟨rfl, ?_⟩
    dsimp only
    rw [i_nat (by omega)]
    omega
theorem exT_nd {H : mj_H} {A B : Nat} {nds : List Nd} {fcs : List Int32} : ∀ (n lo i a f : Nat), exT H A B nds fcs n lo i a f → ∀ k, lo ≤ k → k ≤ i → ∃ nd, nds[k]? = some nd ∧ ndV nd := by
  intro n
  induction n with
  | zero => intro lo i a f h; exact h.elim
  | succ n ih =>
    intro lo i a f h k k1 k2
    rcases h with ⟨rfl, nd, b, fl, h1, h2, h3⟩ | ⟨j, x, rfl, h1, h2, h3, h4, h5⟩ | ⟨j, m, x, y, g, h, c, rfl, h1, h2, h3, h4, h5, h6, h7, h8⟩
    · have : k = lo := by omega
      subst this
      exact ⟨nd, h1, ndV_lf h2⟩
    · by_cases e : k = j + 1
      · subst e
        exact ⟨_, h4, Or.inr (Or.inr ⟨show (2 : Int32) ≠ 4 by decide, show (2 : Int32) ≠ 5 by decide⟩)⟩
      · exact ih _ _ _ _ h3 k k1 (by omega)
    · by_cases e : k = j + 1
      · subst e
        exact ⟨_, h6, Or.inr (Or.inr ⟨show (3 : Int32) ≠ 4 by decide, show (3 : Int32) ≠ 5 by decide⟩)⟩
      · by_cases e2 : k ≤ m
        · exact ih _ _ _ _ h3 k k1 e2
        · exact ih _ _ _ _ h4 k (by omega) (by omega)
/-- every statement of a block lies in its tree -/
theorem bk_all {H : mj_H} {sts : List St} {nds : List Nd} {fcs : List Int32} : ∀ (n : Nat) (l : List (Nat × Nat)) (A B lo hi : Nat), bk (sT H sts nds fcs n A B) sts l lo hi → ∀ s, lo ≤ s → s < hi → ∃ n' A' B' t a, sts[s]? = some t ∧ sT H sts nds fcs n' A' B' s t a := by
  intro n
  induction n with
  | zero =>
    intro l A B lo hi h s s1 s2
    cases l with
    | nil => exact absurd (show lo = hi from h) (by omega)
    | cons x r =>
      obtain ⟨t, -, -, h3, -⟩ := h
      exact h3.elim
  | succ n ihn =>
    intro l
    induction l with
    | nil =>
      intro A B lo hi h s s1 s2
      exact absurd (show lo = hi from h) (by omega)
    | cons x r ih =>
      intro A B lo hi h s s1 s2
      obtain ⟨t, h1, h2, h3, h4⟩ := h
      by_cases e : s = lo
      · subst e
        exact ⟨n + 1, A, B, t, x.1, h1, h3⟩
      · by_cases e2 : t.2.2.2.2.2.1 ≤ s
        · exact ih A B _ hi h4 s e2 s2
        · obtain ⟨-, -, -, c, ee, tm, o1, o2, nx, s1', s2', A1, B1, k1, k2, k3, k4, k5⟩ := h3
          rcases k5 with ⟨q1, q2, q3, q4, -⟩ | ⟨q1, q2, fe, l1, l2, q3, q4, q5, q6, q7, q8⟩ | ⟨q1, q2, q3, q4, q5, q6, q7, q8, l1, q9, q10, q11⟩
          · omega
          · by_cases e3 : s < t.2.2.2.2.1
            · exact ihn l1 A1 B1 _ _ q5 s (by omega) e3
            · exact ihn l2 A1 B1 _ _ q7 s (by omega) (by omega)
          · exact ihn l1 A1 B1 _ _ q10 s (by omega) (by omega)
section FIN1
variable {N : Nat}
theorem M239_do (hN : 2000 ≤ N) {S : mS} {x : Int32} {i : Nat} {nd : Nd} (hx : x.toInt = i) (hi : i < 640) (hn : ndAt S i = nd) (hv : ndV nd) : M239 N x S = some (Int64.ofNat (ndF nd), S) ∧ 1 ≤ ndF nd ∧ ndF nd ≤ 2147483649 := by
  have et : x.toInt.toNat = i := by omega
  have c13 : 0 ≤ x.toInt ∧ x.toInt < mN 13 := by rw [show mN 13 = 640 from rfl]; omega
  have c14 : 0 ≤ x.toInt ∧ x.toInt < mN 14 := by rw [show mN 14 = 640 from rfl]; omega
  have c15 : 0 ≤ x.toInt ∧ x.toInt < mN 15 := by rw [show mN 15 = 640 from rfl]; omega
  have c16 : 0 ≤ x.toInt ∧ x.toInt < mN 16 := by rw [show mN 16 = 640 from rfl]; omega
  have c17 : 0 ≤ x.toInt ∧ x.toInt < mN 17 := by rw [show mN 17 = 640 from rfl]; omega
  have e1 : S.2.1 13 i = nd.1 := congrArg (fun q : Nd => q.1) hn
  have e2 : S.2.1 14 i = nd.2.1 := congrArg (fun q : Nd => q.2.1) hn
  have e3 : S.2.1 15 i = nd.2.2.1 := congrArg (fun q : Nd => q.2.2.1) hn
  have e4 : S.2.1 16 i = nd.2.2.2.1 := congrArg (fun q : Nd => q.2.2.2.1) hn
  have e5 : S.2.1 17 i = nd.2.2.2.2.1 := congrArg (fun q : Nd => q.2.2.2.2.1) hn
  rcases hv with ⟨h5, b1, b2⟩ | ⟨h4, b1, b2, b3⟩ | ⟨h4, h5⟩
  · have c : mj_c2 .ne nd.1 5 = false := decide_eq_false (fun q => q h5)
    have ef : ndF nd = nd.2.2.1.toInt.toNat := by unfold ndF; rw [if_pos h5]
    have ej : nd.2.2.1.toInt64 = Int64.ofNat nd.2.2.1.toInt.toNat := j_eq (by rw [Int32.toInt_toInt64]; omega)
    rw [ef]
    refine ⟨?_, by omega, by omega⟩
    simp only [M239, if_pos c13, if_pos c15, et, e1, e3, c, cond_false, ej]
  · have c : mj_c2 .ne nd.1 5 = true := by rw [h4]; decide
    have c4 : mj_c2 .eq nd.1 4 = true := decide_eq_true h4
    have h5 : nd.1 ≠ 5 := by rw [h4]; decide
    have em : nd.2.2.1.toInt64 = Int64.ofNat nd.2.2.1.toInt.toNat := j_eq (by rw [Int32.toInt_toInt64]; omega)
    by_cases h101 : nd.2.2.2.1 = 101
    · have d : mj_c2 .ne nd.2.2.2.1 101 = false := decide_eq_false (fun q => q h101)
      have ef : ndF nd = pwN nd.2.2.1.toInt.toNat (nd.2.2.2.2.1.toInt.toNat + 1) 1 := by unfold ndF; rw [if_neg h5, if_pos h4, if_pos h101]
      have ek : nd.2.2.2.2.1 + 1 = Int32.ofNat (nd.2.2.2.2.1.toInt.toNat + 1) := i_eq (by rw [i_add (by rw [q_1]; omega) (by rw [q_1]; omega), q_1]; omega)
      have m := M238_do (N := N) (S := S) hN (a := nd.2.2.1.toInt.toNat) (t := nd.2.2.2.2.1.toInt.toNat + 1) (by omega) (by omega)
      rw [ef]
      refine ⟨?_, pwN_bd (by omega) _ _ (by decide) (by decide)⟩
      simp only [M239, if_pos c13, if_pos c15, if_pos c16, if_pos c17, et, e1, e3, e4, e5, c, c4, d, cond_true, cond_false, J239_65, em, ek, m, Option.bind_some]
    · have d : mj_c2 .ne nd.2.2.2.1 101 = true := decide_eq_true h101
      have ef : ndF nd = pwN nd.2.2.1.toInt.toNat nd.2.1.toInt.toNat 1 := by unfold ndF; rw [if_neg h5, if_pos h4, if_neg h101]
      have ek : nd.2.1 = Int32.ofNat nd.2.1.toInt.toNat := i_eq (by omega)
      have m := M238_do (N := N) (S := S) hN (a := nd.2.2.1.toInt.toNat) (t := nd.2.1.toInt.toNat) (by omega) (by omega)
      rw [← ek] at m
      rw [ef]
      refine ⟨?_, pwN_bd (by omega) _ _ (by decide) (by decide)⟩
      simp only [M239, if_pos c13, if_pos c14, if_pos c15, if_pos c16, et, e1, e2, e3, e4, c, c4, d, cond_true, J239_65, em, m, Option.bind_some]
  · have c : mj_c2 .ne nd.1 5 = true := decide_eq_true h5
    have c4 : mj_c2 .eq nd.1 4 = false := decide_eq_false h4
    have ef : ndF nd = 1 := by unfold ndF; rw [if_neg h5, if_neg h4]
    rw [ef]
    refine ⟨?_, by decide, by decide⟩
    simp only [M239, if_pos c13, et, e1, c, c4, cond_true, cond_false]
    rfl
theorem seg_cons {nds : List Nd} {k hi : Nat} {nd : Nd} (h : nds[k]? = some nd) (hk : k ≤ hi) (hh : hi < nds.length) : seg nds k hi = ndF nd :: seg nds (k + 1) hi := by
  rw [seg_app (m := k) (by omega) hk hh, seg_one h]
  rfl
theorem seg_nil {nds : List Nd} {hi : Nat} : seg nds (hi + 1) hi = [] := by
  unfold seg
  rw [List.drop_eq_nil_of_le (by rw [List.length_take]; omega)]
  rfl
/-- the product over an expression's nodes -/
theorem L235_do (hN : 2000 ≤ N) {S : mS} {nds : List Nd} {x1 : Int32} {i hi : Nat} (hi24 : i < 24) (h9 : S.2.1 9 (72 + i) = Int32.ofNat hi) (hn : drN S nds) (hh : hi < nds.length) : ∀ (r k acc : Nat), k + r = hi + 1 → acc ≤ 2147483649 → (∀ j, k ≤ j → j ≤ hi → ∃ nd, nds[j]? = some nd ∧ ndV nd) → t_lp (B235_65 N) (r + 1) (x1, 72 + Int32.ofNat i, Int64.ofNat acc, Int32.ofNat k, S) = J235_97 N x1 (72 + Int32.ofNat i) (Int64.ofNat (fo (seg nds k hi) acc)) S := by
  have e72 := i_72 (i := i) (by omega)
  have c9 : 0 ≤ (72 + Int32.ofNat i).toInt ∧ (72 + Int32.ofNat i).toInt < mN 9 := by rw [show mN 9 = 96 from rfl]; omega
  have et : (72 + Int32.ofNat i).toInt.toNat = 72 + i := by omega
  have hl := hn.2.1
  intro r
  induction r with
  | zero =>
    intro k acc hk ha hv
    have hk1 : k = hi + 1 := by omega
    subst hk1
    have c : mj_c2 .gt (Int32.ofNat (hi + 1)) (Int32.ofNat hi) = true := i_c2 (by show decide _ = true; apply decide_eq_true; rw [i_nat (by omega), i_nat (by omega)]; omega)
    rw [seg_nil]
    apply t_lp_map
    simp only [B235_65, if_pos c9, et, h9, c, cond_true]
    rfl
  | succ r ih =>
    intro k acc hk ha hv
    have c : mj_c2 .gt (Int32.ofNat k) (Int32.ofNat hi) = false := i_c2 (by show decide _ = false; apply decide_eq_false; rw [i_nat (by omega), i_nat (by omega)]; omega)
    obtain ⟨nd, v1, v2⟩ := hv k (Nat.le_refl _) (by omega)
    have e480 : (480 + Int32.ofNat k).toInt = ((480 + k : Nat) : Int) := by
      have e : (480 : Int32).toInt = 480 := rfl
      rw [i_add (by rw [e, i_nat (by omega)]; omega) (by rw [e, i_nat (by omega)]; omega), e, i_nat (by omega)]
      omega
    obtain ⟨m1, m2, m3⟩ := M239_do (N := N) hN e480 (by omega) (hn.2.2 k nd v1) v2
    have m4 := M237_do (N := N) (S := S) ha m3 m2
    have i1 : Int32.ofNat k + 1 = Int32.ofNat (k + 1) := i_inc (by omega)
    rw [seg_cons v1 (by omega) hh]
    have fB : B235_65 N (x1, 72 + Int32.ofNat i, Int64.ofNat acc, Int32.ofNat k, S) = some (.inl (x1, 72 + Int32.ofNat i, Int64.ofNat (prN acc (ndF nd)), Int32.ofNat (k + 1), S)) := by
      simp only [B235_65, if_pos c9, et, h9, c, cond_false, m1, m4, i1, Option.bind_some]
    rw [t_one fB]
    exact ih (k + 1) (prN acc (ndF nd)) (by omega) prN_le (fun j j1 j2 => hv j (by omega) j2)
/-- a block's factors in the rows -/
theorem bch_of {S : mS} {H : mj_H} {sts : List St} {nds : List Nd} {fcs : List Int32} {m A B hi sl : Nat} (hh : hi ≤ 24) (hr : ∀ i t, sts[i]? = some t → S.2.1 11 (24 * sl + i) = Int32.ofNat t.2.2.2.2.2.1) : ∀ (l : List (Nat × Nat)) (lo : Nat) (o : Option Nat), (∀ i t, lo ≤ i → sts[i]? = some t → S.2.2 12 (24 * sl + i) = Int64.ofNat t.2.2.2.2.2.2) → chn H l o → bk (sT H sts nds fcs m A B) sts l lo hi → ∃ l', bch S sl hi l' lo ∧ fold_ l' 1 = fold_ l 1 ∧ l'.length = l.length ∧ (∀ acc, fold_ l' acc = fold_ l acc) := by
  intro l
  induction l with
  | nil =>
    intro lo o _ _ h
    have e : lo = hi := h
    subst e
    exact ⟨[], ⟨Nat.le_refl _, hh⟩, rfl, rfl, fun _ => rfl⟩
  | cons x r ih =>
    intro lo o hf hc h
    obtain ⟨h0, hb, s, e, t', u, v, p, q, nx, h1, h2⟩ := hc
    obtain ⟨t, k1, k2, k3, k4⟩ := h
    have l1 := sT_end k3
    have l2 := bk_le (fun s t a x => sT_end x) _ _ _ k4
    obtain ⟨l', i1, i2, i3, i4⟩ := ih t.2.2.2.2.2.1 nx (fun i t'' h1 h2 => hf i t'' (by omega) h2) h2 k4
    refine ⟨(lo, x.2) :: l', ⟨rfl, by show lo < hi; omega, hh, hb, ?_, t.2.2.2.2.2.1, hr lo t k1, i1⟩, ?_, by rw [List.length_cons, List.length_cons, i3], fun acc => i4 _⟩
    · rw [hf lo t (Nat.le_refl _) k1, k2]
    · exact i4 _
end FIN1
