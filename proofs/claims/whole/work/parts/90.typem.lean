/-! TYPING, THE REFERENCE -/
/-- alike but for these int fields, int rows, long rows -/
def m_agr (F A B : List Nat) (S S' : mS) : Prop := (∀ j, j ∉ F → S'.1 j = S.1 j) ∧ (∀ j, j ∉ A → S'.2.1 j = S.2.1 j) ∧ ∀ j, j ∉ B → S'.2.2 j = S.2.2 j
theorem m_agr_refl {F A B : List Nat} {S : mS} : m_agr F A B S S := ⟨fun _ _ => rfl, fun _ _ => rfl, fun _ _ => rfl⟩
theorem m_agr_trans {F A B : List Nat} {S S1 S2 : mS} (x : m_agr F A B S S1) (y : m_agr F A B S1 S2) : m_agr F A B S S2 := ⟨fun j h => (y.1 j h).trans (x.1 j h), fun j h => (y.2.1 j h).trans (x.2.1 j h), fun j h => (y.2.2 j h).trans (x.2.2 j h)⟩
theorem m_agr_mono {F A B F' A' B' : List Nat} {S S' : mS} (x : m_agr F A B S S') (hF : ∀ j ∈ F, j ∈ F') (hA : ∀ j ∈ A, j ∈ A') (hB : ∀ j ∈ B, j ∈ B') : m_agr F' A' B' S S' := ⟨fun j h => x.1 j (fun z => h (hF j z)), fun j h => x.2.1 j (fun z => h (hA j z)), fun j h => x.2.2 j (fun z => h (hB j z))⟩
theorem m_agr_sV {F A B : List Nat} {S S' : mS} (x : m_agr F A B S S') {j : Nat} (hj : j ∈ F) (v : Int32) : m_agr F A B S (m_sV S' j v) := ⟨fun q hq => (if_neg (fun (z : q = j) => hq (by rw [z]; exact hj))).trans (x.1 q hq), x.2.1, x.2.2⟩
theorem m_agr_sA {F A B : List Nat} {S S' : mS} (x : m_agr F A B S S') {j : Nat} (hj : j ∈ A) (i : Nat) (v : Int32) : m_agr F A B S (m_sA S' j i v) := ⟨x.1, fun q hq => by
    funext p
    show (if q = j ∧ p = i then v else S'.2.1 q p) = _
    rw [if_neg (fun (z : q = j ∧ p = i) => hq (by rw [z.1]; exact hj)), x.2.1 q hq], x.2.2⟩
theorem m_agr_sB {F A B : List Nat} {S S' : mS} (x : m_agr F A B S S') {j : Nat} (hj : j ∈ B) (i : Nat) (v : Int64) : m_agr F A B S (m_sB S' j i v) := ⟨x.1, x.2.1, fun q hq => by
    funext p
    show (if q = j ∧ p = i then v else S'.2.2 q p) = _
    rw [if_neg (fun (z : q = j ∧ p = i) => hq (by rw [z.1]; exact hj)), x.2.2 q hq]⟩
/-- the text as the reference has it -/
def txR (tx : List Int32) (S : mS) : Prop := S.1 2 = Int32.ofNat tx.length ∧ tx.length ≤ 160 ∧ (∀ j c, tx[j]? = some c → S.2.1 1 j = c) ∧ ∀ c ∈ tx, 33 ≤ c.toInt ∧ c.toInt ≤ 126
theorem mN_1 : mN 1 = 160 := rfl
section TYM
variable {N : Nat} {w : Int64}
theorem M206_do {tx : List Int32} {S : mS} {c : Int32} (h : txR tx S) (hl : tx.length < 160) (hc : 33 ≤ c.toInt ∧ c.toInt ≤ 126) : ∃ S', M206 N c S = some S' ∧ txR (tx ++ [c]) S' ∧ m_agr [2] [1] [] S S' := by
  obtain ⟨h1, h2, h3, h4⟩ := h
  have e1 : (S.1 2).toInt = tx.length := by rw [h1]; exact i_nat (by omega)
  refine ⟨m_sV (m_sA S 1 (S.1 2).toInt.toNat c) 2 (S.1 2 + 1), ?_, ⟨?_, ?_, ?_, ?_⟩, ?_⟩
  · unfold M206
    rw [if_pos ⟨by omega, by rw [mN_1]; omega⟩]
  · show S.1 2 + 1 = _
    rw [h1, List.length_append]
    exact i_inc (by omega)
  · rw [List.length_append]
    exact hl
  · intro j d hj
    show (if 1 = 1 ∧ j = (S.1 2).toInt.toNat then c else S.2.1 1 j) = d
    rw [e1]
    by_cases e : j = tx.length
    · subst e
      rw [List.getElem?_append_right (Nat.le_refl _), Nat.sub_self] at hj
      cases hj
      exact if_pos ⟨rfl, by omega⟩
    · rw [if_neg (fun z => e (by omega))]
      have hlt : j < tx.length := by
        have := (List.getElem?_eq_some_iff.mp hj).1
        rw [List.length_append] at this
        simp at this
        omega
      rw [List.getElem?_append_left hlt] at hj
      exact h3 j d hj
  · intro d hd
    rcases List.mem_append.mp hd with hd | hd
    · exact h4 d hd
    · simp at hd
      subst hd
      exact hc
  · exact m_agr_sV (m_agr_sA m_agr_refl (by decide) _ _) (by decide) _
theorem ty_m (x : Int64) : (x &&& 255).toInt32 = x.toInt32 &&& 255 := by
  apply Int32.toInt_inj.mp
  rw [p1_em, Int64.toInt_toInt32, Int.bmod_def, p1_a64]
  split <;> omega
theorem L204_86_do : ∀ (k : Nat) (S : mS) (tx : List Int32), k ≤ 8 → txR tx S → tx.length + k ≤ 160 → (∀ j, j < k → ty_ok w (Int32.ofNat j)) → ∃ S', t_lp (B204_86 N) (k + 1) (w, Int32.ofNat k - 1, S) = some (Int32.ofNat (tx.length + k), S') ∧ txR (tx ++ tyl w k) S' ∧ m_agr [2] [1] [] S S' := by
  intro k
  induction k with
  | zero =>
    intro S tx _ h _ _
    refine ⟨S, ?_, by rw [tyl, List.append_nil]; exact h, m_agr_refl⟩
    have b : mj_c1 .lt (Int32.ofNat 0 - 1) = true := by decide
    rw [t_lp]
    simp only [B204_86, b, cond_true, h.1]
    rfl
  | succ k ih =>
    intro S tx hk h hl hok
    have hr := ty_rng (hok k (Nat.lt_succ_self _))
    obtain ⟨S1, a1, a2, a3⟩ := M206_do (N := N) h (by omega) hr
    obtain ⟨S2, b1, b2, b3⟩ := ih S1 _ (by omega) a2 (by rw [List.length_append]; simp; omega) (fun j hj => hok j (by omega))
    refine ⟨S2, ?_, ?_, m_agr_trans a3 b3⟩
    · obtain ⟨d1, d2⟩ := i_dec (k := k) (by omega)
      have b : mj_c1 .lt (Int32.ofNat k) = false := i_c1 (by show decide _ = false; apply decide_eq_false; rw [i_nat (by omega)]; omega)
      rw [t_lp, d1]
      have a1' : M206 N (((w >>> (((8 * Int32.ofNat k) : Int32).toInt64 &&& 63)) : Int64).toInt32 &&& 255) S = some S1 := a1
      have fB : B204_86 N (w, Int32.ofNat k, S) = some (.inl (w, Int32.ofNat k - 1, S1)) := by
        simp only [B204_86, b, cond_false, ty_m, a1', d2, Option.bind_some]
      rw [fB]
      dsimp only
      rw [b1, List.length_append]
      rw [show tx.length + [ty_b w (Int32.ofNat k)].length + k = tx.length + (k + 1) by simp; omega]
    · rw [tyl]
      rw [List.append_assoc] at b2
      exact b2
theorem L204_34_do {S : mS} {n : Nat} (hn : n ≤ 8) (hN : 100 ≤ N) {r0 : Int32 × mS} (h86 : (∀ j, j < n → ty_ok w (Int32.ofNat j)) → L204_86 N (w, Int32.ofNat n - 1, S) = some r0) : ∃ r, L204_34 N (w, Int32.ofNat n, 0, S) = some r ∧ (((∀ j, j < n → ty_ok w (Int32.ofNat j)) ∧ r = r0) ∨ ((¬ ∀ j, j < n → ty_ok w (Int32.ofNat j)) ∧ r = (-1000, S))) := by
  have e0 : ∀ i, i ≤ 8 → (Int32.ofNat i).toInt = i := fun i hi => i_nat (by omega)
  unfold L204_34
  refine t_lp_do (I := fun k s => ∃ i, i + k = n ∧ s = (w, Int32.ofNat n, Int32.ofNat i, S) ∧ ∀ j, j < i → ty_ok w (Int32.ofNat j)) (k := n) ?_ ?_ (by omega) ⟨0, by omega, rfl, fun j hj => absurd hj (Nat.not_lt_zero _)⟩
  · rintro k s ⟨i, hi, rfl, hok⟩
    have b1 : mj_c2 .ge (Int32.ofNat i) (Int32.ofNat n) = false := i_c2 (by show decide _ = false; apply decide_eq_false; rw [e0 i (by omega), e0 n hn]; omega)
    have t1 : mj_c1 .lt (lg_cmp ((w >>> (((8 * Int32.ofNat i) : Int32).toInt64 &&& 63)) &&& 255) 33) = mj_c2 .lt (ty_b w (Int32.ofNat i)) 33 := p1_mlt33.symm
    have t2 : mj_c1 .le (lg_cmp ((w >>> (((8 * Int32.ofNat i) : Int32).toInt64 &&& 63)) &&& 255) 126) = mj_c2 .le (ty_b w (Int32.ofNat i)) 126 := p1_mle126.symm
    cases h1 : mj_c2 .lt (ty_b w (Int32.ofNat i)) 33 with
    | true =>
      refine Or.inr ⟨(-1000, S), ?_, Or.inr ⟨fun z => ?_, rfl⟩⟩
      · simp only [B204_34, b1, cond_false, t1, h1, cond_true, J204_71, Option.map_some]
      · have := (z i (by omega)).1
        rw [h1] at this
        cases this
    | false =>
      cases h2 : mj_c2 .le (ty_b w (Int32.ofNat i)) 126 with
      | true =>
        refine Or.inl ⟨(w, Int32.ofNat n, Int32.ofNat (i + 1), S), ?_, i + 1, by omega, rfl, fun j hj => ?_⟩
        · simp only [B204_34, b1, cond_false, t1, t2, h1, h2, cond_true, i_inc (k := i) (by omega)]
        · by_cases e : j = i
          · subst e
            exact ⟨h1, h2⟩
          · exact hok j (by omega)
      | false =>
        refine Or.inr ⟨(-1000, S), ?_, Or.inr ⟨fun z => ?_, rfl⟩⟩
        · simp only [B204_34, b1, cond_false, t1, t2, h1, h2, J204_71, Option.map_some]
        · have := (z i (by omega)).2
          rw [h2] at this
          cases this
  · rintro s ⟨i, hi, rfl, hok⟩
    have hi : i = n := by omega
    subst hi
    have b1 : mj_c2 .ge (Int32.ofNat i) (Int32.ofNat i) = true := i_c2 (by show decide _ = true; apply decide_eq_true; omega)
    refine ⟨r0, ?_, Or.inl ⟨hok, rfl⟩⟩
    simp only [B204_34, b1, cond_true, h86 hok, Option.map_some]
/-- within's answer -/
theorem M205_do {x lo hi : Int32} {S : mS} : M205 N x lo hi S = some (if lo.toInt ≤ x.toInt ∧ x.toInt ≤ hi.toInt then 1 else 0, S) := by
  unfold M205 J205_14 J205_15
  cases h1 : mj_c2 .lt x lo with
  | true =>
    have := of_decide_eq_true h1
    rw [Int32.lt_iff_toInt_lt] at this
    have n : ¬ (lo.toInt ≤ x.toInt ∧ x.toInt ≤ hi.toInt) := by omega
    rw [if_neg n]
    rfl
  | false =>
    have h1' := of_decide_eq_false h1
    rw [Int32.lt_iff_toInt_lt] at h1'
    cases h2 : mj_c2 .gt x hi with
    | true =>
      have := of_decide_eq_true h2
      rw [Int32.lt_iff_toInt_lt] at this
      have n : ¬ (lo.toInt ≤ x.toInt ∧ x.toInt ≤ hi.toInt) := by omega
      rw [if_neg n]
      rfl
    | false =>
      have := of_decide_eq_false h2
      rw [Int32.lt_iff_toInt_lt] at this
      have n : lo.toInt ≤ x.toInt ∧ x.toInt ≤ hi.toInt := by omega
      rw [if_pos n]
      rfl
end TYM
