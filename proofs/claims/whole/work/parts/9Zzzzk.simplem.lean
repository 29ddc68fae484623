/-! SIMPLE STATEMENTS, THE REFERENCE -/
/-- what a run of the reference looks at: the program's rows, its dice tables -/
def pcx (S : mS) (sl : Nat) (sts : List St) (nds : List Nd) (fcs : List Int32) : Prop := pgR S sl sts nds fcs ∧ tabs S sl sts nds
theorem pcx_ag {S S' : mS} {sl : Nat} {sts : List St} {nds : List Nd} {fcs : List Int32} (h : pcx S sl sts nds fcs) {F A B : List Nat} (a : m_agr F A B S S') (c : (∀ j, j ∈ A → ¬ (5 ≤ j ∧ j ≤ 20)) ∧ 12 ∉ B ∧ 21 ∉ B) : pcx S' sl sts nds fcs := by
  have no : ∀ j, 5 ≤ j → j ≤ 20 → S'.2.1 j = S.2.1 j := fun j h1 h2 => a.2.1 j (fun w => c.1 j w ⟨h1, h2⟩)
  obtain ⟨⟨q1, q2, q3, q4, q5, q6, q7⟩, ht⟩ := h
  refine ⟨⟨by rw [no 5 (by omega) (by omega)]; exact q1, q2, q3, q4, fun i t hi => ?_, fun i nd hi => ?_, fun i x hi => ?_⟩, fun i t hi h3 j nd n m k pick j1 j2 j3 j4 => ?_⟩
  · rw [no 6 (by omega) (by omega), no 7 (by omega) (by omega), no 8 (by omega) (by omega), no 9 (by omega) (by omega), no 10 (by omega) (by omega), no 11 (by omega) (by omega), a.2.2 12 c.2.1]
    exact q5 i t hi
  · have nd' : ndAt S' (160 * sl + i) = ndAt S (160 * sl + i) := by
      unfold ndAt
      rw [no 13 (by omega) (by omega), no 14 (by omega) (by omega), no 15 (by omega) (by omega), no 16 (by omega) (by omega), no 17 (by omega) (by omega), no 18 (by omega) (by omega), no 19 (by omega) (by omega)]
    rw [nd']
    exact q6 i nd hi
  · rw [no 20 (by omega) (by omega)]
    exact q7 i x hi
  · obtain ⟨it, y1, y2, y3⟩ := ht i t hi h3 j nd n m k pick j1 j2 j3 j4
    refine ⟨it, y1, by rw [no 18 (by omega) (by omega)]; exact y2, fun s hs => ?_⟩
    rw [a.2.2 21 c.2.2]
    exact y3 s hs
theorem rG_c : (∀ j, j ∈ [41, 43, 47, 49] → ¬ (5 ≤ j ∧ j ≤ 20)) ∧ 12 ∉ [42, 46, 48] ∧ 21 ∉ [42, 46, 48] := by decide
theorem eF_of {S : mS} {sl s set row : Nat} {sts : List St} {nds : List Nd} {fcs : List Int32} {t : St} {L : Ss} {x : Vs × Nat} (h : pcx S sl sts nds fcs) (ht : sts[s]? = some t) (h3 : t.1 ≠ 3) (hr : rsL S set L) (hx : L[row]? = some x) : eF S sl s t.2.2.1 t.2.2.2.1 nds fcs set row (stf x.1) := by
  obtain ⟨⟨q1, q2, q3, q4, q5, q6, q7⟩, hT⟩ := h
  obtain ⟨r1, r2, r3, r4, r5⟩ := q5 s t ht
  exact ⟨q6, q7, (r4 h3).1, (r4 h3).2, hT s t ht h3, (hr.2.2 row x hx).2⟩
/-- what is kept, value by value -/
def gKs (p : Vs × Nat) : Sp → Ss
  | [] => []
  | q :: r => (if q.1 = 0 then [] else [(p.1, p.2 * q.2)]) ++ gKs p r
def gK0 (p : Vs × Nat) : Sp → Ss
  | [] => []
  | q :: r => (if q.1 = 0 then [(p.1, p.2 * q.2)] else []) ++ gK0 p r
theorem cnt_Ks : cnt gKs (fun k v f => (if v = 0 then 0 else 1) * f k) := by
  intro p s f
  induction s with
  | nil => show 0 = p.2 * 0; omega
  | cons q r ih =>
    show sF ((if q.1 = 0 then [] else [(p.1, p.2 * q.2)]) ++ gKs p r) f = p.2 * (q.2 * ((if q.1 = 0 then 0 else 1) * f p.1) + sS r _)
    rw [sF_app, ih, Nat.mul_add]
    by_cases e : q.1 = 0
    · rw [if_pos e, if_pos e, Nat.zero_mul, Nat.mul_zero]; rfl
    · rw [if_neg e, if_neg e, Nat.one_mul]
      show p.2 * q.2 * f p.1 + 0 + _ = _
      rw [Nat.mul_assoc, Nat.add_zero]
theorem cnt_K0 : cnt gK0 (fun k v f => (if v = 0 then 1 else 0) * f k) := by
  intro p s f
  induction s with
  | nil => show 0 = p.2 * 0; omega
  | cons q r ih =>
    show sF ((if q.1 = 0 then [(p.1, p.2 * q.2)] else []) ++ gK0 p r) f = p.2 * (q.2 * ((if q.1 = 0 then 1 else 0) * f p.1) + sS r _)
    rw [sF_app, ih, Nat.mul_add]
    by_cases e : q.1 = 0
    · rw [if_pos e, if_pos e, Nat.one_mul]
      show p.2 * q.2 * f p.1 + 0 + _ = _
      rw [Nat.mul_assoc, Nat.add_zero]
    · rw [if_neg e, if_neg e, Nat.zero_mul, Nat.mul_zero]; rfl
theorem mem_Ks {p : Vs × Nat} : ∀ (s : Sp) (x : Vs × Nat), x ∈ gKs p s → ∃ q ∈ s, x = (p.1, p.2 * q.2) := by
  intro s
  induction s with
  | nil => intro x hx; cases hx
  | cons q r ih =>
    intro x hx
    rcases List.mem_append.mp hx with w | w
    · by_cases e : q.1 = 0
      · rw [if_pos e] at w; cases w
      · rw [if_neg e] at w
        exact ⟨q, List.mem_cons_self, List.mem_singleton.mp w⟩
    · obtain ⟨y, y1, y2⟩ := ih x w
      exact ⟨y, List.mem_cons_of_mem _ y1, y2⟩
theorem mem_K0 {p : Vs × Nat} : ∀ (s : Sp) (x : Vs × Nat), x ∈ gK0 p s → ∃ q ∈ s, x = (p.1, p.2 * q.2) := by
  intro s
  induction s with
  | nil => intro x hx; cases hx
  | cons q r ih =>
    intro x hx
    rcases List.mem_append.mp hx with w | w
    · by_cases e : q.1 = 0
      · rw [if_pos e] at w
        exact ⟨q, List.mem_cons_self, List.mem_singleton.mp w⟩
      · rw [if_neg e] at w; cases w
    · obtain ⟨y, y1, y2⟩ := ih x w
      exact ⟨y, List.mem_cons_of_mem _ y1, y2⟩
theorem gd_Ks (p : Vs × Nat) (s : Sp) (f : Nat) (hp : gdk p) (hs : gdS s f) : ∀ x ∈ gKs p s, gdk x := fun x hx => by
  obtain ⟨q, q1, q2⟩ := mem_Ks s x hx
  rw [q2]
  exact ⟨Nat.mul_pos hp.1 (hs.1 q q1), hp.2⟩
theorem gd_K0 (p : Vs × Nat) (s : Sp) (f : Nat) (hp : gdk p) (hs : gdS s f) : ∀ x ∈ gK0 p s, gdk x := fun x hx => by
  obtain ⟨q, q1, q2⟩ := mem_K0 s x hx
  rw [q2]
  exact ⟨Nat.mul_pos hp.1 (hs.1 q q1), hp.2⟩
section SMR
variable {N : Nat}
theorem L286_43_do (hN : 100000 ≤ N) {sl s set idx row : Nat} {hh : Int32 × Nat → Ss} {gg : Sp → Ss} (g0 : gg [] = []) (g1 : ∀ q r, gg (q :: r) = hh q ++ gg r) {Ls : Nat → Ss} {s0 : Sp} (hs0 : s0.length ≤ 1999) (hrow : row < 64) {Sw : mS} (hst : ∀ (q : Nat) (p : Int32 × Nat) (S : mS) (U : Ss), s0[q]? = some p → jfr 9 Sw S → rsA S Ls → vst S 9 U 0 → (∀ y ∈ U, y.1.length = 6) → ∃ S', B286_43 N (Int32.ofNat sl, Int32.ofNat s, Int32.ofNat set, Int32.ofNat idx, Int32.ofNat row, Int32.ofNat q, S) = some (.inl (Int32.ofNat sl, Int32.ofNat s, Int32.ofNat set, Int32.ofNat idx, Int32.ofNat row, Int32.ofNat (q + 1), S')) ∧ vst S' 9 (insA (hh p) U) 0 ∧ jfr 9 S S' ∧ ∀ y ∈ insA (hh p) U, y.1.length = 6) (h45 : Sw.1 45 = Int32.ofNat s0.length) (hA : rsA Sw Ls) {U : Ss} (hv : vst Sw 9 U 0) (h6 : ∀ y ∈ U, y.1.length = 6) : ∃ S', L286_43 N (Int32.ofNat sl, Int32.ofNat s, Int32.ofNat set, Int32.ofNat idx, Int32.ofNat row, 0, Sw) = some (.inl (Int32.ofNat sl, Int32.ofNat s, Int32.ofNat set, Int32.ofNat idx, Int32.ofNat (row + 1), S')) ∧ vst S' 9 (insA (gg s0) U) 0 ∧ jfr 9 Sw S' ∧ rsA S' Ls ∧ ∀ y ∈ insA (gg s0) U, y.1.length = 6 := by
  have key : ∀ (rest : Sp) (q : Nat) (S : mS) (U : Ss), q + rest.length = s0.length → s0.drop q = rest → jfr 9 Sw S → rsA S Ls → vst S 9 U 0 → (∀ y ∈ U, y.1.length = 6) → ∃ S', t_lp (B286_43 N) (rest.length + 1) (Int32.ofNat sl, Int32.ofNat s, Int32.ofNat set, Int32.ofNat idx, Int32.ofNat row, Int32.ofNat q, S) = some (.inl (Int32.ofNat sl, Int32.ofNat s, Int32.ofNat set, Int32.ofNat idx, Int32.ofNat (row + 1), S')) ∧ vst S' 9 (insA (gg rest) U) 0 ∧ jfr 9 Sw S' ∧ rsA S' Ls ∧ ∀ y ∈ insA (gg rest) U, y.1.length = 6 := by
    intro rest
    induction rest with
    | nil =>
      intro q S U hq _ hf hA1 hv1 h61
      have hq' : q + 0 = s0.length := hq
      have e45 : S.1 45 = Int32.ofNat s0.length := by rw [hf.1.1 45 (by decide)]; exact h45
      have c := c_geT (a := q) (b := s0.length) (by omega) (by omega) (by omega)
      refine ⟨S, t_end ?_ _, by rw [g0]; exact hv1, hf, hA1, by rw [g0]; exact h61⟩
      simp only [B286_43, e45, c, cond_true, i_inc (show row < 1000000 by omega)]
    | cons p r ih =>
      intro q S U hq hd hf hA1 hv1 h61
      rw [List.length_cons] at hq
      have hp : s0[q]? = some p := by
        have : (s0.drop q)[0]? = some p := by rw [hd]; rfl
        rw [List.getElem?_drop, Nat.add_zero] at this
        exact this
      have hr : s0.drop (q + 1) = r := by
        have : (s0.drop q).drop 1 = r := by rw [hd]; rfl
        rw [List.drop_drop] at this
        exact this
      obtain ⟨S1, a1, a2, a3, a4⟩ := hst q p S U hp hf hA1 hv1 h61
      rw [List.length_cons, t_one a1, g1, insA_app]
      exact ih (q + 1) S1 _ (by omega) hr (jfr_trans hf a3) (rsA_9 hA1 a3) a2 a4
  obtain ⟨S', a1, a2⟩ := key s0 0 Sw U (by omega) rfl jfr_refl hA hv h6
  exact ⟨S', t_lp_more _ _ _ (by omega) a1, a2⟩
end SMR
