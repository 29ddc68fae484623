/-! STEPS OF THE REFERENCE'S RUN -/
/-- what is left of a run, from statement s on, in n rounds -/
def LPk (N sl n s : Nat) (S : mS) (res : Int32 × mS) : Prop := t_lp (B260_94 N) n (Int32.ofNat sl, Int32.ofNat s, S) = some res
section STR
variable {N : Nat} {S S' : mS} {FR : List (Nat × Nat × Nat)} {sl cs hi s n : Nat} {sts : List St} {nds : List Nd} {fcs : List Int32} {t : St}
theorem B260_go (hsl : sl < 3) (hp : pgR S sl sts nds fcs) (hf : frL S FR) (hs : s < 2000) (hlt : FR = [] → s < sts.length) : B260_94 N (Int32.ofNat sl, Int32.ofNat s, S) = J260_115 N (Int32.ofNat sl) (Int32.ofNat s) S := by
  have l0 : mj_c1 .lt (Int32.ofNat s) = false := c1_lt (by omega)
  cases FR with
  | nil =>
    have g0 : mj_c1 .gt (S.1 56) = false := by rw [hf.1]; decide
    have k5 : 0 ≤ (Int32.ofNat sl).toInt ∧ (Int32.ofNat sl).toInt < mN 5 := n_at (by omega) (by show _ < 4; omega)
    have t5 : (Int32.ofNat sl).toInt.toNat = sl := n_t (by omega)
    have := hp.2.1
    have c := c_geF (a := s) (b := sts.length) (by omega) (by omega) (hlt rfl)
    simp only [B260_94, l0, cond_false, g0, if_pos k5, t5, hp.1, c]
  | cons b FR =>
    obtain ⟨h1, -, -, -, -, h6⟩ := frL_top hf
    have g1 : mj_c1 .gt (S.1 56) = true := by
      rw [h1]
      exact i_c1 (by
        show decide _ = true
        rw [i_nat (by omega)]
        exact decide_eq_true (by omega))
    simp only [B260_94, l0, cond_false, g1, cond_true]
theorem B260_bad {v : Int32} : B260_94 N (Int32.ofNat sl, -1, S) = some (.inr (S.1 51, S)) := by
  have l1 : mj_c1 .lt (-1) = true := by decide
  have g0 : mj_c1 .ge (-1) = false := by decide
  simp only [B260_94, l1, cond_true, J260_143, g0, cond_false, J260_169, Option.map_some]
/-- a statement is performed -/
theorem LP_p (hsl : sl < 3) (hp : pgR S sl sts nds fcs) (hf : frL S FR) (ht : topB sts FR cs hi) (hne : s ≠ hi) (hs : s < 24) (hh : hi ≤ 24) (hlt : s < sts.length) {s' : Nat} {res : Int32 × mS} (hM : M275 N (Int32.ofNat sl) (Int32.ofNat s) S = some (Int32.ofNat s', S')) (k : LPk N sl n s' S' res) : LPk N sl (n + 1) s S res := by
  have e := B260_go (N := N) hsl hp hf (show s < 2000 by omega) (fun _ => hlt)
  have m := M266_do (N := N) hsl hp hf ht
  have c : mj_c2 .ne (Int32.ofNat s) (Int32.ofNat hi) = true := (c_ne (by omega) (by omega)).trans (decide_eq_true hne)
  have st : B260_94 N (Int32.ofNat sl, Int32.ofNat s, S) = some (.inl (Int32.ofNat sl, Int32.ofNat s', S')) := by
    rw [e]
    simp only [J260_115, m, c, cond_true, hM, J260_139, Option.bind_some]
  unfold LPk at k ⊢
  rw [t_one st]
  exact k
theorem LP_pf (hsl : sl < 3) (hp : pgR S sl sts nds fcs) (hf : frL S FR) (ht : topB sts FR cs hi) (hne : s ≠ hi) (hs : s < 24) (hh : hi ≤ 24) (hlt : s < sts.length) (hM : M275 N (Int32.ofNat sl) (Int32.ofNat s) S = some (-1, S')) : LPk N sl (n + 2) s S (S'.1 51, S') := by
  have e := B260_go (N := N) hsl hp hf (show s < 2000 by omega) (fun _ => hlt)
  have m := M266_do (N := N) hsl hp hf ht
  have c : mj_c2 .ne (Int32.ofNat s) (Int32.ofNat hi) = true := (c_ne (by omega) (by omega)).trans (decide_eq_true hne)
  have st : B260_94 N (Int32.ofNat sl, Int32.ofNat s, S) = some (.inl (Int32.ofNat sl, -1, S')) := by
    rw [e]
    simp only [J260_115, m, c, cond_true, hM, J260_139, Option.bind_some]
  unfold LPk
  rw [t_one st]
  exact t_end (B260_bad (v := 0)) _
/-- a block's end -/
theorem LP_g {b : Nat × Nat × Nat} (hsl : sl < 3) (hp : pgR S sl sts nds fcs) (hf : frL S (b :: FR)) (ht : topB sts (b :: FR) cs hi) (hh : hi ≤ 24) {s' : Nat} {res : Int32 × mS} (hM : M267 N (Int32.ofNat sl) (Int32.ofNat hi) S = some (Int32.ofNat s', S')) (k : LPk N sl n s' S' res) : LPk N sl (n + 1) hi S res := by
  have e := B260_go (N := N) hsl hp hf (show hi < 2000 by omega) (fun q => by cases q)
  have m := M266_do (N := N) hsl hp hf ht
  have c : mj_c2 .ne (Int32.ofNat hi) (Int32.ofNat hi) = false := decide_eq_false (fun q => q rfl)
  have st : B260_94 N (Int32.ofNat sl, Int32.ofNat hi, S) = some (.inl (Int32.ofNat sl, Int32.ofNat s', S')) := by
    rw [e]
    simp only [J260_115, m, c, cond_false, hM, J260_139, Option.bind_some]
  unfold LPk at k ⊢
  rw [t_one st]
  exact k
theorem LP_gf {b : Nat × Nat × Nat} (hsl : sl < 3) (hp : pgR S sl sts nds fcs) (hf : frL S (b :: FR)) (ht : topB sts (b :: FR) cs hi) (hh : hi ≤ 24) (hM : M267 N (Int32.ofNat sl) (Int32.ofNat hi) S = some (-1, S')) : LPk N sl (n + 2) hi S (S'.1 51, S') := by
  have e := B260_go (N := N) hsl hp hf (show hi < 2000 by omega) (fun q => by cases q)
  have m := M266_do (N := N) hsl hp hf ht
  have c : mj_c2 .ne (Int32.ofNat hi) (Int32.ofNat hi) = false := decide_eq_false (fun q => q rfl)
  have st : B260_94 N (Int32.ofNat sl, Int32.ofNat hi, S) = some (.inl (Int32.ofNat sl, -1, S')) := by
    rw [e]
    simp only [J260_115, m, c, cond_false, hM, J260_139, Option.bind_some]
  unfold LPk
  rw [t_one st]
  exact t_end (B260_bad (v := 0)) _
/-- the run's end -/
theorem LP_end {L : Ss} (hsl : sl < 3) (hp : pgR S sl sts nds fcs) (hf : frL S []) (hr : rsL S 0 L) : LPk N sl (n + 1) sts.length S (if L = [] then -3 else 0, S) := by
  have h24 := hp.2.1
  have l0 : mj_c1 .lt (Int32.ofNat sts.length) = false := c1_lt (by omega)
  have g0 : mj_c1 .gt (S.1 56) = false := by rw [hf.1]; decide
  have k5 : 0 ≤ (Int32.ofNat sl).toInt ∧ (Int32.ofNat sl).toInt < mN 5 := n_at (by omega) (by show _ < 4; omega)
  have t5 : (Int32.ofNat sl).toInt.toNat = sl := n_t (by omega)
  have c := c_geT (a := sts.length) (b := sts.length) (by omega) (by omega) (Nat.le_refl _)
  have ge : mj_c1 .ge (Int32.ofNat sts.length) = true := i_c1 (by
    show decide _ = true
    rw [i_nat (by omega)]
    exact decide_eq_true (by omega))
  unfold LPk
  refine t_end ?_ _
  by_cases e : L = []
  · have n0 : mj_c1 .ne (S.2.1 49 0) = false := by rw [hr.1, e]; decide
    rw [if_pos e]
    simp only [B260_94, l0, cond_false, g0, if_pos k5, t5, hp.1, c, cond_true, J260_143, ge, n0, J260_169, Option.map_some]
  · have lp : 1 ≤ L.length := by
      cases L with
      | nil => exact absurd rfl e
      | cons _ _ => rw [List.length_cons]; omega
    have n0 : mj_c1 .ne (S.2.1 49 0) = true := by
      rw [hr.1]
      exact i_c1 (by
        show decide _ = true
        rw [i_nat (by have := hr.2.1; omega)]
        exact decide_eq_true (by omega))
    rw [if_neg e]
    simp only [B260_94, l0, cond_false, g0, if_pos k5, t5, hp.1, c, cond_true, J260_143, ge, n0, J260_169, Option.map_some]
/-! PERFORM -/
theorem cnt_0 {L : Ss} (h : rsL S cs L) : (L = [] → mj_c1 .eq (S.2.1 49 cs) = true) ∧ (L ≠ [] → mj_c1 .eq (S.2.1 49 cs) = false) := by
  constructor
  · intro e
    rw [h.1, e]
    decide
  · intro e
    have lp : 1 ≤ L.length := by
      cases L with
      | nil => exact absurd rfl e
      | cons _ _ => rw [List.length_cons]; omega
    rw [h.1]
    exact i_c1 (by
      show decide _ = false
      rw [i_nat (by have := h.2.1; omega)]
      exact decide_eq_false (by omega))
theorem M275_0 (hsl : sl < 3) (hs : s < 24) (hp : pgR S sl sts nds fcs) (hf : frL S FR) (ht : topB sts FR cs hi) (hcs : cs < 9) (hst : sts[s]? = some t) (hr : rsL S cs []) : M275 N (Int32.ofNat sl) (Int32.ofNat s) S = some (Int32.ofNat t.2.2.2.2.2.1, S) := by
  have m := M276_do (N := N) hsl hp hf ht
  obtain ⟨k9, t9⟩ := a49 (show cs < 10 by omega)
  obtain ⟨r1, r2, r3, r4, r5, r6, r7⟩ := hp.2.2.2.2.1 s t hst
  have e0 := (cnt_0 hr).1 rfl
  have k11 : 0 ≤ (Int32.ofNat (24 * sl + s)).toInt ∧ (Int32.ofNat (24 * sl + s)).toInt < mN 11 := n_at (by omega) (by show _ < 96; omega)
  have tt : (Int32.ofNat (24 * sl + s)).toInt.toNat = 24 * sl + s := n_t (by omega)
  simp only [M275, m, if_pos k9, t9, e0, cond_true, ix_24, J275_43, if_pos k11, tt, r6, Option.bind_some]
theorem M275_1 (hsl : sl < 3) (hs : s < 24) (hp : pgR S sl sts nds fcs) (hf : frL S FR) (ht : topB sts FR cs hi) (hcs : cs < 9) (hst : sts[s]? = some t) (hk : t.1 < 2) {L : Ss} (hr : rsL S cs L) (hL : L ≠ []) : (M286 N (Int32.ofNat sl) (Int32.ofNat s) (Int32.ofNat cs) S = some (0, S') → M275 N (Int32.ofNat sl) (Int32.ofNat s) S = some (-1, S')) ∧ (M286 N (Int32.ofNat sl) (Int32.ofNat s) (Int32.ofNat cs) S = some (1, S') → M275 N (Int32.ofNat sl) (Int32.ofNat s) S = some (Int32.ofNat (s + 1), S')) := by
  have m := M276_do (N := N) hsl hp hf ht
  obtain ⟨k9, t9⟩ := a49 (show cs < 10 by omega)
  obtain ⟨r1, r2, r3, r4, r5, r6, r7⟩ := hp.2.2.2.2.1 s t hst
  have e0 := (cnt_0 hr).2 hL
  have k6 : 0 ≤ (Int32.ofNat (24 * sl + s)).toInt ∧ (Int32.ofNat (24 * sl + s)).toInt < mN 6 := n_at (by omega) (by show _ < 96; omega)
  have tt : (Int32.ofNat (24 * sl + s)).toInt.toNat = 24 * sl + s := n_t (by omega)
  have c3 : mj_c2 .ne (Int32.ofNat t.1) 3 = true := (c_ne (b := 3) (by omega) (by omega)).trans (decide_eq_true (by omega))
  have c2 : mj_c2 .ne (Int32.ofNat t.1) 2 = true := (c_ne (b := 2) (by omega) (by omega)).trans (decide_eq_true (by omega))
  have q0 : mj_c1 .eq 0 = true := by decide
  have q1 : mj_c1 .eq 1 = false := by decide
  constructor
  · intro h
    simp only [M275, m, if_pos k9, t9, e0, cond_false, ix_24, if_pos k6, tt, r2, c3, cond_true, J275_50, c2, h, q0, J275_130, Option.bind_some]
  · intro h
    simp only [M275, m, if_pos k9, t9, e0, cond_false, ix_24, if_pos k6, tt, r2, c3, cond_true, J275_50, c2, h, q1, J275_130, i_inc (show s < 1000000 by omega), Option.bind_some]
theorem M275_2 (hsl : sl < 3) (hs : s < 24) (hp : pgR S sl sts nds fcs) (hf : frL S FR) (ht : topB sts FR cs hi) (hcs : cs < 9) (hst : sts[s]? = some t) (hk : t.1 = 2) {L : Ss} (hr : rsL S cs L) (hL : L ≠ []) : (M278 N (Int32.ofNat sl) (Int32.ofNat s) (Int32.ofNat cs) S = some (0, S') → M275 N (Int32.ofNat sl) (Int32.ofNat s) S = some (-1, S')) ∧ ∀ S2, M278 N (Int32.ofNat sl) (Int32.ofNat s) (Int32.ofNat cs) S = some (1, S') → M277 N (Int32.ofNat s) (Int32.ofNat cs) (Int32.ofNat 1) S' = some S2 → M275 N (Int32.ofNat sl) (Int32.ofNat s) S = some (Int32.ofNat (s + 1), S2) := by
  have m := M276_do (N := N) hsl hp hf ht
  obtain ⟨k9, t9⟩ := a49 (show cs < 10 by omega)
  obtain ⟨r1, r2, r3, r4, r5, r6, r7⟩ := hp.2.2.2.2.1 s t hst
  have e0 := (cnt_0 hr).2 hL
  have k6 : 0 ≤ (Int32.ofNat (24 * sl + s)).toInt ∧ (Int32.ofNat (24 * sl + s)).toInt < mN 6 := n_at (by omega) (by show _ < 96; omega)
  have tt : (Int32.ofNat (24 * sl + s)).toInt.toNat = 24 * sl + s := n_t (by omega)
  rw [hk] at r2
  have c3 : mj_c2 .ne (Int32.ofNat 2) 3 = true := by decide
  have c2 : mj_c2 .ne (Int32.ofNat 2) 2 = false := by decide
  have q0 : mj_c1 .ne 0 = false := by decide
  have q1 : mj_c1 .ne 1 = true := by decide
  constructor
  · intro h
    simp only [M275, m, if_pos k9, t9, e0, cond_false, ix_24, if_pos k6, tt, r2, c3, cond_true, J275_50, c2, h, q0, Option.bind_some]
  · intro S2 h h2
    have h2' : M277 N (Int32.ofNat s) (Int32.ofNat cs) 1 S' = some S2 := h2
    simp only [M275, m, if_pos k9, t9, e0, cond_false, ix_24, if_pos k6, tt, r2, c3, cond_true, J275_50, c2, h, q1, h2', i_inc (show s < 1000000 by omega), Option.bind_some]
theorem M275_3 (hsl : sl < 3) (hs : s < 24) (hp : pgR S sl sts nds fcs) (hf : frL S FR) (ht : topB sts FR cs hi) (hcs : cs < 9) (hst : sts[s]? = some t) (hk : t.1 = 3) (h20 : t.2.1 ≤ 20) {L : Ss} (hr : rsL S cs L) (hL : L ≠ []) : (t.2.1 = 0 → M275 N (Int32.ofNat sl) (Int32.ofNat s) S = some (Int32.ofNat t.2.2.2.2.2.1, S)) ∧ (1 ≤ t.2.1 → M277 N (Int32.ofNat s) (Int32.ofNat cs) (Int32.ofNat t.2.1) S = some S' → M275 N (Int32.ofNat sl) (Int32.ofNat s) S = some (Int32.ofNat (s + 1), S')) := by
  have m := M276_do (N := N) hsl hp hf ht
  obtain ⟨k9, t9⟩ := a49 (show cs < 10 by omega)
  obtain ⟨r1, r2, r3, r4, r5, r6, r7⟩ := hp.2.2.2.2.1 s t hst
  have e0 := (cnt_0 hr).2 hL
  have k6 : 0 ≤ (Int32.ofNat (24 * sl + s)).toInt ∧ (Int32.ofNat (24 * sl + s)).toInt < mN 6 := n_at (by omega) (by show _ < 96; omega)
  have k7 : 0 ≤ (Int32.ofNat (24 * sl + s)).toInt ∧ (Int32.ofNat (24 * sl + s)).toInt < mN 7 := k6
  have k11 : 0 ≤ (Int32.ofNat (24 * sl + s)).toInt ∧ (Int32.ofNat (24 * sl + s)).toInt < mN 11 := k6
  have tt : (Int32.ofNat (24 * sl + s)).toInt.toNat = 24 * sl + s := n_t (by omega)
  rw [hk] at r2
  have c3 : mj_c2 .ne (Int32.ofNat 3) 3 = false := by decide
  constructor
  · intro h
    rw [h] at r3
    have q0 : mj_c1 .ne (Int32.ofNat 0) = false := by decide
    simp only [M275, m, if_pos k9, t9, e0, cond_false, ix_24, if_pos k6, tt, r2, c3, if_pos k7, r3, q0, J275_43, if_pos k11, r6, Option.bind_some]
  · intro h h2
    have q1 : mj_c1 .ne (Int32.ofNat t.2.1) = true := i_c1 (by
      show decide _ = true
      rw [i_nat (by omega)]
      exact decide_eq_true (by omega))
    simp only [M275, m, if_pos k9, t9, e0, cond_false, ix_24, if_pos k6, tt, r2, c3, if_pos k7, r3, q1, cond_true, J275_50, h2, i_inc (show s < 1000000 by omega), Option.bind_some]
/-! GO ON -/
/-- the first side of a choice is done -/
theorem M267_1 {at0 : Int32} (hsl : sl < 3) (hp : pgR S sl sts nds fcs) (hf : frL S ((s, cs, 1) :: FR)) (hst : sts[s]? = some t) (hk : t.1 = 2) {S2 : mS} (h2 : M268 N (Int32.ofNat (cs + 2)) (Int32.ofNat cs) (m_sA S 55 FR.length (Int32.ofNat 0)) = some S2) : M267 N (Int32.ofNat sl) at0 S = some (at0, S2) := by
  obtain ⟨h1, h2', h3, h4, h5, h6⟩ := frL_top hf
  obtain ⟨k8, t8, ei, k96, t96, n1⟩ := fr_idx hsl hf hp hst
  obtain ⟨r1, r2, r3, r4, r5, r6, r7⟩ := hp.2.2.2.2.1 s t hst
  rw [hk] at r2
  have k53 : 0 ≤ (Int32.ofNat FR.length).toInt ∧ (Int32.ofNat FR.length).toInt < mN 53 := k8
  have k54 : 0 ≤ (Int32.ofNat FR.length).toInt ∧ (Int32.ofNat FR.length).toInt < mN 54 := k8
  have k55 : 0 ≤ (Int32.ofNat FR.length).toInt ∧ (Int32.ofNat FR.length).toInt < mN 55 := k8
  have k6 : 0 ≤ (Int32.ofNat (24 * sl + s)).toInt ∧ (Int32.ofNat (24 * sl + s)).toInt < mN 6 := k96
  have c3 : mj_c2 .ne (Int32.ofNat 2) 3 = true := by decide
  have d1 : Int32.ofNat 1 - 1 = Int32.ofNat 0 := by decide
  have n0 : mj_c1 .ne (Int32.ofNat 0) = false := by decide
  have i2 : Int32.ofNat cs + 2 = Int32.ofNat (cs + 2) := by rw [show (2 : Int32) = Int32.ofNat 2 from rfl, n_add]
  have h3' : S.2.1 53 FR.length = Int32.ofNat s := h3
  have h4' : S.2.1 54 FR.length = Int32.ofNat cs := h4
  have h5' : S.2.1 55 FR.length = Int32.ofNat 1 := h5
  simp only [M267, h2', if_pos k53, if_pos k55, t8, h3', ix_24, if_pos k6, t96, r2, c3, cond_true, h5', d1, n0, cond_false, if_pos k54, h4', i2, h2, Option.bind_some]
/-- both sides are done -/
theorem M267_2 {at0 : Int32} (hsl : sl < 3) (hp : pgR S sl sts nds fcs) (hf : frL S ((s, cs, 0) :: FR)) (hst : sts[s]? = some t) (hk : t.1 = 2) {S2 : mS} {r : Int32} (h2 : M272 N (Int32.ofNat sl) (Int32.ofNat s) (Int32.ofNat cs) (m_sV (m_sA S 55 FR.length (-1)) 56 (Int32.ofNat FR.length)) = some (r, S2)) : (r = 0 → M267 N (Int32.ofNat sl) at0 S = some (-1, S2)) ∧ (r = 1 → M267 N (Int32.ofNat sl) at0 S = some (at0, S2)) := by
  obtain ⟨h1, h2', h3, h4, h5, h6⟩ := frL_top hf
  obtain ⟨k8, t8, ei, k96, t96, n1⟩ := fr_idx hsl hf hp hst
  obtain ⟨r1, r2, r3, r4, r5, r6, r7⟩ := hp.2.2.2.2.1 s t hst
  rw [hk] at r2
  have k53 : 0 ≤ (Int32.ofNat FR.length).toInt ∧ (Int32.ofNat FR.length).toInt < mN 53 := k8
  have k54 : 0 ≤ (Int32.ofNat FR.length).toInt ∧ (Int32.ofNat FR.length).toInt < mN 54 := k8
  have k55 : 0 ≤ (Int32.ofNat FR.length).toInt ∧ (Int32.ofNat FR.length).toInt < mN 55 := k8
  have k6 : 0 ≤ (Int32.ofNat (24 * sl + s)).toInt ∧ (Int32.ofNat (24 * sl + s)).toInt < mN 6 := k96
  have c3 : mj_c2 .ne (Int32.ofNat 2) 3 = true := by decide
  have d1 : Int32.ofNat 0 - 1 = -1 := by decide
  have n0 : mj_c1 .ne (-1) = true := by decide
  have q0 : mj_c1 .eq 0 = true := by decide
  have q1 : mj_c1 .eq 1 = false := by decide
  have h3' : S.2.1 53 FR.length = Int32.ofNat s := h3
  have h4' : S.2.1 54 FR.length = Int32.ofNat cs := h4
  have h5' : S.2.1 55 FR.length = Int32.ofNat 0 := h5
  constructor
  · intro e
    subst e
    simp only [M267, h2', if_pos k53, if_pos k55, t8, h3', ix_24, if_pos k6, t96, r2, c3, cond_true, h5', d1, n0, if_pos k54, h4', h2, q0, J267_139, Option.bind_some]
  · intro e
    subst e
    simp only [M267, h2', if_pos k53, if_pos k55, t8, h3', ix_24, if_pos k6, t96, r2, c3, cond_true, h5', d1, n0, if_pos k54, h4', h2, q1, cond_false, J267_139, Option.bind_some]
/-- a repetition's block is done once more -/
theorem M267_3 {at0 : Int32} {n : Nat} (hsl : sl < 3) (hp : pgR S sl sts nds fcs) (hf : frL S ((s, cs, n + 1) :: FR)) (hst : sts[s]? = some t) (hk : t.1 = 3) (hn : n ≤ 20) : (n = 0 → M267 N (Int32.ofNat sl) at0 S = some (at0, m_sV (m_sA S 55 FR.length (Int32.ofNat n)) 56 (Int32.ofNat FR.length))) ∧ (1 ≤ n → M267 N (Int32.ofNat sl) at0 S = some (Int32.ofNat (s + 1), m_sV (m_sA S 55 FR.length (Int32.ofNat n)) 56 (Int32.ofNat (FR.length + 1)))) := by
  obtain ⟨h1, h2', h3, h4, h5, h6⟩ := frL_top hf
  obtain ⟨k8, t8, ei, k96, t96, n1⟩ := fr_idx hsl hf hp hst
  obtain ⟨r1, r2, r3, r4, r5, r6, r7⟩ := hp.2.2.2.2.1 s t hst
  have hs24 := (List.getElem?_eq_some_iff.mp hst).1
  have := hp.2.1
  rw [hk] at r2
  have k53 : 0 ≤ (Int32.ofNat FR.length).toInt ∧ (Int32.ofNat FR.length).toInt < mN 53 := k8
  have k55 : 0 ≤ (Int32.ofNat FR.length).toInt ∧ (Int32.ofNat FR.length).toInt < mN 55 := k8
  have k6 : 0 ≤ (Int32.ofNat (24 * sl + s)).toInt ∧ (Int32.ofNat (24 * sl + s)).toInt < mN 6 := k96
  have c3 : mj_c2 .ne (Int32.ofNat 3) 3 = false := by decide
  have d1 : Int32.ofNat (n + 1) - 1 = Int32.ofNat n := by rw [show (1 : Int32) = Int32.ofNat 1 from rfl, n_sub (by omega) (by omega), Nat.add_sub_cancel]
  have h3' : S.2.1 53 FR.length = Int32.ofNat s := h3
  have h5' : S.2.1 55 FR.length = Int32.ofNat (n + 1) := h5
  have a55 : (m_sA S 55 FR.length (Int32.ofNat n)).2.1 55 FR.length = Int32.ofNat n := if_pos ⟨rfl, rfl⟩
  constructor
  · intro e
    have q0 : mj_c1 .ne (Int32.ofNat n) = false := by rw [e]; decide
    simp only [M267, h2', if_pos k53, if_pos k55, t8, h3', ix_24, if_pos k6, t96, r2, c3, cond_false, h5', d1, q0, J267_63, a55, J267_83]
  · intro e
    have q1 : mj_c1 .ne (Int32.ofNat n) = true := i_c1 (by
      show decide _ = true
      rw [i_nat (by omega)]
      exact decide_eq_true (by omega))
    have h2'' : Int32.ofNat (FR.length + 1) - 1 = Int32.ofNat FR.length := by rw [← h1]; exact h2'
    simp only [M267, h1, h2'', if_pos k53, if_pos k55, t8, h3', ix_24, if_pos k6, t96, r2, c3, cond_false, h5', d1, q1, cond_true, J267_63, a55, J267_83, i_inc (show s < 1000000 by omega)]
end STR
