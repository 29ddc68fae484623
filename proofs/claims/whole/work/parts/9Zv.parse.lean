/-! PROGRAMS, THE REFERENCE: what is left to do from parse's loop on -/
section PRM
variable {N : Nat} {tx : List Int32}
def PR (N p : Nat) (S : mS) (res : Int32 × mS) : Prop := t_lp (B211_34 N) (400 - p) (1, S) = some res
theorem PR_go {p p' : Nat} {S S' : mS} {res : Int32 × mS} (hp : p < 300) (hpp : p < p') (h : B211_34 N (1, S) = some (.inl (1, S'))) (k : PR N p' S' res) : PR N p S res := by
  unfold PR at k ⊢
  rw [show 400 - p = 400 - (p + 1) + 1 by omega, t_one h]
  exact t_lp_more _ _ _ (by omega) k
theorem PR_no {p : Nat} {S S' : mS} (hp : p < 300) (h : B211_34 N (1, S) = some (.inl (0, S'))) : PR N p S (0, S') := by
  unfold PR
  rw [show 400 - p = 400 - (p + 2) + 1 + 1 by omega, t_one h, t_lp]
  rfl
theorem pk_end {S : mS} {p : Nat} (h : mst S tx p) : (pk tx p = 0 ↔ tx.length ≤ p) ∧ mj_c2 .lt (S.1 22) (S.1 2) = decide (p < tx.length) ∧ mj_c2 .ge (S.1 22) (S.1 2) = decide (tx.length ≤ p) := by
  have hl := h.1.2.1
  have hp := h.2.2
  have e1 : (S.1 22).toInt = p := by rw [h.2.1]; exact i_nat (by omega)
  have e2 : (S.1 2).toInt = tx.length := by rw [h.1.1]; exact i_nat (by omega)
  refine ⟨?_, ?_, ?_⟩
  · rcases pk_rng (p := p) ⟨h.1.2.1, h.1.2.2.2⟩ with ⟨a, b⟩ | ⟨a, b, c⟩
    · exact ⟨fun _ => b, fun _ => a⟩
    · refine ⟨fun q => ?_, fun q => absurd c (by omega)⟩
      rw [q, q_0] at a
      omega
  · by_cases k : p < tx.length
    · rw [decide_eq_true k]
      exact i_c2 (by show decide _ = true; apply decide_eq_true; omega)
    · rw [decide_eq_false k]
      exact i_c2 (by show decide _ = false; apply decide_eq_false; omega)
  · by_cases k : tx.length ≤ p
    · rw [decide_eq_true k]
      exact i_c2 (by show decide _ = true; apply decide_eq_true; omega)
    · rw [decide_eq_false k]
      exact i_c2 (by show decide _ = false; apply decide_eq_false; omega)
/-- a statement begins -/
theorem B211_st {S S' : mS} {s : Rs} {B : List (Nat × Nat)} {x : Int32} (h : rq tx S s B) (he : ¬ (pk tx s.2.1 = 0 ∨ pk tx s.2.1 = 125)) (e : M214 N S = some (x, S')) : B211_34 N (1, S) = some (.inl (x, S')) := by
  obtain ⟨e0, e1, e2⟩ := pk_end h.1
  have hlt : s.2.1 < tx.length := by
    rcases Nat.lt_or_ge s.2.1 tx.length with q | q
    · exact q
    · exact absurd (Or.inl (e0.mpr q)) he
  rw [decide_eq_true hlt] at e1
  rw [decide_eq_false (by omega)] at e2
  have b1 : mj_c1 .eq 1 = false := by decide
  have n1 : mj_c1 .ne 1 = true := by decide
  have rd := M212_do (N := N) h.1
  have c : mj_c2 .eq (pk tx s.2.1) 125 = false := decide_eq_false (fun q => he (Or.inr q))
  simp only [B211_34, b1, cond_false, e1, cond_true, J211_56, e2, rd, c, J211_81, n1, J211_102, e, J211_117, Option.bind_some]
/-- a block ends -/
theorem B211_lv {S S' : mS} {s : Rs} {b : Nat × Nat} {B : List (Nat × Nat)} {x : Int32} (h : rq tx S s (b :: B)) (he : pk tx s.2.1 = 0 ∨ pk tx s.2.1 = 125) (e : M234 N S = some (x, S')) : B211_34 N (1, S) = some (.inl (x, S')) := by
  obtain ⟨e0, e1, e2⟩ := pk_end h.1
  have b0 : mj_c1 .eq 0 = true := by decide
  have b1 : mj_c1 .eq 1 = false := by decide
  have n0 : mj_c1 .ne 0 = false := by decide
  have rd := M212_do (N := N) h.1
  obtain ⟨k1, -⟩ := skB_pop h.2.2.2.2.2.1
  have c36 : mj_c1 .ne (S.1 36) = true := i_ne0 (by omega)
  have d36 : mj_c1 .le (S.1 36) = false := i_c1 (by show decide _ = false; apply decide_eq_false; omega)
  have J : J211_80 N S = some (.inl (x, S')) := by
    simp only [J211_80, J211_81, n0, cond_false, c36, cond_true, J211_102, b0, e, J211_117, Option.bind_some]
  rcases he with q | q
  · have hge := e0.mp q
    rw [decide_eq_false (by omega)] at e1
    rw [decide_eq_true hge] at e2
    simp only [B211_34, b1, cond_false, e1, d36, J211_56, e2, cond_true]
    exact J
  · have hlt := pkz_is q (by decide)
    rw [decide_eq_true hlt] at e1
    rw [decide_eq_false (by omega)] at e2
    have c : mj_c2 .eq (pk tx s.2.1) 125 = true := decide_eq_true q
    simp only [B211_34, b1, cond_false, e1, cond_true, J211_56, e2, rd, c, Option.bind_some]
    exact J
def SGc (N : Nat) (tx : List Int32) (n : Nat) (sub : Nat → Rs → Nat ⊕ (Rs × Nat)) : Prop := ∀ (s : Rs) (B : List (Nat × Nat)) (S : mS), 31 + (5 - B.length) ≤ n + 1 → rq tx S s B → ¬ (pk tx s.2.1 = 0 ∨ pk tx s.2.1 = 125) → (∀ w, sub B.length s = .inl w → ∃ S', PR N s.2.1 S (0, S') ∧ S'.1 3 = Int32.ofNat w ∧ pgx S S') ∧ (∀ q, sub B.length s = .inr q → ∃ S', rq tx S' q.1 B ∧ pg S S' ∧ ∀ res, PR N q.1.2.1 S' res → PR N s.2.1 S res)
def PGc (N : Nat) (tx : List Int32) (n : Nat) : Prop := ∀ (s : Rs) (B : List (Nat × Nat)) (S : mS), 31 + (5 - B.length) ≤ n → rq tx S s B → (∀ w, rB tx n B.length s = .inl w → ∃ S', PR N s.2.1 S (0, S') ∧ S'.1 3 = Int32.ofNat w ∧ pgx S S') ∧ (∀ q, rB tx n B.length s = .inr q → ∃ S', rq tx S' q.1 B ∧ pg S S' ∧ (pk tx q.1.2.1 = 0 ∨ pk tx q.1.2.1 = 125) ∧ ∀ res, PR N q.1.2.1 S' res → PR N s.2.1 S res)
theorem stM_do (hN : 2000 ≤ N) {n : Nat} (hP : PGc N tx n) : SGc N tx n (rS tx (rB tx n) (rX tx n 0 0)) := by
  intro s B S hn h he
  have hl := h.1.1.2.1
  have hp := h.1.2.2
  have h40 := h.2.2.2.2.2.2.2.2
  have h24' := h.2.2.2.2.1.2.1
  have hmu : 29 < n := by omega
  unfold rS
  by_cases hi : (isNm (pk tx s.2.1) ∨ pk tx s.2.1 = 33 ∨ pk tx s.2.1 = 63 ∨ pk tx s.2.1 = 42) ∧ s.1.length < 24
  · rw [if_pos hi]
    have h24 := hi.2
    by_cases k63 : pk tx s.2.1 = 63
    · rw [if_pos k63]
      obtain ⟨x1, x2⟩ := M214_cho hN hmu h h24 k63
      unfold rCho
      cases es : rX tx n 0 0 (s.2.1 + 1, s.2.2) with
      | inl w =>
        refine ⟨fun w' hw => ?_, fun q hq => (by cases hq)⟩
        cases hw
        obtain ⟨S', a1, a2, a3⟩ := x1 w es
        exact ⟨S', PR_no (by omega) (B211_st h he a1), a2, a3⟩
      | inr r =>
        dsimp only
        have lr := rX_ok n 0 0 (s.2.1 + 1, s.2.2) r (pkz_is k63 (by decide)) h40 es
        have lr1 := lr.2.1
        have lr0 := lr.1.2.1
        have lr4 := lr.1.2.2.2.2.2.2.2
        dsimp only at lr1
        obtain ⟨y1, y2⟩ := x2 r es
        obtain ⟨t0, ht0⟩ : ∃ t : St, (2, 0, s.2.2.2.1.length, r.2.2.1.length - 1, s.1.length + 1, s.1.length + 1, 1) = t := ⟨_, rfl⟩
        rw [ht0] at y1 ⊢
        have el : (s.1 ++ [t0]).length = s.1.length + 1 := by rw [List.length_append]; rfl
        by_cases hb : pk tx r.1 = 123 ∧ B.length < 4
        · obtain ⟨S1, a1, a2, a3⟩ := y1 hb
          have g1 := B211_st h he a1
          obtain ⟨i1, i2⟩ := hP (s.1 ++ [t0], r.1 + 1, r.2) ((s.1.length, 0) :: B) S1 (by rw [List.length_cons]; omega) a2
          rw [List.length_cons] at i1 i2
          have eB : rBr tx (rB tx n) B.length (s.1 ++ [t0], r) = (match rB tx n (B.length + 1) (s.1 ++ [t0], r.1 + 1, r.2) with | .inl w => .inl w | .inr q => if pk tx q.1.2.1 = 125 then .inr ((q.1.1, q.1.2.1 + 1, q.1.2.2), q.2) else .inl q.1.2.1) := by
            unfold rBr
            rw [if_pos ⟨hb.2, hb.1⟩]
            rfl
          rw [eB]
          cases e1 : rB tx n (B.length + 1) (s.1 ++ [t0], r.1 + 1, r.2) with
          | inl w =>
            refine ⟨fun w' hw => ?_, fun q hq => (by cases hq)⟩
            cases hw
            obtain ⟨S', b1, b2, b3⟩ := i1 w e1
            exact ⟨S', PR_go (by omega) (show s.2.1 < r.1 + 1 by omega) g1 b1, b2, pgx_trans a3 b3⟩
          | inr q =>
            dsimp only
            obtain ⟨S2, b1, b2, b3, b4⟩ := i2 q e1
            have lq := rB_ok n (B.length + 1) (s.1 ++ [t0], r.1 + 1, r.2) q (pkz_is hb.1 (by decide)) lr4 (by dsimp only; omega) e1
            have lq1 := lq.1.1
            have lq2 := lq.2
            dsimp only at lq1 lq2
            rw [el] at lq2
            have hq0 := lq.1.2.1
            have ti : q.1.1[s.1.length]? = some t0 := by
              rw [lq2.2.2 s.1.length (by omega), List.getElem?_append_right (Nat.le_refl _), Nat.sub_self]
              rfl
            obtain ⟨z1, z2, z3⟩ := M234_do (N := N) b1 ti (by decide)
            have go2 : ∀ res, PR N q.1.2.1 S2 res → PR N s.2.1 S res := fun res k => PR_go (by omega) (show s.2.1 < r.1 + 1 by omega) g1 (b4 res k)
            by_cases h125 : pk tx q.1.2.1 = 125
            · rw [if_pos h125]
              dsimp only
              have ek : t0.1 = 2 := by rw [← ht0]
              have eF : ∀ (m e f : Nat), ((t0.1, t0.2.1, t0.2.2.1, t0.2.2.2.1, m, e, f) : St) = (2, 0, s.2.2.2.1.length, r.2.2.1.length - 1, m, e, f) := fun m e f => by rw [← ht0]
              by_cases h58 : pk tx (q.1.2.1 + 1) = 58
              · rw [if_pos h58]
                obtain ⟨-, z4⟩ := z3 h125 ek rfl 1
                obtain ⟨z5, z6⟩ := z4 h58
                rw [eF] at z5
                obtain ⟨t1, ht1⟩ : ∃ t : St, (2, 0, s.2.2.2.1.length, r.2.2.1.length - 1, q.1.1.length, q.1.1.length, 1) = t := ⟨_, rfl⟩
                rw [ht1] at z5 ⊢
                have hlt58 := pkz_is h58 (by decide)
                have el3 : (q.1.1.set s.1.length t1).length = q.1.1.length := List.length_set
                by_cases h123 : pk tx (q.1.2.1 + 2) = 123
                · obtain ⟨S3, c1, c2, c3⟩ := z5 h123
                  have g2 := B211_lv b1 (Or.inr h125) c1
                  obtain ⟨j1, j2⟩ := hP (q.1.1.set s.1.length t1, q.1.2.1 + 3, q.1.2.2) ((s.1.length, 1) :: B) S3 (by rw [List.length_cons]; omega) c2
                  rw [List.length_cons] at j1 j2
                  have eB2 : rBr tx (rB tx n) B.length (q.1.1.set s.1.length t1, q.1.2.1 + 1 + 1, q.1.2.2) = (match rB tx n (B.length + 1) (q.1.1.set s.1.length t1, q.1.2.1 + 3, q.1.2.2) with | .inl w => .inl w | .inr q => if pk tx q.1.2.1 = 125 then .inr ((q.1.1, q.1.2.1 + 1, q.1.2.2), q.2) else .inl q.1.2.1) := by
                    unfold rBr
                    rw [if_pos ⟨hb.2, h123⟩]
                    rfl
                  rw [eB2]
                  cases e2 : rB tx n (B.length + 1) (q.1.1.set s.1.length t1, q.1.2.1 + 3, q.1.2.2) with
                  | inl w =>
                    refine ⟨fun w' hw => ?_, fun q hq => (by cases hq)⟩
                    cases hw
                    obtain ⟨S', d1, d2, d3⟩ := j1 w e2
                    exact ⟨S', go2 _ (PR_go (by omega) (show q.1.2.1 < q.1.2.1 + 3 by omega) g2 d1), d2, pgx_trans a3 (pgx_trans b2 (pgx_trans c3 d3))⟩
                  | inr u =>
                    dsimp only
                    obtain ⟨S4, d1, d2, d3, d4⟩ := j2 u e2
                    have lu := rB_ok n (B.length + 1) (q.1.1.set s.1.length t1, q.1.2.1 + 3, q.1.2.2) u (pkz_is h123 (by decide)) lq.1.2.2.2.2.2.2.2 (by dsimp only; omega) e2
                    have lu1 := lu.1.1
                    have lu2 := lu.2
                    dsimp only at lu1 lu2
                    rw [el3] at lu2
                    have hu0 := lu.1.2.1
                    have ti2 : u.1.1[s.1.length]? = some t1 := by
                      rw [lu2.2.2 s.1.length (by omega), List.getElem?_set_self (by omega)]
                    obtain ⟨v1, v2, v3⟩ := M234_do (N := N) d1 ti2 (by decide)
                    have go4 : ∀ res, PR N u.1.2.1 S4 res → PR N s.2.1 S res := fun res k => go2 _ (PR_go (by omega) (show q.1.2.1 < q.1.2.1 + 3 by omega) g2 (d4 res k))
                    have pg4 : pg S S4 := pg_trans a3 (pg_trans b2 (pg_trans c3 d2))
                    by_cases hu125 : pk tx u.1.2.1 = 125
                    · rw [if_pos hu125]
                      refine ⟨fun w hw => (by cases hw), fun q' hq => ?_⟩
                      cases hq
                      obtain ⟨S5, f1, f2, f3⟩ := v2 hu125 (Or.inr rfl) (prN (exF r.2.2.1 s.2.2.2.1.length) (mlN (fo q.2 1) (fo u.2 1)))
                      have eF2 : ∀ (e f : Nat), ((t1.1, t1.2.1, t1.2.2.1, t1.2.2.2.1, t1.2.2.2.2.1, e, f) : St) = (2, 0, s.2.2.2.1.length, r.2.2.1.length - 1, q.1.1.length, e, f) := fun e f => by rw [← ht1]
                      rw [eF2] at f2
                      exact ⟨S5, f2, pg_trans pg4 f3, fun res k => go4 _ (PR_go (by omega) (Nat.lt_succ_self _) (B211_lv d1 (Or.inr hu125) f1) k)⟩
                    · rw [if_neg hu125]
                      refine ⟨fun w hw => ?_, fun q' hq => (by cases hq)⟩
                      cases hw
                      obtain ⟨S5, f1, f2, f3⟩ := v1 hu125
                      exact ⟨S5, go4 _ (PR_no (by omega) (B211_lv d1 d3 f1)), f2, pgx_trans pg4 f3⟩
                · have eB2 : rBr tx (rB tx n) B.length (q.1.1.set s.1.length t1, q.1.2.1 + 1 + 1, q.1.2.2) = .inl (q.1.2.1 + 2) := by
                    unfold rBr
                    rw [if_neg (fun k => h123 k.2)]
                  rw [eB2]
                  refine ⟨fun w hw => ?_, fun q' hq => (by cases hq)⟩
                  cases hw
                  obtain ⟨S3, c1, c2, c3⟩ := z6 h123
                  exact ⟨S3, go2 _ (PR_no (by omega) (B211_lv b1 (Or.inr h125) c1)), c2, pgx_trans a3 (pgx_trans b2 c3)⟩
              · rw [if_neg h58]
                refine ⟨fun w hw => (by cases hw), fun q' hq => ?_⟩
                cases hq
                obtain ⟨z4, -⟩ := z3 h125 ek rfl (prN (exF r.2.2.1 s.2.2.2.1.length) (mlN (fo q.2 1) 1))
                obtain ⟨S3, c1, c2, c3⟩ := z4 h58
                rw [eF] at c2
                exact ⟨S3, c2, pg_trans a3 (pg_trans b2 c3), fun res k => go2 _ (PR_go (by omega) (Nat.lt_succ_self _) (B211_lv b1 (Or.inr h125) c1) k)⟩
            · rw [if_neg h125]
              refine ⟨fun w hw => ?_, fun q' hq => (by cases hq)⟩
              cases hw
              obtain ⟨S3, c1, c2, c3⟩ := z1 h125
              exact ⟨S3, go2 _ (PR_no (by omega) (B211_lv b1 b3 c1)), c2, pgx_trans a3 (pgx_trans b2 c3)⟩
        · have eB : rBr tx (rB tx n) B.length (s.1 ++ [t0], r) = .inl r.1 := by
            unfold rBr
            rw [if_neg (fun k => hb ⟨k.2, k.1⟩)]
          rw [eB]
          refine ⟨fun w hw => ?_, fun q hq => (by cases hq)⟩
          cases hw
          obtain ⟨S', a1, a2, a3⟩ := y2 hb
          exact ⟨S', PR_no (by omega) (B211_st h he a1), a2, a3⟩
    · rw [if_neg k63]
      by_cases k42 : pk tx s.2.1 = 42
      · rw [if_pos k42]
        obtain ⟨x1, x2⟩ := M214_rep hN h h24 k42
        unfold rRep
        cases es : rNum tx (s.2.1 + 1) 0 20 with
        | inl w =>
          refine ⟨fun w' hw => ?_, fun q hq => (by cases hq)⟩
          cases hw
          obtain ⟨S', a1, a2, a3⟩ := x1 w es
          exact ⟨S', PR_no (by omega) (B211_st h he a1), a2, a3⟩
        | inr v =>
          dsimp only
          have lv := rNum_le (show s.2.1 + 1 ≤ tx.length from pkz_is k42 (by decide)) es
          obtain ⟨y1, y2⟩ := x2 v es
          obtain ⟨t0, ht0⟩ : ∃ t : St, (3, v.2, 0, 0, s.1.length + 1, s.1.length + 1, 1) = t := ⟨_, rfl⟩
          rw [ht0] at y1 ⊢
          have el : (s.1 ++ [t0]).length = s.1.length + 1 := by rw [List.length_append]; rfl
          by_cases hb : pk tx v.1 = 123 ∧ B.length < 4
          · obtain ⟨S1, a1, a2, a3⟩ := y1 hb
            have g1 := B211_st h he a1
            obtain ⟨i1, i2⟩ := hP (s.1 ++ [t0], v.1 + 1, s.2.2) ((s.1.length, 0) :: B) S1 (by rw [List.length_cons]; omega) a2
            rw [List.length_cons] at i1 i2
            have eB : rBr tx (rB tx n) B.length (s.1 ++ [t0], v.1, s.2.2) = (match rB tx n (B.length + 1) (s.1 ++ [t0], v.1 + 1, s.2.2) with | .inl w => .inl w | .inr q => if pk tx q.1.2.1 = 125 then .inr ((q.1.1, q.1.2.1 + 1, q.1.2.2), q.2) else .inl q.1.2.1) := by
              unfold rBr
              rw [if_pos ⟨hb.2, hb.1⟩]
              rfl
            rw [eB]
            cases e1 : rB tx n (B.length + 1) (s.1 ++ [t0], v.1 + 1, s.2.2) with
            | inl w =>
              refine ⟨fun w' hw => ?_, fun q hq => (by cases hq)⟩
              cases hw
              obtain ⟨S', b1, b2, b3⟩ := i1 w e1
              exact ⟨S', PR_go (by omega) (show s.2.1 < v.1 + 1 by omega) g1 b1, b2, pgx_trans a3 b3⟩
            | inr q =>
              dsimp only
              obtain ⟨S2, b1, b2, b3, b4⟩ := i2 q e1
              have lq := rB_ok n (B.length + 1) (s.1 ++ [t0], v.1 + 1, s.2.2) q (pkz_is hb.1 (by decide)) h40 (by dsimp only; omega) e1
              have lq1 := lq.1.1
              have lq2 := lq.2
              dsimp only at lq1 lq2
              rw [el] at lq2
              have hq0 := lq.1.2.1
              have ti : q.1.1[s.1.length]? = some t0 := by
                rw [lq2.2.2 s.1.length (by omega), List.getElem?_append_right (Nat.le_refl _), Nat.sub_self]
                rfl
              obtain ⟨z1, z2, z3⟩ := M234_do (N := N) b1 ti (by decide)
              have go2 : ∀ res, PR N q.1.2.1 S2 res → PR N s.2.1 S res := fun res k => PR_go (by omega) (show s.2.1 < v.1 + 1 by omega) g1 (b4 res k)
              by_cases h125 : pk tx q.1.2.1 = 125
              · rw [if_pos h125]
                refine ⟨fun w hw => (by cases hw), fun q' hq => ?_⟩
                cases hq
                have ek : t0.1 ≠ 2 := by rw [← ht0]; exact (show (3 : Nat) ≠ 2 by decide)
                obtain ⟨S3, c1, c2, c3⟩ := z2 h125 (Or.inl ek) (pwN (fo q.2 1) v.2 1)
                have eF : ∀ (e f : Nat), ((t0.1, t0.2.1, t0.2.2.1, t0.2.2.2.1, t0.2.2.2.2.1, e, f) : St) = (3, v.2, 0, 0, s.1.length + 1, e, f) := fun e f => by rw [← ht0]
                rw [eF] at c2
                exact ⟨S3, c2, pg_trans a3 (pg_trans b2 c3), fun res k => go2 _ (PR_go (by omega) (Nat.lt_succ_self _) (B211_lv b1 (Or.inr h125) c1) k)⟩
              · rw [if_neg h125]
                refine ⟨fun w hw => ?_, fun q' hq => (by cases hq)⟩
                cases hw
                obtain ⟨S3, c1, c2, c3⟩ := z1 h125
                exact ⟨S3, go2 _ (PR_no (by omega) (B211_lv b1 b3 c1)), c2, pgx_trans a3 (pgx_trans b2 c3)⟩
          · have eB : rBr tx (rB tx n) B.length (s.1 ++ [t0], v.1, s.2.2) = .inl v.1 := by
              unfold rBr
              rw [if_neg (fun k => hb ⟨k.2, k.1⟩)]
            rw [eB]
            refine ⟨fun w hw => ?_, fun q hq => (by cases hq)⟩
            cases hw
            obtain ⟨S', a1, a2, a3⟩ := y2 hb
            exact ⟨S', PR_no (by omega) (B211_st h he a1), a2, a3⟩
      · rw [if_neg k42]
        have hc : isNm (pk tx s.2.1) ∨ pk tx s.2.1 = 33 := by
          rcases hi.1 with q | q | q | q
          · exact Or.inl q
          · exact Or.inr q
          · exact absurd q k63
          · exact absurd q k42
        obtain ⟨x1, x2⟩ := M214_sim hN hmu h h24 hc
        refine ⟨fun w hw => ?_, fun q hq => ?_⟩
        · obtain ⟨S', a1, a2, a3⟩ := x1 w hw
          exact ⟨S', PR_no (by omega) (B211_st h he a1), a2, a3⟩
        · obtain ⟨S', a1, a2, a3⟩ := x2 q hq
          have lt : s.2.1 < q.1.2.1 := by
            have : rS tx (rB tx n) (rX tx n 0 0) B.length s = .inr q := by
              unfold rS
              rw [if_pos hi, if_neg k63, if_neg k42]
              exact hq
            exact (rS_ok (fun d s q a b c e => rB_ok n d s q a b c e) (fun r q a b e => rX_ok n 0 0 r q a b e) h40 this).2.2
          exact ⟨S', a2, a3, fun res k => PR_go (by omega) lt (B211_st h he a1) k⟩
  · rw [if_neg hi]
    refine ⟨fun w hw => ?_, fun q hq => (by cases hq)⟩
    cases hw
    obtain ⟨S', a1, a2, a3⟩ := (M214_way (N := N) h).2 hi
    exact ⟨S', PR_no (by omega) (B211_st h he a1), a2, a3⟩
theorem blM_do {n : Nat} {sub : Nat → Rs → Nat ⊕ (Rs × Nat)} (hs : SGc N tx n sub) {B : List (Nat × Nat)} (hn : 31 + (5 - B.length) ≤ n + 1) (hok : ∀ s q, s.2.1 ≤ tx.length → s.2.2.1 ≤ 40 → s.1.length ≤ 24 → sub B.length s = .inr q → sLt tx s q.1) : ∀ (m : Nat) (s : Rs) (S : mS), 25 ≤ m + s.1.length → rq tx S s B → (∀ w, rBl tx (sub B.length) m s = .inl w → ∃ S', PR N s.2.1 S (0, S') ∧ S'.1 3 = Int32.ofNat w ∧ pgx S S') ∧ (∀ q, rBl tx (sub B.length) m s = .inr q → ∃ S', rq tx S' q.1 B ∧ pg S S' ∧ (pk tx q.1.2.1 = 0 ∨ pk tx q.1.2.1 = 125) ∧ ∀ res, PR N q.1.2.1 S' res → PR N s.2.1 S res) := by
  intro m
  induction m with
  | zero =>
    intro s S hm h
    have := h.2.2.2.2.1.2.1
    omega
  | succ m ih =>
    intro s S hm h
    rw [rBl]
    by_cases he : pk tx s.2.1 = 0 ∨ pk tx s.2.1 = 125
    · rw [if_pos he]
      refine ⟨fun w hw => (by cases hw), fun q hq => ?_⟩
      cases hq
      exact ⟨S, h, pg_refl, he, fun res k => k⟩
    · rw [if_neg he]
      obtain ⟨x1, x2⟩ := hs s B S hn h he
      cases es : sub B.length s with
      | inl w =>
        refine ⟨fun w' hw => ?_, fun q hq => (by cases hq)⟩
        cases hw
        exact x1 w es
      | inr q =>
        dsimp only
        obtain ⟨S1, a1, a2, a3⟩ := x2 q es
        have lq := hok s q h.1.2.2 h.2.2.2.2.2.2.2.2 h.2.2.2.2.1.2.1 es
        obtain ⟨i1, i2⟩ := ih q.1 S1 (by have := lq.2.1; omega) a1
        cases e2 : rBl tx (sub B.length) m q.1 with
        | inl w =>
          refine ⟨fun w' hw => ?_, fun q hq => (by cases hq)⟩
          cases hw
          obtain ⟨S', b1, b2, b3⟩ := i1 w e2
          exact ⟨S', a3 _ b1, b2, pgx_trans a2 b3⟩
        | inr u =>
          refine ⟨fun w hw => (by cases hw), fun q' hq => ?_⟩
          cases hq
          obtain ⟨S', b1, b2, b3, b4⟩ := i2 u e2
          exact ⟨S', b1, pg_trans a2 b2, b3, fun res k => a3 _ (b4 res k)⟩
theorem PG_do (hN : 2000 ≤ N) : ∀ n, PGc N tx n := by
  intro n
  induction n with
  | zero => intro s B S hn; exact absurd hn (by omega)
  | succ n ih =>
    intro s B S hn h
    exact blM_do (stM_do hN ih) hn (fun s q _ k2 _ k => rS_ok (fun d s q a b c e => rB_ok n d s q a b c e) (fun r q a b e => rX_ok n 0 0 r q a b e) k2 k) 25 s S (by omega) h
end PRM
