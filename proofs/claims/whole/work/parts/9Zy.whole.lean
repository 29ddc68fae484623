/-! A WHOLE TEXT, BOTH SIDES -/
/-- what is read of a text: the place that is wrong, or statements, nodes, faces and factors -/
noncomputable def rdT (tx : List Int32) : Nat ⊕ (Rs × List Nat) :=
  match rB tx 100 0 ([], 0, 0, [], []) with
  | .inl w => .inl w
  | .inr q => if q.1.2.1 = tx.length then if fo q.2 1 ≤ 2147483648 then .inr q else .inl tx.length else .inl q.1.2.1
section WHM
variable {N : Nat} {tx : List Int32}
/-- the end of a program: factors -/
theorem J211_121_do (hN : 2000 ≤ N) {H : mj_H} {S : mS} {s : Rs} {l : List (Nat × Nat)} {o : Option Nat} {m A B : Nat} (h : rq tx S s []) (hc : chn H l o) (hb : bk (sT H s.1 s.2.2.2.1 s.2.2.2.2 m A B) s.1 l 0 s.1.length) : (fold_ l 1 ≤ 2147483648 → ∃ S', J211_121 N 1 S = some (1, S') ∧ onlyF S S' ∧ ∀ i t, s.1[i]? = some t → S'.2.2 12 (72 + i) = Int64.ofNat t.2.2.2.2.2.2) ∧ (¬ fold_ l 1 ≤ 2147483648 → ∃ S', J211_121 N 1 S = some (0, S') ∧ S'.1 3 = Int32.ofNat tx.length ∧ pgx S S') := by
  have n1 : mj_c1 .ne 1 = true := by decide
  have b0 : mj_c1 .eq 0 = true := by decide
  obtain ⟨h1, h2, h3, h4, h5, h6, h7, h8, h9⟩ := h
  have h24 := h5.2.1
  have hle : ∀ (i : Nat) (t : St), s.1[i]? = some t → t.2.2.2.2.2.1 ≤ s.1.length := by
    -- an end lies within
    have key : ∀ (n : Nat) (l : List (Nat × Nat)) (A B lo hi : Nat), bk (sT H s.1 s.2.2.2.1 s.2.2.2.2 n A B) s.1 l lo hi → ∀ i t, lo ≤ i → i < hi → s.1[i]? = some t → t.2.2.2.2.2.1 ≤ hi := by
      intro n
      induction n with
      | zero =>
        intro l A B lo hi hbk i t i1 i2 _
        cases l with
        | nil => exact absurd (show lo = hi from hbk) (by omega)
        | cons x r =>
          obtain ⟨t', -, -, h3, -⟩ := hbk
          exact h3.elim
      | succ n ihn =>
        intro l
        induction l with
        | nil =>
          intro A B lo hi hbk i t i1 i2 _
          exact absurd (show lo = hi from hbk) (by omega)
        | cons x r ih =>
          intro A B lo hi hbk i t i1 i2 it
          obtain ⟨t', k1, k2, k3, k4⟩ := hbk
          have l2 := bk_le (fun s t a x => sT_end x) _ _ _ k4
          by_cases e : i = lo
          · subst e
            rw [k1] at it
            cases it
            exact l2
          · by_cases e2 : t'.2.2.2.2.2.1 ≤ i
            · exact ih A B _ hi k4 i t e2 i2 it
            · obtain ⟨-, -, -, c, ee, tm, o1, o2, nx, s1', s2', A1, B1, z1, z2, z3, z4, z5⟩ := k3
              rcases z5 with ⟨q1, q2, q3, q4, -⟩ | ⟨q1, q2, fe, l1, l2', q3, q4, q5, q6, q7, q8⟩ | ⟨q1, q2, q3, q4, q5, q6, q7, q8, l1, q9, q10, q11⟩
              · omega
              · have hmid := bk_le (fun s t a x => sT_end x) _ _ _ q7
                by_cases e3 : i < t'.2.2.2.2.1
                · have := ihn l1 A1 B1 _ _ q5 i t (by omega) e3 it
                  omega
                · have := ihn l2' A1 B1 _ _ q7 i t (by omega) (by omega) it
                  omega
              · have := ihn l1 A1 B1 _ _ q10 i t (by omega) (by omega) it
                omega
    intro i t it
    exact key m l A B 0 s.1.length hb i t (Nat.zero_le _) (List.getElem?_eq_some_iff.mp it).1 it
  have e53 : S.2.1 5 3 - 1 = Int32.ofNat s.1.length - 1 := by rw [h5.1]
  obtain ⟨S5, a1, a2, a3⟩ := L235_9_do (N := N) hN h5 h3 (fun i hi => bk_all m l A B 0 s.1.length hb i (Nat.zero_le _) hi) hle s.1.length S (Nat.le_refl _) ⟨rfl, rfl, fun _ _ _ => rfl⟩ (fun i t hi it => absurd (List.getElem?_eq_some_iff.mp it).1 (by omega))
  have m5 : M235 N S = some S5 := by
    unfold M235 L235_9
    rw [e53]
    exact t_lp_more _ _ _ (by omega) a1
  obtain ⟨l', u1, u2, u3, -⟩ := bch_of (S := S5) (sl := 3) h24 (fun i t it => by rw [a2.2.1]; exact (h5.2.2 i t it).2.2.2.2.2) l 0 o (fun i t _ it => a3 i t it) hc hb
  have w1 := M236_do (N := N) hN (x1 := 3) (show (3 : Int32).toInt = ((3 : Nat) : Int) from rfl) (by decide) h24 u1 (by rw [u3]; exact bk_len hb h24)
  rw [u2] at w1
  have w1' : M236 N 3 0 (S5.2.1 5 3) S5 = some (Int64.ofNat (fold_ l 1), S5) := by
    rw [a2.2.1, h5.1]
    exact w1
  have fb : fold_ l 1 ≤ 2147483649 := fold_bd l 1 (by decide)
  have e31 : (2147483648 : Int64).toInt = 2147483648 := rfl
  constructor
  · intro hf
    have c : mj_c1 .le (lg_cmp (Int64.ofNat (fold_ l 1)) 2147483648) = true := by
      rw [lc_le]
      exact decide_eq_true (by rw [j_nat (by omega), e31]; omega)
    refine ⟨S5, ?_, a2, a3⟩
    simp only [J211_121, n1, cond_true, m5, w1', c, J211_161, J211_166, Option.bind_some]
    rfl
  · intro hf
    have c : mj_c1 .le (lg_cmp (Int64.ofNat (fold_ l 1)) 2147483648) = false := by
      rw [lc_le]
      exact decide_eq_false (by rw [j_nat (by omega), e31]; omega)
    refine ⟨m_sV S5 3 (S5.1 2), ?_, ?_, ?_⟩
    · simp only [J211_121, n1, cond_true, m5, w1', c, cond_false, M213, b0, J211_166, Option.bind_some]
      rfl
    · show S5.1 2 = _
      rw [a2.1]
      exact h1.1.1
    · exact pgx_3 ⟨fun j _ => by rw [a2.1], fun j i _ => by rw [a2.2.1], a2.2.2⟩ _
theorem M211_do (hN : 2000 ≤ N) {S : mS} (ht : txR tx S) (hT : ∀ q, rB tx 100 0 ([], 0, 0, [], []) = .inr q → ∃ (H : mj_H) (o : Option Nat) (l : List (Nat × Nat)) (m A B : Nat), chn H l o ∧ bk (sT H q.1.1 q.1.2.2.2.1 q.1.2.2.2.2 m A B) q.1.1 l 0 q.1.1.length ∧ l.map Prod.snd = q.2) : (∀ w, rdT tx = .inl w → ∃ S', M211 N S = some (0, S') ∧ S'.1 3 = Int32.ofNat w ∧ pgx S S') ∧ (∀ q, rdT tx = .inr q → ∃ S', M211 N S = some (1, S') ∧ pg S S' ∧ rq tx S' q.1 [] ∧ ∀ i t, q.1.1[i]? = some t → S'.2.2 12 (72 + i) = Int64.ofNat t.2.2.2.2.2.2) := by
  obtain ⟨S0, hS0⟩ : ∃ S0, m_sA (m_sV (m_sV (m_sV (m_sV (m_sV S 22 0) 23 0) 24 0) 25 0) 36 0) 5 3 0 = S0 := ⟨_, rfl⟩
  have ag : m_agr [22, 23, 24, 25, 36] [5] [] S S0 := by rw [← hS0]; exact m_agr_sA (m_agr_sV (m_agr_sV (m_agr_sV (m_agr_sV (m_agr_sV m_agr_refl (by decide) _) (by decide) _) (by decide) _) (by decide) _) (by decide) _) (by decide) _ _
  have p0 : pg S S0 := by rw [← hS0]; exact pg_sA (pg_sV (pg_sV (pg_sV (pg_sV (pg_sV pg_refl (by decide) _) (by decide) _) (by decide) _) (by decide) _) (by decide) _) (by unfold pgA; omega) _
  have r0 : rq tx S0 ([], 0, 0, [], []) [] := by
    refine ⟨⟨txR_ag ht ag (by decide), by rw [← hS0]; rfl, Nat.zero_le _⟩, by rw [← hS0]; rfl, ⟨by rw [← hS0]; rfl, by decide, fun i nd h => (by cases h)⟩, ⟨by rw [← hS0]; rfl, by decide, fun i x h => (by cases h)⟩, ⟨by rw [← hS0]; rfl, by decide, fun i t h => (by cases h)⟩, ⟨by rw [← hS0]; rfl, by decide, fun j b h => (by cases h)⟩, Nat.le_refl _, Nat.le_refl _, by decide⟩
  have e0 : M211 N S = t_lp (B211_34 N) N (1, S0) := by
    unfold M211 L211_34
    rw [hS0]
  have up : ∀ res, PR N 0 S0 res → M211 N S = some res := fun res k => e0.trans (t_lp_more _ _ _ (by omega) k)
  obtain ⟨x1, x2⟩ := PG_do (N := N) (tx := tx) hN 100 ([], 0, 0, [], []) [] S0 (by decide) r0
  have x1' : ∀ w, rB tx 100 0 ([], 0, 0, [], []) = .inl w → ∃ S', PR N 0 S0 (0, S') ∧ S'.1 3 = Int32.ofNat w ∧ pgx S0 S' := x1
  have x2' : ∀ q, rB tx 100 0 ([], 0, 0, [], []) = .inr q → ∃ S', rq tx S' q.1 [] ∧ pg S0 S' ∧ (pk tx q.1.2.1 = 0 ∨ pk tx q.1.2.1 = 125) ∧ ∀ res, PR N q.1.2.1 S' res → PR N 0 S0 res := x2
  unfold rdT
  cases es : rB tx 100 0 ([], 0, 0, [], []) with
  | inl w =>
    refine ⟨fun w' hw => ?_, fun q hq => (by cases hq)⟩
    cases hw
    obtain ⟨S', a1, a2, a3⟩ := x1' w es
    exact ⟨S', up _ a1, a2, pgx_trans p0 a3⟩
  | inr q =>
    dsimp only
    obtain ⟨S1, a1, a2, a3, a4⟩ := x2' q es
    obtain ⟨H, o, l, m, A, B, c1, c2, c3⟩ := hT q es
    have hl := a1.1.1.2.1
    have hp := a1.1.2.2
    obtain ⟨e1, e2, e3⟩ := pk_end a1.1
    have b1 : mj_c1 .eq 1 = false := by decide
    have n0 : mj_c1 .ne 0 = false := by decide
    have e36 : S1.1 36 = 0 := a1.2.2.2.2.2.1.1
    have ff : fold_ l 1 = fo q.2 1 := by rw [fold_fo, c3]
    by_cases hq : q.1.2.1 = tx.length
    · rw [if_pos hq]
      rw [decide_eq_false (by omega)] at e2
      have d36 : mj_c1 .le (S1.1 36) = true := by rw [e36]; decide
      obtain ⟨y1, y2⟩ := J211_121_do (N := N) hN a1 c1 c2
      rw [ff] at y1 y2
      have go : ∀ res, J211_121 N 1 S1 = some res → M211 N S = some res := by
        intro res hres
        apply up
        apply a4
        unfold PR
        rw [show 400 - q.1.2.1 = 400 - (q.1.2.1 + 1) + 1 by omega]
        refine (t_lp_map (x := J211_121 N 1 S1) ?_).trans hres
        simp only [B211_34, b1, cond_false, e2, d36, cond_true]
      by_cases hf : fo q.2 1 ≤ 2147483648
      · rw [if_pos hf]
        refine ⟨fun w hw => (by cases hw), fun q' hq' => ?_⟩
        cases hq'
        obtain ⟨S', z1, z2, z3⟩ := y1 hf
        have ag5 : m_agr [] [] [12] S1 S' := ⟨fun j _ => by rw [z2.1], fun j _ => by rw [z2.2.1], fun j hj => by funext i; exact z2.2.2 j i (fun k => hj (by rw [k.1]; decide))⟩
        refine ⟨S', go _ z1, pg_trans p0 (pg_trans a2 ⟨fun j _ => by rw [z2.1], fun j i _ => by rw [z2.2.1], z2.2.2⟩), ?_, z3⟩
        obtain ⟨k1, k2, k3, k4, k5, k6, k7⟩ := a1
        refine ⟨mst_ag k1 ag5 (by decide), by rw [z2.1]; exact k2, ?_, fc_ag k4 ag5 (by decide), ?_, ?_, k7⟩
        · unfold drN ndAt
          rw [z2.1, z2.2.1]
          exact k3
        · unfold drS
          rw [z2.2.1]
          exact k5
        · unfold skB
          rw [z2.1, z2.2.1]
          exact k6
      · rw [if_neg hf]
        refine ⟨fun w hw => ?_, fun q' hq' => (by cases hq')⟩
        cases hw
        obtain ⟨S', z1, z2, z3⟩ := y2 hf
        exact ⟨S', go _ z1, z2, pgx_trans p0 (pgx_trans a2 z3)⟩
    · rw [if_neg hq]
      have hlt : q.1.2.1 < tx.length := by omega
      have h125 : pk tx q.1.2.1 = 125 := a3.elim (fun k => absurd (e1.mp k) (by omega)) id
      rw [decide_eq_true hlt] at e2
      rw [decide_eq_false (by omega)] at e3
      have rd := M212_do (N := N) a1.1
      have c : mj_c2 .eq (pk tx q.1.2.1) 125 = true := decide_eq_true h125
      have d36 : mj_c1 .ne (S1.1 36) = false := by rw [e36]; decide
      refine ⟨fun w hw => ?_, fun q' hq' => (by cases hq')⟩
      cases hw
      refine ⟨m_sV S1 3 (S1.1 22), up _ (a4 _ ?_), a1.1.2.1, pgx_trans p0 (pgx_3 a2 _)⟩
      unfold PR
      rw [show 400 - q.1.2.1 = 400 - (q.1.2.1 + 1) + 1 by omega]
      apply t_end
      simp only [B211_34, b1, cond_false, e2, cond_true, J211_56, e3, rd, c, J211_80, J211_81, n0, d36, M213, Option.bind_some]
      rfl
end WHM
