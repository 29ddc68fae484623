section SMS
variable {N : Nat} {H : mj_H} {A B sl s set a f mo : Nat} {sts : List St} {nds : List Nd} {fcs : List Int32} {t : St} {Ls : Nat → Ss}
theorem vst_ag {S S' : mS} {U : Ss} {q : Nat} {f0 : Int32} (h : vst S q U f0) {F A B : List Nat} (ag : m_agr F A B S S') (c : 50 ∉ F ∧ 47 ∉ A ∧ 49 ∉ A ∧ 48 ∉ B) : vst S' q U f0 := by
  rcases h with ⟨h1, h2, h3⟩ | ⟨h1, h2, L', h3, h4⟩
  · exact Or.inl ⟨h1, by rw [ag.1 50 c.1]; exact h2, rsL_ag h3 ag c.2⟩
  · exact Or.inr ⟨h1, by rw [ag.1 50 c.1]; exact h2, L', rsL_ag h3 ag c.2, h4⟩
/-- what one value more of a statement does -/
def oneV (N sl s set : Nat) (sts : List St) (nds : List Nd) (fcs : List Int32) (Ls : Nat → Ss) (hh : Vs × Nat → Int32 × Nat → Ss) : Prop := ∀ (row : Nat) (x : Vs × Nat) (s0 : Sp) (Sw : mS), row < 64 → (Ls set)[row]? = some x → s0.length ≤ 1999 → pcx Sw sl sts nds fcs → Sw.1 45 = Int32.ofNat s0.length → vw (Sw.2.1 41) (Sw.2.2 42) s0 → gdk x → ∀ (q : Nat) (p : Int32 × Nat) (S : mS) (U : Ss), s0[q]? = some p → jfr 9 Sw S → rsA S Ls → vst S 9 U 0 → (∀ y ∈ U, y.1.length = 6) → ∃ S', B286_43 N (Int32.ofNat sl, Int32.ofNat s, Int32.ofNat set, Int32.ofNat (24 * sl + s), Int32.ofNat row, Int32.ofNat q, S) = some (.inl (Int32.ofNat sl, Int32.ofNat s, Int32.ofNat set, Int32.ofNat (24 * sl + s), Int32.ofNat row, Int32.ofNat (q + 1), S')) ∧ vst S' 9 (insA (hh x p) U) 0 ∧ jfr 9 S S' ∧ ∀ y ∈ insA (hh x p) U, y.1.length = 6
theorem M286_gen (hN : 100000 ≤ N) {g : Vs × Nat → Sp → Ss} {hh : Vs × Nat → Int32 × Nat → Ss} (g0 : ∀ p, g p [] = []) (g1 : ∀ p q r, g p (q :: r) = hh p q ++ g p r) (hg : ∀ p s, gdk p → gdS s f → ∀ x ∈ g p s, gdk x) (hsl : sl < 3) (hs : s < 24) (hset : set < 9) (ht : sts[s]? = some t) (h3 : t.1 ≠ 3) (hnl : nds.length ≤ 160) (hfc : fcs.length ≤ 160) (h40 : lcn nds ≤ 40) (hx : exT H A B nds fcs 45 t.2.2.1 t.2.2.2.1 a f) (hf : f ≤ 2147483648) (hst : oneV N sl s set sts nds fcs Ls hh) {S : mS} (hp : pcx S sl sts nds fcs) (hA : rsA S Ls) (hgL : ∀ p ∈ Ls set, gdk p) (h52 : S.1 52 = Int32.ofNat mo) (hmo : mo ≤ 64) : (∃ X, allS (evK nds fcs t.2.2.2.1) g (Ls set) = some X ∧ ((insA X []).length ≤ 64 → ∃ S', M286 N (Int32.ofNat sl) (Int32.ofNat s) (Int32.ofNat set) S = some (1, S') ∧ rsA S' (upL Ls set (insA X [])) ∧ rG S S' ∧ S'.1 52 = Int32.ofNat (max mo (insA X []).length)) ∧ (64 < (insA X []).length → ∃ S', M286 N (Int32.ofNat sl) (Int32.ofNat s) (Int32.ofNat set) S = some (0, S') ∧ rG S S' ∧ S'.1 52 = S.1 52 ∧ S'.1 51 = -2 ∧ ∃ Ls', rsA S' Ls')) ∨ ((∃ p ∈ Ls set, evK nds fcs t.2.2.2.1 p.1 = none) ∧ ∃ S', M286 N (Int32.ofNat sl) (Int32.ofNat s) (Int32.ofNat set) S = some (0, S') ∧ rG S S' ∧ S'.1 52 = S.1 52 ∧ S'.1 51 = -1 ∧ ∃ Ls', rsA S' Ls') := by
  obtain ⟨S1, b1, b2, b3⟩ := M273_do (N := N) (S := S)
  obtain ⟨k9, t9⟩ := a49 (show set < 10 by omega)
  have n1 : mj_c1 .ne 1 = true := by decide
  have n0 : mj_c1 .ne 0 = false := by decide
  have hll := (hA set hset).2.1
  have key : ∀ (rest : Ss) (row : Nat) (G : mS) (U : Ss), row + rest.length = (Ls set).length → (Ls set).drop row = rest → pcx G sl sts nds fcs → rsA G Ls → vst G 9 U 0 → (∀ y ∈ U, y.1.length = 6) → rG S G → G.1 52 = S.1 52 → (∃ X S', allS (evK nds fcs t.2.2.2.1) g rest = some X ∧ vst S' 9 (insA X U) 0 ∧ rsA S' Ls ∧ rG S S' ∧ S'.1 52 = S.1 52 ∧ ∀ res, B286_15 N (Int32.ofNat sl, Int32.ofNat s, Int32.ofNat set, Int32.ofNat (24 * sl + s), Int32.ofNat (Ls set).length, S') = some (.inr res) → t_lp (B286_15 N) (rest.length + 1) (Int32.ofNat sl, Int32.ofNat s, Int32.ofNat set, Int32.ofNat (24 * sl + s), Int32.ofNat row, G) = some res) ∨ ((∃ p ∈ rest, evK nds fcs t.2.2.2.1 p.1 = none) ∧ ∃ S', t_lp (B286_15 N) (rest.length + 1) (Int32.ofNat sl, Int32.ofNat s, Int32.ofNat set, Int32.ofNat (24 * sl + s), Int32.ofNat row, G) = some (0, S') ∧ rG S S' ∧ S'.1 52 = S.1 52 ∧ S'.1 51 = -1 ∧ ∃ Ls', rsA S' Ls') := by
    intro rest
    induction rest with
    | nil =>
      intro row G U hrow _ hpG hAG hv h6 hG e52
      have hrow' : row + 0 = (Ls set).length := hrow
      refine Or.inl ⟨[], G, rfl, hv, hAG, hG, e52, fun res hres => t_end ?_ _⟩
      rw [show row = (Ls set).length by omega]
      exact hres
    | cons p r ih =>
      intro row G U hrow hdr hpG hAG hv h6 hG e52
      rw [List.length_cons] at hrow
      obtain ⟨hpr, hr⟩ := dr_get hdr
      have rG0 := hAG set hset
      have cc := c_geF (a := row) (b := (Ls set).length) (by omega) (by omega) (by omega)
      have hpg := hgL p (List.mem_of_getElem? hpr)
      have eF0 := eF_of hpG ht h3 rG0 hpr
      rcases M279_do (N := N) hN hsl hs (show set < 10 by omega) (show row < 64 by omega) (stf_in hpg) hnl hfc h40 hx hf eF0 with ⟨s0, S2, e1, e2, e3, e4, e5⟩ | ⟨e1, S2, e3, e5, e6⟩
      · have A2 := rsA_ag hAG e5 (by decide)
        have v2 := vst_ag hv e5 (by decide)
        have p2 := pcx_ag hpG e5 (by decide)
        have q45 : S2.1 45 = Int32.ofNat s0.length := by
          rw [e4.2.1]
          rfl
        have qvw : vw (S2.2.1 41) (S2.2.2 42) s0 := by
          have := e4.2.2.2
          rw [fl_one] at this
          exact this
        obtain ⟨S3, u1, u2, u3, u4, u5⟩ := L286_43_do (N := N) (sl := sl) (s := s) (set := set) (idx := 24 * sl + s) (row := row) (hh := hh p) (gg := g p) hN (g0 p) (g1 p) (Ls := Ls) (s0 := s0) e2.2.2.1 (by omega) (Sw := S2) (hst row p s0 S2 (by omega) hpr e2.2.2.1 p2 q45 qvw hpg) q45 A2 v2 h6
        have st : B286_15 N (Int32.ofNat sl, Int32.ofNat s, Int32.ofNat set, Int32.ofNat (24 * sl + s), Int32.ofNat row, G) = some (.inl (Int32.ofNat sl, Int32.ofNat s, Int32.ofNat set, Int32.ofNat (24 * sl + s), Int32.ofNat (row + 1), S3)) := by
          simp only [B286_15, if_pos k9, t9, rG0.1, cc, cond_false, e3, n1, cond_true, u1, Option.bind_some]
        rw [List.length_cons, t_one st]
        have G3 : rG S S3 := m_agr_trans hG (m_agr_trans (rG_w e5) (rG_j u3))
        have f52 : S3.1 52 = S.1 52 := by rw [u3.1.1 52 (by decide), e5.1 52 (by decide)]; exact e52
        rcases ih (row + 1) S3 (insA (g p s0) U) (by omega) hr (pcx_ag p2 u3.1 (by decide)) u4 u2 u5 G3 f52 with ⟨X, S', w1, w2, w3, w4, w5, w6⟩ | ⟨⟨y, y1, y2⟩, w⟩
        · refine Or.inl ⟨g p s0 ++ X, S', ?_, by rw [insA_app]; exact w2, w3, w4, w5, w6⟩
          rw [allS, show evK nds fcs t.2.2.2.1 p.1 = some s0 from e1, w1]
          rfl
        · exact Or.inr ⟨⟨y, List.mem_cons_of_mem _ y1, y2⟩, w⟩
      · refine Or.inr ⟨⟨p, List.mem_cons_self, e1⟩, S2, t_end ?_ _, m_agr_trans hG (rG_w e5), by rw [e5.1 52 (by decide)]; exact e52, e6, Ls, rsA_ag hAG e5 (by decide)⟩
        simp only [B286_15, if_pos k9, t9, rG0.1, cc, cond_false, e3, n0, Option.bind_some]
  have go : ∀ n res, n ≤ N → t_lp (B286_15 N) n (Int32.ofNat sl, Int32.ofNat s, Int32.ofNat set, Int32.ofNat (24 * sl + s), Int32.ofNat 0, S1) = some res → M286 N (Int32.ofNat sl) (Int32.ofNat s) (Int32.ofNat set) S = some res := by
    intro n res hn hres
    have hr' : L286_15 N (Int32.ofNat sl, Int32.ofNat s, Int32.ofNat set, Int32.ofNat (24 * sl + s), 0, S1) = some res := t_lp_more _ _ _ hn hres
    simp only [M286, b1, ix_24, hr', Option.bind_some]
  have G1 : rG S S1 := rG_j b3
  have f52 : S1.1 52 = S.1 52 := b3.1.1 52 (by decide)
  rcases key (Ls set) 0 S1 [] (by omega) rfl (pcx_ag hp b3.1 (by decide)) (rsA_9 hA b3) b2 (fun y hy => by cases hy) G1 f52 with ⟨X, S', w1, w2, w3, w4, w5, w6⟩ | ⟨y, S', w1, w2⟩
  · refine Or.inl ⟨X, w1, ?_⟩
    have gX : gds (insA X []) := gds_insA X [] gds_nil (allS_gd (ev_gd hnl hfc hx hf) hg (Ls set) X hgL w1)
    obtain ⟨u1, u2⟩ := M274_do (N := N) (set := set) (by omega) hset w2 gX w3 (w5.trans h52) hmo
    have cc := c_geT (a := (Ls set).length) (b := (Ls set).length) (by omega) (by omega) (Nat.le_refl _)
    have r49 := (w3 set hset).1
    constructor
    · intro hl
      obtain ⟨S2, v1, v2, v3, v4, v5⟩ := u1 hl
      refine ⟨S2, go _ _ (by omega) (w6 _ ?_), v2, m_agr_trans w4 v3, v4⟩
      simp only [B286_15, if_pos k9, t9, r49, cc, cond_true, v1, true_or, or_true, if_true, Option.bind_some]
    · intro hl
      refine ⟨m_sV S' 51 (-2), go _ _ (by omega) (w6 _ ?_), m_agr_sV w4 (by decide) _, w5, rfl, Ls, fun q hq => rsL_sV (w3 q hq)⟩
      simp only [B286_15, if_pos k9, t9, r49, cc, cond_true, u2 hl, true_or, or_true, if_true, Option.bind_some]
  · exact Or.inr ⟨y, S', go _ _ (by omega) w1, w2⟩
/-- an assignment -/
theorem one_As (hN : 100000 ≤ N) (hsl : sl < 3) (hs : s < 24) (hset : set < 9) (ht : sts[s]? = some t) (h0 : t.1 = 0) (hm : t.2.1 < 6) : oneV N sl s set sts nds fcs Ls (fun x q => [(x.1.set t.2.1 q.1, x.2 * q.2)]) := by
  intro row x s0 Sw hrow hx hs0 hp h45 hv hg q p S U hq hf hA hvst h6
  obtain ⟨q1, q2, q3, q4, q5, q6, q7⟩ := (pcx_ag hp hf.1 (by decide)).1
  obtain ⟨r1, r2, r3, r4⟩ := q5 s t ht
  rw [h0] at r2
  have hq' := (List.getElem?_eq_some_iff.mp hq).1
  have e45 : S.1 45 = Int32.ofNat s0.length := by rw [hf.1.1 45 (by decide)]; exact h45
  have c := c_geF (a := q) (b := s0.length) (by omega) (by omega) hq'
  have k6 : 0 ≤ (Int32.ofNat (24 * sl + s)).toInt ∧ (Int32.ofNat (24 * sl + s)).toInt < mN 6 := n_at (by omega) (by show _ < 96; omega)
  have k7 : 0 ≤ (Int32.ofNat (24 * sl + s)).toInt ∧ (Int32.ofNat (24 * sl + s)).toInt < mN 7 := k6
  have t6 : (Int32.ofNat (24 * sl + s)).toInt.toNat = 24 * sl + s := n_t (by omega)
  have k41 : 0 ≤ (Int32.ofNat q).toInt ∧ (Int32.ofNat q).toInt < mN 41 := n_at (by omega) (by show _ < 4800; omega)
  have k42 : 0 ≤ (Int32.ofNat q).toInt ∧ (Int32.ofNat q).toInt < mN 42 := k41
  have tq : (Int32.ofNat q).toInt.toNat = q := n_t (by omega)
  obtain ⟨k8, t8⟩ := a48 (set := set) (i := row) (by omega) hrow
  have v41 : S.2.1 41 q = p.1 := by rw [hf.1.2.1 41 (by decide)]; exact (hv q p hq).1
  have v42 : S.2.2 42 q = Int64.ofNat p.2 := by rw [hf.1.2.2 42 (by decide)]; exact (hv q p hq).2
  have rS := hA set hset
  have v48 := (rS.2.2 row x hx).1
  have e0 : mj_c1 .eq (Int32.ofNat 0) = true := by decide
  have e1 : mj_c1 .eq 1 = false := by decide
  have n0 : mj_c1 .ne (Int32.ofNat 0) = false := by decide
  obtain ⟨S', a1, a2, a3⟩ := M270_v (N := N) (set := 9) (other := set) (state := row) (k := x.1.set t.2.1 p.1) (w := x.2 * p.2) (by omega) (by omega) (by omega) (by omega) hrow hvst (cnd_at (v := p.1) rS hx hm hg.2.1) (by rw [List.length_set]; exact hg.2.1) h6
  have a1' : M270 N 9 (Int32.ofNat set) (Int32.ofNat row) (Int32.ofNat t.2.1) p.1 (Int64.ofNat (x.2 * p.2)) S = some S' := a1
  refine ⟨S', ?_, a2, a3, ins_6 (by rw [List.length_set]; exact hg.2.1) h6⟩
  simp only [B286_43, e45, c, cond_false, if_pos k6, t6, r2, e0, cond_true, J286_72, J286_77, e1, n0, if_pos k7, r3, J286_111, if_pos k41, ix_64, if_pos k8, t8, if_pos k42, tq, v41, v48, v42, l_mul, a1', J286_141, i_inc (show q < 1000000 by omega), Option.bind_some]
/-- a condition that is kept -/
theorem one_Ks (hN : 100000 ≤ N) (hsl : sl < 3) (hs : s < 24) (hset : set < 9) (ht : sts[s]? = some t) (h0 : t.1 = 1) : oneV N sl s set sts nds fcs Ls (fun x q => if q.1 = 0 then [] else [(x.1, x.2 * q.2)]) := by
  intro row x s0 Sw hrow hx hs0 hp h45 hv hg q p S U hq hf hA hvst h6
  obtain ⟨q1, q2, q3, q4, q5, q6, q7⟩ := (pcx_ag hp hf.1 (by decide)).1
  obtain ⟨r1, r2, r3, r4⟩ := q5 s t ht
  rw [h0] at r2
  have hq' := (List.getElem?_eq_some_iff.mp hq).1
  have e45 : S.1 45 = Int32.ofNat s0.length := by rw [hf.1.1 45 (by decide)]; exact h45
  have c := c_geF (a := q) (b := s0.length) (by omega) (by omega) hq'
  have k6 : 0 ≤ (Int32.ofNat (24 * sl + s)).toInt ∧ (Int32.ofNat (24 * sl + s)).toInt < mN 6 := n_at (by omega) (by show _ < 96; omega)
  have t6 : (Int32.ofNat (24 * sl + s)).toInt.toNat = 24 * sl + s := n_t (by omega)
  have k41 : 0 ≤ (Int32.ofNat q).toInt ∧ (Int32.ofNat q).toInt < mN 41 := n_at (by omega) (by show _ < 4800; omega)
  have k42 : 0 ≤ (Int32.ofNat q).toInt ∧ (Int32.ofNat q).toInt < mN 42 := k41
  have tq : (Int32.ofNat q).toInt.toNat = q := n_t (by omega)
  obtain ⟨k8, t8⟩ := a48 (set := set) (i := row) (by omega) hrow
  have v41 : S.2.1 41 q = p.1 := by rw [hf.1.2.1 41 (by decide)]; exact (hv q p hq).1
  have v42 : S.2.2 42 q = Int64.ofNat p.2 := by rw [hf.1.2.2 42 (by decide)]; exact (hv q p hq).2
  have rS := hA set hset
  have v48 := (rS.2.2 row x hx).1
  have e0 : mj_c1 .eq (Int32.ofNat 1) = false := by decide
  have e1 : mj_c1 .eq 1 = false := by decide
  have e2 : mj_c1 .eq 0 = true := by decide
  have n0 : mj_c1 .ne (Int32.ofNat 1) = true := by decide
  by_cases ez : p.1 = 0
  · have cz : mj_c1 .eq p.1 = true := by rw [ez]; decide
    refine ⟨S, ?_, by dsimp only; rw [if_pos ez]; exact hvst, jfr_refl, by dsimp only; rw [if_pos ez]; exact h6⟩
    simp only [B286_43, e45, c, cond_false, if_pos k6, t6, r2, e0, if_pos k41, tq, v41, cz, cond_true, J286_77, e2, J286_141, i_inc (show q < 1000000 by omega)]
  · have cz : mj_c1 .eq p.1 = false := decide_eq_false ez
    obtain ⟨S', a1, a2, a3⟩ := M270_v (N := N) (set := 9) (other := set) (state := row) (k := x.1) (w := x.2 * p.2) (by omega) (by omega) (by omega) (by omega) hrow hvst (cnd_m1 (v := p.1) rS hx) hg.2.1 h6
    have a1' : M270 N 9 (Int32.ofNat set) (Int32.ofNat row) (-1) p.1 (Int64.ofNat (x.2 * p.2)) S = some S' := a1
    refine ⟨S', ?_, by dsimp only; rw [if_neg ez]; exact a2, a3, by dsimp only; rw [if_neg ez]; exact ins_6 hg.2.1 h6⟩
    simp only [B286_43, e45, c, cond_false, if_pos k6, t6, r2, e0, if_pos k41, tq, v41, cz, J286_72, J286_77, e1, n0, cond_true, J286_111, ix_64, if_pos k8, t8, if_pos k42, v48, v42, l_mul, a1', J286_141, i_inc (show q < 1000000 by omega), Option.bind_some]
end SMS
