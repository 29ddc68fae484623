/-! A CHOICE'S TWO SIDES, THE REFERENCE -/
section PTM
variable {N : Nat} {H : mj_H} {A B sl s set a f mo : Nat} {sts : List St} {nds : List Nd} {fcs : List Int32} {t : St} {Ls : Nat → Ss}
theorem ks_len {U L : Ss} (h : gds U) (hk : ∀ y ∈ U, ∃ p ∈ L, p.1 = y.1) : U.length ≤ L.length := by
  have := nd_sub (U.map Prod.fst) (L.map Prod.fst) h.1 (fun a ha => by
    obtain ⟨p, hp, e⟩ := List.mem_map.mp ha
    obtain ⟨q, hq, e2⟩ := hk p hp
    rw [← e, ← e2]
    exact List.mem_map_of_mem hq)
  rw [List.length_map, List.length_map] at this
  exact this
theorem ks_ins {U L : Ss} {x : Vs × Nat} {w : Nat} (hk : ∀ y ∈ U, ∃ p ∈ L, p.1 = y.1) (hx : x ∈ L) : ∀ y ∈ ins x.1 w U, ∃ p ∈ L, p.1 = y.1 := fun y hy => (ins_mem U y hy).elim (hk y) (fun q => ⟨x, hx, q.1.symm⟩)
/-- the two sides so far -/
def two (S : mS) (Ls : Nat → Ss) (set : Nat) (Uy Un : Ss) : Prop := rsA S (upL (upL Ls (set + 1) Uy) (set + 2) Un) ∧ (gds Uy ∧ ∀ y ∈ Uy, ∃ p ∈ Ls set, p.1 = y.1) ∧ (gds Un ∧ ∀ y ∈ Un, ∃ p ∈ Ls set, p.1 = y.1)
theorem two_L {S : mS} {Uy Un : Ss} (h : two S Ls set Uy Un) (hs : set + 2 < 9) : rsL S set (Ls set) ∧ rsL S (set + 1) Uy ∧ rsL S (set + 2) Un := by
  have a := h.1 set (by omega)
  have b := h.1 (set + 1) (by omega)
  have c := h.1 (set + 2) (by omega)
  rw [upL_ne (by omega), upL_ne (by omega)] at a
  rw [upL_ne (by omega), upL_eq] at b
  rw [upL_eq] at c
  exact ⟨a, b, c⟩
/-- one value more -/
theorem two_y (hN : 2000 ≤ N) {S : mS} {Uy Un : Ss} {row u : Nat} {x : Vs × Nat} (h : two S Ls set Uy Un) (hs : set + 2 < 9) (hrow : row < 64) (hx : (Ls set)[row]? = some x) (hg : gdk x) (hu : 1 ≤ u) : ∃ S', M270 N (Int32.ofNat (set + 1)) (Int32.ofNat set) (Int32.ofNat row) (-1) 0 (Int64.ofNat (x.2 * u)) S = some S' ∧ two S' Ls set (ins x.1 (x.2 * u) Uy) Un ∧ m_agr [50] [47, 49] [48] S S' := by
  obtain ⟨h1, h2, h3⟩ := two_L h hs
  obtain ⟨hA, ⟨g1, k1⟩, hn⟩ := h
  have gI := gds_ins (k := x.1) (w := x.2 * u) g1 ⟨Nat.mul_pos hg.1 hu, hg.2⟩
  have kI := ks_ins (w := x.2 * u) k1 (List.mem_of_getElem? hx)
  have l64 := ks_len gI kI
  have := h1.2.1
  obtain ⟨a1, -⟩ := M270_do (N := N) (set := set + 1) (other := set) (state := row) (w := x.2 * u) hN (by omega) (by omega) (by omega) hrow h2 (cnd_m1 (v := 0) h1 hx) hg.2.1 (fun y hy => (g1.2 y hy).2.1)
  obtain ⟨S', b1, b2, b3, b4⟩ := a1 (by omega)
  refine ⟨S', b1, ⟨?_, ⟨gI, kI⟩, hn⟩, b3.1⟩
  have := rsA_up hA b3 b2
  rw [upL_cm (by omega)] at this
  exact this
theorem two_n (hN : 2000 ≤ N) {S : mS} {Uy Un : Ss} {row u : Nat} {x : Vs × Nat} (h : two S Ls set Uy Un) (hs : set + 2 < 9) (hrow : row < 64) (hx : (Ls set)[row]? = some x) (hg : gdk x) (hu : 1 ≤ u) : ∃ S', M270 N (Int32.ofNat (set + 2)) (Int32.ofNat set) (Int32.ofNat row) (-1) 0 (Int64.ofNat (x.2 * u)) S = some S' ∧ two S' Ls set Uy (ins x.1 (x.2 * u) Un) ∧ m_agr [50] [47, 49] [48] S S' := by
  obtain ⟨h1, h2, h3⟩ := two_L h hs
  obtain ⟨hA, hy, ⟨g1, k1⟩⟩ := h
  have gI := gds_ins (k := x.1) (w := x.2 * u) g1 ⟨Nat.mul_pos hg.1 hu, hg.2⟩
  have kI := ks_ins (w := x.2 * u) k1 (List.mem_of_getElem? hx)
  have l64 := ks_len gI kI
  have := h1.2.1
  obtain ⟨a1, -⟩ := M270_do (N := N) (set := set + 2) (other := set) (state := row) (w := x.2 * u) hN (by omega) (by omega) (by omega) hrow h3 (cnd_m1 (v := 0) h1 hx) hg.2.1 (fun y hy => (g1.2 y hy).2.1)
  obtain ⟨S', b1, b2, b3, b4⟩ := a1 (by omega)
  refine ⟨S', b1, ⟨?_, hy, ⟨gI, kI⟩⟩, b3.1⟩
  have := rsA_up hA b3 b2
  rw [upL_up] at this
  exact this
/-- all values of a state -/
theorem L278_49_do (hN : 100000 ≤ N) {row : Nat} {x : Vs × Nat} {s0 : Sp} {Sw : mS} {Uy Un : Ss} (hs : set + 2 < 9) (hrow : row < 64) (hx : (Ls set)[row]? = some x) (hg : gdk x) (hs0 : s0.length ≤ 1999) (hpos : posS s0) (h45 : Sw.1 45 = Int32.ofNat s0.length) (hv : vw (Sw.2.1 41) (Sw.2.2 42) s0) (h2 : two Sw Ls set Uy Un) : ∃ S', L278_49 N (Int32.ofNat sl, Int32.ofNat s, Int32.ofNat set, Int32.ofNat row, 0, Sw) = some (.inl (Int32.ofNat sl, Int32.ofNat s, Int32.ofNat set, Int32.ofNat (row + 1), S')) ∧ two S' Ls set (insA (gKs x s0) Uy) (insA (gK0 x s0) Un) ∧ m_agr [50] [47, 49] [48] Sw S' := by
  have i1 : Int32.ofNat set + 1 = Int32.ofNat (set + 1) := i_inc (by omega)
  have i2 : Int32.ofNat set + 2 = Int32.ofNat (set + 2) := by rw [show (2 : Int32) = Int32.ofNat 2 from rfl, n_add]
  have key : ∀ (rest : Sp) (q : Nat) (S : mS) (Uy Un : Ss), q + rest.length = s0.length → s0.drop q = rest → two S Ls set Uy Un → m_agr [50] [47, 49] [48] Sw S → ∃ S', t_lp (B278_49 N) (rest.length + 1) (Int32.ofNat sl, Int32.ofNat s, Int32.ofNat set, Int32.ofNat row, Int32.ofNat q, S) = some (.inl (Int32.ofNat sl, Int32.ofNat s, Int32.ofNat set, Int32.ofNat (row + 1), S')) ∧ two S' Ls set (insA (gKs x rest) Uy) (insA (gK0 x rest) Un) ∧ m_agr [50] [47, 49] [48] Sw S' := by
    intro rest
    induction rest with
    | nil =>
      intro q S Uy Un hq _ h2 hf
      have hq' : q + 0 = s0.length := hq
      have e45 : S.1 45 = Int32.ofNat s0.length := by rw [hf.1 45 (by decide)]; exact h45
      have c := c_geT (a := q) (b := s0.length) (by omega) (by omega) (by omega)
      refine ⟨S, t_end ?_ _, h2, hf⟩
      simp only [B278_49, e45, c, cond_true, i_inc (show row < 1000000 by omega)]
    | cons p r ih =>
      intro q S Uy Un hq hd h2 hf
      rw [List.length_cons] at hq
      have hp : s0[q]? = some p := by
        have : (s0.drop q)[0]? = some p := by rw [hd]; rfl
        rw [List.getElem?_drop, Nat.add_zero] at this
        exact this
      have hr : s0.drop (q + 1) = r := by
        have : (s0.drop q).drop 1 = r := by rw [hd]; rfl
        rw [List.drop_drop] at this
        exact this
      have hpu := hpos p (List.mem_of_getElem? hp)
      have e45 : S.1 45 = Int32.ofNat s0.length := by rw [hf.1 45 (by decide)]; exact h45
      have c := c_geF (a := q) (b := s0.length) (by omega) (by omega) (by omega)
      have k41 : 0 ≤ (Int32.ofNat q).toInt ∧ (Int32.ofNat q).toInt < mN 41 := n_at (by omega) (by show _ < 4800; omega)
      have k42 : 0 ≤ (Int32.ofNat q).toInt ∧ (Int32.ofNat q).toInt < mN 42 := k41
      have tq : (Int32.ofNat q).toInt.toNat = q := n_t (by omega)
      obtain ⟨k8, t8⟩ := a48 (set := set) (i := row) (by omega) hrow
      have v41 : S.2.1 41 q = p.1 := by rw [hf.2.1 41 (by decide)]; exact (hv q p hp).1
      have v42 : S.2.2 42 q = Int64.ofNat p.2 := by rw [hf.2.2 42 (by decide)]; exact (hv q p hp).2
      have v48 := ((two_L h2 hs).1.2.2 row x hx).1
      by_cases ez : p.1 = 0
      · have cz : mj_c1 .eq p.1 = true := by rw [ez]; decide
        obtain ⟨S1, a1, a2, a3⟩ := two_n (N := N) (u := p.2) (by omega) h2 hs hrow hx hg hpu
        have st : B278_49 N (Int32.ofNat sl, Int32.ofNat s, Int32.ofNat set, Int32.ofNat row, Int32.ofNat q, S) = some (.inl (Int32.ofNat sl, Int32.ofNat s, Int32.ofNat set, Int32.ofNat row, Int32.ofNat (q + 1), S1)) := by
          simp only [B278_49, e45, c, cond_false, if_pos k41, tq, v41, cz, cond_true, i2, J278_78, ix_64, if_pos k8, t8, if_pos k42, v48, v42, l_mul, a1, i_inc (show q < 1000000 by omega), Option.bind_some]
        rw [List.length_cons, t_one st]
        have e1 : gKs x (p :: r) = gKs x r := by rw [gKs, if_pos ez, List.nil_append]
        have e2 : insA (gK0 x (p :: r)) Un = insA (gK0 x r) (ins x.1 (x.2 * p.2) Un) := by rw [gK0, if_pos ez]; rfl
        rw [e1, e2]
        exact ih (q + 1) S1 Uy _ (by omega) hr a2 (m_agr_trans hf a3)
      · have cz : mj_c1 .eq p.1 = false := decide_eq_false ez
        obtain ⟨S1, a1, a2, a3⟩ := two_y (N := N) (u := p.2) (by omega) h2 hs hrow hx hg hpu
        have st : B278_49 N (Int32.ofNat sl, Int32.ofNat s, Int32.ofNat set, Int32.ofNat row, Int32.ofNat q, S) = some (.inl (Int32.ofNat sl, Int32.ofNat s, Int32.ofNat set, Int32.ofNat row, Int32.ofNat (q + 1), S1)) := by
          simp only [B278_49, e45, c, cond_false, if_pos k41, tq, v41, cz, i1, J278_78, ix_64, if_pos k8, t8, if_pos k42, v48, v42, l_mul, a1, i_inc (show q < 1000000 by omega), Option.bind_some]
        rw [List.length_cons, t_one st]
        have e1 : insA (gKs x (p :: r)) Uy = insA (gKs x r) (ins x.1 (x.2 * p.2) Uy) := by rw [gKs, if_neg ez]; rfl
        have e2 : gK0 x (p :: r) = gK0 x r := by rw [gK0, if_neg ez, List.nil_append]
        rw [e1, e2]
        exact ih (q + 1) S1 _ Un (by omega) hr a2 (m_agr_trans hf a3)
  obtain ⟨S', a1, a2⟩ := key s0 0 Sw Uy Un (by omega) rfl h2 m_agr_refl
  exact ⟨S', t_lp_more _ _ _ (by omega) a1, a2⟩
theorem two_ag {S S' : mS} {Uy Un : Ss} (h : two S Ls set Uy Un) {F A B : List Nat} (ag : m_agr F A B S S') (c : 47 ∉ A ∧ 49 ∉ A ∧ 48 ∉ B) : two S' Ls set Uy Un := ⟨rsA_ag h.1 ag c, h.2⟩
/-- part -/
theorem M278_do (hN : 100000 ≤ N) (hsl : sl < 3) (hs : s < 24) (hset : set + 2 < 9) (ht : sts[s]? = some t) (h3 : t.1 ≠ 3) (hnl : nds.length ≤ 160) (hfc : fcs.length ≤ 160) (h40 : lcn nds ≤ 40) (hx : exT H A B nds fcs 45 t.2.2.1 t.2.2.2.1 a f) (hf : f ≤ 2147483648) {S : mS} (hp : pcx S sl sts nds fcs) (hA : rsA S Ls) (hgL : ∀ p ∈ Ls set, gdk p) : (∃ X Y S', allS (evK nds fcs t.2.2.2.1) gKs (Ls set) = some X ∧ allS (evK nds fcs t.2.2.2.1) gK0 (Ls set) = some Y ∧ M278 N (Int32.ofNat sl) (Int32.ofNat s) (Int32.ofNat set) S = some (1, S') ∧ rsA S' (upL (upL (upL Ls (set + 1) (insA X [])) (set + 2) (insA Y [])) set (insA Y [])) ∧ gds (insA X []) ∧ gds (insA Y []) ∧ rG S S' ∧ S'.1 52 = S.1 52) ∨ ((∃ p ∈ Ls set, evK nds fcs t.2.2.2.1 p.1 = none) ∧ ∃ S', M278 N (Int32.ofNat sl) (Int32.ofNat s) (Int32.ofNat set) S = some (0, S') ∧ rG S S' ∧ S'.1 52 = S.1 52 ∧ S'.1 51 = -1 ∧ ∃ Ls', rsA S' Ls') := by
  have i1 : Int32.ofNat set + 1 = Int32.ofNat (set + 1) := i_inc (by omega)
  have i2 : Int32.ofNat set + 2 = Int32.ofNat (set + 2) := by rw [show (2 : Int32) = Int32.ofNat 2 from rfl, n_add]
  obtain ⟨k9, t9⟩ := a49 (show set < 10 by omega)
  obtain ⟨k91, t91⟩ := a49 (show set + 1 < 10 by omega)
  obtain ⟨k92, t92⟩ := a49 (show set + 2 < 10 by omega)
  have n1 : mj_c1 .ne 1 = true := by decide
  have n0 : mj_c1 .ne 0 = false := by decide
  have hll := (hA set (by omega)).2.1
  obtain ⟨S1, hS1⟩ : ∃ x, m_sA (m_sA S 49 (set + 1) 0) 49 (set + 2) 0 = x := ⟨_, rfl⟩
  have ja : jfr (set + 1) S (m_sA S 49 (set + 1) 0) := jfr_49
  have jb : jfr (set + 2) (m_sA S 49 (set + 1) 0) S1 := by rw [← hS1]; exact jfr_49
  have r1 : rsL (m_sA S 49 (set + 1) 0) (set + 1) [] := ⟨if_pos ⟨rfl, rfl⟩, by decide, fun i x hx => by cases hx⟩
  have r2 : rsL S1 (set + 2) [] := by rw [← hS1]; exact ⟨if_pos ⟨rfl, rfl⟩, by decide, fun i x hx => by cases hx⟩
  have t1 : two S1 Ls set [] [] := ⟨rsA_up (rsA_up hA ja r1) jb r2, ⟨gds_nil, fun y hy => by cases hy⟩, gds_nil, fun y hy => by cases hy⟩
  have G1 : rG S S1 := m_agr_trans (rG_j ja) (rG_j jb)
  have q52 : S1.1 52 = S.1 52 := by rw [jb.1.1 52 (by decide), ja.1.1 52 (by decide)]
  have key : ∀ (rest : Ss) (row : Nat) (G : mS) (Uy Un : Ss), row + rest.length = (Ls set).length → (Ls set).drop row = rest → pcx G sl sts nds fcs → two G Ls set Uy Un → rG S G → G.1 52 = S.1 52 → (∃ X Y S', allS (evK nds fcs t.2.2.2.1) gKs rest = some X ∧ allS (evK nds fcs t.2.2.2.1) gK0 rest = some Y ∧ two S' Ls set (insA X Uy) (insA Y Un) ∧ rG S S' ∧ S'.1 52 = S.1 52 ∧ ∀ res, B278_21 N (Int32.ofNat sl, Int32.ofNat s, Int32.ofNat set, Int32.ofNat (Ls set).length, S') = some (.inr res) → t_lp (B278_21 N) (rest.length + 1) (Int32.ofNat sl, Int32.ofNat s, Int32.ofNat set, Int32.ofNat row, G) = some res) ∨ ((∃ p ∈ rest, evK nds fcs t.2.2.2.1 p.1 = none) ∧ ∃ S', t_lp (B278_21 N) (rest.length + 1) (Int32.ofNat sl, Int32.ofNat s, Int32.ofNat set, Int32.ofNat row, G) = some (0, S') ∧ rG S S' ∧ S'.1 52 = S.1 52 ∧ S'.1 51 = -1 ∧ ∃ Ls', rsA S' Ls') := by
    intro rest
    induction rest with
    | nil =>
      intro row G Uy Un hrow _ _ h2 hG e52
      have hrow' : row + 0 = (Ls set).length := hrow
      refine Or.inl ⟨[], [], G, rfl, rfl, h2, hG, e52, fun res hres => t_end ?_ _⟩
      rw [show row = (Ls set).length by omega]
      exact hres
    | cons p r ih =>
      intro row G Uy Un hrow hdr hpG h2 hG e52
      rw [List.length_cons] at hrow
      obtain ⟨hpr, hr⟩ := dr_get hdr
      have rG0 := (two_L h2 hset).1
      have cc := c_geF (a := row) (b := (Ls set).length) (by omega) (by omega) (by omega)
      have hpg := hgL p (List.mem_of_getElem? hpr)
      have eF0 := eF_of hpG ht h3 rG0 hpr
      rcases M279_do (N := N) hN hsl hs (show set < 10 by omega) (show row < 64 by omega) (stf_in hpg) hnl hfc h40 hx hf eF0 with ⟨s0, S2, e1, e2, e3, e4, e5⟩ | ⟨e1, S2, e3, e5, e6⟩
      · have t2 := two_ag h2 e5 (by decide)
        have p2 := pcx_ag hpG e5 (by decide)
        have q45 : S2.1 45 = Int32.ofNat s0.length := by
          rw [e4.2.1]
          rfl
        have qvw : vw (S2.2.1 41) (S2.2.2 42) s0 := by
          have := e4.2.2.2
          rw [fl_one] at this
          exact this
        obtain ⟨S3, u1, u2, u3⟩ := L278_49_do (N := N) (sl := sl) (s := s) hN hset (show row < 64 by omega) hpr hpg e2.2.2.1 e2.1 q45 qvw t2
        have st : B278_21 N (Int32.ofNat sl, Int32.ofNat s, Int32.ofNat set, Int32.ofNat row, G) = some (.inl (Int32.ofNat sl, Int32.ofNat s, Int32.ofNat set, Int32.ofNat (row + 1), S3)) := by
          simp only [B278_21, if_pos k9, t9, rG0.1, cc, cond_false, e3, n1, cond_true, u1, Option.bind_some]
        rw [List.length_cons, t_one st]
        have G3 : rG S S3 := m_agr_trans hG (m_agr_trans (rG_w e5) (m_agr_mono u3 (by decide) (by decide) (by decide)))
        have f52 : S3.1 52 = S.1 52 := by rw [u3.1 52 (by decide), e5.1 52 (by decide)]; exact e52
        rcases ih (row + 1) S3 _ _ (by omega) hr (pcx_ag p2 u3 (by decide)) u2 G3 f52 with ⟨X, Y, S', w1, w2, w3, w4, w5, w6⟩ | ⟨⟨y, y1, y2⟩, w⟩
        · refine Or.inl ⟨gKs p s0 ++ X, gK0 p s0 ++ Y, S', ?_, ?_, by rw [insA_app, insA_app]; exact w3, w4, w5, w6⟩
          · rw [allS, show evK nds fcs t.2.2.2.1 p.1 = some s0 from e1, w1]
            rfl
          · rw [allS, show evK nds fcs t.2.2.2.1 p.1 = some s0 from e1, w2]
            rfl
        · exact Or.inr ⟨⟨y, List.mem_cons_of_mem _ y1, y2⟩, w⟩
      · refine Or.inr ⟨⟨p, List.mem_cons_self, e1⟩, S2, t_end ?_ _, m_agr_trans hG (rG_w e5), by rw [e5.1 52 (by decide)]; exact e52, e6, _, (two_ag h2 e5 (by decide)).1⟩
        simp only [B278_21, if_pos k9, t9, rG0.1, cc, cond_false, e3, n0, Option.bind_some]
  have go : ∀ n res, n ≤ N → t_lp (B278_21 N) n (Int32.ofNat sl, Int32.ofNat s, Int32.ofNat set, Int32.ofNat 0, S1) = some res → M278 N (Int32.ofNat sl) (Int32.ofNat s) (Int32.ofNat set) S = some res := by
    intro n res hn hres
    have hr' : L278_21 N (Int32.ofNat sl, Int32.ofNat s, Int32.ofNat set, 0, S1) = some res := t_lp_more _ _ _ hn hres
    simp only [M278, i1, i2, if_pos k91, if_pos k92, t91, t92, hS1, hr']
  rcases key (Ls set) 0 S1 [] [] (by omega) rfl (pcx_ag hp G1 rG_c) t1 G1 q52 with ⟨X, Y, S', w1, w2, w3, w4, w5, w6⟩ | ⟨y, S', w1, w2⟩
  · obtain ⟨h1, h2, h3'⟩ := two_L w3 hset
    have cc := c_geT (a := (Ls set).length) (b := (Ls set).length) (by omega) (by omega) (Nat.le_refl _)
    obtain ⟨S2, u1, u2, u3, u4⟩ := M268_do (N := N) (set := set) (other := set + 2) (by omega) (by omega) (by omega) (by omega) h3' w3.2.2.1
    refine Or.inl ⟨X, Y, S2, w1, w2, go _ _ (by omega) (w6 _ ?_), rsA_up w3.1 u3 u2, w3.2.1.1, w3.2.2.1, m_agr_trans w4 (rG_j u3), by rw [u3.1.1 52 (by decide)]; exact w5⟩
    simp only [B278_21, if_pos k9, t9, h1.1, cc, cond_true, i2, u1, Option.bind_some]
  · exact Or.inr ⟨y, S', go _ _ (by omega) w1, w2⟩
end PTM
