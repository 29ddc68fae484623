section PRD
variable {xt : mj_X} {ct : Nat → Value} {N z A B : Nat} {H0 : mj_H} {nds : List Nd} {fcs : List Int32}
theorem CW_do (hN : 2000 ≤ N) (hd : dgZ xt ct z) (hA : z + 107 ≤ A) (hn : nds.length ≤ 160) (hfc : fcs.length ≤ 160) : ∀ (n lo i a f : Nat), exT H0 A B nds fcs n lo i a f → wrt z A B H0 ((TT xt ct N n).2.2.2.2.2.1 a (z + 2)) (prX nds fcs n i) := by
  intro n
  induction n with
  | zero => intro lo i a f h; exact h.elim
  | succ n ih =>
    intro lo i a f h
    obtain ⟨O, hO⟩ : ∃ O, TT xt ct N n = O := ⟨_, rfl⟩
    rw [hO] at ih
    show wrt z A B H0 (CW xt ct (TT xt ct N n) N a (z + 2)) (prX nds fcs (n + 1) i)
    rw [hO]
    rcases h with ⟨e, nd, b, fl, h1, h2, h3⟩ | ⟨j, x, e, h1, h2, h3, h4, h5⟩ | ⟨j, m, x, y, g, h, c, e, h1, h2, h3, h4, h5, h6, h7, h8⟩
    · obtain ⟨a1, a2, k⟩ := h2
      have ep : prX nds fcs (n + 1) i = (if nd.1 = 0 then dgs nd.2.1.toInt.toNat else if nd.1 = 1 then [65 + nd.2.1] else if nd.1 = 2 then 45 :: sd (decide (tgI nds nd.2.2.2.2.2.1.toInt.toNat < 3)) (prX nds fcs n nd.2.2.2.2.2.1.toInt.toNat) else if nd.1 = 4 then dcP nd else if nd.1 = 5 then fcP ((fcs.drop nd.2.1.toInt.toNat).take nd.2.2.1.toInt.toNat) 91 else sd (decide (tgI nds nd.2.2.2.2.2.1.toInt.toNat < tgt nd.2.1 ∨ (tgt nd.2.1 = 0 ∧ tgI nds nd.2.2.2.2.2.1.toInt.toNat = 0))) (prX nds fcs n nd.2.2.2.2.2.1.toInt.toNat) ++ [chO nd.2.1] ++ sd (decide (tgI nds nd.2.2.2.2.2.2.toInt.toNat ≤ tgt nd.2.1)) (prX nds fcs n nd.2.2.2.2.2.2.toInt.toNat)) := by
        rw [prX, h1]
      rw [ep]
      rcases k with ⟨v', c1, rfl, c3, c4, rfl⟩ | ⟨v', c1, rfl, c3, c4, rfl⟩ | ⟨n', m, how, keep, pick, k, w, c1, rfl, c3, c4, rfl⟩ | ⟨r, rfl, c2, c3, c4, c5, c6, c7, rfl⟩
      · rw [if_pos rfl]
        dsimp only
        rw [show (Int32.ofNat v').toInt.toNat = v' by rw [i_nat (by omega)]; omega]
        intro H v bs tx ho hs hl
        have hc := (ho.1 a a1 a2).trans c4
        have g0 : gI H a 7 0 = some (-1000) := gI_of hc rfl
        have g1 : gI H a 7 1 = some (Int32.ofNat v') := gI_of hc rfl
        have b0 : mj_c2 .ne (-1000 : Int32) (-1000) = false := by decide
        obtain ⟨H1, v1, bs1, w1, w2, w3, w4⟩ := wr_nm (xt := xt) (ct := ct) (O := O) (N := N) hN hd (n := v') hs (by omega) hl
        refine ⟨H1, v1, bs1, ?_, w3, w4⟩
        unfold CW
        rw [gC_of hc]
        show C130 xt ct O N a (z + 2) H = _
        simp only [C130, g0, b0, cond_false, g1, w2, w1, J130_35, Option.bind_some]
      · rw [if_neg (show (1 : Int32) ≠ 0 by decide), if_pos rfl]
        intro H v bs tx ho hs hl
        have hc := (ho.1 a a1 a2).trans c4
        have ev : (Int32.ofNat v').toInt = v' := i_nat (by omega)
        have g0 : gI H a 7 0 = some (Int32.ofNat v') := gI_of hc rfl
        have b0 : mj_c2 .ne (Int32.ofNat v') (-1000) = true := i_c2 (by show decide _ = true; apply decide_eq_true; rw [ev, show (-1000 : Int32).toInt = -1000 from rfl]; omega)
        have e65 : (65 + Int32.ofNat v').toInt = 65 + v' := by
          have q : (65 : Int32).toInt = 65 := rfl
          rw [i_add (by rw [q, ev]; omega) (by rw [q, ev]; omega), q, ev]
        have ec : ((65 + Int32.ofNat v').toUInt32 % 65536).toInt32 = 65 + Int32.ofNat v' := i_c16 (by omega)
        obtain ⟨H1, v1, bs1, w1, w2, w3, w4⟩ := wr_ch (xt := xt) (ct := ct) (O := O) (N := N) (c := 65 + Int32.ofNat v') hs (by have : ([65 + Int32.ofNat v'] : List Int32).length = 1 := rfl; dsimp only at hl; omega) (by omega)
        refine ⟨H1, v1, bs1, ?_, w3, w4⟩
        unfold CW
        rw [gC_of hc]
        show C130 xt ct O N a (z + 2) H = _
        simp only [C130, g0, b0, cond_true, w2, ec, w1, J130_35, Option.bind_some]
      · rw [if_neg (show (4 : Int32) ≠ 0 by decide), if_neg (show (4 : Int32) ≠ 1 by decide), if_neg (show (4 : Int32) ≠ 2 by decide), if_pos rfl]
        intro H v bs tx ho hs hl
        obtain ⟨H1, v1, bs1, w1, w2⟩ := C124_do (xt := xt) (ct := ct) (O := O) (N := N) hN hd hA ⟨a1, a2⟩ c1 c4 H v bs tx ho hs hl
        refine ⟨H1, v1, bs1, ?_, w2⟩
        unfold CW
        rw [gC_of ((ho.1 a a1 a2).trans c4)]
        exact w1
      · rw [if_neg (show (5 : Int32) ≠ 0 by decide), if_neg (show (5 : Int32) ≠ 1 by decide), if_neg (show (5 : Int32) ≠ 2 by decide), if_neg (show (5 : Int32) ≠ 4 by decide), if_pos rfl]
        dsimp only
        -- the faces among all faces
        have hbl : b + fl.length ≤ fcs.length := by
          obtain ⟨k, hk⟩ : ∃ k, fl.length = k + 1 := ⟨fl.length - 1, by omega⟩
          have := h3 k fl[k] (List.getElem?_eq_getElem (by omega))
          have := (List.getElem?_eq_some_iff.mp this).1
          omega
        have eb : (Int32.ofNat b).toInt.toNat = b := by rw [i_nat (by omega)]; omega
        have ec : (Int32.ofNat fl.length).toInt.toNat = fl.length := by rw [i_nat (by omega)]; omega
        have efl : (fcs.drop b).take fl.length = fl := by
          apply List.ext_getElem?
          intro k
          rw [List.getElem?_take]
          by_cases hk : k < fl.length
          · rw [if_pos hk, List.getElem?_drop, List.getElem?_eq_getElem hk]
            exact h3 k fl[k] (List.getElem?_eq_getElem hk)
          · rw [if_neg hk, List.getElem?_eq_none (by omega)]
        rw [eb, ec, efl]
        intro H v bs tx ho hs hl
        obtain ⟨H1, v1, bs1, w1, w2⟩ := L131_do (xt := xt) (ct := ct) (O := O) (N := N) hN hd hA ⟨a1, a2⟩ ⟨c4, c5⟩ c6 c7 c2.2 c3 fl.length 0 H v bs tx (by omega) ho hs hl
        refine ⟨H1, v1, bs1, ?_, w2⟩
        unfold CW
        rw [gC_of ((ho.1 a a1 a2).trans c6)]
        exact t_lp_more _ _ _ (by omega) w1
    · subst e
      have hj : j < nds.length := (exT_fal _ _ _ _ _ h3).2.2.2.1
      rw [prX_neg h4 (by omega)]
      intro H v bs tx ho hs hl
      rw [List.length_cons] at hl
      have hc := (ho.1 a h1 h2).trans h5
      obtain ⟨H1, v1, bs1, w1, w2, w3, w4⟩ := wr_ch (xt := xt) (ct := ct) (O := O) (N := N) (c := 45) hs (by omega) (by decide)
      have o1 := okh_st ho hA w4
      have hc1 := (o1.1 a h1 h2).trans h5
      have g : gA H1 a 6 0 = some x := gA_of hc1 rfl
      have t1 := exT_mono0 (G := H1) (Nat.le_refl _) (Nat.le_refl _) o1.1 h3
      obtain ⟨cb, ct3, ce, ge⟩ := CB_do (xt := xt) (ct := ct) (O := O) (N := N) n _ _ _ _ t1
      obtain ⟨H2, v2, bs2, d1, d2, d3⟩ := C128_do (xt := xt) (ct := ct) (O := O) (N := N) hA (ih _ _ _ _ h3) (decide (tgI nds j < 3)) H1 v1 bs1 (tx ++ [45]) o1 w3 (by rw [List.length_append, List.length_singleton]; omega)
      refine ⟨H2, v2, bs2, ?_, ?_, tstep_trans w4 d3⟩
      · unfold CW
        rw [gC_of hc]
        show C125 xt ct O N a (z + 2) H = _
        by_cases hb : tgI nds j < 3
        · have b : mj_c2 .ge (Int32.ofNat (tgI nds j)) 3 = false := i_c2 (by show decide _ = false; apply decide_eq_false; rw [i_nat (by omega), q_3]; omega)
          rw [decide_eq_true hb] at d1
          have d1' : C128 xt ct O N x (z + 2) 1 H1 = some H2 := d1
          simp only [C125, w2, w1, g, cb, b, cond_false, J125_28, ge, d1', Option.bind_some]
        · have b : mj_c2 .ge (Int32.ofNat (tgI nds j)) 3 = true := i_c2 (by show decide _ = true; apply decide_eq_true; rw [i_nat (by omega), q_3]; omega)
          rw [decide_eq_false hb] at d1
          have d1' : C128 xt ct O N x (z + 2) 0 H1 = some H2 := d1
          simp only [C125, w2, w1, g, cb, b, cond_true, J125_28, ge, d1', Option.bind_some]
      · have e : ∀ w : List Int32, tx ++ 45 :: w = tx ++ [45] ++ w := fun w => by simp
        rw [e]
        exact d2
    · subst e
      have hj : j < nds.length := (exT_fal _ _ _ _ _ h4).2.2.2.1
      have hm : m < nds.length := (exT_fal _ _ _ _ _ h3).2.2.2.1
      obtain ⟨s1, s2, s3⟩ := chO_sg h5
      rw [prX_op h6 (by omega) (by omega), s1]
      obtain ⟨t, ht⟩ : ∃ t, tgt (sg c) = t := ⟨_, rfl⟩
      have ht3 : t ≤ 2 := by
        rw [← ht]
        unfold tgt
        split
        · omega
        · split <;> omega
      rw [ht] at s2 ⊢
      intro H v bs tx ho hs hl
      rw [List.length_append, List.length_append, List.length_singleton] at hl
      have hc := (ho.1 a h1 h2).trans h8
      have k10 : gK H a 10 = some () := gK_of hc
      have gi : gI H a 10 0 = some c := gI_of hc rfl
      have g1 : gA H a 10 1 = some x := gA_of hc rfl
      have c126 : C126 xt ct O N a H = some (Int32.ofNat t, H) := by
        simp only [C126, gi, C108_do, s2, Option.bind_some]
      have t0 := exT_mono0 (G := H) (Nat.le_refl _) (Nat.le_refl _) ho.1 h3
      obtain ⟨cb, cb3, ce, ge⟩ := CB_do (xt := xt) (ct := ct) (O := O) (N := N) n _ _ _ _ t0
      obtain ⟨bl, hbl⟩ : ∃ b, decide (tgI nds m < t ∨ (t = 0 ∧ tgI nds m = 0)) = b := ⟨_, rfl⟩
      rw [hbl] at hl ⊢
      obtain ⟨H1, v1, bs1, d1, d2, d3⟩ := C128_do (xt := xt) (ct := ct) (O := O) (N := N) hA (ih _ _ _ _ h3) bl H v bs tx ho hs (by omega)
      have o1 := okh_st ho hA d3
      have hc1 := (o1.1 a h1 h2).trans h8
      have gi1 : gI H1 a 10 0 = some c := gI_of hc1 rfl
      obtain ⟨H2, v2, bs2, w1, w2, w3, w4⟩ := wr_ch (xt := xt) (ct := ct) (O := O) (N := N) (c := c) d2 (by rw [List.length_append]; omega) (by omega)
      have o2 := okh_st o1 hA w4
      have hc2 := (o2.1 a h1 h2).trans h8
      have g2 : gA H2 a 10 2 = some y := gA_of hc2 rfl
      have t2 := exT_mono0 (G := H2) (Nat.le_refl _) (Nat.le_refl _) o2.1 h4
      obtain ⟨cb2, cb23, ce2, ge2⟩ := CB_do (xt := xt) (ct := ct) (O := O) (N := N) n _ _ _ _ t2
      obtain ⟨br, hbr⟩ : ∃ b, decide (tgI nds j ≤ t) = b := ⟨_, rfl⟩
      rw [hbr] at hl ⊢
      obtain ⟨H3, v3, bs3, f1, f2, f3⟩ := C128_do (xt := xt) (ct := ct) (O := O) (N := N) hA (ih _ _ _ _ h4) br H2 v2 bs2 (tx ++ sd bl (prX nds fcs n m) ++ [c]) o2 w3 (by rw [List.length_append, List.length_append, List.length_singleton]; omega)
      refine ⟨H3, v3, bs3, ?_, ?_, tstep_trans d3 (tstep_trans w4 f3)⟩
      · unfold CW
        rw [gC_of hc]
        show C129 xt ct O N a (z + 2) H = _
        -- the second side
        have second : ∀ s0 : Int32, C128 xt ct O N x (z + 2) s0 H = some H1 → J129_36 xt ct O N a (z + 2) (Int32.ofNat t) s0 (z + 2) x H = some H3 := by
          intro s0 hs0
          by_cases hb : tgI nds j ≤ t
          · have b : mj_c2 .gt (Int32.ofNat (tgI nds j)) (Int32.ofNat t) = false := i_c2 (by show decide _ = false; apply decide_eq_false; rw [i_nat (by omega), i_nat (by omega)]; omega)
            rw [← hbr, decide_eq_true hb] at f1
            have f1' : C128 xt ct O N y (z + 2) 1 H2 = some H3 := f1
            simp only [J129_36, ge, hs0, gi1, w2, w1, g2, cb2, b, cond_false, J129_69, ge2, f1', Option.bind_some]
          · have b : mj_c2 .gt (Int32.ofNat (tgI nds j)) (Int32.ofNat t) = true := i_c2 (by show decide _ = true; apply decide_eq_true; rw [i_nat (by omega), i_nat (by omega)]; omega)
            rw [← hbr, decide_eq_false hb] at f1
            have f1' : C128 xt ct O N y (z + 2) 0 H2 = some H3 := f1
            simp only [J129_36, ge, hs0, gi1, w2, w1, g2, cb2, b, cond_true, J129_69, ge2, f1', Option.bind_some]
        by_cases q1 : tgI nds m < t
        · have b : mj_c2 .lt (Int32.ofNat (tgI nds m)) (Int32.ofNat t) = true := i_c2 (by show decide _ = true; apply decide_eq_true; rw [i_nat (by omega), i_nat (by omega)]; omega)
          rw [← hbl, decide_eq_true (Or.inl q1)] at d1
          have := second 1 d1
          simp only [C129, k10, c126, g1, cb, b, cond_true, J129_31, Option.bind_some]
          exact this
        · have b : mj_c2 .lt (Int32.ofNat (tgI nds m)) (Int32.ofNat t) = false := i_c2 (by show decide _ = false; apply decide_eq_false; rw [i_nat (by omega), i_nat (by omega)]; omega)
          by_cases q2 : tgI nds m = 0
          · have n2 : mj_c1 .ne (Int32.ofNat (tgI nds m)) = false := i_is0 (by rw [i_nat (by omega)]; omega)
            have t00 : t = 0 := by omega
            have n3 : mj_c1 .ne (Int32.ofNat t) = false := i_is0 (by rw [i_nat (by omega)]; omega)
            rw [← hbl, decide_eq_true (Or.inr ⟨t00, q2⟩)] at d1
            have := second 1 d1
            simp only [C129, k10, c126, g1, cb, b, cond_false, n2, n3, J129_31, Option.bind_some]
            exact this
          · have n2 : mj_c1 .ne (Int32.ofNat (tgI nds m)) = true := i_ne0 (by rw [i_nat (by omega)]; omega)
            rw [← hbl, decide_eq_false (fun q => q.elim q1 (fun k => q2 k.2))] at d1
            have := second 0 d1
            simp only [C129, k10, c126, g1, cb, b, cond_false, n2, cond_true, J129_35, Option.bind_some]
            exact this
      · have e : ∀ p q : List Int32, tx ++ (p ++ [c] ++ q) = tx ++ p ++ [c] ++ q := fun p q => by simp
        rw [e]
        exact f2
end PRD
