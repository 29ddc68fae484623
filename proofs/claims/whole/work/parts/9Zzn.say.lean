section SBB
variable {N : Nat} {x1 : Int32} {sl : Nat} {nds : List Nd} {fcs : List Int32} {H : mj_H} {A B : Nat}
theorem SX_do (hN : 2000 ≤ N) (hs : x1.toInt = sl) (hsl : sl < 3) (hn : nds.length ≤ 160) (hfc : fcs.length ≤ 160) : ∀ (n lo i a f : Nat), exT H A B nds fcs n lo i a f → SXc N x1 sl nds fcs (Int32.ofNat i) (prX nds fcs n i) (7 * n) (6 * (i + 1 - lo)) := by
  intro n
  induction n with
  | zero => intro lo i a f h; exact h.elim
  | succ n ih =>
    intro lo i a f h S tx T ht hnd hT hd hl
    have fal := exT_fal _ _ _ _ _ h
    have hi : i < nds.length := fal.2.2.2.1
    have hlo := fal.2.2.1
    obtain ⟨S1, k1, k2, k3, k4, k5⟩ := node_task (N := N) (x1 := x1) (show i < 160 by omega) ht hnd hT
    have e := i_160 (k := i) hs (by omega) (by omega)
    have t : (160 * x1 + Int32.ofNat i).toInt.toNat = 160 * sl + i := by omega
    have cA : ∀ j, 13 ≤ j → j ≤ 20 → mN j = 640 := by
      intro j h1 h2
      have : j = 13 ∨ j = 14 ∨ j = 15 ∨ j = 16 ∨ j = 17 ∨ j = 18 ∨ j = 19 ∨ j = 20 := by omega
      rcases this with rfl | rfl | rfl | rfl | rfl | rfl | rfl | rfl <;> rfl
    have ca : ∀ j, 13 ≤ j → j ≤ 20 → 0 ≤ (160 * x1 + Int32.ofNat i).toInt ∧ (160 * x1 + Int32.ofNat i).toInt < mN j := fun j h1 h2 => by rw [cA j h1 h2]; omega
    -- one step and no more
    have one : ∀ S', M252 N x1 (Int32.ofNat i) S1 = some S' → txR (tx ++ prX nds fcs (n + 1) i) S' → m_agr [2] [1] [] S1 S' → ∃ S', txR (tx ++ prX nds fcs (n + 1) i) S' ∧ tkR S' T ∧ m_agr [2, 40] [1, 39] [] S S' ∧ ∀ F res, t_lp (B250_20 N) F (x1, S') = some res → t_lp (B250_20 N) (F + 6 * (i + 1 - lo)) (x1, S) = some res := by
      intro S' hM h1 h2
      refine ⟨S', h1, tk_ag k3 h2 (by decide), m_agr_trans k4 (m_agr_mono h2 (by decide) (by decide) (by decide)), fun F res hh => ?_⟩
      exact t_lp_more _ _ _ (by omega) (k5 S' hM F res hh)
    rcases h with ⟨el, nd, b, fl, h1, h2, h3⟩ | ⟨j, x, ej, h1, h2, h3, h4, h5⟩ | ⟨j, m, x, y, g, h, c, ej, h1, h2, h3, h4, h5, h6, h7, h8⟩
    · obtain ⟨a1, a2, k⟩ := h2
      obtain ⟨w1, w2, w3, w4, w5, w6⟩ := k2.1 i nd h1
      have v13 : S1.2.1 13 (160 * sl + i) = nd.1 := w1
      have v14 : S1.2.1 14 (160 * sl + i) = nd.2.1 := w2
      have v15 : S1.2.1 15 (160 * sl + i) = nd.2.2.1 := w3
      have v16 : S1.2.1 16 (160 * sl + i) = nd.2.2.2.1 := w4
      have v17 : S1.2.1 17 (160 * sl + i) = nd.2.2.2.2.1 := w5
      have ep : prX nds fcs (n + 1) i = (if nd.1 = 0 then dgs nd.2.1.toInt.toNat else if nd.1 = 1 then [65 + nd.2.1] else if nd.1 = 2 then 45 :: sd (decide (tgI nds nd.2.2.2.2.2.1.toInt.toNat < 3)) (prX nds fcs n nd.2.2.2.2.2.1.toInt.toNat) else if nd.1 = 4 then dcP nd else if nd.1 = 5 then fcP ((fcs.drop nd.2.1.toInt.toNat).take nd.2.2.1.toInt.toNat) 91 else sd (decide (tgI nds nd.2.2.2.2.2.1.toInt.toNat < tgt nd.2.1 ∨ (tgt nd.2.1 = 0 ∧ tgI nds nd.2.2.2.2.2.1.toInt.toNat = 0))) (prX nds fcs n nd.2.2.2.2.2.1.toInt.toNat) ++ [chO nd.2.1] ++ sd (decide (tgI nds nd.2.2.2.2.2.2.toInt.toNat ≤ tgt nd.2.1)) (prX nds fcs n nd.2.2.2.2.2.2.toInt.toNat)) := by
        rw [prX, h1]
      rw [ep] at hl one ⊢
      rcases k with ⟨v', c1, rfl, c3, c4, rfl⟩ | ⟨v', c1, rfl, c3, c4, rfl⟩ | ⟨n', m, how, keep, pick, k, w, c1, rfl, c3, c4, rfl⟩ | ⟨r, rfl, c2, c3, c4, c5, c6, c7, rfl⟩
      · rw [if_pos rfl] at hl one ⊢
        dsimp only at hl one v13 v14 ⊢
        rw [show (Int32.ofNat v').toInt.toNat = v' by rw [i_nat (by omega)]; omega] at hl one ⊢
        obtain ⟨S2, b1, b2, b3⟩ := M249_do (N := N) (n := v') k1 (by omega) hl
        refine one S2 ?_ b2 b3
        have q : mj_c2 .eq (0 : Int32) 0 = true := by decide
        simp only [M252, if_pos (ca 13 (by decide) (by decide)), t, v13, q, cond_true, if_pos (ca 14 (by decide) (by decide)), v14, b1, J252_238, Option.bind_some]
      · rw [if_neg (show (1 : Int32) ≠ 0 by decide), if_pos rfl] at hl one ⊢
        dsimp only at hl one v13 v14 ⊢
        have hl' : tx.length + 1 ≤ 160 := hl
        have ev : (Int32.ofNat v').toInt = v' := i_nat (by omega)
        have e65 : (65 + Int32.ofNat v').toInt = 65 + v' := by
          have q : (65 : Int32).toInt = 65 := rfl
          rw [i_add (by rw [q, ev]; omega) (by rw [q, ev]; omega), q, ev]
        obtain ⟨S2, b1, b2, b3⟩ := M206_do (N := N) (c := 65 + Int32.ofNat v') k1 (by omega) (by omega)
        refine one S2 ?_ b2 b3
        have q0 : mj_c2 .eq (1 : Int32) 0 = false := by decide
        have q : mj_c2 .eq (1 : Int32) 1 = true := by decide
        simp only [M252, if_pos (ca 13 (by decide) (by decide)), t, v13, q0, q, cond_false, cond_true, if_pos (ca 14 (by decide) (by decide)), v14, b1, J252_238, Option.bind_some]
      · rw [if_neg (show (4 : Int32) ≠ 0 by decide), if_neg (show (4 : Int32) ≠ 1 by decide), if_neg (show (4 : Int32) ≠ 2 by decide), if_pos rfl] at hl one ⊢
        dsimp only at v13 v14 v15 v16 v17
        obtain ⟨S2, b1, b2, b3⟩ := M255_do (N := N) (x := 160 * x1 + Int32.ofNat i) (i := 160 * sl + i) (by rw [e]; omega) (by omega) k1 v14 v15 v16 v17 c1 hl
        refine one S2 ?_ b2 b3
        have q0 : mj_c2 .eq (4 : Int32) 0 = false := by decide
        have q1 : mj_c2 .eq (4 : Int32) 1 = false := by decide
        have q2 : mj_c2 .eq (4 : Int32) 2 = false := by decide
        have q4 : mj_c2 .eq (4 : Int32) 4 = true := by decide
        simp only [M252, if_pos (ca 13 (by decide) (by decide)), t, v13, q0, q1, q2, q4, cond_false, cond_true, b1, J252_238, Option.bind_some]
      · rw [if_neg (show (5 : Int32) ≠ 0 by decide), if_neg (show (5 : Int32) ≠ 1 by decide), if_neg (show (5 : Int32) ≠ 2 by decide), if_neg (show (5 : Int32) ≠ 4 by decide), if_pos rfl] at hl one ⊢
        dsimp only at hl one v13 v14 v15 ⊢
        have hbl : b + fl.length ≤ fcs.length := by
          obtain ⟨k, hk⟩ : ∃ k, fl.length = k + 1 := ⟨fl.length - 1, by omega⟩
          have := h3 k fl[k] (List.getElem?_eq_getElem (by omega))
          have := (List.getElem?_eq_some_iff.mp this).1
          omega
        have eb : (Int32.ofNat b).toInt.toNat = b := by rw [i_nat (by omega)]; omega
        have ec : (Int32.ofNat fl.length).toInt.toNat = fl.length := by rw [i_nat (by omega)]; omega
        have efl : (fcs.drop b).take fl.length = fl := by
          apply List.ext_getElem?
          intro k
          rw [List.getElem?_take]
          by_cases hk : k < fl.length
          · rw [if_pos hk, List.getElem?_drop, List.getElem?_eq_getElem hk]
            exact h3 k fl[k] (List.getElem?_eq_getElem hk)
          · rw [if_neg hk, List.getElem?_eq_none (by omega)]
        rw [eb, ec, efl] at hl one ⊢
        obtain ⟨S2, b1, b2, b3⟩ := L256_do (N := N) (x1 := x1) hs hsl (x := 160 * x1 + Int32.ofNat i) (i := 160 * sl + i) (by rw [e]; omega) (by omega) c2.2 (by omega) c3 fl.length 0 S1 tx (by omega) k1 v14 v15 (fun j y hy => k2.2 (b + j) y (h3 j y hy)) hl
        refine one S2 ?_ b2 b3
        have q0 : mj_c2 .eq (5 : Int32) 0 = false := by decide
        have q1 : mj_c2 .eq (5 : Int32) 1 = false := by decide
        have q2 : mj_c2 .eq (5 : Int32) 2 = false := by decide
        have q4 : mj_c2 .eq (5 : Int32) 4 = false := by decide
        have q5 : mj_c2 .eq (5 : Int32) 5 = true := by decide
        have m : M256 N x1 (160 * x1 + Int32.ofNat i) S1 = some S2 := t_lp_more _ _ _ (by omega) b1
        simp only [M252, if_pos (ca 13 (by decide) (by decide)), t, v13, q0, q1, q2, q4, q5, cond_false, cond_true, m, J252_238, Option.bind_some]
    · subst ej
      have hj := exT_fal _ _ _ _ _ h3
      obtain ⟨w1, w2, w3, w4, w5, w6⟩ := k2.1 _ _ h4
      have v13 : S1.2.1 13 (160 * sl + (j + 1)) = 2 := w1
      have w6' := w6 (show (2 : Int32) ≠ 4 by decide)
      have v18 : S1.2.1 18 (160 * sl + (j + 1)) = Int32.ofNat j := congrArg Prod.fst w6'
      rw [prX_neg h4 (by omega)] at hl ⊢
      rw [List.length_cons] at hl
      obtain ⟨S2, b1, b2, b3⟩ := M206_do (N := N) (c := 45) k1 (by omega) (by decide)
      have nd2 := nodes_ag k2 b3 (by decide)
      obtain ⟨ndj, hndj⟩ : ∃ nd, nds[j]? = some nd := ⟨nds[j], List.getElem?_eq_getElem (by omega)⟩
      have m3 := M253_do (N := N) hs hsl nd2 hndj (by omega)
      have tg3 : tgI nds j ≤ 3 := (CB_do (xt := fun _ => none) (ct := fun _ => .null) (O := TT (fun _ => none) (fun _ => .null) 0 0) (N := 0) n _ _ _ _ h3).2.1
      obtain ⟨S3, d1, d2, d3⟩ := M254_do (N := N) (x := Int32.ofNat j) (tk_ag k3 b3 (by decide)) (by omega) (decide (tgI nds j < 3))
      obtain ⟨S4, f1, f2, f3, f4⟩ := side_do (ih _ _ _ _ h3) (decide (tgI nds j < 3)) S3 (tx ++ [45]) T (txR_ag b2 d3 (by decide)) (nodes_ag nd2 d3 (by decide)) d2 (by omega) (by rw [List.length_append, List.length_singleton]; omega)
      have v18' : S2.2.1 18 (160 * sl + (j + 1)) = Int32.ofNat j := by rw [b3.2.1 18 (by decide)]; exact v18
      have hM : M252 N x1 (Int32.ofNat (j + 1)) S1 = some S3 := by
        have q0 : mj_c2 .eq (2 : Int32) 0 = false := by decide
        have q1 : mj_c2 .eq (2 : Int32) 1 = false := by decide
        have q2 : mj_c2 .eq (2 : Int32) 2 = true := by decide
        by_cases hb : tgI nds j < 3
        · have bb : mj_c2 .ge (Int32.ofNat (tgI nds j)) 3 = false := i_c2 (by show decide _ = false; apply decide_eq_false; rw [i_nat (by omega), q_3]; omega)
          rw [decide_eq_true hb] at d1
          have d1' : M254 N (Int32.ofNat j) 1 S2 = some S3 := d1
          simp only [M252, if_pos (ca 13 (by decide) (by decide)), t, v13, q0, q1, q2, cond_false, cond_true, b1, if_pos (ca 18 (by decide) (by decide)), v18', m3, bb, J252_114, d1', J252_238, Option.bind_some]
        · have bb : mj_c2 .ge (Int32.ofNat (tgI nds j)) 3 = true := i_c2 (by show decide _ = true; apply decide_eq_true; rw [i_nat (by omega), q_3]; omega)
          rw [decide_eq_false hb] at d1
          have d1' : M254 N (Int32.ofNat j) 0 S2 = some S3 := d1
          simp only [M252, if_pos (ca 13 (by decide) (by decide)), t, v13, q0, q1, q2, cond_false, cond_true, b1, if_pos (ca 18 (by decide) (by decide)), v18', m3, bb, J252_114, d1', J252_238, Option.bind_some]
      refine ⟨S4, ?_, f2, m_agr_trans k4 (m_agr_trans (m_agr_mono b3 (by decide) (by decide) (by decide)) (m_agr_trans (m_agr_mono d3 (by decide) (by decide) (by decide)) f3)), fun F res hh => ?_⟩
      · have e' : ∀ w : List Int32, tx ++ 45 :: w = tx ++ [45] ++ w := fun w => by simp
        rw [e']
        exact f1
      · exact t_lp_more _ _ _ (by omega) (k5 S3 hM _ res (f4 F res hh))
    · subst ej
      have hj := exT_fal _ _ _ _ _ h4
      have hm := exT_fal _ _ _ _ _ h3
      obtain ⟨w1, w2, w3, w4, w5, w6⟩ := k2.1 _ _ h6
      have v13 : S1.2.1 13 (160 * sl + (j + 1)) = 3 := w1
      have v14 : S1.2.1 14 (160 * sl + (j + 1)) = sg c := w2
      have w6' := w6 (show (3 : Int32) ≠ 4 by decide)
      have v18 : S1.2.1 18 (160 * sl + (j + 1)) = Int32.ofNat m := congrArg Prod.fst w6'
      have v19 : S1.2.1 19 (160 * sl + (j + 1)) = Int32.ofNat j := congrArg Prod.snd w6'
      obtain ⟨s1, s2, s3⟩ := chO_sg h5
      have hop : isOp (sg c) := by
        rcases sg_bd c with ⟨-, q, -⟩ | ⟨-, q, -⟩ | ⟨-, q, -⟩ | ⟨q, -⟩
        · exact q
        · exact q
        · exact q
        · exact absurd q h5
      rw [prX_op h6 (by omega) (by omega), s1] at hl ⊢
      obtain ⟨tt, htt⟩ : ∃ t, tgt (sg c) = t := ⟨_, rfl⟩
      have ht3 : tt ≤ 2 := by
        rw [← htt]
        unfold tgt
        split
        · omega
        · split <;> omega
      rw [htt] at hl ⊢
      rw [List.length_append, List.length_append, List.length_singleton] at hl
      obtain ⟨ndj, hndj⟩ : ∃ nd, nds[j]? = some nd := ⟨nds[j], List.getElem?_eq_getElem (by omega)⟩
      obtain ⟨ndm, hndm⟩ : ∃ nd, nds[m]? = some nd := ⟨nds[m], List.getElem?_eq_getElem (by omega)⟩
      have m3 := M253_do (N := N) hs hsl k2 hndj (by omega)
      have m4 := M253_do (N := N) hs hsl k2 hndm (by omega)
      have tg3 : tgI nds j ≤ 3 := (CB_do (xt := fun _ => none) (ct := fun _ => .null) (O := TT (fun _ => none) (fun _ => .null) 0 0) (N := 0) n _ _ _ _ h4).2.1
      have tg4 : tgI nds m ≤ 3 := (CB_do (xt := fun _ => none) (ct := fun _ => .null) (O := TT (fun _ => none) (fun _ => .null) 0 0) (N := 0) n _ _ _ _ h3).2.1
      obtain ⟨br, hbr⟩ : ∃ b, decide (tgI nds j ≤ tt) = b := ⟨_, rfl⟩
      obtain ⟨bl, hbl⟩ : ∃ b, decide (tgI nds m < tt ∨ (tt = 0 ∧ tgI nds m = 0)) = b := ⟨_, rfl⟩
      rw [hbr, hbl] at hl ⊢
      obtain ⟨S2, d1, d2, d3⟩ := M254_do (N := N) (x := Int32.ofNat j) k3 (by omega) br
      have lT : (sdT br (Int32.ofNat j) T).length ≤ T.length + 3 := by
        cases br
        · show (Int32.ofNat j :: T).length ≤ _
          rw [List.length_cons]; omega
        · show (-40 :: Int32.ofNat j :: -41 :: T).length ≤ _
          rw [List.length_cons, List.length_cons, List.length_cons]; omega
      have m5 := M257_do (N := N) (S := S2) hop
      rw [s1] at m5
      obtain ⟨S3, f1, f2, f3⟩ := M251_do (N := N) (x := -c) d2 (by omega)
      obtain ⟨S4, g1, g2, g3⟩ := M254_do (N := N) (x := Int32.ofNat m) f2 (by rw [List.length_cons]; omega) bl
      have ag4 : m_agr [40] [39] [] S1 S4 := m_agr_trans d3 (m_agr_trans f3 g3)
      have nd4 := nodes_ag k2 ag4 (by decide)
      obtain ⟨S5, u1, u2, u3, u4⟩ := side_do (ih _ _ _ _ h3) bl S4 tx (-c :: sdT br (Int32.ofNat j) T) (txR_ag k1 ag4 (by decide)) nd4 g2 (by rw [List.length_cons]; omega) (by omega)
      obtain ⟨S6, p1, p2, p3, p4⟩ := say_ch (N := N) (x1 := x1) (c := c) u1 u2 (by rw [List.length_append]; omega) s3
      have nd6 := nodes_ag (nodes_ag nd4 u3 (by decide)) p3 (by decide)
      obtain ⟨S7, r1, r2, r3, r4⟩ := side_do (ih _ _ _ _ h4) br S6 (tx ++ sd bl (prX nds fcs n m) ++ [c]) T p1 nd6 p2 (by omega) (by rw [List.length_append, List.length_append, List.length_singleton]; omega)
      have hM : M252 N x1 (Int32.ofNat (j + 1)) S1 = some S4 := by
        have q0 : mj_c2 .eq (3 : Int32) 0 = false := by decide
        have q1 : mj_c2 .eq (3 : Int32) 1 = false := by decide
        have q2 : mj_c2 .eq (3 : Int32) 2 = false := by decide
        have q4 : mj_c2 .eq (3 : Int32) 4 = false := by decide
        have q5 : mj_c2 .eq (3 : Int32) 5 = false := by decide
        have v14' : S2.2.1 14 (160 * sl + (j + 1)) = sg c := by rw [d3.2.1 14 (by decide)]; exact v14
        have v18' : S3.2.1 18 (160 * sl + (j + 1)) = Int32.ofNat m := by rw [f3.2.1 18 (by decide), d3.2.1 18 (by decide)]; exact v18
        -- the end
        have fin : ∀ s0 : Int32, M254 N (Int32.ofNat j) s0 S1 = some S2 → J252_189 N (160 * x1 + Int32.ofNat (j + 1)) (Int32.ofNat tt) (Int32.ofNat (tgI nds m)) s0 (Int32.ofNat j) S1 = some S4 := by
          intro s0 hs0
          by_cases z1 : tgI nds m < tt
          · have b : mj_c2 .lt (Int32.ofNat (tgI nds m)) (Int32.ofNat tt) = true := i_c2 (by show decide _ = true; apply decide_eq_true; rw [i_nat (by omega), i_nat (by omega)]; omega)
            rw [← hbl, decide_eq_true (Or.inl z1)] at g1
            have g1' : M254 N (Int32.ofNat m) 1 S3 = some S4 := g1
            simp only [J252_189, hs0, if_pos (ca 14 (by decide) (by decide)), t, v14', m5, f1, if_pos (ca 18 (by decide) (by decide)), v18', b, cond_true, J252_230, J252_235, g1', J252_238, Option.bind_some]
          · have b : mj_c2 .lt (Int32.ofNat (tgI nds m)) (Int32.ofNat tt) = false := i_c2 (by show decide _ = false; apply decide_eq_false; rw [i_nat (by omega), i_nat (by omega)]; omega)
            by_cases z2 : tt = 0
            · have n2 : mj_c1 .ne (Int32.ofNat tt) = false := i_is0 (by rw [i_nat (by omega)]; omega)
              by_cases z3 : tgI nds m = 0
              · have n3 : mj_c1 .ne (Int32.ofNat (tgI nds m)) = false := i_is0 (by rw [i_nat (by omega)]; omega)
                rw [← hbl, decide_eq_true (Or.inr ⟨z2, z3⟩)] at g1
                have g1' : M254 N (Int32.ofNat m) 1 S3 = some S4 := g1
                simp only [J252_189, hs0, if_pos (ca 14 (by decide) (by decide)), t, v14', m5, f1, if_pos (ca 18 (by decide) (by decide)), v18', b, n2, n3, cond_false, J252_230, J252_235, g1', J252_238, Option.bind_some]
              · have n3 : mj_c1 .ne (Int32.ofNat (tgI nds m)) = true := i_ne0 (by rw [i_nat (by omega)]; omega)
                rw [← hbl, decide_eq_false (fun q => q.elim z1 (fun k => z3 k.2))] at g1
                have g1' : M254 N (Int32.ofNat m) 0 S3 = some S4 := g1
                simp only [J252_189, hs0, if_pos (ca 14 (by decide) (by decide)), t, v14', m5, f1, if_pos (ca 18 (by decide) (by decide)), v18', b, n2, n3, cond_false, cond_true, J252_234, J252_235, g1', J252_238, Option.bind_some]
            · have n2 : mj_c1 .ne (Int32.ofNat tt) = true := i_ne0 (by rw [i_nat (by omega)]; omega)
              rw [← hbl, decide_eq_false (fun q => q.elim z1 (fun k => z2 k.1))] at g1
              have g1' : M254 N (Int32.ofNat m) 0 S3 = some S4 := g1
              simp only [J252_189, hs0, if_pos (ca 14 (by decide) (by decide)), t, v14', m5, f1, if_pos (ca 18 (by decide) (by decide)), v18', b, n2, cond_false, cond_true, J252_234, J252_235, g1', J252_238, Option.bind_some]
        by_cases z0 : tgI nds j ≤ tt
        · have b : mj_c2 .gt (Int32.ofNat (tgI nds j)) (Int32.ofNat tt) = false := i_c2 (by show decide _ = false; apply decide_eq_false; rw [i_nat (by omega), i_nat (by omega)]; omega)
          rw [← hbr, decide_eq_true z0] at d1
          have := fin 1 d1
          simp only [M252, if_pos (ca 13 (by decide) (by decide)), t, v13, q0, q1, q2, q4, q5, cond_false, if_pos (ca 14 (by decide) (by decide)), v14, M231_do, htt, if_pos (ca 18 (by decide) (by decide)), v18, m4, if_pos (ca 19 (by decide) (by decide)), v19, m3, b, Option.bind_some]
          exact this
        · have b : mj_c2 .gt (Int32.ofNat (tgI nds j)) (Int32.ofNat tt) = true := i_c2 (by show decide _ = true; apply decide_eq_true; rw [i_nat (by omega), i_nat (by omega)]; omega)
          rw [← hbr, decide_eq_false z0] at d1
          have := fin 0 d1
          simp only [M252, if_pos (ca 13 (by decide) (by decide)), t, v13, q0, q1, q2, q4, q5, cond_false, cond_true, if_pos (ca 14 (by decide) (by decide)), v14, M231_do, htt, if_pos (ca 18 (by decide) (by decide)), v18, m4, if_pos (ca 19 (by decide) (by decide)), v19, m3, b, Option.bind_some]
          exact this
      refine ⟨S7, ?_, r2, m_agr_trans k4 (m_agr_trans (m_agr_mono ag4 (by decide) (by decide) (by decide)) (m_agr_trans u3 (m_agr_trans p3 r3))), fun F res hh => ?_⟩
      · have e' : ∀ p q : List Int32, tx ++ (p ++ [c] ++ q) = tx ++ p ++ [c] ++ q := fun p q => by simp
        rw [e']
        exact r1
      · exact t_lp_more _ _ _ (by omega) (k5 S4 hM _ res (u4 _ res (p4 _ res (r4 F res hh))))
end SBB
