section RND
variable {xt : mj_X} {ct : Nat → Value} {N z : Nat} {D : List Nat} {sts : List St} {nds : List Nd} {fcs : List Int32} {H0 : mj_H}
theorem nest_in {dp s : Nat} {t : St} (h : nest sts (4 - dp) s) (hd : dp ≤ 4) (ht : sts[s]? = some t) (h2 : 2 ≤ t.1) : dp ≤ 3 ∧ ∀ i, s < i → i < t.2.2.2.2.2.1 → nest sts (4 - (dp + 1)) i := by
  by_cases e : dp = 4
  · rw [e] at h
    have : t.1 < 2 := h t ht
    omega
  · refine ⟨by omega, fun i h3 h4 => ?_⟩
    rw [show 4 - dp = 4 - (dp + 1) + 1 by omega] at h
    exact h t ht h2 i h3 h4
/-- statements, from the programs inside -/
theorem stm_suc (hN : 100000 ≤ N) (hD : ∀ q ∈ D, z + 107 ≤ q) (hnl : nds.length ≤ 160) (hfc : fcs.length ≤ 160) (h40 : lcn nds ≤ 40) (h24 : sts.length ≤ 24) {m : Nat} (blk : blkP xt ct N z D sts nds fcs H0 m) : stmP xt ct N z D sts nds fcs H0 (m + 1) := by
  have good := rn_good (H := H0) hnl hfc h24 m
  have good1 := rn_good (H := H0) hnl hfc h24 (m + 1)
  have n0 : mj_c1 .ne 0 = false := by decide
  have eq0 : mj_c1 .eq 0 = true := by decide
  have eq1 : mj_c1 .eq 1 = false := by decide
  intro A B s t a hst hend h hf hA hB k dp H j mo π Ls L hk hdp hnest hru hI hj1 hj2 gj eL hgL hLm hmo
  have gd1 := good1.1 A B s t a L mo hst hend h hf hgL hLm hmo
  obtain ⟨a1, a2, a3, c, e, tm, o1, o2, nx, s1, s2, A1, B1, k1, k2, k3, k4, k5⟩ := h
  have nH := hru.2.1
  have hj : j < 10 := by omega
  have hs := hI.2.2.1
  have aj := hs.1 j hj
  have ca := ru_at hru (by omega) (by omega) k4 (by decide)
  have g0 : gI H a 11 0 = some c := gI_of ca rfl
  have ka : gK H a 11 = some () := gK_of ca
  have lenL := eqs_len eL gj hgL
  rcases k5 with ⟨q1, q2, q3, q4, q5, q6, q7⟩ | ⟨q1, q2, fe, l1, l2, q3, q4, q5, q6, q7, q8, q9, q10⟩ | ⟨q1, q2, q3, q4, q5, q6, q7, q8, l1, q9, q10, q11⟩
  · have xH := exT_dc (ruF_dsm hru (show z + 107 ≤ A1 by omega) (show B1 ≤ H0.2.1 by omega)) _ _ _ _ _ q7
    have ge := ev_gd hnl hfc q7 hf
    rcases (show t.1 = 0 ∨ t.1 = 1 by omega) with h0 | h0
    · -- an assignment
      obtain ⟨r1, r2⟩ := q5 h0
      rw [r2] at ca g0
      have x33 : mj_c2 .eq (Int32.ofNat (65 + t.2.1)) 33 = false := (c_eq (b := 33) (by omega) (by omega)).trans (decide_eq_false (by omega))
      have x42 : mj_c2 .eq (Int32.ofNat (65 + t.2.1)) 42 = false := (c_eq (b := 42) (by omega) (by omega)).trans (decide_eq_false (by omega))
      have x63 : mj_c2 .eq (Int32.ofNat (65 + t.2.1)) 63 = false := (c_eq (b := 63) (by omega) (by omega)).trans (decide_eq_false (by omega))
      have go : ∀ v K, C171 xt ct (TT xt ct N k) N a (z + so j) (z + 8) H = some (v, K) → C139 xt ct (TT xt ct N k) N a (z + so j) (z + 8) (Int32.ofNat dp) H = some (v, K) := by
        intro v K w
        simp only [C139, g0, x33, x42, x63, cond_false, ka, w, Option.bind_some]
      rw [rnS_0 hst h0]
      rcases C171_do (xt := xt) (ct := ct) (N := N) hN hD hnl hfc h40 (d := k) (by omega) (show z + 107 ≤ A1 by omega) (by omega) (by omega) (by omega) r1 ca xH hf hI hj hj1 gj.2 with ⟨X, x1, x2, x3⟩ | ⟨⟨p, p1, p2⟩, K, Lx, y1, y2, y3⟩
      · obtain ⟨Y, y1, y2⟩ := alt_eqs cnt_As eL hgL x1
        rw [y1]
        show crS z D H Ls j dp (fin1 (insA Y []) mo) _
        have gX : gds (insA X []) := gds_insA X [] gds_nil (altS_gd (fun p s f => gd_As p s f) (Ls j) X gj.2 x1)
        have gY : gds (insA Y []) := gds_insA Y [] gds_nil (allS_gd ge (fun p s => gd_As p s _) L Y hgL.2 y1)
        have len := eqs_len (eqs_insA y2) gX gY
        unfold fin1
        by_cases hl : 64 < (insA Y []).length
        · rw [if_pos hl]
          obtain ⟨K, Lx, w1, w2, w3⟩ := x3 (by omega)
          exact ⟨-2, K, mo, π, upL Ls 1 Lx, go _ _ w1, w2, w3, fun q u1 _ _ => upL_ne u1, rfl, rfl⟩
        · rw [if_neg hl]
          obtain ⟨K, w1, w2, w3⟩ := x2 (by omega)
          have ej : swp (upL Ls 1 (insA X [])) 1 j j = insA X [] := by rw [swp_i (fun q => hj1 q.symm), upL_eq]
          refine ⟨0, K, mo, swp π 1 j, swp (upL Ls 1 (insA X [])) 1 j, go _ _ w1, w2, w3, fun q u1 u2 _ => by rw [swp_o u1 u2, upL_ne u1], rfl, ?_, ?_, rfl⟩
          · rw [ej]; exact gX
          · rw [ej]; exact eqs_insA y2
      · rw [all_none_eqs eL gj p p1 p2]
        exact ⟨-1, K, mo, π, upL Ls 1 Lx, go _ _ y1, y2, y3, fun q u1 _ _ => upL_ne u1, rfl, rfl⟩
    · -- a condition that is kept
      have r2 := q6 h0
      rw [r2] at g0
      have x33 : mj_c2 .eq (33 : Int32) 33 = true := by decide
      have go : ∀ v K, C140 xt ct (TT xt ct N k) N a (z + so j) (z + 8) H = some (v, K) → C139 xt ct (TT xt ct N k) N a (z + so j) (z + 8) (Int32.ofNat dp) H = some (v, K) := by
        intro v K w
        simp only [C139, g0, x33, cond_true, ka, w, Option.bind_some]
      rw [rnS_1 hst h0]
      rcases C140_do (xt := xt) (ct := ct) (N := N) hN hD hnl hfc h40 (d := k) (by omega) (show z + 107 ≤ A1 by omega) (by omega) (by omega) (by omega) ca xH hf hI hj hj1 gj.2 with ⟨X, K, x1, x2, x3, x4⟩ | ⟨⟨p, p1, p2⟩, K, Lx, y1, y2, y3⟩
      · obtain ⟨Y, y1, y2⟩ := alt_eqs cnt_Ys eL hgL x1
        rw [y1]
        show crS z D H Ls j dp (fin1 (insA Y []) mo) _
        obtain ⟨gX, lX⟩ := alt_gds k_Ys gd_Ys gj x1
        have gY : gds (insA Y []) := gds_insA Y [] gds_nil (allS_gd ge (fun p s => gd_Ys p s _) L Y hgL.2 y1)
        have eXY : eqs X (insA Y []) := eqs_trans y2 (eqs_symm eqs_ins)
        have len := eqs_len eXY gX gY
        have l64 := aj.2.1
        unfold fin1
        rw [if_neg (by omega)]
        have ej : swp (upL Ls 1 X) 1 j j = X := by rw [swp_i (fun q => hj1 q.symm), upL_eq]
        refine ⟨0, K, mo, swp π 1 j, swp (upL Ls 1 X) 1 j, go _ _ x2, x3, x4, fun q u1 u2 _ => by rw [swp_o u1 u2, upL_ne u1], rfl, ?_, ?_, rfl⟩
        · rw [ej]; exact gX
        · rw [ej]; exact eXY
      · rw [all_none_eqs eL gj p p1 p2]
        exact ⟨-1, K, mo, π, upL Ls 1 Lx, go _ _ y1, y2, y3, fun q u1 _ _ => upL_ne u1, rfl, rfl⟩
  · -- a choice
    obtain ⟨dp3, nin⟩ := nest_in hnest hdp hst (by omega)
    obtain ⟨c1, c2, c3, c4, c5, c6, c7⟩ := ch_fac (exT_fal _ _ _ _ _ q3).2.1.1 q4 q6 q8 hf
    have xH := exT_dc (ruF_dsm hru (show z + 107 ≤ A1 by omega) (show B1 ≤ H0.2.1 by omega)) _ _ _ _ _ q3
    have ge := ev_gd hnl hfc q3 c2
    have m1 := bk_le (fun s t a x => sT_end x) _ _ _ q5
    have m2 := bk_le (fun s t a x => sT_end x) _ _ _ q7
    subst q2
    have x33 : mj_c2 .eq (63 : Int32) 33 = false := by decide
    have x42 : mj_c2 .eq (63 : Int32) 42 = false := by decide
    have x63 : mj_c2 .eq (63 : Int32) 63 = true := by decide
    have go : ∀ v K, C166 xt ct (TT xt ct N k) N a (z + so j) (z + 8) (Int32.ofNat dp) H = some (v, K) → C139 xt ct (TT xt ct N k) N a (z + so j) (z + 8) (Int32.ofNat dp) H = some (v, K) := by
      intro v K w
      simp only [C139, g0, x33, x42, x63, cond_false, cond_true, ka, w, Option.bind_some]
    clear gd1
    rw [rnS_2 hst q1, bk_bf (fun s t a x => sT_end x) l1 25 _ _ 1 (by omega) q5, bk_bf (fun s t a x => sT_end x) l2 25 _ _ 1 (by omega) q7]
    rcases C166_lp (xt := xt) (ct := ct) (N := N) hN hD hnl hfc h40 (d := k) (dp := dp) (by omega) (by omega) (show z + 107 ≤ A1 by omega) (by omega) (by omega) (by omega) ca xH c2 hI hj1 hj2 gj.2 with ⟨X, Y, K, x1, x2, x3, x4, x5⟩ | ⟨⟨p, p1, p2⟩, X, Y, K, y1, y2, y3⟩
    · obtain ⟨X', eX, eX2⟩ := alt_eqs cnt_Ys eL hgL x1
      obtain ⟨Y', eY, eY2⟩ := alt_eqs cnt_No eL hgL x2
      rw [eX, eY]
      show crS z D H Ls j dp (rnC sts (rnS sts nds fcs m) s t (fold_ l1 1) (fold_ l2 1) X' Y' mo) _
      obtain ⟨gX, lX⟩ := alt_gds k_Ys gd_Ys gj x1
      obtain ⟨gY, lY⟩ := alt_gds k_No gd_No gj x2
      have gX' : gds (insA X' []) := gds_insA X' [] gds_nil (allS_gd ge (fun p s => gd_Ys p s _) L X' hgL.2 eX)
      have gY' : gds (insA Y' []) := gds_insA Y' [] gds_nil (allS_gd ge (fun p s => gd_No p s _) L Y' hgL.2 eY)
      have eXX : eqs X (insA X' []) := eqs_trans eX2 (eqs_symm eqs_ins)
      have eYY : eqs Y (insA Y' []) := eqs_trans eY2 (eqs_symm eqs_ins)
      have lenX := eqs_len eXX gX gX'
      have lenY := eqs_len eYY gY gY'
      obtain ⟨y, hy⟩ : ∃ y, 2 + 2 * dp = y := ⟨_, rfl⟩
      obtain ⟨n, hn⟩ : ∃ n, 3 + 2 * dp = n := ⟨_, rfl⟩
      rw [hy, hn] at x4 x5
      have Ly : upL (upL Ls y X) n Y y = X := by rw [upL_ne (by omega), upL_eq]
      have Ln : upL (upL Ls y X) n Y n = Y := upL_eq
      have Lo : ∀ q, q < 2 + 2 * dp → upL (upL Ls y X) n Y q = Ls q := fun q hq => by rw [upL_ne (by omega), upL_ne (by omega)]
      have ru1 := ruF_trans hru x3
      obtain ⟨v1, K1, π1, Ls1, d1, d2, d3, d4, d5⟩ := blk A1 B1 l1 o1 (s + 1) t.2.2.2.2.1 25 (by omega) (by omega) q4 q5 c6 (by omega) (by omega) k (dp + 1) K y mo π (upL (upL Ls y X) n Y) (insA X' []) (by omega) (by omega) (fun i i1 i2 => nin i (by omega) (by omega)) ru1 x4 (by omega) (by omega) (by rw [Ly]; exact gX) (by rw [Ly]; exact eXX) gX' (by omega) hmo
      have gd := good.2 A1 B1 l1 o1 (s + 1) t.2.2.2.2.1 25 (insA X' []) mo (by omega) (by omega) q4 q5 c6 gX' (by omega) hmo
      have caK := ru_at ru1 (by omega) (by omega) k4 (by decide)
      have g3 : gR K a 11 3 = some o1 := gR_of caK rfl
      have ajK := x4.2.2.1.1 j hj
      rw [Lo j hj2] at ajK
      have gs : gI K (z + so j) 2 2 = some (Int32.ofNat (Ls j).length) := gI_of ajK.2.2.1 rfl
      have cc := c_geT (a := (Ls j).length) (b := (Ls j).length) (by have := aj.2.1; omega) (by have := aj.2.1; omega) (Nat.le_refl _)
      have idp : Int32.ofNat dp + 1 = Int32.ofNat (dp + 1) := i_inc (by omega)
      unfold rnC
      generalize rnB sts (rnS sts nds fcs m) 25 (s + 1) t.2.2.2.2.1 (insA X' []) mo = R at d3 d5 gd ⊢
      obtain ⟨R1, mo1⟩ := R
      have ru2 := ruF_trans ru1 d2
      cases R1 with
      | inl w =>
        have hw : v1 = -1 ∨ v1 = -2 := by
          rw [show v1 = w from d5]
          exact gd.2.2
        obtain ⟨nv, ev⟩ := ne_neg hw
        show crS z D H Ls j dp (.inl w, mo1) _
        refine ⟨v1, K1, mo1, π1, Ls1, go _ _ (x5 _ ?_), ruF_trans x3 d2, d3, fun q u1 u2 u3 => (d4 q u1 (by omega) (by omega)).trans (Lo q u3), d5, rfl⟩
        simp only [B166_41, gs, cc, cond_true, g3, idp, d1, nv, J166_141, ev, cond_false, Option.bind_some, Option.map_some]
      | inr Y1 =>
        obtain ⟨d6, d7, d8⟩ := d5
        subst d6
        obtain ⟨gd1, gd2, gd3, gd4, gd5⟩ := gd
        have gd1' : mo ≤ mo1 := gd1
        have gd2' : mo1 ≤ 64 := gd2
        have Ln1 : Ls1 n = Y := (d4 n (by omega) (by omega) (by omega)).trans Ln
        have Lo1 : ∀ q, q ≠ 1 → q < 2 + 2 * dp → Ls1 q = Ls q := fun q u1 u2 => (d4 q u1 (by omega) (by omega)).trans (Lo q u2)
        obtain ⟨v2, K2, π2, Ls2, f1, f2, f3, f4, f5⟩ := blk A1 B1 l2 o2 t.2.2.2.2.1 t.2.2.2.2.2.1 25 hend (by omega) q6 q7 c7 (by omega) (by omega) k (dp + 1) K1 n mo1 π1 Ls1 (insA Y' []) (by omega) (by omega) (fun i i1 i2 => nin i (by omega) i2) ru2 d3 (by omega) (by omega) (by rw [Ln1]; exact gY) (by rw [Ln1]; exact eYY) gY' (by omega) gd2'
        have gd' := good.2 A1 B1 l2 o2 t.2.2.2.2.1 t.2.2.2.2.2.1 25 (insA Y' []) mo1 hend (by omega) q6 q7 c7 gY' (by omega) gd2'
        have caK1 := ru_at ru2 (by omega) (by omega) k4 (by decide)
        have g4 : gR K1 a 11 4 = some o2 := gR_of caK1 rfl
        show crS z D H Ls j dp (rbi (rnB sts (rnS sts nds fcs m) 25 t.2.2.2.2.1 t.2.2.2.2.2.1 (insA Y' []) mo1) _) _
        generalize rnB sts (rnS sts nds fcs m) 25 t.2.2.2.2.1 t.2.2.2.2.2.1 (insA Y' []) mo1 = R at f3 f5 gd' ⊢
        obtain ⟨R1, mo2⟩ := R
        have ru3 := ruF_trans ru2 f2
        have F2 : ruF z D H K2 := ruF_trans x3 (ruF_trans d2 f2)
        have Lo2 : ∀ q, q ≠ 1 → q < 2 + 2 * dp → Ls2 q = Ls q := fun q u1 u2 => (f4 q u1 (by omega) (by omega)).trans (Lo1 q u1 u2)
        cases R1 with
        | inl w =>
          have hw : v2 = -1 ∨ v2 = -2 := by
            rw [show v2 = w from f5]
            exact gd'.2.2
          obtain ⟨nv, ev⟩ := ne_neg hw
          show crS z D H Ls j dp (.inl w, mo2) _
          refine ⟨v2, K2, mo2, π2, Ls2, go _ _ (x5 _ ?_), F2, f3, fun q u1 u2 u3 => Lo2 q u1 u3, f5, rfl⟩
          simp only [B166_41, gs, cc, cond_true, g3, idp, d1, n0, cond_false, g4, f1, J166_141, ev, Option.bind_some, Option.map_some]
        | inr N1 =>
          obtain ⟨f6, f7, f8⟩ := f5
          subst f6
          obtain ⟨gd6, gd7, gd8, gd9, gd10⟩ := gd'
          have Ly2 : Ls2 y = Ls1 y := f4 y (by omega) (by omega) (by omega)
          obtain ⟨-, ⟨m3, m4, -⟩, ⟨m5, m6, -⟩⟩ := ml_ok c4 c5 c3
          rw [← q9] at m3
          rw [← q10] at m5
          rw [← q9, ← q10]
          show crS z D H Ls j dp (fin1 (insA (scl s1 Y1 ++ scl s2 N1) []) mo2) _
          -- the states are emptied
          have kj : gK K2 (z + so j) 2 = some () := gK_of (f3.2.2.1.1 j hj).2.2.1
          obtain ⟨K3, u1, u2, u3⟩ := C136_do (xt := xt) (ct := ct) (O := TT xt ct N k) (N := N) f3.2.2.1 hj
          have I3 := rnI_s f3 u3 u2
          have ru4 := ruF_trans ru3 (ruF_s u3 hD)
          have ca3 := ru_at ru4 (by omega) (by omega) k4 (by decide)
          have gl6 : gL K3 a 11 6 = some (Int64.ofNat s1) := gL_of ca3 rfl
          have kj3 : gK K3 (z + so j) 2 = some () := gK_of (u2.1 j hj).2.2.1
          have Lyy : upL Ls2 j [] y = Ls1 y := by rw [upL_ne (by omega), Ly2]
          obtain ⟨w1, w2⟩ := C167_do (xt := xt) (ct := ct) (O := TT xt ct N k) (N := N) (by omega) u2 (i := y) (j := j) (tm := s1) (by omega) hj (by omega) (by rw [upL_eq]; intro p hp; cases hp) (by rw [Lyy]; exact fun p hp => (d7.2 p hp).2.1)
          rw [Lyy, upL_eq] at w1 w2
          have gU1 : gds (insA (scl s1 (Ls1 y)) []) := gds_insA _ [] gds_nil (scl_gd m3 d7.2)
          have gU : gds (insA (scl s2 (Ls2 n)) (insA (scl s1 (Ls1 y)) [])) := gds_insA _ _ gU1 (scl_gd m5 f7.2)
          have gP : gds (insA (scl s1 Y1 ++ scl s2 N1) []) := gds_insA _ [] gds_nil (fun p hp => (List.mem_append.mp hp).elim (scl_gd m3 gd3.2 p) (scl_gd m5 gd8.2 p))
          have eU : eqs (insA (scl s2 (Ls2 n)) (insA (scl s1 (Ls1 y)) [])) (insA (scl s1 Y1 ++ scl s2 N1) []) := fun f => by
            rw [insA_sF, insA_sF, insA_sF, sF_app, scl_sF, scl_sF, scl_sF, scl_sF, d8, f8, Nat.add_assoc]
          have lenU := eqs_len eU gU gP
          have mono := insA_len (scl s2 (Ls2 n)) (insA (scl s1 (Ls1 y)) [])
          have F3 : ruF z D H K3 := ruF_trans F2 (ruF_s u3 hD)
          unfold fin1
          by_cases hl1 : (insA (scl s1 (Ls1 y)) []).length ≤ 64
          · obtain ⟨K4, t1, t2, t3⟩ := w1 hl1
            rw [upL_up] at t2
            have I4 := rnI_s I3 t3 t2
            have ru5 := ruF_trans ru4 (ruF_s t3 hD)
            have F4 := ruF_trans F3 (ruF_s t3 hD)
            have ca4 := ru_at ru5 (by omega) (by omega) k4 (by decide)
            have gl7 : gL K4 a 11 7 = some (Int64.ofNat s2) := gL_of ca4 rfl
            have kj4 : gK K4 (z + so j) 2 = some () := gK_of (t2.1 j hj).2.2.1
            have Lnn : upL Ls2 j (insA (scl s1 (Ls1 y)) []) n = Ls2 n := upL_ne (by omega)
            obtain ⟨w3, w4⟩ := C167_do (xt := xt) (ct := ct) (O := TT xt ct N k) (N := N) (by omega) t2 (i := n) (j := j) (tm := s2) (by omega) hj (by omega) (by rw [upL_eq]; exact fun p hp => (gU1.2 p hp).2.1) (by rw [Lnn]; exact fun p hp => (f7.2 p hp).2.1)
            rw [Lnn, upL_eq] at w3 w4
            by_cases hl2 : (insA (scl s2 (Ls2 n)) (insA (scl s1 (Ls1 y)) [])).length ≤ 64
            · rw [if_neg (by omega)]
              obtain ⟨K5, v1, v2, v3⟩ := w3 hl2
              rw [upL_up] at v2
              refine ⟨0, K5, mo2, π2, upL Ls2 j (insA (scl s2 (Ls2 n)) (insA (scl s1 (Ls1 y)) [])), go _ _ (x5 _ ?_), ruF_trans F4 (ruF_s v3 hD), rnI_s I4 v3 v2, fun q r1 r2 r3 => by rw [upL_ne r2]; exact Lo2 q r1 r3, rfl, by rw [upL_eq]; exact gU, by rw [upL_eq]; exact eU, rfl⟩
              simp only [B166_41, gs, cc, cond_true, g3, idp, d1, n0, cond_false, g4, f1, J166_141, eq0, kj, u1, gl6, kj3, t1, eq1, gl7, kj4, v1, J166_185, Option.bind_some, Option.map_some]
            · rw [if_pos (by omega)]
              obtain ⟨K5, Lx, v1, v2, v3⟩ := w4 (by omega)
              rw [upL_up] at v2
              refine ⟨-2, K5, mo2, π2, upL Ls2 j Lx, go _ _ (x5 _ ?_), ruF_trans F4 (ruF_s v3 hD), rnI_s I4 v3 v2, fun q r1 r2 r3 => by rw [upL_ne r2]; exact Lo2 q r1 r3, rfl, rfl⟩
              simp only [B166_41, gs, cc, cond_true, g3, idp, d1, n0, cond_false, g4, f1, J166_141, eq0, kj, u1, gl6, kj3, t1, eq1, gl7, kj4, v1, J166_183, J166_185, Option.bind_some, Option.map_some]
          · rw [if_pos (by omega)]
            obtain ⟨K4, Lx, t1, t2, t3⟩ := w2 (by omega)
            rw [upL_up] at t2
            refine ⟨-2, K4, mo2, π2, upL Ls2 j Lx, go _ _ (x5 _ ?_), ruF_trans F3 (ruF_s t3 hD), rnI_s I3 t3 t2, fun q r1 r2 r3 => by rw [upL_ne r2]; exact Lo2 q r1 r3, rfl, rfl⟩
            simp only [B166_41, gs, cc, cond_true, g3, idp, d1, n0, cond_false, g4, f1, J166_141, eq0, kj, u1, gl6, kj3, t1, J166_183, J166_185, Option.bind_some, Option.map_some]
    · rw [all_none_eqs eL gj p p1 p2]
      exact ⟨-1, K, mo, π, _, go _ _ y1, y2, y3, fun q u1 u2 u3 => by rw [upL_ne (by omega), upL_ne (by omega)], rfl, rfl⟩
  · -- a repetition
    obtain ⟨dp3, nin⟩ := nest_in hnest hdp hst (by omega)
    have m1 := bk_le (fun s t a x => sT_end x) _ _ _ q10
    subst q2
    have x33 : mj_c2 .eq (42 : Int32) 33 = false := by decide
    have x42 : mj_c2 .eq (42 : Int32) 42 = true := by decide
    have p1 := fold_pos l1 1 (Nat.le_refl _) (fun x hx => (chn_pos l1 o1 q9 x hx).1)
    rw [q11] at hf
    obtain ⟨-, w2⟩ := pw_ok p1 t.2.1 1 (Nat.le_refl _) hf
    have idp : Int32.ofNat dp + 1 = Int32.ofNat (dp + 1) := i_inc (by omega)
    rw [rnS_3 hst q1] at gd1 ⊢
    obtain ⟨O, hO⟩ : ∃ O, TT xt ct N k = O := ⟨_, rfl⟩
    have key : ∀ (n i : Nat) (G : mj_H) (mo : Nat) (π : Nat → Nat) (Ls : Nat → Ss) (L : Ss), i + n = t.2.1 → ruF z D H0 G → rnI z D G mo π Ls → gds (Ls j) → eqs (Ls j) L → gds L → L.length ≤ mo → mo ≤ 64 → crB z D G Ls j dp (rnT (fun L mo => rnB sts (rnS sts nds fcs m) 25 (s + 1) t.2.2.2.2.2.1 L mo) n L mo) (t_lp (B170_6 xt ct O N) (n + 1) (a, z + so j, z + 8, Int32.ofNat dp, 0, Int32.ofNat i, G)) := by
      intro n
      induction n with
      | zero =>
        intro i G mo π Ls L hi hG hI gj eL hgL hLm hmo
        have nG := hG.2.1
        have caG := ru_at hG (by omega) (by omega) k4 (by decide)
        have g2 : gI G a 11 2 = some (Int32.ofNat t.2.1) := by rw [← q4]; exact gI_of caG rfl
        have cc := c_geT (a := i) (b := t.2.1) (by omega) (by omega) (by omega)
        refine ⟨0, G, π, Ls, t_end ?_ _, ruF_refl, hI, fun _ _ _ _ => rfl, rfl, gj, eL⟩
        simp only [B170_6, g2, cc, cond_true, J170_40, Option.bind_some, Option.map_some]
      | succ n ih =>
        intro i G mo π Ls L hi hG hI gj eL hgL hLm hmo
        have nG := hG.2.1
        have caG := ru_at hG (by omega) (by omega) k4 (by decide)
        have g2 : gI G a 11 2 = some (Int32.ofNat t.2.1) := by rw [← q4]; exact gI_of caG rfl
        have g3 : gR G a 11 3 = some o1 := gR_of caG rfl
        have cc := c_geF (a := i) (b := t.2.1) (by omega) (by omega) (by omega)
        have f6 := w2 (by omega)
        obtain ⟨v, K, π', Ls', d1, d2, d3, d4, d5⟩ := blk A1 B1 l1 o1 (s + 1) t.2.2.2.2.2.1 25 hend (by omega) q9 q10 f6 (by omega) (by omega) k (dp + 1) G j mo π Ls L (by omega) (by omega) (fun i i1 i2 => nin i (by omega) i2) hG hI hj1 (by omega) gj eL hgL hLm hmo
        have gd := good.2 A1 B1 l1 o1 (s + 1) t.2.2.2.2.2.1 25 L mo hend (by omega) q9 q10 f6 hgL hLm hmo
        rw [hO] at d1
        rw [rnT]
        show crB z D G Ls j dp (rbi (rnB sts (rnS sts nds fcs m) 25 (s + 1) t.2.2.2.2.2.1 L mo) _) _
        generalize rnB sts (rnS sts nds fcs m) 25 (s + 1) t.2.2.2.2.2.1 L mo = R at d3 d5 gd ⊢
        obtain ⟨R1, mo1⟩ := R
        have st : B170_6 xt ct O N (a, z + so j, z + 8, Int32.ofNat dp, 0, Int32.ofNat i, G) = some (.inl (a, z + so j, z + 8, Int32.ofNat dp, v, Int32.ofNat (i + 1), K)) := by
          simp only [B170_6, g2, cc, cond_false, n0, g3, idp, d1, i_inc (show i < 1000000 by omega), Option.bind_some]
        rw [t_one st]
        have ruK := ruF_trans hG d2
        have nK := ruK.2.1
        cases R1 with
        | inl w =>
          have hw : v = -1 ∨ v = -2 := by
            rw [show v = w from d5]
            exact gd.2.2
          obtain ⟨nv, ev⟩ := ne_neg hw
          have caK := ru_at ruK (by omega) (by omega) k4 (by decide)
          have g2' : gI K a 11 2 = some (Int32.ofNat t.2.1) := by rw [← q4]; exact gI_of caK rfl
          show crB z D G Ls j dp (.inl w, mo1) _
          refine ⟨v, K, π', Ls', t_end ?_ _, d2, d3, fun q u1 u2 u3 => d4 q u1 u2 (by omega), d5⟩
          by_cases c2 : t.2.1 ≤ i + 1
          · have cc2 := c_geT (a := i + 1) (b := t.2.1) (by omega) (by omega) c2
            simp only [B170_6, g2', cc2, cond_true, J170_40, Option.bind_some, Option.map_some]
          · have cc2 := c_geF (a := i + 1) (b := t.2.1) (by omega) (by omega) (by omega)
            simp only [B170_6, g2', cc2, cond_false, nv, cond_true, J170_40, Option.bind_some, Option.map_some]
        | inr L' =>
          obtain ⟨d6, d7, d8⟩ := d5
          subst d6
          obtain ⟨gd1, gd2, gd3, gd4, gd5⟩ := gd
          show crB z D G Ls j dp (rnT _ n L' mo1) _
          obtain ⟨v2, K3, π3, Ls3, e1, e2, e3, e4, e5⟩ := ih (i + 1) K mo1 π' Ls' L' (by omega) ruK d3 d7 d8 gd3 gd4 gd2
          exact ⟨v2, K3, π3, Ls3, e1, ruF_trans d2 e2, e3, fun q u1 u2 u3 => (e4 q u1 u2 u3).trans (d4 q u1 u2 (by omega)), e5⟩
    obtain ⟨v, K, π', Ls', d1, d2, d3, d4, d5⟩ := key t.2.1 0 H mo π Ls L (by omega) hru hI gj eL hgL hLm hmo
    have run : C139 xt ct (TT xt ct N k) N a (z + so j) (z + 8) (Int32.ofNat dp) H = some (v, K) := by
      have d1' : L170_6 xt ct O N (a, z + so j, z + 8, Int32.ofNat dp, 0, 0, H) = some (v, K) := t_lp_more _ _ _ (by omega) d1
      rw [hO]
      simp only [C139, g0, x33, x42, cond_false, cond_true, ka, C170, d1', Option.bind_some]
    generalize rnT (fun L mo => rnB sts (rnS sts nds fcs m) 25 (s + 1) t.2.2.2.2.2.1 L mo) t.2.1 L mo = R at d3 d5 gd1 ⊢
    obtain ⟨R1, mo1⟩ := R
    refine ⟨v, K, mo1, π', Ls', run, d2, d3, d4, ?_⟩
    cases R1 with
    | inl w => exact ⟨d5, rfl⟩
    | inr L' =>
      obtain ⟨d6, d7, d8⟩ := d5
      obtain ⟨-, -, gd3, gd4, gd5⟩ := gd1
      have gd4' : L'.length ≤ mo1 := gd4
      exact ⟨d6, d7, d8, by show max mo1 L'.length = mo1; omega⟩
theorem CR_do (hN : 100000 ≤ N) (hD : ∀ q ∈ D, z + 107 ≤ q) (hnl : nds.length ≤ 160) (hfc : fcs.length ≤ 160) (h40 : lcn nds ≤ 40) (h24 : sts.length ≤ 24) : ∀ m, blkP xt ct N z D sts nds fcs H0 m := by
  intro m
  induction m with
  | zero => exact blk_of hN hD hnl hfc h24 (fun A B s t a _ _ h => h.elim)
  | succ m ih => exact blk_of hN hD hnl hfc h24 (stm_suc hN hD hnl hfc h40 h24 ih)
end RND
