/-! A CHOICE'S TWO SIDES, THE CLASS -/
section CHC
variable {xt : mj_X} {ct : Nat → Value} {N z : Nat} {π : Nat → Nat} {Ls : Nat → Ss} {D : List Nat} {nds : List Nd} {fcs : List Int32}
theorem l_sub {a b : Nat} (ha : a < 9223372036854775808) (h : b ≤ a) : Int64.ofNat a - Int64.ofNat b = Int64.ofNat (a - b) := j_eq (by
  rw [j_sub (by rw [j_nat ha, j_nat (by omega)]; omega) (by rw [j_nat ha, j_nat (by omega)]; omega), j_nat ha, j_nat (by omega)]
  omega)
theorem upL_cm {y n : Nat} {X X' Y : Ss} (h : y ≠ n) : upL (upL (upL Ls y X) n Y) y X' = upL (upL Ls y X') n Y := by
  funext q
  unfold upL
  by_cases e : q = y
  · rw [if_pos e, if_neg (by omega), if_pos e]
  · rw [if_neg e]
    by_cases e2 : q = n
    · rw [if_pos e2, if_pos e2]
    · rw [if_neg e2, if_neg e, if_neg e2, if_neg e]
theorem ynH_at {H : mj_H} (h : ynH z H) {dp : Nat} (hd : dp < 4) : aA xt H (z + 28) (Int32.ofNat dp) = some (z + so (2 + 2 * dp)) ∧ aA xt H (z + 29) (Int32.ofNat dp) = some (z + so (3 + 2 * dp)) := by
  have : dp = 0 ∨ dp = 1 ∨ dp = 2 ∨ dp = 3 := by omega
  constructor
  · refine aA_of h.1 rfl (by rw [i_nat (by omega)]; omega) ?_
    rw [n_t (by omega)]
    rcases this with rfl | rfl | rfl | rfl <;> rfl
  · refine aA_of h.2 rfl (by rw [i_nat (by omega)]; omega) ?_
    rw [n_t (by omega)]
    rcases this with rfl | rfl | rfl | rfl <;> rfl
theorem C166_lp (hN : 100000 ≤ N) (hD : ∀ q ∈ D, z + 107 ≤ q) (hnl : nds.length ≤ 160) (hfc : fcs.length ≤ 160) (h40 : lcn nds ≤ 40) {H : mj_H} {A B lo i e f a j mo d dp : Nat} {c : Int32} {v2 v3 v4 v5 v6 v7 v8 : Value} (hd : 45 ≤ d) (hdp : dp < 4) (hA : z + 107 ≤ A) (hB : B ≤ H.2.1) (ha : z + 107 ≤ a) (haB : a < H.2.1) (hc : H.1 a = some (.inr (11, [.int c, .ref e, v2, v3, v4, v5, v6, v7, v8]))) (hx : exT H A B nds fcs 45 lo i e f) (hf : f ≤ 2147483648) (hI : rnI z D H mo π Ls) (hj1 : j ≠ 1) (hj2 : j < 2 + 2 * dp) (hg : ∀ p ∈ Ls j, gdk p) : (∃ X Y K, altS (evK nds fcs i) gYs (Ls j) X ∧ altS (evK nds fcs i) gNo (Ls j) Y ∧ ruF z D H K ∧ rnI z D K mo π (upL (upL Ls (2 + 2 * dp) X) (3 + 2 * dp) Y) ∧ ∀ res, B166_41 xt ct (TT xt ct N d) N (a, z + so j, z + 8, Int32.ofNat dp, z + so (2 + 2 * dp), z + so (3 + 2 * dp), Int32.ofNat (Ls j).length, K) = some (.inr res) → C166 xt ct (TT xt ct N d) N a (z + so j) (z + 8) (Int32.ofNat dp) H = some res) ∨ ((∃ p ∈ Ls j, evK nds fcs i p.1 = none) ∧ ∃ X Y K, C166 xt ct (TT xt ct N d) N a (z + so j) (z + 8) (Int32.ofNat dp) H = some (-1, K) ∧ ruF z D H K ∧ rnI z D K mo π (upL (upL Ls (2 + 2 * dp) X) (3 + 2 * dp) Y)) := by
  obtain ⟨O, hO⟩ : ∃ O, TT xt ct N d = O := ⟨_, rfl⟩
  obtain ⟨h1, ⟨sp, h2⟩, h3, h4⟩ := id hI
  have hz := h1.2.2.2
  have hj : j < 10 := by omega
  obtain ⟨y, hy⟩ : ∃ y, 2 + 2 * dp = y := ⟨_, rfl⟩
  obtain ⟨n, hn⟩ : ∃ n, 3 + 2 * dp = n := ⟨_, rfl⟩
  obtain ⟨y1, y2⟩ := ynH_at (xt := xt) h4 hdp
  rw [hy] at y1 hj2
  rw [hn] at y2
  have hyn : y ≠ n := by omega
  have hy10 : y < 10 := by omega
  have hn10 : n < 10 := by omega
  have hjy : j ≠ y := by omega
  have hjn : j ≠ n := by omega
  have g10 : gA H (z + 8) 3 10 = some (z + 28) := gA_of h2.1 rfl
  have g11 : gA H (z + 8) 3 11 = some (z + 29) := gA_of h2.1 rfl
  have ky : gK H (z + so y) 2 = some () := gK_of (h3.1 y hy10).2.2.1
  obtain ⟨H1, b1, b2, b3⟩ := C136_do (xt := xt) (ct := ct) (O := O) (N := N) h3 (j := y) hy10
  have I1 : rnI z D H1 mo π (upL Ls y []) := rnI_s hI b3 b2
  have kn : gK H1 (z + so n) 2 = some () := gK_of (b2.1 n hn10).2.2.1
  obtain ⟨H2, d1, d2, d3⟩ := C136_do (xt := xt) (ct := ct) (O := O) (N := N) b2 (j := n) hn10
  have I2 : rnI z D H2 mo π (upL (upL Ls y []) n []) := rnI_s I1 d3 d2
  have n1 : mj_c1 .ne 1 = true := by decide
  have n0 : mj_c1 .ne 0 = false := by decide
  have key : ∀ (rest : Ss) (row : Nat) (G : mj_H) (X1 Y1 : Ss), row + rest.length = (Ls j).length → (Ls j).drop row = rest → rnI z D G mo π (upL (upL Ls y X1) n Y1) → ruF z D H G → X1.length ≤ row → Y1.length ≤ row → (∃ X Y K, altS (evK nds fcs i) gYs rest X ∧ altS (evK nds fcs i) gNo rest Y ∧ ruF z D H K ∧ rnI z D K mo π (upL (upL Ls y (X1 ++ X)) n (Y1 ++ Y)) ∧ ∀ res, B166_41 xt ct O N (a, z + so j, z + 8, Int32.ofNat dp, z + so y, z + so n, Int32.ofNat (Ls j).length, K) = some (.inr res) → t_lp (B166_41 xt ct O N) (rest.length + 1) (a, z + so j, z + 8, Int32.ofNat dp, z + so y, z + so n, Int32.ofNat row, G) = some res) ∨ ((∃ p ∈ rest, evK nds fcs i p.1 = none) ∧ ∃ X Y K, t_lp (B166_41 xt ct O N) (rest.length + 1) (a, z + so j, z + 8, Int32.ofNat dp, z + so y, z + so n, Int32.ofNat row, G) = some (-1, K) ∧ ruF z D H K ∧ rnI z D K mo π (upL (upL Ls y X) n Y)) := by
    intro rest
    induction rest with
    | nil =>
      intro row G X1 Y1 hrow _ hG hF _ _
      have hrow' : row + 0 = (Ls j).length := hrow
      refine Or.inl ⟨[], [], G, rfl, rfl, hF, by rw [List.append_nil, List.append_nil]; exact hG, fun res hres => t_end ?_ _⟩
      rw [show row = (Ls j).length by omega]
      exact hres
    | cons p r ih =>
      intro row G X1 Y1 hrow hdr hG hF hlX hlY
      rw [List.length_cons] at hrow
      obtain ⟨hp, hr⟩ := dr_get hdr
      have Lj : upL (upL Ls y X1) n Y1 j = Ls j := by rw [upL_ne hjn, upL_ne hjy]
      have Ly : upL (upL Ls y X1) n Y1 y = X1 := by rw [upL_ne hyn, upL_eq]
      have hs := hG.2.2.1
      have aj := hs.1 j hj
      rw [Lj] at aj
      have hlen := aj.2.1
      have g2 : gI G (z + so j) 2 2 = some (Int32.ofNat (Ls j).length) := gI_of aj.2.2.1 rfl
      have cc := c_geF (a := row) (b := (Ls j).length) (by omega) (by omega) (by omega)
      have ca := ru_at hF ha haB hc (by decide)
      have g1 : gA G a 11 1 = some e := gA_of ca rfl
      obtain ⟨-, ⟨sp', hb'⟩, -⟩ := id hG
      have k8 : gK G (z + 8) 3 = some () := gK_of hb'.1
      have nG := hF.2.1
      have xG := exT_dc (ruF_dsm hF hA hB) _ _ _ _ _ hx
      have hpg := hg p (List.mem_of_getElem? hp)
      obtain ⟨b, G2, q1, q2, q3, q4⟩ := C141_do (xt := xt) (ct := ct) (N := N) hN hD hA hnl hfc h40 hd xG (by omega) hf hG hj (row := row) (x := p) (by rw [Lj]; exact hp) hpg
      rw [hO] at q1
      have F2 := ruF_trans hF q2
      rcases q4 with ⟨s, s', e1, e2, e3, e4, e5⟩ | ⟨e1, e2⟩
      · subst e2
        have yl := yes_le e5
        have w := C162_do (xt := xt) (ct := ct) (O := O) (N := N) hN e3 e5.2.2.1
        have k82 : gK G2 (z + 8) 3 = some () := gK_of e3.1
        have ky2 : gK G2 (z + so y) 2 = some () := gK_of (q3.2.2.1.1 y hy10).2.2.1
        obtain ⟨G3, t1, t2, t3⟩ := C163_do (xt := xt) (ct := ct) (O := O) (N := N) q3.2.2.1 (i := j) (j := y) (row := row) (x := p) hj hy10 hjy (by rw [Lj]; exact hp) (tm := yesW s') (by omega) (by rw [Ly]; omega)
        rw [Ly, upL_cm hyn] at t2
        have eg : (if yesW s' = 0 then [] else [(p.1, p.2 * yesW s')]) = gYs p s' := rfl
        rw [eg] at t2
        have I3 := rnI_s q3 t3 t2
        have F3 := ruF_trans F2 (ruF_s t3 hD)
        have ca3 := ru_at F3 ha haB hc (by decide)
        have g13 : gA G3 a 11 1 = some e := gA_of ca3 rfl
        have x3 := exT_dc (ruF_dsm F3 hA hB) _ _ _ _ _ hx
        have gf := fal_g (exT_fal _ _ _ _ _ x3).1
        have kn3 : gK G3 (z + so n) 2 = some () := gK_of (t2.1 n hn10).2.2.1
        have sub : Int64.ofNat f - Int64.ofNat (yesW s') = Int64.ofNat (noW s') := by rw [l_sub (by omega) yl.1, yl.2.2]
        have Lj3 : upL (upL Ls y (X1 ++ gYs p s')) n Y1 j = Ls j := by rw [upL_ne hjn, upL_ne hjy]
        obtain ⟨G4, u1, u2, u3⟩ := C163_do (xt := xt) (ct := ct) (O := O) (N := N) t2 (i := j) (j := n) (row := row) (x := p) hj hn10 hjn (by rw [Lj3]; exact hp) (tm := noW s') (by omega) (by rw [upL_eq]; omega)
        rw [upL_eq, upL_up] at u2
        have eg2 : (if noW s' = 0 then [] else [(p.1, p.2 * noW s')]) = gNo p s' := rfl
        rw [eg2] at u2
        have I4 := rnI_s I3 u3 u2
        have F4 := ruF_trans F3 (ruF_s u3 hD)
        have gl : (gYs p s').length ≤ 1 := by
          unfold gYs
          split
          · exact Nat.zero_le _
          · exact Nat.le_refl _
        have gl2 : (gNo p s').length ≤ 1 := by
          unfold gNo
          split
          · exact Nat.zero_le _
          · exact Nat.le_refl _
        have st : B166_41 xt ct O N (a, z + so j, z + 8, Int32.ofNat dp, z + so y, z + so n, Int32.ofNat row, G) = some (.inl (a, z + so j, z + 8, Int32.ofNat dp, z + so y, z + so n, Int32.ofNat (row + 1), G4)) := by
          simp only [B166_41, g2, cc, cond_false, g1, k8, q1, n1, cond_true, k82, w, ky2, t1, g13, gf, kn3, sub, u1, i_inc (show row < 1000000 by omega), Option.bind_some]
        rw [List.length_cons, t_one st]
        rcases ih (row + 1) G4 (X1 ++ gYs p s') (Y1 ++ gNo p s') (by omega) hr I4 F4 (by rw [List.length_append]; omega) (by rw [List.length_append]; omega) with ⟨X, Y, K, r1, r2, r3, r4, r5⟩ | ⟨⟨q, w1, w2⟩, u⟩
        · exact Or.inl ⟨gYs p s' ++ X, gNo p s' ++ Y, K, ⟨s, s', X, f, e1, e4, e5, rfl, r1⟩, ⟨s, s', Y, f, e1, e4, e5, rfl, r2⟩, r3, by rw [← List.append_assoc, ← List.append_assoc]; exact r4, r5⟩
        · exact Or.inr ⟨⟨q, List.mem_cons_of_mem _ w1, w2⟩, u⟩
      · subst e2
        refine Or.inr ⟨⟨p, List.mem_cons_self, e1⟩, X1, Y1, G2, t_end ?_ _, F2, q3⟩
        simp only [B166_41, g2, cc, cond_false, g1, k8, q1, n0, Option.bind_some]
  have l0 : mj_c1 .lt (Int32.ofNat dp) = false := c1_lt (by omega)
  have l4 : mj_c2 .lt (Int32.ofNat dp) 4 = true := (c_lt (b := 4) (by omega) (by omega)).trans (decide_eq_true hdp)
  have go : ∀ k r, k ≤ N → t_lp (B166_41 xt ct O N) k (a, z + so j, z + 8, Int32.ofNat dp, z + so y, z + so n, Int32.ofNat 0, H2) = some r → C166 xt ct O N a (z + so j) (z + 8) (Int32.ofNat dp) H = some r := by
    intro k r hk hr
    have hr' : L166_41 xt ct O N (a, z + so j, z + 8, Int32.ofNat dp, z + so y, z + so n, 0, H2) = some r := t_lp_more _ _ _ hk hr
    simp only [C166, l0, cond_false, l4, cond_true, g10, y1, g11, y2, ky, b1, kn, d1, hr', Option.bind_some]
  have hl64 := (h3.1 j hj).2.1
  rw [hO, hy, hn]
  rcases key (Ls j) 0 H2 [] [] (by omega) rfl I2 (ruF_trans (ruF_s b3 hD) (ruF_s d3 hD)) (Nat.le_refl _) (Nat.le_refl _) with ⟨X, Y, K, r1, r2, r3, r4, r5⟩ | ⟨w, X, Y, K, r1, r2, r3⟩
  · exact Or.inl ⟨X, Y, K, r1, r2, r3, r4, fun res hres => go _ _ (by omega) (r5 res hres)⟩
  · exact Or.inr ⟨w, X, Y, K, go _ _ (by omega) r1, r2, r3⟩
end CHC
