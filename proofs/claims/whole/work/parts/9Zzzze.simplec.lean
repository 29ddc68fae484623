/-! SIMPLE STATEMENTS, THE CLASS -/
section SMC
variable {xt : mj_X} {ct : Nat → Value} {N z : Nat} {π : Nat → Nat} {Ls : Nat → Ss} {D : List Nat} {nds : List Nd} {fcs : List Int32}
theorem yes_le {s : Sp} {f : Nat} (h : gdS s f) : yesW s ≤ f ∧ noW s ≤ f ∧ f - yesW s = noW s := by
  have := yes_no s
  rw [h.2.2.2] at this
  omega
theorem dr_get {L : Ss} {row : Nat} {p : Vs × Nat} {r : Ss} (h : L.drop row = p :: r) : L[row]? = some p ∧ L.drop (row + 1) = r := by
  constructor
  · have : (L.drop row)[0]? = some p := by rw [h]; rfl
    rw [List.getElem?_drop, Nat.add_zero] at this
    exact this
  · have : (L.drop row).drop 1 = r := by rw [h]; rfl
    rw [List.drop_drop] at this
    exact this
/-- the cells of the tree that are looked at stay -/
theorem ru_at {H G : mj_H} {a c : Nat} {l : List Value} (h : ruF z D H G) (ha : z + 107 ≤ a) (hb : a < H.2.1) (e : H.1 a = some (.inr (c, l))) (hc : c ≠ 8) : G.1 a = some (.inr (c, l)) := dsm_at (ruF_dsm (B := a + 1) h ha hb) (Nat.le_refl _) (by omega) e hc
/-- a condition that is kept -/
theorem C140_do (hN : 100000 ≤ N) (hD : ∀ q ∈ D, z + 107 ≤ q) (hnl : nds.length ≤ 160) (hfc : fcs.length ≤ 160) (h40 : lcn nds ≤ 40) {H : mj_H} {A B lo i e f a j mo d : Nat} {c : Int32} {v2 v3 v4 v5 v6 v7 v8 : Value} (hd : 45 ≤ d) (hA : z + 107 ≤ A) (hB : B ≤ H.2.1) (ha : z + 107 ≤ a) (haB : a < H.2.1) (hc : H.1 a = some (.inr (11, [.int c, .ref e, v2, v3, v4, v5, v6, v7, v8]))) (hx : exT H A B nds fcs 45 lo i e f) (hf : f ≤ 2147483648) (hI : rnI z D H mo π Ls) (hj : j < 10) (hj1 : j ≠ 1) (hg : ∀ p ∈ Ls j, gdk p) : (∃ X K, altS (evK nds fcs i) gYs (Ls j) X ∧ C140 xt ct (TT xt ct N d) N a (z + so j) (z + 8) H = some (0, K) ∧ ruF z D H K ∧ rnI z D K mo (swp π 1 j) (swp (upL Ls 1 X) 1 j)) ∨ ((∃ p ∈ Ls j, evK nds fcs i p.1 = none) ∧ ∃ K X, C140 xt ct (TT xt ct N d) N a (z + so j) (z + 8) H = some (-1, K) ∧ ruF z D H K ∧ rnI z D K mo π (upL Ls 1 X)) := by
  obtain ⟨O, hO⟩ : ∃ O, TT xt ct N d = O := ⟨_, rfl⟩
  obtain ⟨h1, ⟨sp, h2⟩, h3, h4, h5⟩ := id hI
  have hz := h1.2.2.2
  have g9 : gA H (z + 8) 3 9 = some (z + so 1) := gA_of h2.1 rfl
  have k1 : gK H (z + so 1) 2 = some () := gK_of (h3.1 1 (by omega)).2.2.1
  obtain ⟨H1, b1, b2, b3⟩ := C136_do (xt := xt) (ct := ct) (O := O) (N := N) h3 (j := 1) (by omega)
  have I1 : rnI z D H1 mo π (upL Ls 1 []) := rnI_s hI b3 b2
  have n1 : mj_c1 .ne 1 = true := by decide
  have n0 : mj_c1 .ne 0 = false := by decide
  have key : ∀ (rest : Ss) (row : Nat) (G : mj_H) (X1 : Ss), row + rest.length = (Ls j).length → (Ls j).drop row = rest → rnI z D G mo π (upL Ls 1 X1) → ruF z D H G → X1.length ≤ row → (∃ X K, altS (evK nds fcs i) gYs rest X ∧ t_lp (B140_12 xt ct O N) (rest.length + 1) (a, z + so j, z + 8, z + so 1, Int32.ofNat row, G) = some (0, K) ∧ ruF z D H K ∧ rnI z D K mo (swp π 1 j) (swp (upL Ls 1 (X1 ++ X)) 1 j)) ∨ ((∃ p ∈ rest, evK nds fcs i p.1 = none) ∧ ∃ K X, t_lp (B140_12 xt ct O N) (rest.length + 1) (a, z + so j, z + 8, z + so 1, Int32.ofNat row, G) = some (-1, K) ∧ ruF z D H K ∧ rnI z D K mo π (upL Ls 1 X)) := by
    intro rest
    induction rest with
    | nil =>
      intro row G X1 hrow _ hG hF hl
      have hrow' : row + 0 = (Ls j).length := hrow
      have hs := hG.2.2.1
      have aj := hs.1 j hj
      rw [upL_ne hj1] at aj
      have g2 : gI G (z + so j) 2 2 = some (Int32.ofNat (Ls j).length) := gI_of aj.2.2.1 rfl
      have kj : gK G (z + so j) 2 = some () := gK_of aj.2.2.1
      have cc := c_geT (a := row) (b := (Ls j).length) (by have := aj.2.1; omega) (by have := aj.2.1; omega) (by omega)
      obtain ⟨K, s1, s2, s3⟩ := C165_do (xt := xt) (ct := ct) (O := O) (N := N) hs (i := 1) (j := j) (by omega) hj (fun q => hj1 q.symm)
      refine Or.inl ⟨[], K, rfl, t_end ?_ _, ruF_trans hF (ruF_s s3 hD), by rw [List.append_nil]; exact rnI_s hG s3 s2⟩
      simp only [B140_12, g2, cc, cond_true, kj, s1, Option.bind_some]
    | cons p r ih =>
      intro row G X1 hrow hdr hG hF hl
      rw [List.length_cons] at hrow
      obtain ⟨hp, hr⟩ := dr_get hdr
      have hs := hG.2.2.1
      have aj := hs.1 j hj
      rw [upL_ne hj1] at aj
      have hlen := aj.2.1
      have g2 : gI G (z + so j) 2 2 = some (Int32.ofNat (Ls j).length) := gI_of aj.2.2.1 rfl
      have cc := c_geF (a := row) (b := (Ls j).length) (by omega) (by omega) (by omega)
      have ca := ru_at hF ha haB hc (by decide)
      have g1 : gA G a 11 1 = some e := gA_of ca rfl
      obtain ⟨-, ⟨sp', hb'⟩, -⟩ := id hG
      have k8 : gK G (z + 8) 3 = some () := gK_of hb'.1
      have nG := hF.2.1
      have xG := exT_dc (ruF_dsm hF hA hB) _ _ _ _ _ hx
      obtain ⟨b, G2, q1, q2, q3, q4⟩ := C141_do (xt := xt) (ct := ct) (N := N) hN hD hA hnl hfc h40 hd xG (by omega) hf hG hj (row := row) (x := p) (by rw [upL_ne hj1]; exact hp) (hg p (List.mem_of_getElem? hp))
      rw [hO] at q1
      rcases q4 with ⟨s, s', e1, e2, e3, e4, e5⟩ | ⟨e1, e2⟩
      · subst e2
        have yl := yes_le e5
        have w := C162_do (xt := xt) (ct := ct) (O := O) (N := N) hN e3 e5.2.2.1
        have k82 : gK G2 (z + 8) 3 = some () := gK_of e3.1
        have a1 := q3.2.2.1.1 1 (by omega)
        rw [upL_eq] at a1
        have k12 : gK G2 (z + so 1) 2 = some () := gK_of a1.2.2.1
        obtain ⟨G3, t1, t2, t3⟩ := C163_do (xt := xt) (ct := ct) (O := O) (N := N) q3.2.2.1 (i := j) (j := 1) (row := row) (x := p) hj (by omega) hj1 (by rw [upL_ne hj1]; exact hp) (tm := yesW s') (by omega) (by rw [upL_eq]; omega)
        rw [upL_eq, upL_up] at t2
        have I3 := rnI_s q3 t3 t2
        have F3 := ruF_trans hF (ruF_trans q2 (ruF_s t3 hD))
        have eg : (if yesW s' = 0 then [] else [(p.1, p.2 * yesW s')]) = gYs p s' := rfl
        rw [eg] at I3
        have gl : (gYs p s').length ≤ 1 := by
          unfold gYs
          split
          · exact Nat.zero_le _
          · exact Nat.le_refl _
        have st : B140_12 xt ct O N (a, z + so j, z + 8, z + so 1, Int32.ofNat row, G) = some (.inl (a, z + so j, z + 8, z + so 1, Int32.ofNat (row + 1), G3)) := by
          simp only [B140_12, g2, cc, cond_false, g1, k8, q1, n1, cond_true, k82, w, k12, t1, i_inc (show row < 1000000 by omega), Option.bind_some]
        rw [List.length_cons, t_one st]
        rcases ih (row + 1) G3 (X1 ++ gYs p s') (by omega) hr I3 F3 (by rw [List.length_append]; omega) with ⟨X, K, u1, u2, u3, u4⟩ | ⟨⟨y, y1, y2⟩, u⟩
        · exact Or.inl ⟨gYs p s' ++ X, K, ⟨s, s', X, f, e1, e4, e5, rfl, u1⟩, u2, u3, by rw [← List.append_assoc]; exact u4⟩
        · exact Or.inr ⟨⟨y, List.mem_cons_of_mem _ y1, y2⟩, u⟩
      · subst e2
        refine Or.inr ⟨⟨p, List.mem_cons_self, e1⟩, G2, X1, t_end ?_ _, ruF_trans hF q2, q3⟩
        simp only [B140_12, g2, cc, cond_false, g1, k8, q1, n0, Option.bind_some]
  have go : ∀ n r, n ≤ N → t_lp (B140_12 xt ct O N) n (a, z + so j, z + 8, z + so 1, Int32.ofNat 0, H1) = some r → C140 xt ct O N a (z + so j) (z + 8) H = some r := by
    intro n r hn hr
    have hr' : L140_12 xt ct O N (a, z + so j, z + 8, z + so 1, 0, H1) = some r := t_lp_more _ _ _ hn hr
    simp only [C140, g9, k1, b1, hr', Option.bind_some]
  have hl64 := (h3.1 j hj).2.1
  rw [hO]
  rcases key (Ls j) 0 H1 [] (by omega) rfl I1 (ruF_s b3 hD) (Nat.le_refl _) with ⟨X, K, u1, u2, u3, u4⟩ | ⟨y, K, X, u2, u3, u4⟩
  · exact Or.inl ⟨X, K, u1, go _ _ (by omega) u2, u3, u4⟩
  · exact Or.inr ⟨y, K, X, go _ _ (by omega) u2, u3, u4⟩
theorem altS_6 {g : Vs × Nat → Sp → Ss} {ev : Vs → Option Sp} (hg : ∀ p s f, gdk p → gdS s f → ∀ x ∈ g p s, gdk x) {L X : Ss} (hL : ∀ p ∈ L, gdk p) (h : altS ev g L X) : ∀ x ∈ X, x.1.length = 6 := fun x hx => (altS_gd hg L X hL h x hx).2.1
theorem insA_6 : ∀ (X U : Ss), (∀ x ∈ X, x.1.length = 6) → (∀ x ∈ U, x.1.length = 6) → ∀ x ∈ insA X U, x.1.length = 6 := by
  intro X
  induction X with
  | nil => intro U _ h; exact h
  | cons p r ih =>
    intro U hX hU
    refine ih _ (fun x hx => hX x (List.mem_cons_of_mem _ hx)) (fun x hx => ?_)
    rcases ins_mem U x hx with q | q
    · exact hU x q
    · rw [q.1]; exact hX p List.mem_cons_self
/-- an assignment -/
theorem C171_do (hN : 100000 ≤ N) (hD : ∀ q ∈ D, z + 107 ≤ q) (hnl : nds.length ≤ 160) (hfc : fcs.length ≤ 160) (h40 : lcn nds ≤ 40) {H : mj_H} {A B lo i e f a j mo d m : Nat} {v2 v3 v4 v5 v6 v7 v8 : Value} (hd : 45 ≤ d) (hA : z + 107 ≤ A) (hB : B ≤ H.2.1) (ha : z + 107 ≤ a) (haB : a < H.2.1) (hm : m < 6) (hc : H.1 a = some (.inr (11, [.int (Int32.ofNat (65 + m)), .ref e, v2, v3, v4, v5, v6, v7, v8]))) (hx : exT H A B nds fcs 45 lo i e f) (hf : f ≤ 2147483648) (hI : rnI z D H mo π Ls) (hj : j < 10) (hj1 : j ≠ 1) (hg : ∀ p ∈ Ls j, gdk p) : (∃ X, altS (evK nds fcs i) (gAs m) (Ls j) X ∧ ((insA X []).length ≤ 64 → ∃ K, C171 xt ct (TT xt ct N d) N a (z + so j) (z + 8) H = some (0, K) ∧ ruF z D H K ∧ rnI z D K mo (swp π 1 j) (swp (upL Ls 1 (insA X [])) 1 j)) ∧ (64 < (insA X []).length → ∃ K L, C171 xt ct (TT xt ct N d) N a (z + so j) (z + 8) H = some (-2, K) ∧ ruF z D H K ∧ rnI z D K mo π (upL Ls 1 L))) ∨ ((∃ p ∈ Ls j, evK nds fcs i p.1 = none) ∧ ∃ K L, C171 xt ct (TT xt ct N d) N a (z + so j) (z + 8) H = some (-1, K) ∧ ruF z D H K ∧ rnI z D K mo π (upL Ls 1 L)) := by
  obtain ⟨O, hO⟩ : ∃ O, TT xt ct N d = O := ⟨_, rfl⟩
  obtain ⟨h1, ⟨sp, h2⟩, h3, h4, h5⟩ := id hI
  have hz := h1.2.2.2
  have g9 : gA H (z + 8) 3 9 = some (z + so 1) := gA_of h2.1 rfl
  have k1 : gK H (z + so 1) 2 = some () := gK_of (h3.1 1 (by omega)).2.2.1
  obtain ⟨H1, b1, b2, b3⟩ := C136_do (xt := xt) (ct := ct) (O := O) (N := N) h3 (j := 1) (by omega)
  have I1 : rnI z D H1 mo π (upL Ls 1 []) := rnI_s hI b3 b2
  have n1 : mj_c1 .ne 1 = true := by decide
  have n0 : mj_c1 .ne 0 = false := by decide
  have e1' : mj_c1 .eq 1 = false := by decide
  have e0' : mj_c1 .eq 0 = true := by decide
  have em : Int32.ofNat (65 + m) - 65 = Int32.ofNat m := by
    rw [show (65 : Int32) = Int32.ofNat 65 from rfl, n_sub (by omega) (by omega), Nat.add_sub_cancel_left]
  have key : ∀ (rest : Ss) (row : Nat) (G : mj_H) (U L : Ss) (ft : Int32), row + rest.length = (Ls j).length → (Ls j).drop row = rest → rnI z D G mo π (upL Ls 1 L) → ruF z D H G → (∀ x ∈ U, x.1.length = 6) → ((ft = 1 ∧ L = U) ∨ (ft = 0 ∧ 64 < U.length)) → (∃ X, altS (evK nds fcs i) (gAs m) rest X ∧ ((insA X U).length ≤ 64 → ∃ K, t_lp (B171_15 xt ct O N) (rest.length + 1) (a, z + so j, z + 8, z + so 1, ft, Int32.ofNat row, G) = some (0, K) ∧ ruF z D H K ∧ rnI z D K mo (swp π 1 j) (swp (upL Ls 1 (insA X U)) 1 j)) ∧ (64 < (insA X U).length → ∃ K L', t_lp (B171_15 xt ct O N) (rest.length + 1) (a, z + so j, z + 8, z + so 1, ft, Int32.ofNat row, G) = some (-2, K) ∧ ruF z D H K ∧ rnI z D K mo π (upL Ls 1 L'))) ∨ ((∃ p ∈ rest, evK nds fcs i p.1 = none) ∧ ∃ K L', t_lp (B171_15 xt ct O N) (rest.length + 1) (a, z + so j, z + 8, z + so 1, ft, Int32.ofNat row, G) = some (-1, K) ∧ ruF z D H K ∧ rnI z D K mo π (upL Ls 1 L')) := by
    intro rest
    induction rest with
    | nil =>
      intro row G U L ft hrow _ hG hF h6 hft
      have hrow' : row + 0 = (Ls j).length := hrow
      have hs := hG.2.2.1
      have aj := hs.1 j hj
      rw [upL_ne hj1] at aj
      have a1 := hs.1 1 (by omega)
      rw [upL_eq] at a1
      have g2 : gI G (z + so j) 2 2 = some (Int32.ofNat (Ls j).length) := gI_of aj.2.2.1 rfl
      have kj : gK G (z + so j) 2 = some () := gK_of aj.2.2.1
      have cc := c_geT (a := row) (b := (Ls j).length) (by have := aj.2.1; omega) (by have := aj.2.1; omega) (by omega)
      refine Or.inl ⟨[], rfl, ?_⟩
      show (U.length ≤ 64 → _) ∧ (64 < U.length → _)
      rcases hft with ⟨rfl, rfl⟩ | ⟨rfl, hu⟩
      · refine ⟨fun _ => ?_, fun q => absurd a1.2.1 (by omega)⟩
        obtain ⟨K, s1, s2, s3⟩ := C165_do (xt := xt) (ct := ct) (O := O) (N := N) hs (i := 1) (j := j) (by omega) hj (fun q => hj1 q.symm)
        refine ⟨K, t_end ?_ _, ruF_trans hF (ruF_s s3 hD), rnI_s hG s3 s2⟩
        simp only [B171_15, g2, cc, cond_true, n1, kj, s1, Option.bind_some]
      · refine ⟨fun q => absurd q (by omega), fun _ => ⟨G, L, t_end ?_ _, hF, hG⟩⟩
        simp only [B171_15, g2, cc, cond_true, n0, cond_false, Option.bind_some]
    | cons p r ih =>
      intro row G U L ft hrow hdr hG hF h6 hft
      rw [List.length_cons] at hrow
      obtain ⟨hp, hr⟩ := dr_get hdr
      have hs := hG.2.2.1
      have aj := hs.1 j hj
      rw [upL_ne hj1] at aj
      have hlen := aj.2.1
      have g2 : gI G (z + so j) 2 2 = some (Int32.ofNat (Ls j).length) := gI_of aj.2.2.1 rfl
      have cc := c_geF (a := row) (b := (Ls j).length) (by omega) (by omega) (by omega)
      have ca := ru_at hF ha haB hc (by decide)
      have g1 : gA G a 11 1 = some e := gA_of ca rfl
      obtain ⟨-, ⟨sp', hb'⟩, -⟩ := id hG
      have k8 : gK G (z + 8) 3 = some () := gK_of hb'.1
      have nG := hF.2.1
      have xG := exT_dc (ruF_dsm hF hA hB) _ _ _ _ _ hx
      have hpg := hg p (List.mem_of_getElem? hp)
      obtain ⟨b, G2, q1, q2, q3, q4⟩ := C141_do (xt := xt) (ct := ct) (N := N) hN hD hA hnl hfc h40 hd xG (by omega) hf hG hj (row := row) (x := p) (by rw [upL_ne hj1]; exact hp) hpg
      rw [hO] at q1
      have F2 := ruF_trans hF q2
      have ca2 := ru_at F2 ha haB hc (by decide)
      have g0 : gI G2 a 11 0 = some (Int32.ofNat (65 + m)) := gI_of ca2 rfl
      rcases q4 with ⟨s, s', e1, e2, e3, e4, e5⟩ | ⟨e1, e2⟩
      · subst e2
        have k82 : gK G2 (z + 8) 3 = some () := gK_of e3.1
        have g6 : ∀ x ∈ gAs m p s', x.1.length = 6 := fun x hx => (gd_As p s' f hpg e5 x hx).2.1
        have U6 := insA_6 (gAs m p s') U g6 h6
        have step : ∀ (G3 : mj_H) (L3 : Ss) (ft3 : Int32), B171_15 xt ct O N (a, z + so j, z + 8, z + so 1, ft, Int32.ofNat row, G) = some (.inl (a, z + so j, z + 8, z + so 1, ft3, Int32.ofNat (row + 1), G3)) → rnI z D G3 mo π (upL Ls 1 L3) → ruF z D H G3 → ((ft3 = 1 ∧ L3 = insA (gAs m p s') U) ∨ (ft3 = 0 ∧ 64 < (insA (gAs m p s') U).length)) → (∃ X, altS (evK nds fcs i) (gAs m) (p :: r) X ∧ ((insA X U).length ≤ 64 → ∃ K, t_lp (B171_15 xt ct O N) ((p :: r).length + 1) (a, z + so j, z + 8, z + so 1, ft, Int32.ofNat row, G) = some (0, K) ∧ ruF z D H K ∧ rnI z D K mo (swp π 1 j) (swp (upL Ls 1 (insA X U)) 1 j)) ∧ (64 < (insA X U).length → ∃ K L', t_lp (B171_15 xt ct O N) ((p :: r).length + 1) (a, z + so j, z + 8, z + so 1, ft, Int32.ofNat row, G) = some (-2, K) ∧ ruF z D H K ∧ rnI z D K mo π (upL Ls 1 L'))) ∨ ((∃ q ∈ p :: r, evK nds fcs i q.1 = none) ∧ ∃ K L', t_lp (B171_15 xt ct O N) ((p :: r).length + 1) (a, z + so j, z + 8, z + so 1, ft, Int32.ofNat row, G) = some (-1, K) ∧ ruF z D H K ∧ rnI z D K mo π (upL Ls 1 L')) := by
          intro G3 L3 ft3 st I3 F3 hft3
          rw [List.length_cons, t_one st]
          rcases ih (row + 1) G3 (insA (gAs m p s') U) L3 ft3 (by omega) hr I3 F3 U6 hft3 with ⟨X, u1, u2⟩ | ⟨⟨y, y1, y2⟩, u⟩
          · refine Or.inl ⟨gAs m p s' ++ X, ⟨s, s', X, f, e1, e4, e5, rfl, u1⟩, ?_⟩
            rw [insA_app]
            exact u2
          · exact Or.inr ⟨⟨y, List.mem_cons_of_mem _ y1, y2⟩, u⟩
        rcases hft with ⟨rfl, rfl⟩ | ⟨rfl, hu⟩
        · obtain ⟨w1, w2⟩ := C172_do (xt := xt) (ct := ct) (O := O) (N := N) hN e3 e5.2.2.1 q3.2.2.1 (i := j) (j := 1) (row := row) (m := m) (x := p) hj (by omega) hj1 (by rw [upL_ne hj1]; exact hp) hm (by rw [upL_eq]; exact h6) hpg.2.1
          rw [upL_eq] at w1 w2
          by_cases hl : (insA (gAs m p s') L).length ≤ 64
          · obtain ⟨G3, t1, t2, t3⟩ := w1 hl
            rw [upL_up] at t2
            refine step G3 _ 1 ?_ (rnI_s q3 t3 t2) (ruF_trans F2 (ruF_s t3 hD)) (Or.inl ⟨rfl, rfl⟩)
            simp only [B171_15, g2, cc, cond_false, g1, k8, q1, n1, cond_true, e1', g0, k82, em, t1, J171_68, i_inc (show row < 1000000 by omega), Option.bind_some]
          · obtain ⟨G3, L3, t1, t2, t3⟩ := w2 (by omega)
            rw [upL_up] at t2
            refine step G3 L3 0 ?_ (rnI_s q3 t3 t2) (ruF_trans F2 (ruF_s t3 hD)) (Or.inr ⟨rfl, by omega⟩)
            simp only [B171_15, g2, cc, cond_false, g1, k8, q1, n1, cond_true, e1', g0, k82, em, t1, e0', J171_67, J171_68, i_inc (show row < 1000000 by omega), Option.bind_some]
        · refine step G2 L 0 ?_ q3 F2 (Or.inr ⟨rfl, by have := insA_len (gAs m p s') U; omega⟩)
          simp only [B171_15, g2, cc, cond_false, g1, k8, q1, n1, cond_true, e0', J171_67, J171_68, i_inc (show row < 1000000 by omega), Option.bind_some]
      · subst e2
        refine Or.inr ⟨⟨p, List.mem_cons_self, e1⟩, G2, L, t_end ?_ _, F2, q3⟩
        simp only [B171_15, g2, cc, cond_false, g1, k8, q1, n0, Option.bind_some]
  have go : ∀ n r, n ≤ N → t_lp (B171_15 xt ct O N) n (a, z + so j, z + 8, z + so 1, 1, Int32.ofNat 0, H1) = some r → C171 xt ct O N a (z + so j) (z + 8) H = some r := by
    intro n r hn hr
    have hr' : L171_15 xt ct O N (a, z + so j, z + 8, z + so 1, 1, 0, H1) = some r := t_lp_more _ _ _ hn hr
    simp only [C171, g9, k1, b1, hr', Option.bind_some]
  have hl64 := (h3.1 j hj).2.1
  rw [hO]
  rcases key (Ls j) 0 H1 [] [] 1 (by omega) rfl I1 (ruF_s b3 hD) (fun x hx => by cases hx) (Or.inl ⟨rfl, rfl⟩) with ⟨X, u1, u2, u3⟩ | ⟨y, K, L, u2, u3⟩
  · refine Or.inl ⟨X, u1, fun q => ?_, fun q => ?_⟩
    · obtain ⟨K, w1, w2⟩ := u2 q
      exact ⟨K, go _ _ (by omega) w1, w2⟩
    · obtain ⟨K, L, w1, w2⟩ := u3 q
      exact ⟨K, L, go _ _ (by omega) w1, w2⟩
  · exact Or.inr ⟨y, K, L, go _ _ (by omega) u2, u3⟩
end SMC
