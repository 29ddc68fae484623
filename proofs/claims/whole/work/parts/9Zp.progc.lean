/-! PROGRAMS, THE CLASS -/
theorem chn_app {H G : mj_H} {x : Nat × Nat} {a f : Nat} {w0 w1 w2 w3 w4 w6 w7 : Value} (hx : H.1 x.1 = some (.inr (11, [w0, w1, w2, w3, w4, .long (Int64.ofNat x.2), w6, w7, rv none]))) (hx' : G.1 x.1 = some (.inr (11, [w0, w1, w2, w3, w4, .long (Int64.ofNat x.2), w6, w7, rv (some a)]))) (hn : chn G [(a, f)] (some a)) : ∀ (l : List (Nat × Nat)) (o : Option Nat), (∀ y ∈ l, G.1 y.1 = H.1 y.1) → chn H (l ++ [x]) o → chn G (l ++ [x] ++ [(a, f)]) o := by
  intro l
  induction l with
  | nil =>
    intro o _ h
    obtain ⟨h0, hb, s, e, t, u, v, p, q, nx, h1, h2⟩ := h
    exact ⟨h0, hb, w0, w1, w2, w3, w4, w6, w7, some a, hx', hn⟩
  | cons y r ih =>
    intro o old h
    obtain ⟨h0, hb, s, e, t, u, v, p, q, nx, h1, h2⟩ := h
    exact ⟨h0, hb, s, e, t, u, v, p, q, nx, (old y List.mem_cons_self).trans h1, ih nx (fun z hz => old z (List.mem_cons_of_mem _ hz)) h2⟩
theorem bk_snoc {P : Nat → St → Nat → Prop} {sts : List St} {x : Nat × Nat} {sx : Nat} {t : St} (h1 : sts[sx]? = some t) (h2 : t.2.2.2.2.2.2 = x.2) (h3 : P sx t x.1) : ∀ (l : List (Nat × Nat)) (lo : Nat), bk P sts l lo sx → bk P sts (l ++ [x]) lo t.2.2.2.2.2.1 := by
  intro l
  induction l with
  | nil =>
    intro lo h
    have e : lo = sx := h
    subst e
    exact ⟨t, h1, h2, h3, rfl⟩
  | cons y r ih =>
    intro lo h
    obtain ⟨t', k1, k2, k3, k4⟩ := h
    exact ⟨t', k1, k2, k3, ih _ k4⟩
section PRG
variable {xt : mj_X} {ct : Nat → Value} {O : OR} {N z : Nat} {tx : List Int32} {wp : Int32}
/-- what the loop over a program's statements has made -/
def pinv (dep : Nat) (H0 H : mj_H) (lo : Nat) (s : Rs) (l : List (Nat × Nat)) (fst last : Option Nat) : Prop := (l = [] ∧ fst = none ∧ last = none ∧ s.1.length = lo) ∨ ∃ (l' : List (Nat × Nat)) (x : Nat × Nat) (B1 sx m : Nat) (t : St) (c : Int32) (e : Nat) (v2 v3 v4 v6 v7 : Value), l = l' ++ [x] ∧ last = some x.1 ∧ chn H l fst ∧ bk (sT H s.1 s.2.2.2.1 s.2.2.2.2 m H0.2.1 B1) s.1 l' lo sx ∧ H0.2.1 ≤ B1 ∧ B1 ≤ H.2.1 ∧ s.1[sx]? = some t ∧ t.2.2.2.2.2.2 = x.2 ∧ t.2.2.2.2.2.1 = s.1.length ∧ sT H s.1 s.2.2.2.1 s.2.2.2.2 m B1 H.2.1 sx t x.1 ∧ H.1 x.1 = some (.inr (11, [.int c, .ref e, v2, v3, v4, .long (Int64.ofNat x.2), v6, v7, rv none])) ∧ m + dep ≤ 5
theorem L83_do {dep lo : Nat} (hdep : dep ≤ 5) {sub : Rs → Nat ⊕ (Rs × Nat)} (hok : ∀ s q, s.2.1 ≤ tx.length → s.2.2.1 ≤ 40 → s.1.length ≤ 24 → sub s = .inr q → sLt tx s q.1) (hs : ∀ (s : Rs) (H : mj_H), pst z H tx s.2.1 s.1.length s.2.2.1 wp → fz z H → z + 107 ≤ H.2.1 → s.2.2.1 ≤ 40 → s.1.length ≤ 24 → sres z tx wp dep s H (sub s) (C85 xt ct O N (z + 5) (Int32.ofNat dep) H)) {s0 : Rs} {H0 : mj_H} (hz0 : z + 107 ≤ H0.2.1) : ∀ (m i : Nat) (s : Rs) (H : mj_H) (l : List (Nat × Nat)) (fst last : Option Nat), i + m = 25 → pst z H tx s.2.1 s.1.length s.2.2.1 wp → fz z H → s.2.2.1 ≤ 40 → s.1.length ≤ 24 → s0.2.1 ≤ s.2.1 → xfr z H0 H (s.2.1 - s0.2.1) → pinv dep H0 H lo s l fst last → (∀ w, rBl tx sub m s = .inl w → rthr z tx w s0.2.1 H0 (t_lp (B83_7 xt ct O N) (m + 1) (z + 5, Int32.ofNat dep, fst, last, Int32.ofNat i, H))) ∧ (∀ q, rBl tx sub m s = .inr q → ∃ o G l' m', t_lp (B83_7 xt ct O N) (m + 1) (z + 5, Int32.ofNat dep, fst, last, Int32.ofNat i, H) = some (.inl o, G) ∧ pst z G tx q.1.2.1 q.1.1.length q.1.2.2.1 wp ∧ fz z G ∧ xfr z H0 G (q.1.2.1 - s0.2.1) ∧ chn G l' o ∧ bk (sT G q.1.1 q.1.2.2.2.1 q.1.2.2.2.2 m' H0.2.1 G.2.1) q.1.1 l' lo q.1.1.length ∧ l'.map Prod.snd = l.map Prod.snd ++ q.2 ∧ m' + dep ≤ 5) := by
  -- the end
  have stop : ∀ (s : Rs) (H : mj_H) (l : List (Nat × Nat)) (fst last : Option Nat), pinv dep H0 H lo s l fst last → ∃ m', chn H l fst ∧ bk (sT H s.1 s.2.2.2.1 s.2.2.2.2 m' H0.2.1 H.2.1) s.1 l lo s.1.length ∧ m' + dep ≤ 5 := by
    intro s H l fst last h
    rcases h with ⟨rfl, rfl, rfl, h4⟩ | ⟨l', x, B1, sx, m, t, c, e, v2, v3, v4, v6, v7, rfl, h2, h3, h4, h5, h6, h7, h8, h9, h10, h11, h12⟩
    · exact ⟨0, rfl, h4.symm, by omega⟩
    · refine ⟨m, h3, ?_, h12⟩
      have u1 := (bk_imp (Q := sT H s.1 s.2.2.2.1 s.2.2.2.2 m H0.2.1 H.2.1) l' lo sx (fun s t a x => sT_end x) (fun s' t' a' p q w => by
        have := sT_mono (nds' := []) (fcs' := []) m m H0.2.1 B1 H0.2.1 H.2.1 s' t' a' (Nat.le_refl _) (Nat.le_refl _) h6 (fun _ _ _ => rfl) (sts' := s.1) (fun i p q => rfl) w
        rw [List.append_nil, List.append_nil] at this
        exact this) (fun i p q => rfl) h4).1
      have u2 : sT H s.1 s.2.2.2.1 s.2.2.2.2 m H0.2.1 H.2.1 sx t x.1 := by
        have := sT_mono (nds' := []) (fcs' := []) m m B1 H.2.1 H0.2.1 H.2.1 sx t x.1 (Nat.le_refl _) h5 (Nat.le_refl _) (fun _ _ _ => rfl) (sts' := s.1) (fun i p q => rfl) h10
        rw [List.append_nil, List.append_nil] at this
        exact this
      have := bk_snoc h7 h8 u2 l' lo u1
      rw [h9] at this
      exact this
  intro m
  induction m with
  | zero =>
    intro i s H l fst last hi h hf hl h4 h0 hx hv
    have c : mj_c2 .gt (Int32.ofNat i) 24 = true := i_c2 (by show decide _ = true; apply decide_eq_true; rw [i_nat (by omega), show (24 : Int32).toInt = 24 from rfl]; omega)
    refine ⟨fun w hw => (by cases hw), fun q hq => ?_⟩
    cases hq
    obtain ⟨m', s1, s2, s3⟩ := stop s H l fst last hv
    refine ⟨fst, H, l, m', ?_, h, hf, hx, s1, s2, (List.append_nil _).symm, s3⟩
    apply t_lp_map
    simp only [B83_7, c, cond_true, J83_62]
  | succ m ih =>
    intro i s H l fst last hi h hf hl h4 h0 hx hv
    have c : mj_c2 .gt (Int32.ofNat i) 24 = false := i_c2 (by show decide _ = false; apply decide_eq_false; rw [i_nat (by omega), show (24 : Int32).toInt = 24 from rfl]; omega)
    have k0 := pst_k h
    have rd := C84_do (xt := xt) (ct := ct) (O := O) (N := N) h
    by_cases he : pk tx s.2.1 = 0 ∨ pk tx s.2.1 = 125
    · rw [rBl, if_pos he]
      refine ⟨fun w hw => (by cases hw), fun q hq => ?_⟩
      cases hq
      obtain ⟨m', s1, s2, s3⟩ := stop s H l fst last hv
      refine ⟨fst, H, l, m', ?_, h, hf, hx, s1, s2, (List.append_nil _).symm, s3⟩
      apply t_lp_map
      rcases he with q | q
      · have c1 : mj_c1 .eq (pk tx s.2.1) = true := by rw [q]; decide
        simp only [B83_7, c, cond_false, k0, rd, c1, cond_true, J83_62, Option.bind_some]
      · have c1 : mj_c1 .eq (pk tx s.2.1) = false := by rw [q]; decide
        have c2 : mj_c2 .eq (pk tx s.2.1) 125 = true := decide_eq_true q
        simp only [B83_7, c, cond_false, k0, rd, c1, c2, cond_true, J83_62, Option.bind_some]
    · rw [rBl, if_neg he]
      have c1 : mj_c1 .eq (pk tx s.2.1) = false := decide_eq_false (fun q => he (Or.inl q))
      have c2 : mj_c2 .eq (pk tx s.2.1) 125 = false := decide_eq_false (fun q => he (Or.inr q))
      obtain ⟨a1, a2⟩ := hs s H h hf (by have := hx.2; omega) hl h4
      have fB : ∀ x, C85 xt ct O N (z + 5) (Int32.ofNat dep) H = x → B83_7 xt ct O N (z + 5, Int32.ofNat dep, fst, last, Int32.ofNat i, H) = x.bind fun r34 => tc (fun z => (.inr z)) r34 fun v37 => bif !(Option.isNone last) then last.bind fun a43 => (uF r34.2 a43 11 8 (rv v37)).bind fun H46 => J83_53 xt ct O N (z + 5) (Int32.ofNat dep) fst (Int32.ofNat i) v37 H46 else J83_53 xt ct O N (z + 5) (Int32.ofNat dep) v37 (Int32.ofNat i) v37 r34.2 := by
        intro x hx
        simp only [B83_7, c, c1, c2, cond_false, k0, rd, hx, Option.bind_some]
      cases es : sub s with
      | inl w =>
        refine ⟨fun w' hw => ?_, fun q hq => (by cases hq)⟩
        cases hw
        obtain ⟨F, pt, u1, u2, u3, u4, u5, u6, u7⟩ := a1 w es
        refine ⟨F, pt, u1, u2, ?_, u4, u5, by omega, xfr_trans hx u7 (by omega)⟩
        rw [t_lp, fB _ u3]
        rfl
      | inr q =>
        dsimp only
        obtain ⟨a, G, m1, t, cc, e, v2, v3, v4, v6, v7, b1, b2, b3, b4, b5, b6, b7, b8, b9, b10, b11, b12⟩ := a2 q es
        have lq := hok s q h.2.2.2.2 hl h4 es
        have lq1 := lq.1.1
        have lq2 := lq.1.2
        have lq3 := lq.2
        have hb4 := b4.2
        have hx2 := hx.2
        have hab : H.2.1 ≤ a ∧ a < G.2.1 := by
          cases m1 with
          | zero => exact b8.elim
          | succ m1 => exact ⟨b8.1, b8.2.1⟩
        have lqn : (∃ k, q.1.2.2.2.1 = s.2.2.2.1 ++ k) ∧ ∃ k, q.1.2.2.2.2 = s.2.2.2.2 ++ k := by
          obtain ⟨-, -, x1, -, x2, -⟩ := lq1
          exact ⟨x1, x2⟩
        have i1 : Int32.ofNat i + 1 = Int32.ofNat (i + 1) := i_inc (by omega)
        -- the next round's state
        have key : ∃ G' fst', B83_7 xt ct O N (z + 5, Int32.ofNat dep, fst, last, Int32.ofNat i, H) = some (.inl (z + 5, Int32.ofNat dep, fst', some a, Int32.ofNat (i + 1), G')) ∧ pst z G' tx q.1.2.1 q.1.1.length q.1.2.2.1 wp ∧ fz z G' ∧ xfr z H0 G' (q.1.2.1 - s0.2.1) ∧ pinv dep H0 G' lo q.1 (l ++ [(a, q.2)]) fst' (some a) := by
          rcases hv with ⟨rfl, rfl, rfl, w4⟩ | ⟨l', x, B1, sx, m2, t2, c2', e2, y2, y3, y4, y6, y7, rfl, rfl, w3, w4, w5, w6, w7, w8, w9, w10, w11, w12⟩
          · refine ⟨G, some a, ?_, b2, b3, xfr_trans hx b4 (by omega), Or.inr ⟨[], (a, q.2), H.2.1, s.1.length, m1, t, cc, e, v2, v3, v4, v6, v7, rfl, rfl, ⟨rfl, ⟨b10, b11⟩, .int cc, .ref e, v2, v3, v4, v6, v7, none, b9, rfl⟩, w4.symm, by omega, by omega, b5, b6, b7, b8, b9, b12⟩⟩
            rw [fB _ b1, ← i1]
            simp only [tc, Option.isNone_none, Bool.not_true, cond_false, J83_53, Option.bind_some]
          · -- the last one gets a follower
            have hx1 : B1 ≤ x.1 ∧ x.1 < H.2.1 := by
              cases m2 with
              | zero => exact w10.elim
              | succ m2 => exact ⟨w10.1, w10.2.1⟩
            have gx : G.1 x.1 = some (.inr (11, [.int c2', .ref e2, y2, y3, y4, .long (Int64.ofNat x.2), y6, y7, rv none])) := (b4.1 x.1 hx1.2 (by omega) (by omega)).trans w11
            have u : uF G x.1 11 8 (rv (some a)) = some (mj_put G x.1 (.inr (11, [.int c2', .ref e2, y2, y3, y4, .long (Int64.ofNat x.2), y6, y7, rv (some a)]))) := by rw [uF_of gx]; rfl
            obtain ⟨G', hG'⟩ : ∃ G', mj_put G x.1 (.inr (11, [.int c2', .ref e2, y2, y3, y4, .long (Int64.ofNat x.2), y6, y7, rv (some a)])) = G' := ⟨_, rfl⟩
            rw [hG'] at u
            have cG' : G'.1 x.1 = some (.inr (11, [.int c2', .ref e2, y2, y3, y4, .long (Int64.ofNat x.2), y6, y7, rv (some a)])) := by rw [← hG']; exact mj_put_eq
            have nG' : ∀ q', q' ≠ x.1 → G'.1 q' = G.1 q' := fun q' hq => by rw [← hG']; exact mj_put_ne hq
            have bG' : G'.2 = G.2 := by rw [← hG']; rfl
            have bG1 : G'.2.1 = G.2.1 := by rw [bG']
            have gp := pst_put (e := .inr (11, [.int c2', .ref e2, y2, y3, y4, .long (Int64.ofNat x.2), y6, y7, rv (some a)])) b2 (show z + 107 ≤ x.1 by omega)
            have gf := fz_put (e := .inr (11, [.int c2', .ref e2, y2, y3, y4, .long (Int64.ofNat x.2), y6, y7, rv (some a)])) b3 (show z + 107 ≤ x.1 by omega)
            have gxf := xfr_put (e := .inr (11, [.int c2', .ref e2, y2, y3, y4, .long (Int64.ofNat x.2), y6, y7, rv (some a)])) (xfr_trans hx b4 (m := q.1.2.1 - s0.2.1) (by omega)) (show H0.2.1 ≤ x.1 by omega)
            rw [hG'] at gp gf gxf
            have rl := bk_rng _ _ _ w4
            have aG : G'.1 a = some (.inr (11, [.int cc, .ref e, v2, v3, v4, .long (Int64.ofNat q.2), v6, v7, rv none])) := (nG' a (by omega)).trans b9
            have chn' : chn G' (l' ++ [x] ++ [(a, q.2)]) fst := chn_app w11 cG' ⟨rfl, ⟨b10, b11⟩, .int cc, .ref e, v2, v3, v4, v6, v7, none, aG, rfl⟩ l' fst (fun y hy => by rw [nG' y.1 (by have := rl.1 y hy; omega), b4.1 y.1 (by have := rl.1 y hy; omega) (by have := rl.1 y hy; omega) (by have := rl.1 y hy; omega)]) w3
            -- those before, in the new heap
            have hold : ∀ q', H0.2.1 ≤ q' → q' < B1 → G'.1 q' = H.1 q' := fun q' p1 p2 => by rw [nG' q' (by omega), b4.1 q' (by omega) (by omega) (by omega)]
            have hsx := bk_le (fun s t a x => sT_end x) _ _ _ w4
            have hsx2 : sx < s.1.length := (List.getElem?_eq_some_iff.mp w7).1
            obtain ⟨⟨kn, hkn⟩, ⟨kf, hkf⟩⟩ := lqn
            have o1 := (bk_imp (Q := sT G' q.1.1 q.1.2.2.2.1 q.1.2.2.2.2 (max m2 m1) H0.2.1 H.2.1) (sts' := q.1.1) l' lo sx (fun s t a x => sT_end x) (fun s' t' a' p1 p2 w => by
              rw [hkn, hkf]
              exact sT_mono m2 (max m2 m1) H0.2.1 B1 H0.2.1 H.2.1 s' t' a' (Nat.le_max_left _ _) (Nat.le_refl _) w6 hold (fun i q1 q2 => lq2.2.2 i (by omega)) w) (fun i q1 q2 => lq2.2.2 i (by omega)) w4).1
            have o2 : sT G' q.1.1 q.1.2.2.2.1 q.1.2.2.2.2 (max m2 m1) H0.2.1 H.2.1 sx t2 x.1 := by
              have s1 : sT G s.1 s.2.2.2.1 s.2.2.2.2 m2 B1 H.2.1 sx t2 x.1 := by
                have := sT_mono (nds' := []) (fcs' := []) m2 m2 B1 H.2.1 B1 H.2.1 sx t2 x.1 (Nat.le_refl _) (Nat.le_refl _) (Nat.le_refl _) (fun q' p1 p2 => b4.1 q' (by omega) (by omega) (by omega)) (sts' := s.1) (fun i p q => rfl) w10
                rw [List.append_nil, List.append_nil] at this
                exact this
              have s2 := sT_next s1 gx (some a)
              rw [hG'] at s2
              rw [hkn, hkf]
              exact sT_mono m2 (max m2 m1) B1 H.2.1 H0.2.1 H.2.1 sx t2 x.1 (Nat.le_max_left _ _) w5 (Nat.le_refl _) (fun _ _ _ => rfl) (fun i q1 q2 => lq2.2.2 i (by omega)) s2
            have o3 := bk_snoc ((lq2.2.2 sx hsx2).trans w7) w8 o2 l' lo o1
            rw [w9] at o3
            have o4 : sT G' q.1.1 q.1.2.2.2.1 q.1.2.2.2.2 (max m2 m1) H.2.1 G'.2.1 s.1.length t a := by
              have := sT_mono (nds' := []) (fcs' := []) m1 (max m2 m1) H.2.1 G.2.1 H.2.1 G'.2.1 s.1.length t a (Nat.le_max_right _ _) (Nat.le_refl _) (by omega) (fun q' p1 p2 => nG' q' (by omega)) (sts' := q.1.1) (fun i p q => rfl) b8
              rw [List.append_nil, List.append_nil] at this
              exact this
            refine ⟨G', fst, ?_, gp, gf, gxf, Or.inr ⟨l' ++ [x], (a, q.2), H.2.1, s.1.length, max m2 m1, t, cc, e, v2, v3, v4, v6, v7, rfl, rfl, chn', o3, by omega, by omega, b5, b6, b7, o4, aG, by omega⟩⟩
            rw [fB _ b1, ← i1]
            simp only [tc, Option.isNone_some, Bool.not_false, cond_true, u, J83_53, Option.bind_some]
        obtain ⟨G', fst', f1, f2, f3, f4, f5⟩ := key
        obtain ⟨j1, j2⟩ := ih (i + 1) q.1 G' (l ++ [(a, q.2)]) fst' (some a) (by omega) f2 f3 lq1.2.2.2.2.2.2.2 lq2.2.1 (by omega) f4 f5
        rw [t_one f1]
        cases e2 : rBl tx sub m q.1 with
        | inl w =>
          refine ⟨fun w' hw => ?_, fun q hq => (by cases hq)⟩
          cases hw
          exact j1 w e2
        | inr u =>
          refine ⟨fun w hw => (by cases hw), fun q' hq => ?_⟩
          cases hq
          obtain ⟨o, G2, l2, m3, g1, g2, g3, g4, g5, g6, g7, g8⟩ := j2 u e2
          refine ⟨o, G2, l2, m3, g1, g2, g3, g4, g5, g6, ?_, g8⟩
          rw [g7, List.map_append, List.append_assoc]
          rfl
theorem CP_do (hN : 2000 ≤ N) : ∀ n, PRc (TT xt ct N n) z tx wp n := by
  intro n
  induction n with
  | zero => intro dep s H hd hn; exact absurd hn (by omega)
  | succ n ih =>
    intro dep s H hd hn h hf hz hl h4
    show pres z tx wp dep s H (rB tx (n + 1) dep s) (C83 xt ct (TT xt ct N n) N (z + 5) (Int32.ofNat dep) H)
    have hX : XPc (TT xt ct N n) z tx wp n := fun st r H h1 h2 h3 h4 => (CX_do (xt := xt) (ct := ct) hN n 0 0 r H (by decide) (by decide) (by unfold xmu; omega) h1 h2 h3 h4).1 (by decide)
    obtain ⟨a1, a2⟩ := L83_do (xt := xt) (ct := ct) (O := TT xt ct N n) (N := N) (z := z) (tx := tx) (wp := wp) (dep := dep) (lo := s.1.length) (sub := rS tx (rB tx n) (rX tx n 0 0) dep) (by omega) (fun s q _ k2 _ k => rS_ok (fun d s q a b c e => rB_ok n d s q a b c e) (fun r q a b e => rX_ok n 0 0 r q a b e) k2 k) (fun s H p1 p2 p3 p4 p5 => C85_do hN hn hX ih hd p1 p2 p3 p4 p5) (s0 := s) (H0 := H) hz 25 0 s H [] none none rfl h hf hl h4 (Nat.le_refl _) xfr_refl (Or.inl ⟨rfl, rfl, rfl, rfl⟩)
    have e : C83 xt ct (TT xt ct N n) N (z + 5) (Int32.ofNat dep) H = t_lp (B83_7 xt ct (TT xt ct N n) N) N (z + 5, Int32.ofNat dep, none, none, Int32.ofNat 0, H) := rfl
    rw [e]
    refine ⟨fun w hw => ?_, fun q hq => ?_⟩
    · obtain ⟨F, pt, u1, u2, u3, u4⟩ := a1 w hw
      exact ⟨F, pt, u1, u2, t_lp_more _ _ _ (by omega) u3, u4⟩
    · obtain ⟨o, G, l, m, b1, b2, b3, b4, b5, b6, b7, b8⟩ := a2 q hq
      exact ⟨o, G, l, m, t_lp_more _ _ _ (by omega) b1, b2, b3, b4, b5, b6, b7, b8⟩
end PRG
