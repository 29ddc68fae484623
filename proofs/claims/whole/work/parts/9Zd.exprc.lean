section EXD
variable {xt : mj_X} {ct : Nat → Value} {N z : Nat} {tx : List Int32}
theorem pst_lv {H : mj_H} {p st lv : Nat} {wp : Int32} (h : pst z H tx p st lv wp) (hf : fz z H) (hl : lv < 1000) : ∃ G, gI H (z + 5) 1 5 = some (Int32.ofNat lv) ∧ uF H (z + 5) 1 5 (.int (Int32.ofNat lv + 1)) = some G ∧ pst z G tx p st (lv + 1) wp ∧ fz z G ∧ (∀ q, q ≠ z + 5 → G.1 q = H.1 q) ∧ G.2 = H.2 := by
  obtain ⟨h1, ⟨cs, h2, h3⟩, ⟨fc, h5, h5'⟩, h6⟩ := h
  refine ⟨_, gI_of h1 rfl, uF_of h1, ⟨?_, ⟨cs, by rw [mj_put_ne (by omega)]; exact h2, h3⟩, ⟨fc, by rw [mj_put_ne (by omega)]; exact h5, h5'⟩, h6⟩, fz_fr hf (mj_put_ne (by omega)), fun q hq => mj_put_ne hq, rfl⟩
  rw [mj_put_eq, i_inc (by omega)]
  rfl
/-- a leaf, from the demand on that there may be one -/
theorem J90_do (hN : 2000 ≤ N) {O : OR} {H : mj_H} {r : Rd} {st : Nat} {wp : Int32} (h : pst z H tx r.1 st r.2.1 wp) (hf : fz z H) (hz : z + 107 ≤ H.2.1) (hl : r.2.1 ≤ 40) {d : Nat} : xres z tx st wp d r H (match rIt tx r.1 r.2.1 r.2.2.2.length with | .inl w => .inl w | .inr q => .inr (q.1, r.2.1 + 1, r.2.2.1 ++ [q.2.1], r.2.2.2 ++ q.2.2)) ((C86 xt ct O N (pk tx r.1) H).bind fun r63 => bif mj_c1 .ne r63.1 then J90_103 xt ct O N (z + 5) (pk tx r.1) (z + 5) r63.2 else (C95 xt ct O N (pk tx r.1) r63.2).bind fun r115 => bif mj_c1 .ne r115.1 then J90_103 xt ct O N (z + 5) (pk tx r.1) (z + 5) r115.2 else bif mj_c2 .eq (pk tx r.1) 100 then J90_103 xt ct O N (z + 5) (pk tx r.1) (z + 5) r115.2 else bif mj_c2 .ne (pk tx r.1) 91 then J90_108 xt ct O N (z + 5) (pk tx r.1) 0 (z + 5) r115.2 else J90_103 xt ct O N (z + 5) (pk tx r.1) (z + 5) r115.2) := by
  have n0 : mj_c1 .ne 0 = false := by decide
  have n1 : mj_c1 .ne 1 = true := by decide
  have r6 := C86_do (xt := xt) (ct := ct) (O := O) (N := N) (H := H) (c := pk tx r.1)
  have r9 := C95_do (xt := xt) (ct := ct) (O := O) (N := N) (H := H) (c := pk tx r.1)
  have k0 := pst_k h
  have gi : gI H (z + 5) 1 3 = some (Int32.ofNat r.1) := gI_of h.1 rfl
  have gl : gI H (z + 5) 1 5 = some (Int32.ofNat r.2.1) := gI_of h.1 rfl
  obtain ⟨x, hx⟩ : ∃ x, ((C86 xt ct O N (pk tx r.1) H).bind fun r63 => bif mj_c1 .ne r63.1 then J90_103 xt ct O N (z + 5) (pk tx r.1) (z + 5) r63.2 else (C95 xt ct O N (pk tx r.1) r63.2).bind fun r115 => bif mj_c1 .ne r115.1 then J90_103 xt ct O N (z + 5) (pk tx r.1) (z + 5) r115.2 else bif mj_c2 .eq (pk tx r.1) 100 then J90_103 xt ct O N (z + 5) (pk tx r.1) (z + 5) r115.2 else bif mj_c2 .ne (pk tx r.1) 91 then J90_108 xt ct O N (z + 5) (pk tx r.1) 0 (z + 5) r115.2 else J90_103 xt ct O N (z + 5) (pk tx r.1) (z + 5) r115.2) = x := ⟨_, rfl⟩
  rw [hx]
  by_cases hi : isNm (pk tx r.1) ∨ isDg (pk tx r.1) ∨ pk tx r.1 = 100 ∨ pk tx r.1 = 91
  · have way : x = J90_103 xt ct O N (z + 5) (pk tx r.1) (z + 5) H := by
      rw [← hx]
      by_cases k1 : isNm (pk tx r.1)
      · rw [if_pos k1] at r6
        simp only [r6, n1, cond_true, Option.bind_some]
      · rw [if_neg k1] at r6
        by_cases k2 : isDg (pk tx r.1)
        · rw [if_pos k2] at r9
          simp only [r6, n0, cond_false, r9, n1, cond_true, Option.bind_some]
        · rw [if_neg k2] at r9
          by_cases k3 : pk tx r.1 = 100
          · have a : mj_c2 .eq (pk tx r.1) 100 = true := decide_eq_true k3
            simp only [r6, n0, cond_false, r9, a, cond_true, Option.bind_some]
          · have a : mj_c2 .eq (pk tx r.1) 100 = false := decide_eq_false k3
            have b : mj_c2 .ne (pk tx r.1) 91 = false := decide_eq_false (fun q => q (by rcases hi with q | q | q | q; exact absurd q k1; exact absurd q k2; exact absurd q k3; exact q))
            simp only [r6, n0, cond_false, r9, a, b, Option.bind_some]
    by_cases h40 : r.2.1 < 40
    · have c40 : mj_c2 .ge (Int32.ofNat r.2.1) 40 = false := i_c2 (by show decide _ = false; apply decide_eq_false; rw [i_nat (by omega), show (40 : Int32).toInt = 40 from rfl]; omega)
      have er : rIt tx r.1 r.2.1 r.2.2.2.length = rLf tx r.1 r.2.2.2.length := by
        unfold rIt
        rw [if_pos ⟨hi, h40⟩]
      obtain ⟨H1, t1, t2, t3, t4, t5, t6⟩ := pst_lv h hf (by omega)
      have nn : H1.2.1 = H.2.1 := by rw [t6]
      have st0 : x = C96 xt ct O N (z + 5) (pk tx r.1) H1 := by
        rw [way]
        simp only [J90_103, J90_108, gi, k0, C87_yes, tc, gl, c40, cond_false, J90_130, t2, C96, Option.bind_some]
      obtain ⟨u1, u2⟩ := C96_do (xt := xt) (ct := ct) (O := O) (N := N) (nf := r.2.2.2.length) hN hi t3 t4 (by omega)
      rw [er, st0]
      cases e1 : rLf tx r.1 r.2.2.2.length with
      | inl w =>
        refine ⟨fun w' hw => ?_, fun q hq => (by cases hq)⟩
        cases hw
        exact rthr_fr (u1 w e1) (xfr_of (k := 0) t5 t6) (by omega)
      | inr q =>
        refine ⟨fun w hw => (by cases hw), fun q' hq => ?_⟩
        cases hq
        obtain ⟨a, G, f, v1, v2, v3, v4, v5⟩ := u2 q e1
        refine ⟨a, G, f, 1, ?_, v2, v3, xfr_trans (xfr_of (k := 0) t5 t6) v4 (by dsimp only; omega), Or.inl ⟨?_, q.2.1, r.2.2.2.length, q.2.2, ?_, ?_, ?_⟩, by dsimp only; omega⟩
        · exact v1
        · show _ = (r.2.2.1 ++ [q.2.1]).length - 1
          rw [List.length_append]
          dsimp only [List.length_cons, List.length_nil]
          omega
        · show (r.2.2.1 ++ [q.2.1])[(r.2.2.1 ++ [q.2.1]).length - 1]? = _
          rw [List.length_append, List.length_singleton, show r.2.2.1.length + 1 - 1 = r.2.2.1.length by omega, List.getElem?_append_right (Nat.le_refl _), Nat.sub_self]
          rfl
        · rw [nn] at v5
          exact v5
        · intro k y hy
          show (r.2.2.2 ++ q.2.2)[r.2.2.2.length + k]? = _
          rw [List.getElem?_append_right (by omega), show r.2.2.2.length + k - r.2.2.2.length = k by omega]
          exact hy
    · have c40 : mj_c2 .ge (Int32.ofNat r.2.1) 40 = true := i_c2 (by show decide _ = true; apply decide_eq_true; rw [i_nat (by omega), show (40 : Int32).toInt = 40 from rfl]; omega)
      have er : rIt tx r.1 r.2.1 r.2.2.2.length = .inl r.1 := by
        unfold rIt
        rw [if_neg (fun q => h40 q.2)]
      rw [er]
      refine ⟨fun w hw => ?_, fun q hq => (by cases hq)⟩
      cases hw
      have st0 : x = (C87 xt ct O N (z + 5) 0 (Int32.ofNat r.1) H).bind fun r92 => tc (fun z => z) r92 fun v95 => (gI r92.2 (z + 5) 1 5).bind fun r99 => (uF r92.2 (z + 5) 1 5 (.int (r99 + 1))).bind fun H102 => C96 xt ct O N (z + 5) (pk tx r.1) H102 := by
        rw [way]
        simp only [J90_103, J90_108, gi, k0, C87_yes, tc, gl, c40, cond_true, J90_130, C96, Option.bind_some]
      rw [st0]
      exact rthr_tc (C87_r h hf r.1)
  · have er : rIt tx r.1 r.2.1 r.2.2.2.length = .inl r.1 := by
      unfold rIt
      rw [if_neg (fun q => hi q.1)]
    rw [er]
    refine ⟨fun w hw => ?_, fun q hq => (by cases hq)⟩
    cases hw
    have k1 : ¬ isNm (pk tx r.1) := fun q => hi (Or.inl q)
    have k2 : ¬ isDg (pk tx r.1) := fun q => hi (Or.inr (Or.inl q))
    rw [if_neg k1] at r6
    rw [if_neg k2] at r9
    have a : mj_c2 .eq (pk tx r.1) 100 = false := decide_eq_false (fun q => hi (Or.inr (Or.inr (Or.inl q))))
    have b : mj_c2 .ne (pk tx r.1) 91 = true := decide_eq_true (fun q => hi (Or.inr (Or.inr (Or.inr q))))
    rw [← hx]
    simp only [r6, n0, cond_false, r9, a, b, cond_true, J90_108, gi, k0, Option.bind_some]
    exact rthr_tc (C87_r h hf r.1)
/-- how deep the class goes from here -/
def xmu (b d : Nat) : Nat := 5 * (5 - d) + (4 - b)
theorem CX_do (hN : 2000 ≤ N) {st : Nat} {wp : Int32} : ∀ (n b d : Nat) (r : Rd) (H : mj_H), b ≤ 4 → d ≤ 5 → xmu b d < n → pst z H tx r.1 st r.2.1 wp → fz z H → z + 107 ≤ H.2.1 → r.2.1 ≤ 40 → (b < 4 → xres z tx st wp d r H (rX tx n b d r) ((TT xt ct N n).2.1 (z + 5) (Int32.ofNat b) (Int32.ofNat d) H)) ∧ (b = 4 → xres z tx st wp d r H (rX tx n b d r) ((TT xt ct N n).2.2.1 (z + 5) (Int32.ofNat d) H)) := by
  intro n
  induction n with
  | zero => intro b d r H _ _ h; exact absurd h (by omega)
  | succ n ih =>
    intro b d r H hb hd hm h hf hz hl
    obtain ⟨O, hO⟩ : ∃ O, TT xt ct N n = O := ⟨_, rfl⟩
    rw [hO] at ih
    have k0 := pst_k h
    have q5 : (5 : Int32).toInt = 5 := rfl
    have q3 : (3 : Int32).toInt = 3 := rfl
    have ed : Int32.ofNat d + 1 = Int32.ofNat (d + 1) := i_inc (by omega)
    constructor
    · intro hb4
      show xres z tx st wp d r H (rX tx (n + 1) b d r) (C89 xt ct (TT xt ct N n) N (z + 5) (Int32.ofNat b) (Int32.ofNat d) H)
      rw [hO, rX]
      by_cases hb3 : b < 3
      · rw [if_pos hb3]
        have c3 : mj_c2 .lt (Int32.ofNat b) 3 = true := i_c2 (by show decide _ = true; apply decide_eq_true; rw [i_nat (by omega), q3]; omega)
        have e1 : Int32.ofNat b + 1 = Int32.ofNat (b + 1) := i_inc (by omega)
        have m1 : xmu (b + 1) d < n := by unfold xmu at hm ⊢; omega
        obtain ⟨s1, s2⟩ := (ih (b + 1) d r H (by omega) hd m1 h hf hz hl).1 (by omega)
        have st0 : C89 xt ct O N (z + 5) (Int32.ofNat b) (Int32.ofNat d) H = (O.2.1 (z + 5) (Int32.ofNat (b + 1)) (Int32.ofNat d) H).bind fun r6 => tc (fun z => z) r6 fun v9 => bif mj_c1 .ne (Int32.ofNat b) then J89_30 xt ct O N (z + 5) (Int32.ofNat b) (Int32.ofNat d) v9 40 r6.2 else J89_30 xt ct O N (z + 5) (Int32.ofNat b) (Int32.ofNat d) v9 1 r6.2 := by
          simp only [C89, c3, cond_true, k0, e1, Option.bind_some]
        rw [st0]
        cases es : rX tx n (b + 1) d r with
        | inl w =>
          refine ⟨fun w' hw => ?_, fun q hq => (by cases hq)⟩
          cases hw
          exact rthr_tc (s1 w es)
        | inr q =>
          dsimp only
          obtain ⟨a, G, f, n1, v1, v2, v3, v4, v5, v6⟩ := s2 q es
          have lq := rX_ok n (b + 1) d r q h.2.2.2.2 hl es
          obtain ⟨most, hmost⟩ : ∃ m, (if b = 0 then 1 else 40) = m := ⟨_, rfl⟩
          have hm40 : most ≤ 40 := by rw [← hmost]; split <;> omega
          have em : (O.2.1 (z + 5) (Int32.ofNat (b + 1)) (Int32.ofNat d) H).bind (fun r6 => tc (fun z => z) r6 fun v9 => bif mj_c1 .ne (Int32.ofNat b) then J89_30 xt ct O N (z + 5) (Int32.ofNat b) (Int32.ofNat d) v9 40 r6.2 else J89_30 xt ct O N (z + 5) (Int32.ofNat b) (Int32.ofNat d) v9 1 r6.2) = t_lp (B89_35 xt ct O N) N (z + 5, Int32.ofNat b, Int32.ofNat d, a, Int32.ofNat most, 0, G) := by
            rw [v1, ← hmost]
            by_cases b0 : b = 0
            · subst b0
              rfl
            · have c0 : mj_c1 .ne (Int32.ofNat b) = true := i_ne0 (by rw [i_nat (by omega)]; omega)
              rw [if_neg b0]
              simp only [tc, c0, cond_true, J89_30, L89_35, Option.bind_some]
              rfl
          rw [em, hmost]
          have lp := L89_do (xt := xt) (ct := ct) (O := O) (N := N) (n := n) (sub := rX tx n (b + 1) d) hb3 (fun r q h1 h2 h3 => rX_ok n (b + 1) d r q h1 h2 h3) (fun r' H' h1 h2 h3 h4 => (ih (b + 1) d r' H' (by omega) hd m1 h1 h2 h3 h4).1 (by omega)) (r0 := r) (H0 := H) hz hm40 most 0 q G a f n1 v6 lq.2.2.2 (by omega) v2 v3 lq.1.2.2.2.2.2.2.2 lq.1.1 (by have := lq.2.2.1; omega) v4 v5
          -- with more rounds
          refine ⟨fun w hw => ?_, fun q' hq => ?_⟩
          · obtain ⟨F, pt, u1, u2, u3, u4⟩ := lp.1 w hw
            exact ⟨F, pt, u1, u2, t_lp_more _ _ _ (by omega) u3, u4⟩
          · obtain ⟨a', G', f', n', u1, u2⟩ := lp.2 q' hq
            exact ⟨a', G', f', n', t_lp_more _ _ _ (by omega) u1, u2⟩
      · have b3 : b = 3 := by omega
        subst b3
        rw [if_neg hb3, if_pos rfl]
        have c3 : mj_c2 .lt (Int32.ofNat 3) 3 = false := by decide
        have m1 : xmu 4 d < n := by unfold xmu at hm ⊢; omega
        obtain ⟨s1, s2⟩ := (ih 4 d r H (by omega) hd m1 h hf hz hl).2 rfl
        have st0 : C89 xt ct O N (z + 5) (Int32.ofNat 3) (Int32.ofNat d) H = (O.2.2.1 (z + 5) (Int32.ofNat d) H).bind fun r70 => tc (fun z => z) r70 fun v73 => some (.inl v73, r70.2) := by
          simp only [C89, c3, cond_false, k0, Option.bind_some]
        rw [st0]
        refine ⟨fun w hw => rthr_tc (s1 w hw), fun q hq => ?_⟩
        obtain ⟨a, G, f, n1, v1, v2⟩ := s2 q hq
        refine ⟨a, G, f, n1, ?_, v2⟩
        simp only [v1, tc, Option.bind_some]
    · intro hb4
      subst hb4
      show xres z tx st wp d r H (rX tx (n + 1) 4 d r) (C90 xt ct (TT xt ct N n) N (z + 5) (Int32.ofNat d) H)
      rw [hO, rX, if_neg (by decide), if_neg (by decide)]
      have rd := C84_do (xt := xt) (ct := ct) (O := O) (N := N) h
      have gi : gI H (z + 5) 1 3 = some (Int32.ofNat r.1) := gI_of h.1 rfl
      have nod : ¬ d < 5 → rthr z tx r.1 r.1 H (J90_17 xt ct O N (z + 5) (Int32.ofNat d) (pk tx r.1) H) := by
        intro h5
        have c5 : mj_c2 .ge (Int32.ofNat d) 5 = true := i_c2 (by show decide _ = true; apply decide_eq_true; rw [i_nat (by omega), q5]; omega)
        simp only [J90_17, c5, cond_true, J90_28, gi, k0, Option.bind_some]
        exact rthr_tc (C87_r h hf r.1)
      have yes : d < 5 → mj_c2 .ge (Int32.ofNat d) 5 = false := fun h5 => i_c2 (by show decide _ = false; apply decide_eq_false; rw [i_nat (by omega), q5]; omega)
      by_cases k45 : pk tx r.1 = 45
      · have c45 : mj_c2 .eq (pk tx r.1) 45 = true := decide_eq_true k45
        have d45 : mj_c2 .ne (pk tx r.1) 45 = false := decide_eq_false (fun q => q k45)
        have st0 : C90 xt ct O N (z + 5) (Int32.ofNat d) H = J90_17 xt ct O N (z + 5) (Int32.ofNat d) (pk tx r.1) H := by
          simp only [C90, k0, rd, c45, cond_true, Option.bind_some]
        rw [st0, if_pos k45]
        by_cases h5 : d < 5
        · have hlt := pkz_is k45 (by decide)
          obtain ⟨H1, t1, t2, t3, t4, t5, t6⟩ := pst_inc h hf hlt
          have n1 : H1.2.1 = H.2.1 := by rw [t6]
          obtain ⟨H2, hH2⟩ : ∃ H2, mj_new H1 2 (.inr (6, [.null, .long 0])) = H2 := ⟨_, rfl⟩
          have p2 := pst_new (n := 2) (e := .inr (6, [.null, .long 0])) t3 (by omega)
          have f2 := fz_new (n := 2) (e := .inr (6, [.null, .long 0])) t4 (by omega)
          have x12 : xfr z H1 H2 1 := by rw [← hH2]; exact xfr_new (by decide) (by decide)
          have c12 : H2.1 H1.2.1 = some (.inr (6, [.null, .long 0])) := by rw [← hH2]; exact mj_new_eq
          have e2 : H2.2.1 = H1.2.1 + 1 := by rw [← hH2]; rfl
          rw [hH2] at p2 f2
          have x2 : xfr z H H2 1 := xfr_trans (xfr_of (k := 0) t5 t6) x12 (by omega)
          have k2 := pst_k p2
          have m1 : xmu 4 (d + 1) < n := by unfold xmu at hm ⊢; omega
          obtain ⟨s1, s2⟩ := (ih 4 (d + 1) (r.1 + 1, r.2) H2 (by omega) (by omega) m1 p2 f2 (by omega) hl).2 rfl
          have st1 : J90_17 xt ct O N (z + 5) (Int32.ofNat d) (pk tx r.1) H = (O.2.2.1 (z + 5) (Int32.ofNat (d + 1)) H2).bind fun r48 => tc (fun z => z) r48 fun v51 => (gC r48.2 H1.2.1).bind fun k55 => (C91 xt ct O N H1.2.1 v51 r48.2).bind fun r58 => J90_75 xt ct O N H1.2.1 r58 := by
            simp only [J90_17, yes h5, cond_false, J90_28, gi, k0, C87_yes, tc, t2, d45, nO, hH2, k2, ed, Option.bind_some]
          rw [st1, if_pos h5]
          cases es : rX tx n 4 (d + 1) (r.1 + 1, r.2) with
          | inl w =>
            refine ⟨fun w' hw => ?_, fun q hq => (by cases hq)⟩
            cases hw
            exact rthr_tc (rthr_fr (s1 w es) x2 (Nat.le_refl _))
          | inr q =>
            refine ⟨fun w hw => (by cases hw), fun q' hq => ?_⟩
            cases hq
            obtain ⟨a, G, f, n2, v1, v2, v3, v4, v5, v6⟩ := s2 q es
            have lq := rX_ok n 4 (d + 1) (r.1 + 1, r.2) q p2.2.2.2.2 hl es
            have lq2 := lq.2
            dsimp only at v4 v5 v6 lq2
            have hv4 := v4.2
            have cg : G.1 H1.2.1 = some (.inr (6, [.null, .long 0])) := by
              rw [v4.1 _ (by omega) (by omega) (by omega)]
              exact c12
            have fr := exT_fal _ _ _ _ _ v5
            have e3 := C91_do (xt := xt) (ct := ct) (O := O) (N := N) fr.1 cg
            obtain ⟨G', hG'⟩ : ∃ G', mj_put G H1.2.1 (.inr (6, [.ref a, .long (Int64.ofNat f)])) = G' := ⟨_, rfl⟩
            have gp := pst_put (e := .inr (6, [.ref a, .long (Int64.ofNat f)])) v2 (show z + 107 ≤ H1.2.1 by omega)
            have gf := fz_put (e := .inr (6, [.ref a, .long (Int64.ofNat f)])) v3 (show z + 107 ≤ H1.2.1 by omega)
            have gx := xfr_put (e := .inr (6, [.ref a, .long (Int64.ofNat f)])) (xfr_trans x2 v4 (m := q.1 - r.1) (by omega)) (show H.2.1 ≤ H1.2.1 by omega)
            rw [hG'] at e3 gp gf gx
            have cG' : G'.1 H1.2.1 = some (.inr (6, [.ref a, .long (Int64.ofNat f)])) := by rw [← hG']; exact mj_put_eq
            have nG' : ∀ q', q' ≠ H1.2.1 → G'.1 q' = G.1 q' := fun q' hq => by rw [← hG']; exact mj_put_ne hq
            have bG1 : G'.2.1 = G.2.1 := by rw [← hG']; rfl
            have el : (q.2.2.1 ++ [ngN (q.2.2.1.length - 1)]).length = q.2.2.1.length + 1 := by rw [List.length_append]; rfl
            refine ⟨H1.2.1, G', f, n2 + 1, ?_, gp, gf, gx, Or.inr (Or.inl ⟨q.2.2.1.length - 1, a, ?_, by omega, by omega, ?_, ?_, cG'⟩), by dsimp only; omega⟩
            · simp only [v1, tc, gC_of cg, e3, J90_75, Option.bind_some]
            · show (q.2.2.1 ++ [ngN (q.2.2.1.length - 1)]).length - 1 = _
              omega
            · have := exT_mono (G := G') (A' := H.2.1) (B' := G'.2.1) (nds' := [ngN (q.2.2.1.length - 1)]) (fcs' := []) (show H.2.1 ≤ H2.2.1 by omega) (by omega) (fun q' h3 h4 => nG' q' (by omega)) n2 n2 _ _ _ _ (Nat.le_refl _) v5
              rw [List.append_nil] at this
              exact this
            · show (q.2.2.1 ++ [ngN (q.2.2.1.length - 1)])[(q.2.2.1 ++ [ngN (q.2.2.1.length - 1)]).length - 1]? = _
              rw [el, show q.2.2.1.length + 1 - 1 = q.2.2.1.length by omega, List.getElem?_append_right (Nat.le_refl _), Nat.sub_self]
              rfl
        · rw [if_neg h5]
          refine ⟨fun w hw => ?_, fun q hq => (by cases hq)⟩
          cases hw
          exact nod h5
      · have c45 : mj_c2 .eq (pk tx r.1) 45 = false := decide_eq_false k45
        have d45 : mj_c2 .ne (pk tx r.1) 45 = true := decide_eq_true k45
        rw [if_neg k45]
        by_cases k40 : pk tx r.1 = 40
        · have c40 : mj_c2 .ne (pk tx r.1) 40 = false := decide_eq_false (fun q => q k40)
          have st0 : C90 xt ct O N (z + 5) (Int32.ofNat d) H = J90_17 xt ct O N (z + 5) (Int32.ofNat d) (pk tx r.1) H := by
            simp only [C90, k0, rd, c45, c40, cond_false, Option.bind_some]
          rw [st0, if_pos k40]
          by_cases h5 : d < 5
          · have hlt := pkz_is k40 (by decide)
            obtain ⟨H1, t1, t2, t3, t4, t5, t6⟩ := pst_inc h hf hlt
            have n1 : H1.2.1 = H.2.1 := by rw [t6]
            have k1 := pst_k t3
            have m1 : xmu 0 (d + 1) < n := by unfold xmu at hm ⊢; omega
            obtain ⟨s1, s2⟩ := (ih 0 (d + 1) (r.1 + 1, r.2) H1 (by omega) (by omega) m1 t3 t4 (by omega) hl).1 (by omega)
            have s1' : ∀ w, rX tx n 0 (d + 1) (r.1 + 1, r.2) = .inl w → rthr z tx w (r.1 + 1) H1 (O.2.1 (z + 5) 0 (Int32.ofNat (d + 1)) H1) := s1
            have st1 : J90_17 xt ct O N (z + 5) (Int32.ofNat d) (pk tx r.1) H = (C93 xt ct O N (z + 5) (Int32.ofNat (d + 1)) H1).bind fun r35 => tc (fun z => z) r35 fun v38 => J90_75 xt ct O N v38 r35.2 := by
              simp only [J90_17, yes h5, cond_false, J90_28, gi, k0, C87_yes, tc, t2, d45, cond_true, k1, ed, Option.bind_some]
            rw [st1, if_pos h5]
            cases es : rX tx n 0 (d + 1) (r.1 + 1, r.2) with
            | inl w =>
              refine ⟨fun w' hw => ?_, fun q hq => (by cases hq)⟩
              cases hw
              have : rthr z tx w (r.1 + 1) H1 (C93 xt ct O N (z + 5) (Int32.ofNat (d + 1)) H1) := by
                simp only [C93, k1, Option.bind_some]
                exact rthr_tc (s1' w es)
              exact rthr_tc (rthr_fr this (xfr_of (k := 0) t5 t6) (by omega))
            | inr q =>
              dsimp only
              obtain ⟨a, G, f, n2, v1, v2, v3, v4, v5, v6⟩ := s2 q es
              have v1' : O.2.1 (z + 5) 0 (Int32.ofNat (d + 1)) H1 = some (.inl a, G) := v1
              have lq := rX_ok n 0 (d + 1) (r.1 + 1, r.2) q t3.2.2.2.2 hl es
              have lq2 := lq.2
              dsimp only at v4 v5 v6 lq2
              have k2 := pst_k v2
              obtain ⟨w1, w2⟩ := C94_r (xt := xt) (ct := ct) (O := O) (N := N) (c := 41) v2 v3 (by decide)
              by_cases h41 : pk tx q.1 = 41
              · rw [if_pos h41]
                refine ⟨fun w hw => (by cases hw), fun q' hq => ?_⟩
                cases hq
                obtain ⟨G2, y1, y2, y3, y4, y5⟩ := w1 h41
                have e93 : C93 xt ct O N (z + 5) (Int32.ofNat (d + 1)) H1 = some (.inl a, G2) := by
                  simp only [C93, k1, v1', tc, k2, y1, Option.bind_some]
                have bG1 : G2.2.1 = G.2.1 := by rw [y5]
                have hv4 := v4.2
                refine ⟨a, G2, f, n2, ?_, y2, y3, xfr_trans (xfr_trans (xfr_of (k := 0) t5 t6) v4 (Nat.le_refl _)) (xfr_of (k := 0) y4 y5) (by dsimp only; omega), ?_, by dsimp only; omega⟩
                · simp only [e93, tc, J90_75, Option.bind_some]
                · rw [bG1, ← n1]
                  exact exT_mono0 (Nat.le_refl _) (Nat.le_refl _) (fun q' h3 h4 => y4 q' (by omega)) v5
              · rw [if_neg h41]
                refine ⟨fun w hw => ?_, fun q' hq => (by cases hq)⟩
                cases hw
                have : rthr z tx q.1 r.1 H (C93 xt ct O N (z + 5) (Int32.ofNat (d + 1)) H1) := by
                  have e93 : C93 xt ct O N (z + 5) (Int32.ofNat (d + 1)) H1 = (C94 xt ct O N (z + 5) 41 G).bind fun r14 => tc (fun z => z) r14 fun v17 => some (.inl a, r14.2) := by
                    simp only [C93, k1, v1', tc, k2, Option.bind_some]
                  rw [e93]
                  exact rthr_tc (rthr_fr (w2 h41) (xfr_trans (xfr_of (k := 0) t5 t6) v4 (Nat.le_refl _)) (by omega))
                exact rthr_tc this
          · rw [if_neg h5]
            refine ⟨fun w hw => ?_, fun q hq => (by cases hq)⟩
            cases hw
            exact nod h5
        · have c40 : mj_c2 .ne (pk tx r.1) 40 = true := decide_eq_true k40
          rw [if_neg k40]
          have st0 := J90_do (xt := xt) (ct := ct) (O := O) (N := N) hN h hf hz hl (d := d)
          have e : C90 xt ct O N (z + 5) (Int32.ofNat d) H = ((C86 xt ct O N (pk tx r.1) H).bind fun r63 => bif mj_c1 .ne r63.1 then J90_103 xt ct O N (z + 5) (pk tx r.1) (z + 5) r63.2 else (C95 xt ct O N (pk tx r.1) r63.2).bind fun r115 => bif mj_c1 .ne r115.1 then J90_103 xt ct O N (z + 5) (pk tx r.1) (z + 5) r115.2 else bif mj_c2 .eq (pk tx r.1) 100 then J90_103 xt ct O N (z + 5) (pk tx r.1) (z + 5) r115.2 else bif mj_c2 .ne (pk tx r.1) 91 then J90_108 xt ct O N (z + 5) (pk tx r.1) 0 (z + 5) r115.2 else J90_103 xt ct O N (z + 5) (pk tx r.1) (z + 5) r115.2) := by
            simp only [C90, k0, rd, c45, c40, cond_false, cond_true, Option.bind_some]
          rw [e]
          exact st0
end EXD
