section STO
variable {xt : mj_X} {ct : Nat → Value} {O : OR} {N z : Nat} {tx : List Int32} {wp : Int32}
theorem C116_do (hN : 2000 ≤ N) {n dep : Nat} (hn : 31 + (5 - dep) ≤ n + 1) (hP : PRc O z tx wp n) {s : Rs} {H0 H : mj_H} (hd : dep ≤ 4) (h : pst z H tx (s.2.1 + 1) (s.1.length + 1) s.2.2.1 wp) (hf : fz z H) (hz : z + 107 ≤ H.2.1) (hl : s.2.2.1 ≤ 40) (h4 : s.1.length < 24) (hx : xfr z H0 H 0) : sres z tx wp dep s H0 (rRep tx (rB tx n) dep s) (C116 xt ct O N (z + 5) (Int32.ofNat dep) H) := by
  have k0 := pst_k h
  have hx0 := hx.2
  obtain ⟨x1, x2⟩ := C99_r (xt := xt) (ct := ct) (O := O) (N := N) (lo := 0) (hi := 20) hN h hf
  have st0 : ∀ x, C99 xt ct O N (z + 5) 0 20 H = x → C116 xt ct O N (z + 5) (Int32.ofNat dep) H = x.bind fun r4 => tc (fun z => z) r4 fun v7 => (nO r4.2 11 9 [.int 0, .null, .int 0, .null, .null, .long 0, .long 0, .long 0, .null]).bind fun r11 => (nO r11.2 7 3 [.int 0, .int 0, .long 0]).bind fun r14 => (gC r14.2 r14.1).bind fun k17 => (C97 xt ct O N r14.1 (-1000) v7 r14.2).bind fun r20 => (gK r20 (z + 5) 1).bind fun k23 => (C110 xt ct O N (z + 5) (Int32.ofNat dep) r20).bind fun r26 => tc (fun z => z) r26 fun v29 => (gC r26.2 r11.1).bind fun k33 => (C111 xt ct O N r11.1 42 r14.1 v7 v29 none r26.2).bind fun r36 => some (.inl (some r11.1), r36) := by
    intro x hx
    simp only [C116, k0, hx, Option.bind_some]
  unfold rRep
  cases es : rNum tx (s.2.1 + 1) 0 20 with
  | inl w =>
    refine ⟨fun w' hw => ?_, fun q hq => (by cases hq)⟩
    cases hw
    rw [st0 _ rfl]
    exact rthr_tc (rthr_fr (x2 w es) hx (by omega))
  | inr v =>
    dsimp only
    obtain ⟨H1, a1, a2, a3, a4, a5⟩ := x1 v es
    have lv := rNum_le h.2.2.2.2 es
    rw [show (20 : Int32).toInt = 20 from rfl] at lv
    have n1 : H1.2.1 = H.2.1 := by rw [a5]
    obtain ⟨H2, hH2⟩ : ∃ G, mj_new H1 9 (.inr (11, [.int 0, .null, .int 0, .null, .null, .long 0, .long 0, .long 0, .null])) = G := ⟨_, rfl⟩
    have p2 := pst_new (n := 9) (e := .inr (11, [.int 0, .null, .int 0, .null, .null, .long 0, .long 0, .long 0, .null])) a2 (by omega)
    have f2 := fz_new (n := 9) (e := .inr (11, [.int 0, .null, .int 0, .null, .null, .long 0, .long 0, .long 0, .null])) a3 (by omega)
    have xx2 : xfr z H1 H2 1 := by rw [← hH2]; exact xfr_new (by decide) (by decide)
    have c2 : H2.1 H1.2.1 = some (.inr (11, [.int 0, .null, .int 0, .null, .null, .long 0, .long 0, .long 0, .null])) := by rw [← hH2]; exact mj_new_eq
    have n2 : H2.2.1 = H1.2.1 + 1 := by rw [← hH2]; rfl
    rw [hH2] at p2 f2
    obtain ⟨H4, -, d2, d3, d4, d5, d6, d7, d8⟩ := plain_new (xt := xt) (ct := ct) (O := O) (N := N) (k := 1) (n := -1000) (m := Int32.ofNat v.2) p2 f2 (by omega) (by decide)
    have x4 : xfr z H0 H4 (v.1 - s.2.1) := xfr_trans (xfr_trans (xfr_trans hx (xfr_of (k := 0) a4 a5) (Nat.le_refl _)) xx2 (k := 0) (l := 1) (Nat.le_refl _)) d6 (by omega)
    have k4 := pst_k d4
    have c4 : H4.1 H1.2.1 = some (.inr (11, [.int 0, .null, .int 0, .null, .null, .long 0, .long 0, .long 0, .null])) := (d6.1 H1.2.1 (by omega) (by omega) (by omega)).trans c2
    obtain ⟨t0, ht0⟩ : ∃ t : St, (3, v.2, 0, 0, s.1.length + 1, s.1.length + 1, 1) = t := ⟨_, rfl⟩
    rw [ht0]
    have el : (s.1 ++ [t0]).length = s.1.length + 1 := by rw [List.length_append]; rfl
    obtain ⟨b1, b2⟩ := C110_do (xt := xt) (ct := ct) (O := O) (N := N) hN hn hP (s := (s.1 ++ [t0], v.1, s.2.2)) hd (by dsimp only; rw [el]; exact d4) d5 (by omega) hl (by dsimp only; omega)
    have st1 : C116 xt ct O N (z + 5) (Int32.ofNat dep) H = (C110 xt ct O N (z + 5) (Int32.ofNat dep) H4).bind fun r26 => tc (fun z => z) r26 fun v29 => (gC r26.2 H1.2.1).bind fun k33 => (C111 xt ct O N H1.2.1 42 H2.2.1 (Int32.ofNat v.2) v29 none r26.2).bind fun r36 => some (.inl (some H1.2.1), r36) := by
      rw [st0 _ a1]
      simp only [tc, nO, hH2, d3, d2, k4, Option.bind_some]
    rw [st1]
    cases e1 : rBr tx (rB tx n) dep (s.1 ++ [t0], v.1, s.2.2) with
    | inl w =>
      refine ⟨fun w' hw => ?_, fun q hq => (by cases hq)⟩
      cases hw
      exact rthr_tc (rthr_fr (b1 w e1) x4 (by dsimp only; omega))
    | inr q =>
      dsimp only
      obtain ⟨o1, G, l1, m1, w1, w2, w3, w4, w5, w6, w7, w8⟩ := b2 q e1
      have lq := rBr_ok (fun d s q a b c e => rB_ok n d s q a b c e) (s := (s.1 ++ [t0], v.1, s.2.2)) a2.2.2.2.2 hl (by dsimp only; omega) e1
      have lq1 := lq.1.2
      have lq2 := lq.2
      dsimp only at w4 w6 lq1 lq2
      rw [el] at w6 lq1
      have hw4 := w4.2
      have r1 := bk_rng _ _ _ w6
      have ff1 : fo q.2 1 = fold_ l1 1 := by rw [fold_fo, w7]
      have cg : G.1 H1.2.1 = some (.inr (11, [.int 0, .null, .int 0, .null, .null, .long 0, .long 0, .long 0, .null])) := (w4.1 _ (by omega) (by omega) (by omega)).trans c4
      have cp : G.1 H2.2.1 = some (.inr (7, [.int (-1000), .int (Int32.ofNat v.2), .long 1])) := (w4.1 _ (by omega) (by omega) (by omega)).trans d8
      have e3 := C111_do (xt := xt) (ct := ct) (O := O) (N := N) (tm := v.2) (c := 42) (l2 := []) (o2 := none) (fe := 1) (e := H2.2.1) hN (by decide) cg w5 (show chn G [] none from rfl) (fun x hx => by have := r1.1 x hx; omega) (fun x hx => absurd hx List.not_mem_nil) (bk_len w6 lq1.2.1) (by decide) ⟨7, 2, _, cp, rfl, rfl⟩ (by decide) (by omega) (by omega)
      rw [if_pos rfl] at e3
      obtain ⟨f, hfe⟩ : ∃ f, pwN (fold_ l1 1) v.2 1 = f := ⟨_, rfl⟩
      have q1 : 1 ≤ fold_ l1 1 := fold_pos l1 1 (by decide) (fun x hx => (chn_pos l1 o1 w5 x hx).1)
      have fb : 1 ≤ f ∧ f ≤ 2147483649 := by rw [← hfe]; exact pwN_bd q1 _ _ (by decide) (by decide)
      rw [hfe] at e3
      obtain ⟨s1, hs1⟩ : ∃ x, mlN (fold_ l1 1) (fold_ [] 1) / fold_ l1 1 = x := ⟨_, rfl⟩
      obtain ⟨s2, hs2⟩ : ∃ x, mlN (fold_ l1 1) (fold_ [] 1) / fold_ [] 1 = x := ⟨_, rfl⟩
      rw [hs1, hs2] at e3
      obtain ⟨cell, hcell⟩ : ∃ cell : mj_E, (.inr (11, [.int 42, .ref H2.2.1, .int (Int32.ofNat v.2), rv o1, rv none, .long (Int64.ofNat f), .long (Int64.ofNat s1), .long (Int64.ofNat s2), rv none])) = cell := ⟨_, rfl⟩
      rw [hcell] at e3
      have xg : xfr z H0 G (q.1.2.1 - s.2.1) := xfr_trans x4 w4 (by omega)
      rw [ff1, hfe]
      obtain ⟨t, ht⟩ : ∃ t : St, (3, v.2, 0, 0, s.1.length + 1, q.1.1.length, f) = t := ⟨_, rfl⟩
      rw [ht]
      have hGf : ∀ q, H2.2.1 ≤ q → q < G.2.1 → (mj_put G H1.2.1 cell).1 q = G.1 q := fun q h1 h2 => mj_put_ne (by omega)
      have u1 := bk_up (G := mj_put G H1.2.1 cell) (m' := m1) (A' := H2.2.1) (B' := G.2.1) (sts' := q.1.1.set s.1.length t) (Nat.le_refl _) (show H2.2.1 ≤ H4.2.1 by omega) (Nat.le_refl _) (fun q' h1 h2 => hGf q' (by omega) h2) ⟨[], (List.append_nil _).symm⟩ ⟨[], (List.append_nil _).symm⟩ (fun j h1 h2 => List.getElem?_set_ne (by omega)) w5 w6
      refine ⟨fun w hw => (by cases hw), fun q' hq => ?_⟩
      cases hq
      refine ⟨H1.2.1, mj_put G H1.2.1 cell, m1 + 1, t, 42, H2.2.1, .int (Int32.ofNat v.2), rv o1, rv none, .long (Int64.ofNat s1), .long (Int64.ofNat s2), ?_, ?_, fz_put w3 (by omega), xfr_put xg (by omega) (by rw [← hcell]; intro l h; cases h; done), ?_, ?_, ?_, ?_, ?_, fb.1, fb.2, by omega⟩
      · simp only [w1, tc, gC_of cg, e3, Option.bind_some]
      · show pst z _ tx _ (q.1.1.set s.1.length t).length _ _
        rw [List.length_set]
        exact pst_put w2 (by omega)
      · show (q.1.1.set s.1.length t)[s.1.length]? = _
        rw [List.getElem?_set_self (by omega)]
      · rw [← ht]
      · show t.2.2.2.2.2.1 = (q.1.1.set s.1.length t).length
        rw [List.length_set, ← ht]
      · rw [← ht] at u1 ⊢
        refine ⟨by omega, by show H1.2.1 < G.2.1; omega, by show s.1.length + 1 ≤ q.1.1.length; omega, 42, H2.2.1, Int32.ofNat v.2, o1, none, none, s1, s2, H2.2.1, G.2.1, by omega, Nat.le_refl _, Or.inl (by omega), by rw [mj_put_eq, ← hcell], Or.inr (Or.inr ⟨rfl, rfl, by dsimp only; omega, rfl, rfl, Nat.le_refl _, by omega, ?_, l1, u1.1, u1.2, hfe.symm⟩)⟩
        rw [hGf _ (Nat.le_refl _) (by omega)]
        exact cp
      · rw [mj_put_eq, ← hcell]
theorem pst_st {H : mj_H} {p st lv : Nat} (h : pst z H tx p st lv wp) (hf : fz z H) (hl : st < 1000) : ∃ G, gI H (z + 5) 1 4 = some (Int32.ofNat st) ∧ uF H (z + 5) 1 4 (.int (Int32.ofNat st + 1)) = some G ∧ pst z G tx p (st + 1) lv wp ∧ fz z G ∧ (∀ q, q ≠ z + 5 → G.1 q = H.1 q) ∧ G.2 = H.2 := by
  obtain ⟨h1, ⟨cs, h2, h3⟩, ⟨fc, h5, h5'⟩, h6⟩ := h
  refine ⟨_, gI_of h1 rfl, uF_of h1, ⟨?_, ⟨cs, by rw [mj_put_ne (by omega)]; exact h2, h3⟩, ⟨fc, by rw [mj_put_ne (by omega)]; exact h5, h5'⟩, h6⟩, fz_fr hf (mj_put_ne (by omega)), fun q hq => mj_put_ne hq, rfl⟩
  rw [mj_put_eq, i_inc (by omega)]
  rfl
theorem sres_tc {dep : Nat} {s : Rs} {H : mj_H} {R : Nat ⊕ (Rs × Nat)} {x : Option ((Option Nat ⊕ Nat) × mj_H)} (h : sres z tx wp dep s H R x) : sres z tx wp dep s H R (x.bind fun r => tc (fun z => z) r fun v => some (.inl v, r.2)) := by
  refine ⟨fun w hw => rthr_tc (h.1 w hw), fun q hq => ?_⟩
  obtain ⟨a, G, m, t, c, e, v2, v3, v4, v6, v7, k1, k2⟩ := h.2 q hq
  refine ⟨a, G, m, t, c, e, v2, v3, v4, v6, v7, ?_, k2⟩
  rw [k1]
  rfl
theorem C85_do (hN : 2000 ≤ N) {n dep : Nat} (hn : 31 + (5 - dep) ≤ n + 1) (hX : XPc O z tx wp n) (hP : PRc O z tx wp n) {s : Rs} {H : mj_H} (hd : dep ≤ 4) (h : pst z H tx s.2.1 s.1.length s.2.2.1 wp) (hf : fz z H) (hz : z + 107 ≤ H.2.1) (hl : s.2.2.1 ≤ 40) (h4 : s.1.length ≤ 24) : sres z tx wp dep s H (rS tx (rB tx n) (rX tx n 0 0) dep s) (C85 xt ct O N (z + 5) (Int32.ofNat dep) H) := by
  have n0 : mj_c1 .ne 0 = false := by decide
  have n1 : mj_c1 .ne 1 = true := by decide
  have k0 := pst_k h
  have rd := C84_do (xt := xt) (ct := ct) (O := O) (N := N) h
  have r6 := C86_do (xt := xt) (ct := ct) (O := O) (N := N) (H := H) (c := pk tx s.2.1)
  have gi : gI H (z + 5) 1 3 = some (Int32.ofNat s.2.1) := gI_of h.1 rfl
  have gs : gI H (z + 5) 1 4 = some (Int32.ofNat s.1.length) := gI_of h.1 rfl
  obtain ⟨c, hc⟩ : ∃ c, pk tx s.2.1 = c := ⟨_, rfl⟩
  rw [hc] at rd r6
  unfold rS
  rw [hc]
  by_cases hi : isNm c ∨ c = 33 ∨ c = 63 ∨ c = 42
  · have way : C85 xt ct O N (z + 5) (Int32.ofNat dep) H = J85_36 xt ct O N (z + 5) (Int32.ofNat dep) c 1 (z + 5) H := by
      by_cases k1 : isNm c
      · rw [if_pos k1] at r6
        simp only [C85, k0, rd, r6, n1, cond_true, J85_31, Option.bind_some]
      · rw [if_neg k1] at r6
        by_cases k2 : c = 33
        · have a : mj_c2 .eq c 33 = true := decide_eq_true k2
          simp only [C85, k0, rd, r6, n0, cond_false, a, cond_true, J85_31, Option.bind_some]
        · have a : mj_c2 .eq c 33 = false := decide_eq_false k2
          by_cases k3 : c = 63
          · have b : mj_c2 .eq c 63 = true := decide_eq_true k3
            simp only [C85, k0, rd, r6, n0, cond_false, a, b, cond_true, J85_31, Option.bind_some]
          · have b : mj_c2 .eq c 63 = false := decide_eq_false k3
            have d : mj_c2 .ne c 42 = false := decide_eq_false (fun q => q (by rcases hi with q | q | q | q; exact absurd q k1; exact absurd q k2; exact absurd q k3; exact q))
            simp only [C85, k0, rd, r6, n0, cond_false, a, b, d, J85_31, Option.bind_some]
    have q24 : (24 : Int32).toInt = 24 := rfl
    by_cases h24 : s.1.length < 24
    · have c24 : mj_c2 .ge (Int32.ofNat s.1.length) 24 = false := i_c2 (by show decide _ = false; apply decide_eq_false; rw [i_nat (by omega), q24]; omega)
      rw [if_pos ⟨hi, h24⟩]
      have hlt : s.2.1 < tx.length := by
        rcases hi with k | k | k | k
        · exact pkz_nm (by rw [hc]; exact k)
        · exact pkz_is (hc.trans k) (by decide)
        · exact pkz_is (hc.trans k) (by decide)
        · exact pkz_is (hc.trans k) (by decide)
      obtain ⟨H1, t1, t2, t3, t4, t5, t6⟩ := pst_st h hf (by omega)
      obtain ⟨H2, u1, u2, u3, u4, u5, u6⟩ := pst_inc t3 t4 hlt
      have hx2 : xfr z H H2 0 := xfr_trans (xfr_of (k := 0) t5 t6) (xfr_of (k := 0) u5 u6) (Nat.le_refl _)
      have nn : H2.2.1 = H.2.1 := by rw [u6, t6]
      have k2 := pst_k u3
      have st0 : C85 xt ct O N (z + 5) (Int32.ofNat dep) H = (bif mj_c2 .ne c 63 then bif mj_c2 .ne c 42 then bif mj_c2 .eq c 33 then J85_121 xt ct O N (z + 5) c H2 else (C94 xt ct O N (z + 5) 61 H2).bind fun r93 => tc (fun z => z) r93 fun v96 => J85_121 xt ct O N (z + 5) c r93.2 else (C116 xt ct O N (z + 5) (Int32.ofNat dep) H2).bind fun r103 => tc (fun z => z) r103 fun v106 => some (.inl v106, r103.2) else (C88 xt ct O N (z + 5) (Int32.ofNat dep) H2).bind fun r113 => tc (fun z => z) r113 fun v116 => some (.inl v116, r113.2)) := by
        rw [way]
        simp only [J85_36, gi, k0, C87_yes, tc, gs, c24, cond_false, J85_58, t2, u1, u2, k2, Option.bind_some]
      rw [st0]
      by_cases k63 : c = 63
      · have d : mj_c2 .ne c 63 = false := decide_eq_false (fun q => q k63)
        rw [if_pos k63, d]
        exact sres_tc (C88_do (xt := xt) (ct := ct) (O := O) (N := N) hN hn hX hP hd u3 u4 (by omega) hl h24 hx2)
      · have d : mj_c2 .ne c 63 = true := decide_eq_true k63
        rw [if_neg k63, d]
        by_cases k42 : c = 42
        · have d2 : mj_c2 .ne c 42 = false := decide_eq_false (fun q => q k42)
          rw [if_pos k42, d2]
          exact sres_tc (C116_do (xt := xt) (ct := ct) (O := O) (N := N) hN hn hP hd u3 u4 (by omega) hl h24 hx2)
        · have d2 : mj_c2 .ne c 42 = true := decide_eq_true k42
          rw [if_neg k42, d2]
          by_cases k33 : c = 33
          · have d3 : mj_c2 .eq c 33 = true := decide_eq_true k33
            rw [if_pos k33, d3]
            exact J85_121_do (xt := xt) (ct := ct) (O := O) (N := N) hN hd hX u3 u4 (by omega) hl hx2 (by omega) (Or.inr ⟨rfl, k33⟩)
          · have d3 : mj_c2 .eq c 33 = false := decide_eq_false k33
            rw [if_neg k33, d3]
            have knm : isNm c := by rcases hi with q | q | q | q; exact q; exact absurd q k33; exact absurd q k63; exact absurd q k42
            obtain ⟨w1, w2⟩ := C94_r (xt := xt) (ct := ct) (O := O) (N := N) (c := 61) u3 u4 (by decide)
            by_cases h61 : pk tx (s.2.1 + 1) = 61
            · rw [if_pos h61]
              obtain ⟨H3, y1, y2, y3, y4, y5⟩ := w1 h61
              have n3 : H3.2.1 = H2.2.1 := by rw [y5]
              have e : ((C94 xt ct O N (z + 5) 61 H2).bind fun r93 => tc (fun z => z) r93 fun v96 => J85_121 xt ct O N (z + 5) c r93.2) = J85_121 xt ct O N (z + 5) c H3 := by
                simp only [y1, tc, Option.bind_some]
              show sres z tx wp dep s H _ ((C94 xt ct O N (z + 5) 61 H2).bind fun r93 => tc (fun z => z) r93 fun v96 => J85_121 xt ct O N (z + 5) c r93.2)
              rw [e]
              have ec : c = Int32.ofNat (65 + (c.toInt - 65).toNat) := i_eq (by omega)
              exact J85_121_do (xt := xt) (ct := ct) (O := O) (N := N) hN hd hX y2 y3 (by omega) hl (xfr_trans hx2 (xfr_of (k := 0) y4 y5) (Nat.le_refl _)) (by omega) (Or.inl ⟨rfl, by omega, ec⟩)
            · rw [if_neg h61]
              refine ⟨fun w hw => ?_, fun q hq => (by cases hq)⟩
              cases hw
              exact rthr_tc (rthr_fr (w2 h61) hx2 (by omega))
    · have c24 : mj_c2 .ge (Int32.ofNat s.1.length) 24 = true := i_c2 (by show decide _ = true; apply decide_eq_true; rw [i_nat (by omega), q24]; omega)
      rw [if_neg (fun q => h24 q.2), way]
      refine ⟨fun w hw => ?_, fun q hq => (by cases hq)⟩
      cases hw
      simp only [J85_36, gi, k0, C87_yes, tc, gs, c24, cond_true, J85_58, Option.bind_some]
      exact rthr_tc (C87_r h hf s.2.1)
  · rw [if_neg (fun q => hi q.1)]
    refine ⟨fun w hw => ?_, fun q hq => (by cases hq)⟩
    cases hw
    have k1 : ¬ isNm c := fun q => hi (Or.inl q)
    rw [if_neg k1] at r6
    have a : mj_c2 .eq c 33 = false := decide_eq_false (fun q => hi (Or.inr (Or.inl q)))
    have b : mj_c2 .eq c 63 = false := decide_eq_false (fun q => hi (Or.inr (Or.inr (Or.inl q))))
    have d : mj_c2 .ne c 42 = true := decide_eq_true (fun q => hi (Or.inr (Or.inr (Or.inr q))))
    simp only [C85, k0, rd, r6, n0, cond_false, a, b, d, cond_true, J85_36, gi, Option.bind_some]
    exact rthr_tc (C87_r h hf s.2.1)
end STO
