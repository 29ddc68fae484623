section STN
variable {xt : mj_X} {ct : Nat → Value} {O : OR} {N z : Nat} {tx : List Int32} {wp : Int32}
/-- a block's statements in a later heap, with later lists -/
theorem bk_up {H G : mj_H} {sts sts' : List St} {nds nds' : List Nd} {fcs fcs' : List Int32} {m m' A B A' B' lo hi : Nat} {l : List (Nat × Nat)} {o : Option Nat} (hm : m ≤ m') (hA : A' ≤ A) (hB : B ≤ B') (hG : ∀ q, A ≤ q → q < B → G.1 q = H.1 q) (hn : ∃ k, nds' = nds ++ k) (hf : ∃ k, fcs' = fcs ++ k) (hs : ∀ i, lo ≤ i → i < hi → sts'[i]? = sts[i]?) (hc : chn H l o) (hb : bk (sT H sts nds fcs m A B) sts l lo hi) : chn G l o ∧ bk (sT G sts' nds' fcs' m' A' B') sts' l lo hi := by
  obtain ⟨k1, rfl⟩ := hn
  obtain ⟨k2, rfl⟩ := hf
  have r := bk_rng l lo hi hb
  refine ⟨chn_fr l o (fun x hx => hG x.1 (r.1 x hx).1 (r.1 x hx).2) hc, (bk_imp l lo hi (fun s t a x => sT_end x) (fun s' t' a' x y w => ?_) hs hb).1⟩
  exact sT_mono m m' A B A' B' s' t' a' hm hA hB hG (fun i p q => hs i (by omega) (by omega)) w
theorem bk_len {H : mj_H} {sts : List St} {nds : List Nd} {fcs : List Int32} {m A B lo hi : Nat} {l : List (Nat × Nat)} (hb : bk (sT H sts nds fcs m A B) sts l lo hi) (hh : hi ≤ 24) : l.length ≤ 1000 := by
  have := (bk_rng l lo hi hb).2
  omega
/-- a choice, when its parts are there -/
theorem cho_fin (hN : 2000 ≤ N) {H0 G : mj_H} {sts : List St} {nds : List Nd} {fcs : List Int32} {p lv k k' A A' i lo hi mid m m1 e fe : Nat} {o1 o2 : Option Nat} {l1 l2 : List (Nat × Nat)} (h : pst z G tx p sts.length lv wp) (hf : fz z G) (hz : z + 107 ≤ G.2.1) (hil : i < sts.length) (h24 : sts.length ≤ 24) (hx : xfr z H0 G k) (hk : k + 1 ≤ k') (hA : A' ≤ A) (hA0 : A ≤ G.2.1) (hA00 : H0.2.1 ≤ A') (hm45 : m ≤ 45) (ht : exT G A G.2.1 nds fcs m lo hi e fe) (hc1 : chn G l1 o1) (hb1 : bk (sT G sts nds fcs m1 A G.2.1) sts l1 (i + 1) mid) (hc2 : chn G l2 o2) (hb2 : bk (sT G sts nds fcs m1 A G.2.1) sts l2 mid sts.length) : ∃ Gf m' v2 v3 v4 v6 v7, J88_42 xt ct O N e o1 o2 G = some (.inl (some G.2.1), Gf) ∧ pst z Gf tx p (sts.set i (2, 0, lo, hi, mid, sts.length, prN fe (mlN (fold_ l1 1) (fold_ l2 1)))).length lv wp ∧ fz z Gf ∧ xfr z H0 Gf k' ∧ sT Gf (sts.set i (2, 0, lo, hi, mid, sts.length, prN fe (mlN (fold_ l1 1) (fold_ l2 1)))) nds fcs m' A' Gf.2.1 i (2, 0, lo, hi, mid, sts.length, prN fe (mlN (fold_ l1 1) (fold_ l2 1))) G.2.1 ∧ Gf.1 G.2.1 = some (.inr (11, [.int 63, .ref e, v2, v3, v4, .long (Int64.ofNat (prN fe (mlN (fold_ l1 1) (fold_ l2 1)))), v6, v7, rv none])) ∧ 1 ≤ prN fe (mlN (fold_ l1 1) (fold_ l2 1)) ∧ m' = m1 + 1 := by
  obtain ⟨G3, hG3⟩ : ∃ G3, mj_new G 9 (.inr (11, [.int 0, .null, .int 0, .null, .null, .long 0, .long 0, .long 0, .null])) = G3 := ⟨_, rfl⟩
  have p3 := pst_new (n := 9) (e := .inr (11, [.int 0, .null, .int 0, .null, .null, .long 0, .long 0, .long 0, .null])) h hz
  have f3 := fz_new (n := 9) (e := .inr (11, [.int 0, .null, .int 0, .null, .null, .long 0, .long 0, .long 0, .null])) hf hz
  have x3 : xfr z H0 G3 k' := xfr_trans hx (show xfr z G G3 1 by rw [← hG3]; exact xfr_new (by decide) (by decide)) hk
  have c3 : G3.1 G.2.1 = some (.inr (11, [.int 0, .null, .int 0, .null, .null, .long 0, .long 0, .long 0, .null])) := by rw [← hG3]; exact mj_new_eq
  have o3 : ∀ q, q ≠ G.2.1 → G3.1 q = G.1 q := fun q hq => by rw [← hG3]; exact mj_new_ne hq
  have n3 : G3.2.1 = G.2.1 + 1 := by rw [← hG3]; rfl
  rw [hG3] at p3 f3
  have r1 := bk_rng _ _ _ hb1
  have r2 := bk_rng _ _ _ hb2
  have t3 : exT G3 A G.2.1 nds fcs m lo hi e fe := exT_mono0 (Nat.le_refl _) (Nat.le_refl _) (fun q h1 h2 => o3 q (by omega)) ht
  have fal3 := exT_fal _ _ _ _ _ t3
  have ch1 : chn G3 l1 o1 := chn_fr l1 o1 (fun x hx => o3 x.1 (by have := r1.1 x hx; omega)) hc1
  have ch2 : chn G3 l2 o2 := chn_fr l2 o2 (fun x hx => o3 x.1 (by have := r2.1 x hx; omega)) hc2
  have hmid := bk_le (fun s t a x => sT_end x) _ _ _ hb2
  have e3 := C111_do (xt := xt) (ct := ct) (O := O) (N := N) (tm := 0) (c := 63) hN (by decide) c3 ch1 ch2 (fun x hx => by have := r1.1 x hx; omega) (fun x hx => by have := r2.1 x hx; omega) (bk_len hb1 (by omega)) (bk_len hb2 h24) fal3.1 fal3.2.1.2 (by omega) (by decide)
  rw [if_neg (show (63 : Int32) ≠ 42 by decide)] at e3
  obtain ⟨f, hfe⟩ : ∃ f, prN fe (mlN (fold_ l1 1) (fold_ l2 1)) = f := ⟨_, rfl⟩
  have fpos : 1 ≤ prN fe (mlN (fold_ l1 1) (fold_ l2 1)) := by
    have q1 : 1 ≤ fold_ l1 1 := fold_pos l1 1 (by decide) (fun x hx => (chn_pos l1 o1 hc1 x hx).1)
    have q2 : 1 ≤ fold_ l2 1 := fold_pos l2 1 (by decide) (fun x hx => (chn_pos l2 o2 hc2 x hx).1)
    have q3 := mlN_do _ _ ⟨q1, fold_bd l1 1 (by decide)⟩ ⟨q2, fold_bd l2 1 (by decide)⟩
    exact prN_pos fal3.2.1.1 (prN_pos q3.2.2.1 q2)
  rw [hfe] at e3 fpos ⊢
  obtain ⟨s1, hs1⟩ : ∃ x, mlN (fold_ l1 1) (fold_ l2 1) / fold_ l1 1 = x := ⟨_, rfl⟩
  obtain ⟨s2, hs2⟩ : ∃ x, mlN (fold_ l1 1) (fold_ l2 1) / fold_ l2 1 = x := ⟨_, rfl⟩
  rw [hs1, hs2] at e3
  obtain ⟨cell, hcell⟩ : ∃ cell : mj_E, (.inr (11, [.int 63, .ref e, .int (Int32.ofNat 0), rv o1, rv o2, .long (Int64.ofNat f), .long (Int64.ofNat s1), .long (Int64.ofNat s2), rv none])) = cell := ⟨_, rfl⟩
  rw [hcell] at e3
  have e3' : C111 xt ct O N G.2.1 63 e 0 o1 o2 G3 = some (mj_put G3 G.2.1 cell) := e3
  have hGf : ∀ q, A ≤ q → q < G.2.1 → (mj_put G3 G.2.1 cell).1 q = G.1 q := fun q h1 h2 => (mj_put_ne (by omega)).trans (o3 q (by omega))
  have hset : ∀ j, i + 1 ≤ j → (sts.set i (2, 0, lo, hi, mid, sts.length, f))[j]? = sts[j]? := fun j hj => List.getElem?_set_ne (by omega)
  have u1 := bk_up (G := mj_put G3 G.2.1 cell) (m' := m1) (A' := A) (B' := G.2.1) (sts' := sts.set i (2, 0, lo, hi, mid, sts.length, f)) (Nat.le_refl _) (Nat.le_refl _) (Nat.le_refl _) hGf ⟨[], (List.append_nil nds).symm⟩ ⟨[], (List.append_nil fcs).symm⟩ (fun j h1 h2 => hset j h1) hc1 hb1
  have hmid1 := bk_le (fun s t a x => sT_end x) _ _ _ hb1
  have u2 := bk_up (G := mj_put G3 G.2.1 cell) (m' := m1) (A' := A) (B' := G.2.1) (sts' := sts.set i (2, 0, lo, hi, mid, sts.length, f)) (Nat.le_refl _) (Nat.le_refl _) (Nat.le_refl _) hGf ⟨[], (List.append_nil nds).symm⟩ ⟨[], (List.append_nil fcs).symm⟩ (fun j h1 h2 => hset j (by omega)) hc2 hb2
  have ex45 : exT (mj_put G3 G.2.1 cell) A G.2.1 nds fcs 45 lo hi e fe := by
    have := exT_mono (nds' := []) (fcs' := []) (G := mj_put G3 G.2.1 cell) (A' := A) (B' := G.2.1) (Nat.le_refl _) (Nat.le_refl _) hGf m 45 _ _ _ _ hm45 ht
    rw [List.append_nil, List.append_nil] at this
    exact this
  refine ⟨mj_put G3 G.2.1 cell, m1 + 1, .int (Int32.ofNat 0), rv o1, rv o2, .long (Int64.ofNat s1), .long (Int64.ofNat s2), ?_, ?_, fz_put f3 hz, xfr_put x3 (by omega) (by rw [← hcell]; intro l h; cases h; done), ?_, by rw [mj_put_eq, ← hcell], fpos, rfl⟩
  · simp only [J88_42, nO, hG3, gC_of c3, e3', Option.bind_some]
  · rw [List.length_set]
    exact pst_put p3 hz
  · refine ⟨by omega, by show G.2.1 < G3.2.1; omega, by show i + 1 ≤ sts.length; omega, 63, e, Int32.ofNat 0, o1, o2, none, s1, s2, A, G.2.1, hA, by show G.2.1 ≤ G3.2.1; omega, Or.inr (Nat.le_refl _), by rw [mj_put_eq, ← hcell], Or.inr (Or.inl ⟨rfl, rfl, fe, l1, l2, ex45, u1.1, u1.2, u2.1, u2.2, hfe.symm, hs1.symm, hs2.symm⟩)⟩
theorem C88_do (hN : 2000 ≤ N) {n dep : Nat} (hn : 31 + (5 - dep) ≤ n + 1) (hX : XPc O z tx wp n) (hP : PRc O z tx wp n) {s : Rs} {H0 H : mj_H} (hd : dep ≤ 4) (h : pst z H tx (s.2.1 + 1) (s.1.length + 1) s.2.2.1 wp) (hf : fz z H) (hz : z + 107 ≤ H.2.1) (hl : s.2.2.1 ≤ 40) (h4 : s.1.length < 24) (hx : xfr z H0 H 0) : sres z tx wp dep s H0 (rCho tx (rB tx n) (rX tx n 0 0) dep s) (C88 xt ct O N (z + 5) (Int32.ofNat dep) H) := by
  have k0 := pst_k h
  have hx0 := hx.2
  obtain ⟨x1, x2⟩ := hX (s.1.length + 1) (s.2.1 + 1, s.2.2) H h hf hz hl
  have st0 : ∀ x, O.2.1 (z + 5) 0 0 H = x → C88 xt ct O N (z + 5) (Int32.ofNat dep) H = x.bind fun r4 => tc (fun z => z) r4 fun v7 => (gK r4.2 (z + 5) 1).bind fun k11 => (C110 xt ct O N (z + 5) (Int32.ofNat dep) r4.2).bind fun r14 => tc (fun z => z) r14 fun v17 => (gK r14.2 (z + 5) 1).bind fun k21 => (C84 xt ct O N (z + 5) r14.2).bind fun r24 => bif mj_c2 .ne r24.1 58 then J88_42 xt ct O N v7 v17 none r24.2 else (gI r24.2 (z + 5) 1 3).bind fun r38 => (uF r24.2 (z + 5) 1 3 (.int (r38 + 1))).bind fun H41 => (gK H41 (z + 5) 1).bind fun k44 => (C110 xt ct O N (z + 5) (Int32.ofNat dep) H41).bind fun r47 => tc (fun z => z) r47 fun v50 => J88_42 xt ct O N v7 v17 v50 r47.2 := by
    intro x hx
    simp only [C88, k0, hx, Option.bind_some]
  unfold rCho
  cases es : rX tx n 0 0 (s.2.1 + 1, s.2.2) with
  | inl w =>
    refine ⟨fun w' hw => ?_, fun q hq => (by cases hq)⟩
    cases hw
    rw [st0 _ rfl]
    exact rthr_tc (rthr_fr (x1 w es) hx (by dsimp only; omega))
  | inr r =>
    dsimp only
    obtain ⟨e, G1, fe, m, v1, v2, v3, v4, v5, v6⟩ := x2 r es
    have lr := rX_ok n 0 0 (s.2.1 + 1, s.2.2) r h.2.2.2.2 hl es
    have lr0 := lr.1.2.2.2.2.2.2.2
    have lr1 := lr.1.1
    have lr2 := lr.2
    dsimp only at v4 v5 v6 lr1 lr2
    have hv4 := v4.2
    have k1 := pst_k v2
    have hfe := exT_f _ _ _ _ _ v5
    rw [seg_all (by omega)] at hfe
    have ef : exF r.2.2.1 s.2.2.2.1.length = fe := hfe.1.symm
    have y1 : xfr z H0 G1 (r.1 - (s.2.1 + 1)) := xfr_trans hx v4 (by omega)
    rw [st0 _ v1, ef]
    obtain ⟨t0, ht0⟩ : ∃ t : St, (2, 0, s.2.2.2.1.length, r.2.2.1.length - 1, s.1.length + 1, s.1.length + 1, 1) = t := ⟨_, rfl⟩
    rw [ht0]
    have el : (s.1 ++ [t0]).length = s.1.length + 1 := by rw [List.length_append]; rfl
    obtain ⟨b1, b2⟩ := C110_do (xt := xt) (ct := ct) (O := O) (N := N) hN hn hP (s := (s.1 ++ [t0], r)) hd (by dsimp only; rw [el]; exact v2) v3 (by omega) lr0 (by dsimp only; omega)
    cases e1 : rBr tx (rB tx n) dep (s.1 ++ [t0], r) with
    | inl w =>
      refine ⟨fun w' hw => ?_, fun q hq => (by cases hq)⟩
      cases hw
      simp only [tc, k1, Option.bind_some]
      exact rthr_tc (rthr_fr (b1 w e1) y1 (by dsimp only; omega))
    | inr q =>
      dsimp only
      obtain ⟨o1, G2, l1, m1, w1, w2, w3, w4, w5, w6, w7, w8⟩ := b2 q e1
      have lq := rBr_ok (fun d s q a b c e => rB_ok n d s q a b c e) (s := (s.1 ++ [t0], r)) v2.2.2.2.2 lr0 (by dsimp only; omega) e1
      have lq0 := lq.1.1.2.2.2.2.2.2.2
      have lq1 := lq.1.2
      have lq2 := lq.2
      have lqr := lq.1.1
      dsimp only at w4 w6 lq1 lq2 lqr
      rw [el] at w6 lq1
      have hw4 := w4.2
      have k2 := pst_k w2
      have r2 := C84_do (xt := xt) (ct := ct) (O := O) (N := N) w2
      have y2 : xfr z H0 G2 (q.1.2.1 - (s.2.1 + 1)) := xfr_trans y1 w4 (by omega)
      have ff1 : fo q.2 1 = fold_ l1 1 := by rw [fold_fo, w7]
      -- the first parts in the later heap
      have ex2 : exT G2 H.2.1 G2.2.1 q.1.2.2.2.1 q.1.2.2.2.2 m s.2.2.2.1.length (r.2.2.1.length - 1) e fe := by
        obtain ⟨-, -, ⟨a1, a2⟩, -, ⟨a3, a4⟩, -⟩ := lqr
        rw [a2, a4]
        exact exT_mono (Nat.le_refl _) (by omega) (fun q' h1 h2 => w4.1 q' h2 (by omega) (by omega)) m m _ _ _ _ (Nat.le_refl _) v5
      by_cases hc : pk tx q.1.2.1 = 58
      · have c58 : mj_c2 .ne (pk tx q.1.2.1) 58 = false := decide_eq_false (fun z => z hc)
        rw [if_pos hc]
        have hlt := pkz_is hc (by decide)
        obtain ⟨G3, g1, g2, g3, g4, g5, g6⟩ := pst_inc w2 w3 hlt
        have n3 : G3.2.1 = G2.2.1 := by rw [g6]
        have k3 := pst_k g3
        obtain ⟨t1, ht1⟩ : ∃ t : St, (2, 0, s.2.2.2.1.length, r.2.2.1.length - 1, q.1.1.length, q.1.1.length, 1) = t := ⟨_, rfl⟩
        rw [ht1]
        have y3 : xfr z H0 G3 (q.1.2.1 - (s.2.1 + 1)) := xfr_trans y2 (xfr_of (k := 0) g5 g6) (by omega)
        have el3 : (q.1.1.set s.1.length t1).length = q.1.1.length := List.length_set
        obtain ⟨d1, d2⟩ := C110_do (xt := xt) (ct := ct) (O := O) (N := N) hN hn hP (s := (q.1.1.set s.1.length t1, q.1.2.1 + 1, q.1.2.2)) hd (by dsimp only; rw [el3]; exact g3) g4 (by omega) lq0 (by dsimp only; omega)
        have stt : (C110 xt ct O N (z + 5) (Int32.ofNat dep) G3).bind (fun r47 => tc (fun z => z) r47 fun v50 => J88_42 xt ct O N e o1 v50 r47.2) = ((some (Sum.inl e, G1) : Option ((Nat ⊕ Nat) × mj_H)).bind fun r4 => tc (fun z => z) r4 fun v7 => (gK r4.2 (z + 5) 1).bind fun k11 => (C110 xt ct O N (z + 5) (Int32.ofNat dep) r4.2).bind fun r14 => tc (fun z => z) r14 fun v17 => (gK r14.2 (z + 5) 1).bind fun k21 => (C84 xt ct O N (z + 5) r14.2).bind fun r24 => bif mj_c2 .ne r24.1 58 then J88_42 xt ct O N v7 v17 none r24.2 else (gI r24.2 (z + 5) 1 3).bind fun r38 => (uF r24.2 (z + 5) 1 3 (.int (r38 + 1))).bind fun H41 => (gK H41 (z + 5) 1).bind fun k44 => (C110 xt ct O N (z + 5) (Int32.ofNat dep) H41).bind fun r47 => tc (fun z => z) r47 fun v50 => J88_42 xt ct O N v7 v17 v50 r47.2) := by
          simp only [tc, k1, w1, k2, r2, c58, cond_false, g1, g2, k3, Option.bind_some]
        rw [← stt]
        cases e2 : rBr tx (rB tx n) dep (q.1.1.set s.1.length t1, q.1.2.1 + 1, q.1.2.2) with
        | inl w =>
          refine ⟨fun w' hw => ?_, fun q hq => (by cases hq)⟩
          cases hw
          exact rthr_tc (rthr_fr (d1 w e2) y3 (by dsimp only; omega))
        | inr u =>
          dsimp only
          obtain ⟨o2, G4, l2, m2, f1, f2, f3, f4, f5, f6, f7, f8⟩ := d2 u e2
          have lu := rBr_ok (fun d s q a b c e => rB_ok n d s q a b c e) (s := (q.1.1.set s.1.length t1, q.1.2.1 + 1, q.1.2.2)) g3.2.2.2.2 lq0 (by dsimp only; omega) e2
          have lu1 := lu.1.2
          have lu2 := lu.2
          have lur := lu.1.1
          dsimp only at f4 f6 lu1 lu2 lur
          rw [el3] at f6 lu1
          have hf4 := f4.2
          have ff2 : fo u.2 1 = fold_ l2 1 := by rw [fold_fo, f7]
          have y4 : xfr z H0 G4 (u.1.2.1 - (s.2.1 + 1)) := xfr_trans y3 f4 (by omega)
          have old : ∀ q', H.2.1 ≤ q' → q' < G2.2.1 → G4.1 q' = G2.1 q' := fun q' h1 h2 => (f4.1 q' (by omega) (by omega) (by omega)).trans (g5 q' (by omega))
          have lur' : (∃ k, u.1.2.2.2.1 = q.1.2.2.2.1 ++ k) ∧ ∃ k, u.1.2.2.2.2 = q.1.2.2.2.2 ++ k := by
            obtain ⟨-, -, a1, -, a2, -⟩ := lur
            exact ⟨a1, a2⟩
          have ex4 : exT G4 H.2.1 G4.2.1 u.1.2.2.2.1 u.1.2.2.2.2 m s.2.2.2.1.length (r.2.2.1.length - 1) e fe := by
            obtain ⟨⟨a1, a2⟩, ⟨a3, a4⟩⟩ := lur'
            rw [a2, a4]
            exact exT_mono (Nat.le_refl _) (by omega) old m m _ _ _ _ (Nat.le_refl _) ex2
          have b4 := bk_up (G := G4) (m' := max m1 m2) (A' := H.2.1) (B' := G4.2.1) (sts' := u.1.1) (Nat.le_max_left _ _) (show H.2.1 ≤ G1.2.1 by omega) (by omega) (fun q' h1 h2 => old q' (by omega) h2) lur'.1 lur'.2 (fun j h1 h2 => by rw [lu1.2.2 j h2, List.getElem?_set_ne (by omega)]) w5 w6
          have b5 := bk_up (G := G4) (m' := max m1 m2) (A' := H.2.1) (B' := G4.2.1) (sts' := u.1.1) (Nat.le_max_right _ _) (show H.2.1 ≤ G3.2.1 by omega) (by omega) (fun q' h1 h2 => rfl) ⟨[], (List.append_nil _).symm⟩ ⟨[], (List.append_nil _).symm⟩ (fun j h1 h2 => rfl) f5 f6
          obtain ⟨Gf, m', c2, c3, c4, c6, c7, z1, z2, z3, z4, z5, z6, z7, z8⟩ := cho_fin (xt := xt) (ct := ct) (O := O) (N := N) (k' := u.1.2.1 - s.2.1) (A' := H0.2.1) (i := s.1.length) hN f2 f3 (by omega) (by omega) lu1.2.1 y4 (by omega) (show H0.2.1 ≤ H.2.1 by omega) (by omega) (Nat.le_refl _) (show m ≤ 45 by omega) ex4 b4.1 b4.2 b5.1 b5.2
          refine ⟨fun w hw => (by cases hw), fun q' hq => ?_⟩
          cases hq
          rw [ff1, ff2]
          refine ⟨G4.2.1, Gf, m', _, 63, e, c2, c3, c4, c6, c7, ?_, z2, z3, z4, ?_, rfl, ?_, z5, z6, z7, prN_le, by omega⟩
          · rw [f1]
            exact z1
          · show (u.1.1.set s.1.length _)[s.1.length]? = _
            rw [List.getElem?_set_self (by omega)]
          · show u.1.1.length = (u.1.1.set s.1.length _).length
            rw [List.length_set]
      · have c58 : mj_c2 .ne (pk tx q.1.2.1) 58 = true := decide_eq_true hc
        rw [if_neg hc]
        have b4 := bk_up (G := G2) (m' := m1) (A' := H.2.1) (B' := G2.2.1) (sts' := q.1.1) (Nat.le_refl _) (show H.2.1 ≤ G1.2.1 by omega) (Nat.le_refl _) (fun q' h1 h2 => rfl) ⟨[], (List.append_nil _).symm⟩ ⟨[], (List.append_nil _).symm⟩ (fun j h1 h2 => rfl) w5 w6
        obtain ⟨Gf, m', c2, c3, c4, c6, c7, z1, z2, z3, z4, z5, z6, z7, z8⟩ := cho_fin (xt := xt) (ct := ct) (O := O) (N := N) (k' := q.1.2.1 - s.2.1) (A' := H0.2.1) (i := s.1.length) (l2 := []) (o2 := none) hN w2 w3 (by omega) (by omega) lq1.2.1 y2 (by omega) (show H0.2.1 ≤ H.2.1 by omega) (by omega) (Nat.le_refl _) (show m ≤ 45 by omega) ex2 b4.1 b4.2 (show chn G2 [] none from rfl) (show q.1.1.length = q.1.1.length from rfl)
        refine ⟨fun w hw => (by cases hw), fun q' hq => ?_⟩
        cases hq
        rw [ff1]
        refine ⟨G2.2.1, Gf, m', _, 63, e, c2, c3, c4, c6, c7, ?_, z2, z3, z4, ?_, rfl, ?_, z5, z6, z7, prN_le, by omega⟩
        · simp only [tc, k1, w1, k2, r2, c58, cond_true, Option.bind_some]
          exact z1
        · show (q.1.1.set s.1.length _)[s.1.length]? = _
          rw [List.getElem?_set_self (by omega)]
          rfl
        · show q.1.1.length = (q.1.1.set s.1.length _).length
          rw [List.length_set]
end STN
