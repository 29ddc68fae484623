section DCC
variable {xt : mj_X} {ct : Nat → Value} {O : OR} {N z : Nat} {tx : List Int32}
/-- the place goes on by one -/
theorem pst_inc {H : mj_H} {p st lv : Nat} {wp : Int32} (h : pst z H tx p st lv wp) (hf : fz z H) (hp : p < tx.length) : ∃ G, gI H (z + 5) 1 3 = some (Int32.ofNat p) ∧ uF H (z + 5) 1 3 (.int (Int32.ofNat p + 1)) = some G ∧ pst z G tx (p + 1) st lv wp ∧ fz z G ∧ (∀ q, q ≠ z + 5 → G.1 q = H.1 q) ∧ G.2 = H.2 := by
  obtain ⟨u1, u2⟩ := pst_at h hp
  have hl := h.2.2.2.1.1
  refine ⟨_, gI_of h.1 rfl, ?_, u2, fz_fr hf (mj_put_ne (by omega)), fun q hq => mj_put_ne hq, rfl⟩
  rw [i_inc (by omega)]
  exact u1
theorem fz_new {H : mj_H} {n : Nat} {e : mj_E} (h : fz z H) (hz : z + 107 ≤ H.2.1) : fz z (mj_new H n e) := fz_fr h (mj_new_ne (by omega))
theorem fz_put {H : mj_H} {a : Nat} {e : mj_E} (h : fz z H) (hz : z + 107 ≤ a) : fz z (mj_put H a e) := fz_fr h (mj_put_ne (by omega))
theorem pst_k {H : mj_H} {p st lv : Nat} {wp : Int32} (h : pst z H tx p st lv wp) : gK H (z + 5) 1 = some () := gK_of h.1
/-- dice with a letter, from the number behind it on -/
theorem dc_tail (hN : 2000 ≤ N) {H : mj_H} {p p0 st lv n m : Nat} {wp hi pick : Int32} (hp0 : p0 + 1 ≤ p) (h : pst z H tx (p + 1) st lv wp) (hf : fz z H) (hz : z + 107 ≤ H.2.1) (hn : n ≤ 6) (hm : 1 ≤ m ∧ m ≤ 20) (hh : hi.toInt ≤ 6) (hp : 0 ≤ pick.toInt ∧ pick.toInt ≤ 65535) : (∀ w, rNum tx (p + 1) 1 hi = .inl w → rthr z tx w p0 H ((C99 xt ct O N (z + 5) 1 hi (mj_new H 6 (.inr (8, [.int 0, .int 0, .int 0, .int 0, .null, .long 0])))).bind fun r => tc (fun q => q) r fun v => (gC r.2 H.2.1).bind fun _ => (C100 xt ct O N H.2.1 (Int32.ofNat n) (Int32.ofNat m) pick v r.2).bind fun s => some (.inl H.2.1, s))) ∧ (∀ q, rNum tx (p + 1) 1 hi = .inr q → ∃ G, ((C99 xt ct O N (z + 5) 1 hi (mj_new H 6 (.inr (8, [.int 0, .int 0, .int 0, .int 0, .null, .long 0])))).bind fun r => tc (fun q => q) r fun v => (gC r.2 H.2.1).bind fun _ => (C100 xt ct O N H.2.1 (Int32.ofNat n) (Int32.ofNat m) pick v r.2).bind fun s => some (.inl H.2.1, s)) = some (.inl H.2.1, G) ∧ pst z G tx q.1 st lv wp ∧ fz z G ∧ xfr z H G (q.1 - p0) ∧ G.2.1 = H.2.1 + 1 ∧ G.1 H.2.1 = some (.inr (8, [.int (Int32.ofNat n), .int (Int32.ofNat m), .int pick, .int (Int32.ofNat q.2), .null, .long (Int64.ofNat (pwN m (if pick = 101 then q.2 + 1 else n) 1))]))) := by
  obtain ⟨H1, hH1⟩ : ∃ H1, mj_new H 6 (.inr (8, [.int 0, .int 0, .int 0, .int 0, .null, .long 0])) = H1 := ⟨_, rfl⟩
  have p1 := pst_new (n := 6) (e := .inr (8, [.int 0, .int 0, .int 0, .int 0, .null, .long 0])) h hz
  have f1 := fz_new (n := 6) (e := .inr (8, [.int 0, .int 0, .int 0, .int 0, .null, .long 0])) hf hz
  have x1 : xfr z H H1 2 := by rw [← hH1]; exact xfr_newd (by decide) (by decide) rfl
  have c1 : H1.1 H.2.1 = some (.inr (8, [.int 0, .int 0, .int 0, .int 0, .null, .long 0])) := by rw [← hH1]; exact mj_new_eq
  have e1 : H1.2.1 = H.2.1 + 1 := by rw [← hH1]; rfl
  rw [hH1] at p1 f1 ⊢
  obtain ⟨a1, a2⟩ := C99_r (xt := xt) (ct := ct) (O := O) (N := N) (lo := 1) (hi := hi) hN p1 f1
  constructor
  · intro w hw
    exact rthr_tc (rthr_fr (a2 w hw) x1 (by omega))
  · intro q hq
    obtain ⟨G, b1, b2, b3, b4, b5⟩ := a1 q hq
    have hl := rNum_le h.2.2.2.2 hq
    have c2 : G.1 H.2.1 = some (.inr (8, [.int 0, .int 0, .int 0, .int 0, .null, .long 0])) := (b4 _ (by omega)).trans c1
    have e2 := C100_do (xt := xt) (ct := ct) (O := O) (N := N) (n := n) (m := m) (k := q.2) (pick := pick) hN hm hn (by omega) hp c2
    refine ⟨_, ?_, pst_put b2 (by omega), fz_put b3 (by omega), xfr_putd (xfr_trans x1 (xfr_of b4 b5) (k := 2) (l := 0) (by omega)) (Nat.le_refl _) (by rw [b5]; omega) c2 rfl, ?_, mj_put_eq⟩
    · simp only [b1, tc, gC_of c2, e2, Option.bind_some]
    · show G.2.1 = _
      rw [b5]
      exact e1
theorem C98_do (hN : 2000 ≤ N) {H : mj_H} {p st lv n : Nat} {wp : Int32} (h : pst z H tx p st lv wp) (hf : fz z H) (hz : z + 107 ≤ H.2.1) (hn : 1 ≤ n ∧ n ≤ 6) : (∀ w, rDc tx n p = .inl w → rthr z tx w p H (C98 xt ct O N (z + 5) (Int32.ofNat n) H)) ∧ (∀ q, rDc tx n p = .inr q → ∃ a G f, C98 xt ct O N (z + 5) (Int32.ofNat n) H = some (.inl a, G) ∧ pst z G tx q.1 st lv wp ∧ fz z G ∧ xfr z H G (q.1 - p) ∧ ∀ b, lfT G H.2.1 G.2.1 q.2 b [] a f) := by
  obtain ⟨a1, a2⟩ := C94_r (xt := xt) (ct := ct) (O := O) (N := N) (c := 100) h hf (by decide)
  have k0 := pst_k h
  have en : (Int32.ofNat n).toInt = n := i_nat (by omega)
  by_cases hc : pk tx p = 100
  · obtain ⟨H1, b1, b2, b3, b4, b5⟩ := a1 hc
    have k1 := pst_k b2
    have x1 : xfr z H H1 1 := xfr_of b4 b5
    obtain ⟨d1, d2⟩ := C99_r (xt := xt) (ct := ct) (O := O) (N := N) (lo := 2) (hi := 20) hN b2 b3
    cases e1 : rNum tx (p + 1) 2 20 with
    | inl w =>
      have e : rDc tx n p = .inl w := by simp only [rDc, if_pos hc, e1]
      rw [e]
      refine ⟨fun w' hw => ?_, fun q hq => (by cases hq)⟩
      cases hw
      simp only [C98, k0, b1, tc, k1, Option.bind_some]
      exact rthr_tc (rthr_fr (d2 w e1) x1 (Nat.le_refl _))
    | inr m =>
      obtain ⟨H2, g1, g2, g3, g4, g5⟩ := d1 m e1
      have lm := rNum_le b2.2.2.2.2 e1
      have q2 : (2 : Int32).toInt = 2 := rfl
      have q20 : (20 : Int32).toInt = 20 := rfl
      have k2 := pst_k g2
      have x2 : xfr z H H2 1 := xfr_trans x1 (xfr_of (k := 0) g4 g5) (by omega)
      have x2' : xfr z H H2 0 := xfr_trans (xfr_of (k := 0) b4 b5) (xfr_of (k := 0) g4 g5) (by omega)
      have n2 : H2.2.1 = H.2.1 := by rw [g5, b5]
      have r2 := C84_do (xt := xt) (ct := ct) (O := O) (N := N) g2
      obtain ⟨c, hcc⟩ : ∃ c, pk tx m.1 = c := ⟨_, rfl⟩
      rw [hcc] at r2
      have start : C98 xt ct O N (z + 5) (Int32.ofNat n) H = (bif mj_c2 .ne c 101 then bif mj_c2 .eq c 104 then J98_82 xt ct O N (z + 5) (Int32.ofNat n) (Int32.ofNat m.2) c H2 else bif mj_c2 .ne c 108 then (nO H2 8 6 [.int 0, .int 0, .int 0, .int 0, .null, .long 0]).bind fun r58 => (gC r58.2 r58.1).bind fun k61 => (C100 xt ct O N r58.1 (Int32.ofNat n) (Int32.ofNat m.2) 97 (Int32.ofNat n) r58.2).bind fun r64 => some (.inl r58.1, r64) else J98_82 xt ct O N (z + 5) (Int32.ofNat n) (Int32.ofNat m.2) c H2 else bif mj_c2 .ne (Int32.ofNat n) 1 then J98_36 xt ct O N (z + 5) (Int32.ofNat n) (Int32.ofNat m.2) c 0 (z + 5) H2 else J98_36 xt ct O N (z + 5) (Int32.ofNat n) (Int32.ofNat m.2) c 1 (z + 5) H2) := by
        simp only [C98, k0, b1, tc, k1, g1, k2, r2, Option.bind_some]
      by_cases k1 : c = 101
      · have a101 : mj_c2 .ne c 101 = false := by rw [k1]; decide
        have hlt := pkz_is (hcc.trans k1) (by decide)
        have gi : gI H2 (z + 5) 1 3 = some (Int32.ofNat m.1) := gI_of g2.1 rfl
        by_cases kn : n = 1
        · have cn : mj_c2 .ne (Int32.ofNat n) 1 = false := by rw [kn]; decide
          obtain ⟨H3, t1, t2, t3, t4, t5, t6⟩ := pst_inc g2 g3 hlt
          have x3 : xfr z H H3 (m.1 - 1 - p) := xfr_trans x2 (xfr_of (k := 0) t5 t6) (by omega)
          have n3 : H3.2.1 = H.2.1 := by rw [t6]; exact n2
          have k3 : gK (mj_new H3 6 (.inr (8, [.int 0, .int 0, .int 0, .int 0, .null, .long 0]))) (z + 5) 1 = some () := gK_of (pst_new t3 (by omega)).1
          obtain ⟨u1, u2⟩ := dc_tail (xt := xt) (ct := ct) (O := O) (N := N) (hi := 3) (pick := c) (n := n) (m := m.2) (p0 := m.1 - 1) hN (by omega) t3 t4 (by omega) hn.2 (by omega) (by decide) (by rw [k1]; decide)
          have st : C98 xt ct O N (z + 5) (Int32.ofNat n) H = ((C99 xt ct O N (z + 5) 1 3 (mj_new H3 6 (.inr (8, [.int 0, .int 0, .int 0, .int 0, .null, .long 0])))).bind fun r => tc (fun q => q) r fun v => (gC r.2 H3.2.1).bind fun _ => (C100 xt ct O N H3.2.1 (Int32.ofNat n) (Int32.ofNat m.2) c v r.2).bind fun s => some (.inl H3.2.1, s)) := by
            rw [start]
            simp only [a101, cn, cond_false, J98_36, gi, k2, C87_yes, tc, t2, nO, k3, Option.bind_some]
          rw [st]
          cases e2 : rNum tx (m.1 + 1) 1 3 with
          | inl w =>
            have e : rDc tx n p = .inl w := by simp only [rDc, if_pos hc, e1, hcc, if_pos k1, if_pos kn, e2]
            rw [e]
            refine ⟨fun w' hw => ?_, fun q hq => (by cases hq)⟩
            cases hw
            exact rthr_fr (u1 w e2) x3 (by omega)
          | inr b =>
            have e : rDc tx n p = .inr (b.1, (4, Int32.ofNat n, Int32.ofNat m.2, 101, Int32.ofNat b.2, -1, -1)) := by simp only [rDc, if_pos hc, e1, hcc, if_pos k1, if_pos kn, e2]
            rw [e]
            refine ⟨fun w hw => (by cases hw), fun q hq => ?_⟩
            cases hq
            obtain ⟨G, v1, v2, v3, v4, v5, v6⟩ := u2 b e2
            have lb := rNum_le t3.2.2.2.2 e2
            have q3 : (3 : Int32).toInt = 3 := rfl
            refine ⟨H3.2.1, G, _, v1, v2, v3, xfr_trans x3 v4 (by omega), fun b' => ⟨by omega, by omega, Or.inr (Or.inr (Or.inl ⟨n, m.2, 101, Int32.ofNat b.2, 101, b.2, .null, ⟨hn, by omega, Or.inr (Or.inl ⟨rfl, rfl, kn, ?_, rfl⟩)⟩, rfl, rfl, ?_, rfl⟩))⟩⟩
            · rw [q_1] at lb
              omega
            · rw [v6, k1]
        · have cn : mj_c2 .ne (Int32.ofNat n) 1 = true := i_c2 (by show decide _ = true; apply decide_eq_true; rw [en, q_1]; omega)
          have e : rDc tx n p = .inl m.1 := by simp only [rDc, if_pos hc, e1, hcc, if_pos k1, if_neg kn]
          rw [e]
          refine ⟨fun w hw => ?_, fun q hq => (by cases hq)⟩
          cases hw
          rw [start]
          simp only [a101, cn, cond_false, cond_true, J98_36, gi, k2, Option.bind_some]
          exact rthr_tc (rthr_fr (C87_r g2 g3 m.1) x2 (by omega))
      · have a101 : mj_c2 .ne c 101 = true := decide_eq_true k1
        by_cases kk : c = 104 ∨ c = 108
        · have hlt : m.1 < tx.length := kk.elim (fun q => pkz_is (hcc.trans q) (by decide)) (fun q => pkz_is (hcc.trans q) (by decide))
          obtain ⟨H3, t1, t2, t3, t4, t5, t6⟩ := pst_inc g2 g3 hlt
          have x3 : xfr z H H3 (m.1 - 1 - p) := xfr_trans x2 (xfr_of (k := 0) t5 t6) (by omega)
          have n3 : H3.2.1 = H.2.1 := by rw [t6]; exact n2
          have k3 : gK (mj_new H3 6 (.inr (8, [.int 0, .int 0, .int 0, .int 0, .null, .long 0]))) (z + 5) 1 = some () := gK_of (pst_new t3 (by omega)).1
          obtain ⟨u1, u2⟩ := dc_tail (xt := xt) (ct := ct) (O := O) (N := N) (hi := Int32.ofNat n) (pick := c) (n := n) (m := m.2) (p0 := m.1 - 1) hN (by omega) t3 t4 (by omega) hn.2 (by omega) (by omega) (by rcases kk with q | q <;> rw [q] <;> decide)
          have st : C98 xt ct O N (z + 5) (Int32.ofNat n) H = ((C99 xt ct O N (z + 5) 1 (Int32.ofNat n) (mj_new H3 6 (.inr (8, [.int 0, .int 0, .int 0, .int 0, .null, .long 0])))).bind fun r => tc (fun q => q) r fun v => (gC r.2 H3.2.1).bind fun _ => (C100 xt ct O N H3.2.1 (Int32.ofNat n) (Int32.ofNat m.2) c v r.2).bind fun s => some (.inl H3.2.1, s)) := by
            rw [start]
            rcases kk with q | q
            · have a104 : mj_c2 .eq c 104 = true := by rw [q]; decide
              simp only [a101, a104, cond_true, J98_82, t1, t2, nO, k3, Option.bind_some]
            · have a104 : mj_c2 .eq c 104 = false := by rw [q]; decide
              have a108 : mj_c2 .ne c 108 = false := by rw [q]; decide
              simp only [a101, a104, a108, cond_true, cond_false, J98_82, t1, t2, nO, k3, Option.bind_some]
          rw [st]
          cases e2 : rNum tx (m.1 + 1) 1 (Int32.ofNat n) with
          | inl w =>
            have e : rDc tx n p = .inl w := by simp only [rDc, if_pos hc, e1, hcc, if_neg k1, if_pos kk, e2]
            rw [e]
            refine ⟨fun w' hw => ?_, fun q hq => (by cases hq)⟩
            cases hw
            exact rthr_fr (u1 w e2) x3 (by omega)
          | inr b =>
            have e : rDc tx n p = .inr (b.1, (4, Int32.ofNat n, Int32.ofNat m.2, c, Int32.ofNat b.2, -1, -1)) := by simp only [rDc, if_pos hc, e1, hcc, if_neg k1, if_pos kk, e2]
            rw [e]
            refine ⟨fun w hw => (by cases hw), fun q hq => ?_⟩
            cases hq
            obtain ⟨G, v1, v2, v3, v4, v5, v6⟩ := u2 b e2
            have lb := rNum_le t3.2.2.2.2 e2
            refine ⟨H3.2.1, G, _, v1, v2, v3, xfr_trans x3 v4 (by omega), fun b' => ⟨by omega, by omega, Or.inr (Or.inr (Or.inl ⟨n, m.2, c, Int32.ofNat b.2, c, b.2, .null, ⟨hn, by omega, Or.inr (Or.inr ⟨kk, rfl, ?_, rfl⟩)⟩, rfl, rfl, v6, rfl⟩))⟩⟩
            rw [q_1, en] at lb
            omega
        · have a104 : mj_c2 .eq c 104 = false := decide_eq_false (fun q => kk (Or.inl q))
          have a108 : mj_c2 .ne c 108 = true := decide_eq_true (fun q => kk (Or.inr q))
          have e : rDc tx n p = .inr (m.1, (4, Int32.ofNat n, Int32.ofNat m.2, 32, 0, -1, -1)) := by simp only [rDc, if_pos hc, e1, hcc, if_neg k1, if_neg kk]
          rw [e]
          refine ⟨fun w hw => (by cases hw), fun q hq => ?_⟩
          cases hq
          obtain ⟨H3, hH3⟩ : ∃ H3, mj_new H2 6 (.inr (8, [.int 0, .int 0, .int 0, .int 0, .null, .long 0])) = H3 := ⟨_, rfl⟩
          have p3 := pst_new (n := 6) (e := .inr (8, [.int 0, .int 0, .int 0, .int 0, .null, .long 0])) g2 (by omega)
          have f3 := fz_new (n := 6) (e := .inr (8, [.int 0, .int 0, .int 0, .int 0, .null, .long 0])) g3 (by omega)
          rw [hH3] at p3 f3
          have c3 : H3.1 H2.2.1 = some (.inr (8, [.int 0, .int 0, .int 0, .int 0, .null, .long 0])) := by rw [← hH3]; exact mj_new_eq
          have x3 : xfr z H H3 (m.1 - p) := xfr_trans x2' (show xfr z H2 H3 2 by rw [← hH3]; exact xfr_newd (by decide) (by decide) rfl) (by omega)
          have n3 : H3.2.1 = H2.2.1 + 1 := by rw [← hH3]; rfl
          have e2 := C100_do (xt := xt) (ct := ct) (O := O) (N := N) (n := n) (m := m.2) (k := n) (pick := 97) hN (by omega) hn.2 hn.2 (by decide) c3
          obtain ⟨cell, hcell⟩ : ∃ cell : mj_E, (.inr (8, [.int (Int32.ofNat n), .int (Int32.ofNat m.2), .int 97, .int (Int32.ofNat n), .null, .long (Int64.ofNat (pwN m.2 (if (97 : Int32) = 101 then n + 1 else n) 1))])) = cell := ⟨_, rfl⟩
          rw [hcell] at e2
          refine ⟨H2.2.1, mj_put H3 H2.2.1 cell, pwN m.2 (if (97 : Int32) = 101 then n + 1 else n) 1, ?_, pst_put p3 (by omega), fz_put f3 (by omega), (by rw [← hcell]; exact xfr_putd x3 (by omega) (by omega) c3 rfl), fun b' => ⟨by omega, ?_, Or.inr (Or.inr (Or.inl ⟨n, m.2, 32, 0, 97, n, .null, ⟨hn, by omega, Or.inl ⟨rfl, rfl, rfl, rfl⟩⟩, rfl, rfl, ?_, rfl⟩))⟩⟩
          · rw [start]
            simp only [a101, a104, a108, cond_true, cond_false, nO, hH3, gC_of c3, e2, Option.bind_some]
          · show H2.2.1 < H3.2.1
            omega
          · rw [mj_put_eq, ← hcell]
  · have e : rDc tx n p = .inl p := by simp only [rDc, if_neg hc]
    rw [e]
    refine ⟨fun w hw => ?_, fun q hq => (by cases hq)⟩
    cases hw
    simp only [C98, k0, Option.bind_some]
    exact rthr_tc (a2 hc)
end DCC
