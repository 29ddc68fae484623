/-- a leaf, once it is counted: the end of operand -/
def C96 (xt : mj_X) (ct : Nat → Value) (O : OR) (N : Nat) (x0 : Nat) (x2 : Int32) (H : mj_H) : Option (((Nat) ⊕ Nat) × mj_H) :=
  (C86 xt ct O N x2 H).bind fun r105 =>
  bif mj_c1 .eq r105.1 then
    (C95 xt ct O N x2 r105.2).bind fun r110 =>
    bif mj_c1 .eq r110.1 then
      bif mj_c2 .ne x2 100 then
        (gK r110.2 x0 1).bind fun k117 =>
        (C104 xt ct O N x0 r110.2).bind fun r120 =>
        tc (fun z => z) r120 fun v123 =>
        J90_207 xt ct O N v123 r120.2
      else
      (gK r110.2 x0 1).bind fun k127 =>
      (C98 xt ct O N x0 1 r110.2).bind fun r130 =>
      tc (fun z => z) r130 fun v133 =>
      J90_207 xt ct O N v133 r130.2
    else
    (gK r110.2 x0 1).bind fun k137 =>
    (C107 xt ct O N x0 r110.2).bind fun r140 =>
    tc (fun z => z) r140 fun v143 =>
    some (.inl v143, r140.2)
  else
  (gI r105.2 x0 1 3).bind fun r147 =>
  (uF r105.2 x0 1 3 (.int (r147 + 1))).bind fun H150 =>
  (nO H150 7 3 [.int 0, .int 0, .long 0]).bind fun r153 =>
  (gC r153.2 r153.1).bind fun k156 =>
  (C97 xt ct O N r153.1 (x2 - 65) 0 r153.2).bind fun r159 =>
  some (.inl r153.1, r159)
section LEC
variable {xt : mj_X} {ct : Nat → Value} {O : OR} {N z : Nat} {tx : List Int32}
/-- a new name or number -/
theorem plain_new {H : mj_H} {p st lv k : Nat} {wp n m : Int32} (h : pst z H tx p st lv wp) (hf : fz z H) (hz : z + 107 ≤ H.2.1) (hk : 1 ≤ k) : ∃ G, ((gC (mj_new H 3 (.inr (7, [.int 0, .int 0, .long 0]))) H.2.1).bind fun _ => (C97 xt ct O N H.2.1 n m (mj_new H 3 (.inr (7, [.int 0, .int 0, .long 0])))).bind fun r => some ((.inl H.2.1 : Nat ⊕ Nat), r)) = some (.inl H.2.1, G) ∧ C97 xt ct O N H.2.1 n m (mj_new H 3 (.inr (7, [.int 0, .int 0, .long 0]))) = some G ∧ gC (mj_new H 3 (.inr (7, [.int 0, .int 0, .long 0]))) H.2.1 = some 7 ∧ pst z G tx p st lv wp ∧ fz z G ∧ xfr z H G k ∧ G.2.1 = H.2.1 + 1 ∧ G.1 H.2.1 = some (.inr (7, [.int n, .int m, .long 1])) := by
  have c : (mj_new H 3 (.inr (7, [.int 0, .int 0, .long 0]))).1 H.2.1 = some (.inr (7, [.int 0, .int 0, .long 0])) := mj_new_eq
  have e := C97_do (xt := xt) (ct := ct) (O := O) (N := N) (n := n) (m := m) c
  refine ⟨_, ?_, e, gC_of c, pst_put (pst_new h hz) hz, fz_put (fz_new hf hz) hz, xfr_put (xfr_new (by omega) hk) (Nat.le_refl _), rfl, mj_put_eq⟩
  simp only [gC_of c, e, Option.bind_some]
theorem C107_do (hN : 2000 ≤ N) {H : mj_H} {p st lv : Nat} {wp : Int32} (h : pst z H tx p st lv wp) (hf : fz z H) (hz : z + 107 ≤ H.2.1) : (∀ w, rNum tx p 0 999 = .inl w → rthr z tx w p H (C107 xt ct O N (z + 5) H)) ∧ (∀ q, rNum tx p 0 999 = .inr q → (pk tx q.1 ≠ 100 → ∃ G, C107 xt ct O N (z + 5) H = some (.inl H.2.1, G) ∧ pst z G tx q.1 st lv wp ∧ fz z G ∧ xfr z H G (q.1 - p) ∧ lfT G H.2.1 G.2.1 (0, Int32.ofNat q.2, 0, 0, 0, -1, -1) 0 [] H.2.1 1) ∧ (pk tx q.1 = 100 → ¬ (1 ≤ q.2 ∧ q.2 ≤ 6) → rthr z tx p p H (C107 xt ct O N (z + 5) H)) ∧ (pk tx q.1 = 100 → (1 ≤ q.2 ∧ q.2 ≤ 6) → (∀ w, rDc tx q.2 q.1 = .inl w → rthr z tx w p H (C107 xt ct O N (z + 5) H)) ∧ (∀ k, rDc tx q.2 q.1 = .inr k → ∃ a G f, C107 xt ct O N (z + 5) H = some (.inl a, G) ∧ pst z G tx k.1 st lv wp ∧ fz z G ∧ xfr z H G (k.1 - p) ∧ ∀ b, lfT G H.2.1 G.2.1 k.2 b [] a f))) := by
  obtain ⟨a1, a2⟩ := C99_r (xt := xt) (ct := ct) (O := O) (N := N) (lo := 0) (hi := 999) hN h hf
  have k0 := pst_k h
  have gi : gI H (z + 5) 1 3 = some (Int32.ofNat p) := gI_of h.1 rfl
  constructor
  · intro w hw
    simp only [C107, gi, k0, Option.bind_some]
    exact rthr_tc (a2 w hw)
  · intro q hq
    obtain ⟨G, b1, b2, b3, b4, b5⟩ := a1 q hq
    have lq := rNum_le h.2.2.2.2 hq
    rw [show (999 : Int32).toInt = 999 from rfl] at lq
    have k1 := pst_k b2
    have r := C84_do (xt := xt) (ct := ct) (O := O) (N := N) b2
    have n1 : G.2.1 = H.2.1 := by rw [b5]
    have x1 : xfr z H G 0 := xfr_of b4 b5
    have eq : (Int32.ofNat q.2).toInt = q.2 := i_nat (by omega)
    refine ⟨fun hc => ?_, fun hc hb => ?_, fun hc hb => ?_⟩
    · have c1 : mj_c2 .eq (pk tx q.1) 100 = false := decide_eq_false hc
      obtain ⟨G2, d1, d2, d3, d4, d5, d6, d7, d8⟩ := plain_new (xt := xt) (ct := ct) (O := O) (N := N) (k := 1) (n := -1000) (m := Int32.ofNat q.2) b2 b3 (by omega) (by decide)
      refine ⟨G2, ?_, d4, d5, xfr_trans x1 d6 (by omega), ⟨by omega, by omega, Or.inl ⟨q.2, by omega, rfl, rfl, by rw [← n1]; exact d8, rfl⟩⟩⟩
      rw [n1] at d2 d3
      simp only [C107, gi, k0, b1, tc, k1, r, c1, cond_false, nO, n1, d2, d3, Option.bind_some]
    · have c1 : mj_c2 .eq (pk tx q.1) 100 = true := decide_eq_true hc
      have e : C107 xt ct O N (z + 5) H = J107_51 xt ct O N (z + 5) (Int32.ofNat p) (Int32.ofNat q.2) (z + 5) G := by
        by_cases t : q.2 < 1
        · have t1 : mj_c2 .lt (Int32.ofNat q.2) 1 = true := i_c2 (by show decide _ = true; apply decide_eq_true; rw [eq, q_1]; omega)
          simp only [C107, gi, k0, b1, tc, k1, r, c1, cond_true, t1, Option.bind_some]
        · have t1 : mj_c2 .lt (Int32.ofNat q.2) 1 = false := i_c2 (by show decide _ = false; apply decide_eq_false; rw [eq, q_1]; omega)
          have t2 : mj_c2 .gt (Int32.ofNat q.2) 6 = true := i_c2 (by show decide _ = true; apply decide_eq_true; rw [eq, show (6 : Int32).toInt = 6 from rfl]; omega)
          simp only [C107, gi, k0, b1, tc, k1, r, c1, cond_true, t1, t2, cond_false, Option.bind_some]
      rw [e]
      simp only [J107_51, J107_52, k1, Option.bind_some]
      exact rthr_tc (rthr_fr (C87_r b2 b3 p) x1 (by omega))
    · have c1 : mj_c2 .eq (pk tx q.1) 100 = true := decide_eq_true hc
      have t1 : mj_c2 .lt (Int32.ofNat q.2) 1 = false := i_c2 (by show decide _ = false; apply decide_eq_false; rw [eq, q_1]; omega)
      have t2 : mj_c2 .gt (Int32.ofNat q.2) 6 = false := i_c2 (by show decide _ = false; apply decide_eq_false; rw [eq, show (6 : Int32).toInt = 6 from rfl]; omega)
      have e : C107 xt ct O N (z + 5) H = (C98 xt ct O N (z + 5) (Int32.ofNat q.2) G).bind fun r37 => tc (fun z => z) r37 fun v40 => some (.inl v40, r37.2) := by
        simp only [C107, gi, k0, b1, tc, k1, r, c1, cond_true, t1, t2, cond_false, J107_52, C87_yes, Option.bind_some]
      obtain ⟨u1, u2⟩ := C98_do (xt := xt) (ct := ct) (O := O) (N := N) hN b2 b3 (by omega) hb
      rw [e]
      refine ⟨fun w hw => rthr_tc (rthr_fr (u1 w hw) x1 (by omega)), fun k hk => ?_⟩
      obtain ⟨a, G2, f, v1, v2, v3, v4, v5⟩ := u2 k hk
      have lk := rDc_le hk
      refine ⟨a, G2, f, ?_, v2, v3, xfr_trans x1 v4 (by omega), by rw [n1] at v5; exact v5⟩
      simp only [v1, tc, Option.bind_some]
theorem lfT_b {H : mj_H} {A B b b' a f : Nat} {nd : Nd} (h : lfT H A B nd b [] a f) (hn : nd.1 ≠ 5) : lfT H A B nd b' [] a f := by
  obtain ⟨h1, h2, h3⟩ := h
  refine ⟨h1, h2, ?_⟩
  rcases h3 with h | h | h | ⟨r, h, -⟩
  · exact Or.inl h
  · exact Or.inr (Or.inl h)
  · exact Or.inr (Or.inr (Or.inl h))
  · exact absurd (congrArg (fun q : Nd => q.1) h) hn
/-- a leaf -/
theorem C96_do (hN : 2000 ≤ N) {H : mj_H} {p st lv nf : Nat} {wp : Int32} (hi : isNm (pk tx p) ∨ isDg (pk tx p) ∨ pk tx p = 100 ∨ pk tx p = 91) (h : pst z H tx p st lv wp) (hf : fz z H) (hz : z + 107 ≤ H.2.1) : (∀ w, rLf tx p nf = .inl w → rthr z tx w p H (C96 xt ct O N (z + 5) (pk tx p) H)) ∧ (∀ q, rLf tx p nf = .inr q → ∃ a G f, C96 xt ct O N (z + 5) (pk tx p) H = some (.inl a, G) ∧ pst z G tx q.1 st lv wp ∧ fz z G ∧ xfr z H G (q.1 - p) ∧ lfT G H.2.1 G.2.1 q.2.1 nf q.2.2 a f) := by
  have b0 : mj_c1 .eq 0 = true := by decide
  have b1 : mj_c1 .eq 1 = false := by decide
  have r6 := C86_do (xt := xt) (ct := ct) (O := O) (N := N) (H := H) (c := pk tx p)
  have r9 := C95_do (xt := xt) (ct := ct) (O := O) (N := N) (H := H) (c := pk tx p)
  have k0 := pst_k h
  by_cases k1 : isNm (pk tx p)
  · have hlt := pkz_nm k1
    rw [if_pos k1] at r6
    obtain ⟨H1, t1, t2, t3, t4, t5, t6⟩ := pst_inc h hf hlt
    have n1 : H1.2.1 = H.2.1 := by rw [t6]
    have e : rLf tx p nf = .inr (p + 1, (1, pk tx p - 65, 0, 0, 0, -1, -1), []) := by
      unfold rLf
      rw [if_pos k1]
    rw [e]
    refine ⟨fun w hw => (by cases hw), fun q hq => ?_⟩
    cases hq
    obtain ⟨G2, d1, d2, d3, d4, d5, d6, d7, d8⟩ := plain_new (xt := xt) (ct := ct) (O := O) (N := N) (k := 1) (n := pk tx p - 65) (m := 0) t3 t4 (by omega) (by decide)
    have q65 : (65 : Int32).toInt = 65 := rfl
    have e65 : (pk tx p - 65).toInt = (pk tx p).toInt - 65 := by rw [i_sub (by rw [q65]; omega) (by rw [q65]; omega), q65]
    have ek : pk tx p - 65 = Int32.ofNat ((pk tx p).toInt - 65).toNat := i_eq (by omega)
    refine ⟨H1.2.1, G2, 1, ?_, d4, d5, xfr_trans (xfr_of (k := 0) t5 t6) d6 (by dsimp only; omega), ⟨by omega, by omega, Or.inr (Or.inl ⟨((pk tx p).toInt - 65).toNat, by omega, by rw [← ek], rfl, by rw [← ek]; exact d8, rfl⟩)⟩⟩
    simp only [C96, r6, b1, cond_false, t1, t2, nO, d2, d3, Option.bind_some]
  · rw [if_neg k1] at r6
    by_cases k4 : pk tx p = 91
    · have a100 : mj_c2 .ne (pk tx p) 100 = true := by rw [k4]; decide
      rw [if_neg (by rw [k4]; decide)] at r9
      have st : C96 xt ct O N (z + 5) (pk tx p) H = (C104 xt ct O N (z + 5) H).bind fun r23 => tc (fun z => z) r23 fun v26 => J90_207 xt ct O N v26 r23.2 := by
        simp only [C96, r6, b0, cond_true, r9, a100, k0, Option.bind_some]
      obtain ⟨u1, u2⟩ := C104_do (xt := xt) (ct := ct) (O := O) (N := N) hN h hf hz k4
      rw [st]
      cases e1 : rRow tx p with
      | inl w =>
        have e : rLf tx p nf = .inl w := by simp only [rLf, if_neg k1, if_pos k4, e1]
        rw [e]
        refine ⟨fun w' hw => ?_, fun q hq => (by cases hq)⟩
        cases hw
        exact rthr_tc (u1 w e1)
      | inr a =>
        have e : rLf tx p nf = .inr (a.1, (5, Int32.ofNat nf, Int32.ofNat a.2.length, 0, 0, -1, -1), a.2) := by simp only [rLf, if_neg k1, if_pos k4, e1]
        rw [e]
        refine ⟨fun w hw => (by cases hw), fun q hq => ?_⟩
        cases hq
        obtain ⟨x, G, v1, v2, v3, v4, v5⟩ := u2 a e1
        refine ⟨x, G, a.2.length, ?_, v2, v3, v4, v5 nf⟩
        simp only [v1, tc, J90_207, Option.bind_some]
    · by_cases k3 : pk tx p = 100
      · have a100 : mj_c2 .ne (pk tx p) 100 = false := decide_eq_false (fun q => q k3)
        have st : C96 xt ct O N (z + 5) (pk tx p) H = (C98 xt ct O N (z + 5) (Int32.ofNat 1) H).bind fun r33 => tc (fun z => z) r33 fun v36 => J90_207 xt ct O N v36 r33.2 := by
          rw [if_neg (by rw [k3]; decide)] at r9
          simp only [C96, r6, b0, cond_true, r9, a100, cond_false, k0, Option.bind_some]
          rfl
        obtain ⟨u1, u2⟩ := C98_do (xt := xt) (ct := ct) (O := O) (N := N) (n := 1) hN h hf hz (by decide)
        rw [st]
        cases e1 : rDc tx 1 p with
        | inl w =>
          have e : rLf tx p nf = .inl w := by simp only [rLf, if_neg k1, if_neg k4, if_pos k3, e1]
          rw [e]
          refine ⟨fun w' hw => ?_, fun q hq => (by cases hq)⟩
          cases hw
          exact rthr_tc (u1 w e1)
        | inr a =>
          have e : rLf tx p nf = .inr (a.1, a.2, []) := by simp only [rLf, if_neg k1, if_neg k4, if_pos k3, e1]
          rw [e]
          refine ⟨fun w hw => (by cases hw), fun q hq => ?_⟩
          cases hq
          obtain ⟨x, G, f, v1, v2, v3, v4, v5⟩ := u2 a e1
          refine ⟨x, G, f, ?_, v2, v3, v4, v5 nf⟩
          simp only [v1, tc, J90_207, Option.bind_some]
      · have k2 : isDg (pk tx p) := by rcases hi with q | q | q | q; exact absurd q k1; exact q; exact absurd q k3; exact absurd q k4
        have st : C96 xt ct O N (z + 5) (pk tx p) H = (C107 xt ct O N (z + 5) H).bind fun r13 => tc (fun z => z) r13 fun v16 => some (.inl v16, r13.2) := by
          rw [if_pos k2] at r9
          simp only [C96, r6, b0, b1, cond_true, cond_false, r9, k0, Option.bind_some]
        obtain ⟨u1, u2⟩ := C107_do (xt := xt) (ct := ct) (O := O) (N := N) hN h hf hz
        rw [st]
        cases e1 : rNum tx p 0 999 with
        | inl w =>
          have e : rLf tx p nf = .inl w := by simp only [rLf, if_neg k1, if_neg k4, if_neg k3, e1]
          rw [e]
          refine ⟨fun w' hw => ?_, fun q hq => (by cases hq)⟩
          cases hw
          exact rthr_tc (u1 w e1)
        | inr a =>
          obtain ⟨v1, v2, v3⟩ := u2 a e1
          by_cases k5 : pk tx a.1 = 100
          · by_cases k6 : 1 ≤ a.2 ∧ a.2 ≤ 6
            · obtain ⟨w1, w2⟩ := v3 k5 k6
              cases e2 : rDc tx a.2 a.1 with
              | inl w =>
                have e : rLf tx p nf = .inl w := by simp only [rLf, if_neg k1, if_neg k4, if_neg k3, e1, if_pos k5, if_pos k6, e2]
                rw [e]
                refine ⟨fun w' hw => ?_, fun q hq => (by cases hq)⟩
                cases hw
                exact rthr_tc (w1 w e2)
              | inr b =>
                have e : rLf tx p nf = .inr (b.1, b.2, []) := by simp only [rLf, if_neg k1, if_neg k4, if_neg k3, e1, if_pos k5, if_pos k6, e2]
                rw [e]
                refine ⟨fun w hw => (by cases hw), fun q hq => ?_⟩
                cases hq
                obtain ⟨x, G, f, y1, y2, y3, y4, y5⟩ := w2 b e2
                refine ⟨x, G, f, ?_, y2, y3, y4, y5 nf⟩
                simp only [y1, tc, Option.bind_some]
            · have e : rLf tx p nf = .inl p := by simp only [rLf, if_neg k1, if_neg k4, if_neg k3, e1, if_pos k5, if_neg k6]
              rw [e]
              refine ⟨fun w' hw => ?_, fun q hq => (by cases hq)⟩
              cases hw
              exact rthr_tc (v2 k5 k6)
          · have e : rLf tx p nf = .inr (a.1, (0, Int32.ofNat a.2, 0, 0, 0, -1, -1), []) := by simp only [rLf, if_neg k1, if_neg k4, if_neg k3, e1, if_neg k5]
            rw [e]
            refine ⟨fun w hw => (by cases hw), fun q hq => ?_⟩
            cases hq
            obtain ⟨G, y1, y2, y3, y4, y5⟩ := v1 k5
            refine ⟨H.2.1, G, 1, ?_, y2, y3, y4, lfT_b y5 (show (0 : Int32) ≠ 5 by decide)⟩
            simp only [y1, tc, Option.bind_some]
end LEC
