/-! STATEMENTS, THE CLASS -/
def pres (z : Nat) (tx : List Int32) (wp : Int32) (dep : Nat) (s : Rs) (H : mj_H) (R : Nat ⊕ (Rs × List Nat)) (x : Option ((Option Nat ⊕ Nat) × mj_H)) : Prop := (∀ w, R = .inl w → rthr z tx w s.2.1 H x) ∧ (∀ q, R = .inr q → ∃ o G l m, x = some (.inl o, G) ∧ pst z G tx q.1.2.1 q.1.1.length q.1.2.2.1 wp ∧ fz z G ∧ xfr z H G (q.1.2.1 - s.2.1) ∧ chn G l o ∧ bk (sT G q.1.1 q.1.2.2.2.1 q.1.2.2.2.2 m H.2.1 G.2.1) q.1.1 l s.1.length q.1.1.length ∧ l.map Prod.snd = q.2 ∧ m + dep ≤ 5)
def sres (z : Nat) (tx : List Int32) (wp : Int32) (dep : Nat) (s : Rs) (H : mj_H) (R : Nat ⊕ (Rs × Nat)) (x : Option ((Option Nat ⊕ Nat) × mj_H)) : Prop := (∀ w, R = .inl w → rthr z tx w s.2.1 H x) ∧ (∀ q, R = .inr q → ∃ (a : Nat) (G : mj_H) (m : Nat) (t : St) (c : Int32) (e : Nat) (v2 v3 v4 v6 v7 : Value), x = some (.inl (some a), G) ∧ pst z G tx q.1.2.1 q.1.1.length q.1.2.2.1 wp ∧ fz z G ∧ xfr z H G (q.1.2.1 - s.2.1) ∧ q.1.1[s.1.length]? = some t ∧ t.2.2.2.2.2.2 = q.2 ∧ t.2.2.2.2.2.1 = q.1.1.length ∧ sT G q.1.1 q.1.2.2.2.1 q.1.2.2.2.2 m H.2.1 G.2.1 s.1.length t a ∧ G.1 a = some (.inr (11, [.int c, .ref e, v2, v3, v4, .long (Int64.ofNat q.2), v6, v7, rv none])) ∧ 1 ≤ q.2 ∧ q.2 ≤ 2147483649 ∧ m + dep ≤ 5)
section STM
variable {xt : mj_X} {ct : Nat → Value} {O : OR} {N z : Nat} {tx : List Int32} {wp : Int32}
/-- the claim of a program that is read deeper -/
def PRc (O : OR) (z : Nat) (tx : List Int32) (wp : Int32) (n : Nat) : Prop := ∀ (dep : Nat) (s : Rs) (H : mj_H), dep ≤ 4 → 31 + (5 - dep) ≤ n → pst z H tx s.2.1 s.1.length s.2.2.1 wp → fz z H → z + 107 ≤ H.2.1 → s.2.2.1 ≤ 40 → s.1.length ≤ 24 → pres z tx wp dep s H (rB tx n dep s) (O.1 (z + 5) (Int32.ofNat dep) H)
def XPc (O : OR) (z : Nat) (tx : List Int32) (wp : Int32) (n : Nat) : Prop := ∀ (st : Nat) (r : Rd) (H : mj_H), pst z H tx r.1 st r.2.1 wp → fz z H → z + 107 ≤ H.2.1 → r.2.1 ≤ 40 → xres z tx st wp 0 r H (rX tx n 0 0 r) (O.2.1 (z + 5) 0 0 H)
theorem C110_do (hN : 2000 ≤ N) {n dep : Nat} (hn : 31 + (5 - dep) ≤ n + 1) (hP : PRc O z tx wp n) {s : Rs} {H : mj_H} (hd : dep ≤ 4) (h : pst z H tx s.2.1 s.1.length s.2.2.1 wp) (hf : fz z H) (hz : z + 107 ≤ H.2.1) (hl : s.2.2.1 ≤ 40) (h4 : s.1.length ≤ 24) : pres z tx wp (dep + 1) s H (rBr tx (rB tx n) dep s) (C110 xt ct O N (z + 5) (Int32.ofNat dep) H) := by
  have k0 := pst_k h
  have gi : gI H (z + 5) 1 3 = some (Int32.ofNat s.2.1) := gI_of h.1 rfl
  have q4 : (4 : Int32).toInt = 4 := rfl
  by_cases hd4 : dep < 4
  · have c4 : mj_c2 .ge (Int32.ofNat dep) 4 = false := i_c2 (by show decide _ = false; apply decide_eq_false; rw [i_nat (by omega), q4]; omega)
    obtain ⟨a1, a2⟩ := C94_r (xt := xt) (ct := ct) (O := O) (N := N) (c := 123) h hf (by decide)
    have st0 : ∀ x, C94 xt ct O N (z + 5) 123 H = x → C110 xt ct O N (z + 5) (Int32.ofNat dep) H = x.bind fun r19 => tc (fun z => z) r19 fun v22 => (gK r19.2 (z + 5) 1).bind fun k26 => (O.1 (z + 5) (Int32.ofNat dep + 1) r19.2).bind fun r29 => tc (fun z => z) r29 fun v32 => (gK r29.2 (z + 5) 1).bind fun k36 => (C94 xt ct O N (z + 5) 125 r29.2).bind fun r39 => tc (fun z => z) r39 fun v42 => some (.inl v32, r39.2) := by
      intro x hx
      simp only [C110, c4, cond_false, J110_11, gi, k0, C87_yes, tc, hx, Option.bind_some]
    by_cases hc : pk tx s.2.1 = 123
    · obtain ⟨H1, b1, b2, b3, b4, b5⟩ := a1 hc
      have n1 : H1.2.1 = H.2.1 := by rw [b5]
      have k1 := pst_k b2
      have ed : Int32.ofNat dep + 1 = Int32.ofNat (dep + 1) := i_inc (by omega)
      obtain ⟨p1, p2⟩ := hP (dep + 1) (s.1, s.2.1 + 1, s.2.2) H1 (by omega) (by omega) b2 b3 (by omega) hl h4
      rw [st0 _ b1]
      unfold rBr
      rw [if_pos ⟨hd4, hc⟩]
      cases es : rB tx n (dep + 1) (s.1, s.2.1 + 1, s.2.2) with
      | inl w =>
        refine ⟨fun w' hw => ?_, fun q hq => (by cases hq)⟩
        cases hw
        simp only [tc, k1, ed, Option.bind_some]
        exact rthr_tc (rthr_fr (p1 w es) (xfr_of (k := 0) b4 b5) (by dsimp only; omega))
      | inr q =>
        dsimp only
        obtain ⟨o, G, l, m, v1, v2, v3, v4, v5, v6, v7, v8⟩ := p2 q es
        have lq := rB_ok n (dep + 1) (s.1, s.2.1 + 1, s.2.2) q b2.2.2.2.2 hl h4 es
        have lq1 := lq.1.1
        dsimp only at v4 lq1
        have k2 := pst_k v2
        have x2 : xfr z H G (q.1.2.1 - (s.2.1 + 1)) := xfr_trans (xfr_of (k := 0) b4 b5) v4 (by omega)
        obtain ⟨w1, w2⟩ := C94_r (xt := xt) (ct := ct) (O := O) (N := N) (c := 125) v2 v3 (by decide)
        by_cases hc2 : pk tx q.1.2.1 = 125
        · rw [if_pos hc2]
          refine ⟨fun w hw => (by cases hw), fun q' hq => ?_⟩
          cases hq
          obtain ⟨G2, y1, y2, y3, y4, y5⟩ := w1 hc2
          have n2 : G2.2.1 = G.2.1 := by rw [y5]
          have r := bk_rng _ _ _ v6
          refine ⟨o, G2, l, m, ?_, y2, y3, xfr_trans x2 (xfr_of (k := 0) y4 y5) (by dsimp only; omega), chn_fr l o (fun x hx => y4 x.1 (by have := r.1 x hx; omega)) v5, ?_, v7, v8⟩
          · simp only [tc, k1, ed, v1, k2, y1, Option.bind_some]
          · rw [n2, ← n1]
            refine (bk_imp l _ _ (fun s t a x => sT_end x) (fun s' t' a' p q w => ?_) (fun i p q => rfl) v6).1
            have := sT_mono (nds' := []) (fcs' := []) m m H1.2.1 G.2.1 H1.2.1 G.2.1 s' t' a' (Nat.le_refl _) (Nat.le_refl _) (Nat.le_refl _) (fun q p1 p2 => y4 q (by omega)) (fun i p q => rfl) w
            rw [List.append_nil, List.append_nil] at this
            exact this
        · rw [if_neg hc2]
          refine ⟨fun w hw => ?_, fun q' hq => (by cases hq)⟩
          cases hw
          simp only [tc, k1, ed, v1, k2, Option.bind_some]
          exact rthr_tc (rthr_fr (w2 hc2) x2 (by omega))
    · unfold rBr
      rw [if_neg (fun q => hc q.2), st0 _ rfl]
      refine ⟨fun w hw => ?_, fun q hq => (by cases hq)⟩
      cases hw
      exact rthr_tc (a2 hc)
  · have c4 : mj_c2 .ge (Int32.ofNat dep) 4 = true := i_c2 (by show decide _ = true; apply decide_eq_true; rw [i_nat (by omega), q4]; omega)
    unfold rBr
    rw [if_neg (fun q => hd4 q.1)]
    refine ⟨fun w hw => ?_, fun q hq => (by cases hq)⟩
    cases hw
    simp only [C110, c4, cond_true, J110_11, gi, k0, Option.bind_some]
    exact rthr_tc (C87_r h hf s.2.1)
/-- an assignment or a condition, from its expression on -/
theorem J85_121_do (hN : 2000 ≤ N) {n dep : Nat} (hdep : dep ≤ 4) (hX : XPc O z tx wp n) {s : Rs} {H0 H : mj_H} {p k a : Nat} {c : Int32} (h : pst z H tx p (s.1.length + 1) s.2.2.1 wp) (hf : fz z H) (hz : z + 107 ≤ H.2.1) (hl : s.2.2.1 ≤ 40) (hx : xfr z H0 H 0) (hp : s.2.1 < p) (hk : (k = 0 ∧ a < 6 ∧ c = Int32.ofNat (65 + a)) ∨ (k = 1 ∧ c = 33)) : sres z tx wp dep s H0 (rSim tx (rX tx n 0 0) k a p s) (J85_121 xt ct O N (z + 5) c H) := by
  have k0 := pst_k h
  obtain ⟨x1, x2⟩ := hX (s.1.length + 1) (p, s.2.2) H h hf hz hl
  have hch : 0 ≤ c.toInt ∧ c.toInt ≤ 65535 := by
    rcases hk with ⟨-, ha, rfl⟩ | ⟨-, rfl⟩
    · rw [i_nat (by omega)]; omega
    · decide
  have h42 : c ≠ 42 := by
    rcases hk with ⟨-, ha, rfl⟩ | ⟨-, rfl⟩
    · intro e
      have := congrArg Int32.toInt e
      rw [i_nat (by omega), show (42 : Int32).toInt = 42 from rfl] at this
      omega
    · decide
  have st0 : ∀ x, O.2.1 (z + 5) 0 0 H = x → J85_121 xt ct O N (z + 5) c H = x.bind fun r64 => tc (fun z => z) r64 fun v67 => (gK r64.2 (z + 5) 1).bind fun k71 => (C94 xt ct O N (z + 5) 59 r64.2).bind fun r74 => tc (fun z => z) r74 fun v77 => (nO r74.2 11 9 [.int 0, .null, .int 0, .null, .null, .long 0, .long 0, .long 0, .null]).bind fun r81 => (gC r81.2 r81.1).bind fun k84 => (C111 xt ct O N r81.1 c v67 0 none none r81.2).bind fun r87 => some (.inl (some r81.1), r87) := by
    intro x hx
    simp only [J85_121, k0, hx, Option.bind_some]
  unfold rSim
  cases es : rX tx n 0 0 (p, s.2.2) with
  | inl w =>
    refine ⟨fun w' hw => ?_, fun q hq => (by cases hq)⟩
    cases hw
    rw [st0 _ rfl]
    exact rthr_tc (rthr_fr (x1 w es) hx (by dsimp only; omega))
  | inr r =>
    dsimp only
    obtain ⟨e, G, f, m, v1, v2, v3, v4, v5, v6⟩ := x2 r es
    have lr := rX_ok n 0 0 (p, s.2.2) r h.2.2.2.2 hl es
    have lr1 := lr.1.1
    have lr2 := lr.2
    dsimp only at v4 v5 v6 lr1 lr2
    have lr40 := lr.1.2.2.2.2.2.2.2
    have k1 := pst_k v2
    have hfe := exT_f _ _ _ _ _ v5
    have hff := exT_fal _ _ _ _ _ v5
    rw [seg_all (by omega)] at hfe
    have ef : f = exF r.2.2.1 s.2.2.2.1.length := hfe.1
    have x2 : xfr z H0 G (r.1 - p) := xfr_trans hx v4 (by omega)
    obtain ⟨w1, w2⟩ := C94_r (xt := xt) (ct := ct) (O := O) (N := N) (c := 59) v2 v3 (by decide)
    rw [st0 _ v1]
    by_cases hc : pk tx r.1 = 59
    · rw [if_pos hc]
      refine ⟨fun w hw => (by cases hw), fun q hq => ?_⟩
      cases hq
      obtain ⟨G2, y1, y2, y3, y4, y5⟩ := w1 hc
      have n2 : G2.2.1 = G.2.1 := by rw [y5]
      have hx0 := hx.2
      have hv4 := v4.2
      obtain ⟨G3, hG3⟩ : ∃ G3, mj_new G2 9 (.inr (11, [.int 0, .null, .int 0, .null, .null, .long 0, .long 0, .long 0, .null])) = G3 := ⟨_, rfl⟩
      have p3 := pst_new (n := 9) (e := .inr (11, [.int 0, .null, .int 0, .null, .null, .long 0, .long 0, .long 0, .null])) y2 (by omega)
      have f3 := fz_new (n := 9) (e := .inr (11, [.int 0, .null, .int 0, .null, .null, .long 0, .long 0, .long 0, .null])) y3 (by omega)
      have x3 : xfr z H0 G3 (r.1 + 1 - s.2.1) := xfr_trans (xfr_trans x2 (xfr_of (k := 0) y4 y5) (Nat.le_refl _)) (show xfr z G2 G3 1 by rw [← hG3]; exact xfr_new (by decide) (by decide)) (by omega)
      have c3 : G3.1 G2.2.1 = some (.inr (11, [.int 0, .null, .int 0, .null, .null, .long 0, .long 0, .long 0, .null])) := by rw [← hG3]; exact mj_new_eq
      have o3 : ∀ q, q ≠ G2.2.1 → G3.1 q = G2.1 q := fun q hq => by rw [← hG3]; exact mj_new_ne hq
      have n3 : G3.2.1 = G2.2.1 + 1 := by rw [← hG3]; rfl
      rw [hG3] at p3 f3
      have t3 : exT G3 H.2.1 G.2.1 r.2.2.1 r.2.2.2 m s.2.2.2.1.length (r.2.2.1.length - 1) e f := exT_mono0 (Nat.le_refl _) (Nat.le_refl _) (fun q h1 h2 => (o3 q (by omega)).trans (y4 q (by omega))) v5
      have fal3 := (exT_fal _ _ _ _ _ t3)
      have e3 := C111_do (xt := xt) (ct := ct) (O := O) (N := N) (tm := 0) (l1 := []) (l2 := []) (o1 := none) (o2 := none) hN hch c3 (show chn G3 [] none from rfl) (show chn G3 [] none from rfl) (fun x hx => absurd hx List.not_mem_nil) (fun x hx => absurd hx List.not_mem_nil) (by decide) (by decide) fal3.1 fal3.2.1.2 (by omega) (by decide)
      have ef1 : (if c = 42 then pwN (fold_ [] 1) 0 1 else prN f (mlN (fold_ [] 1) (fold_ [] 1))) = f := by
        rw [if_neg h42, show mlN (fold_ [] 1) (fold_ [] 1) = 1 from rfl]
        exact (prN_one fal3.2.1.2).1
      rw [ef1] at e3
      obtain ⟨cell, hcell⟩ : ∃ cell : mj_E, (.inr (11, [.int c, .ref e, .int (Int32.ofNat 0), rv none, rv none, .long (Int64.ofNat f), .long (Int64.ofNat (mlN (fold_ [] 1) (fold_ [] 1) / fold_ [] 1)), .long (Int64.ofNat (mlN (fold_ [] 1) (fold_ [] 1) / fold_ [] 1)), rv none])) = cell := ⟨_, rfl⟩
      rw [hcell] at e3
      have e3' : C111 xt ct O N G2.2.1 c e 0 none none G3 = some (mj_put G3 G2.2.1 cell) := e3
      have el : (s.1 ++ [((k, a, s.2.2.2.1.length, r.2.2.1.length - 1, s.1.length + 1, s.1.length + 1, exF r.2.2.1 s.2.2.2.1.length) : St)]).length = s.1.length + 1 := by rw [List.length_append]; rfl
      refine ⟨G2.2.1, mj_put G3 G2.2.1 cell, 1, (k, a, s.2.2.2.1.length, r.2.2.1.length - 1, s.1.length + 1, s.1.length + 1, exF r.2.2.1 s.2.2.2.1.length), c, e, .int (Int32.ofNat 0), rv none, rv none, .long (Int64.ofNat (mlN (fold_ [] 1) (fold_ [] 1) / fold_ [] 1)), .long (Int64.ofNat (mlN (fold_ [] 1) (fold_ [] 1) / fold_ [] 1)), ?_, ?_, fz_put f3 (by omega), xfr_put x3 (by omega) (by rw [← hcell]; intro l h; cases h; done), ?_, rfl, el.symm, ?_, ?_, ?_⟩
      · simp only [tc, k1, y1, nO, hG3, gC_of c3, e3', Option.bind_some]
      · rw [el]
        exact pst_put p3 (by omega)
      · show (s.1 ++ [_])[s.1.length]? = _
        rw [List.getElem?_append_right (Nat.le_refl _), Nat.sub_self]
        rfl
      · refine ⟨by omega, by show G2.2.1 < G3.2.1; omega, Nat.le_refl _, c, e, Int32.ofNat 0, none, none, none, mlN (fold_ [] 1) (fold_ [] 1) / fold_ [] 1, mlN (fold_ [] 1) (fold_ [] 1) / fold_ [] 1, H.2.1, G.2.1, by omega, by show G.2.1 ≤ G3.2.1; omega, Or.inr (by omega), ?_, Or.inl ⟨?_, rfl, rfl, rfl, ?_, ?_, ?_⟩⟩
        · rw [mj_put_eq, ← hcell, ef]
        · dsimp only
          rcases hk with ⟨q, -⟩ | ⟨q, -⟩ <;> omega
        · intro q
          dsimp only at q
          rcases hk with ⟨-, q2, q3⟩ | ⟨q2, -⟩
          · exact ⟨q2, q3⟩
          · omega
        · intro q
          dsimp only at q
          rcases hk with ⟨q2, -⟩ | ⟨-, q2⟩
          · omega
          · exact q2
        · dsimp only
          rw [← ef]
          have := exT_mono (nds' := []) (fcs' := []) (G := mj_put G3 G2.2.1 cell) (A' := H.2.1) (B' := G.2.1) (Nat.le_refl _) (Nat.le_refl _) (fun q h1 h2 => mj_put_ne (by omega)) m 45 _ _ _ _ (by omega) t3
          rw [List.append_nil, List.append_nil] at this
          exact this
      · rw [mj_put_eq, ← hcell, ef]
      · show 1 ≤ exF r.2.2.1 s.2.2.2.1.length ∧ exF r.2.2.1 s.2.2.2.1.length ≤ _ ∧ _
        rw [← ef]
        exact ⟨fal3.2.1.1, fal3.2.1.2, by omega⟩
    · rw [if_neg hc]
      refine ⟨fun w hw => ?_, fun q hq => (by cases hq)⟩
      cases hw
      simp only [tc, k1, Option.bind_some]
      exact rthr_tc (rthr_fr (w2 hc) x2 (by omega))
end STM
