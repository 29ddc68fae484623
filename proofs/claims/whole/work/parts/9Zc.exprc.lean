/-! EXPRESSIONS, THE CLASS -/
def xres (z : Nat) (tx : List Int32) (st : Nat) (wp : Int32) (d : Nat) (r : Rd) (H : mj_H) (R : Nat ⊕ Rd) (x : Option ((Nat ⊕ Nat) × mj_H)) : Prop := (∀ w, R = .inl w → rthr z tx w r.1 H x) ∧ (∀ q, R = .inr q → ∃ a G f n, x = some (.inl a, G) ∧ pst z G tx q.1 st q.2.1 wp ∧ fz z G ∧ xfr z H G (q.1 - r.1) ∧ exT G H.2.1 G.2.1 q.2.2.1 q.2.2.2 n r.2.2.1.length (q.2.2.1.length - 1) a f ∧ n + r.2.1 ≤ q.2.1 + (5 - d))
section EXC
variable {xt : mj_X} {ct : Nat → Value} {O : OR} {N z : Nat} {tx : List Int32}
theorem C108_do {H : mj_H} {c : Int32} : C108 xt ct O N c H = some (bd c, H) := by
  have e : ∀ k, mj_c2 .eq c k = decide (c = k) := fun k => rfl
  have push : ∀ (p : Prop) [Decidable p] (x y : Int32), some ((if p then x else y), H) = if p then some (x, H) else some (y, H) := by
    intro p _ x y
    split <;> rfl
  simp only [C108, e, bd, Bool.cond_decide, push]
theorem bd_pk {p b : Nat} (hb : b < 3) (h : bd (pk tx p) = Int32.ofNat b) : p < tx.length ∧ bd (pk tx p) ≠ -1000 := by
  have hb' : b = 0 ∨ b = 1 ∨ b = 2 := by omega
  refine ⟨pkz_in (fun e => ?_), fun e => ?_⟩
  · rw [e] at h
    rcases hb' with rfl | rfl | rfl <;> revert h <;> decide
  · rw [e] at h
    rcases hb' with rfl | rfl | rfl <;> revert h <;> decide
theorem pk_ch {H : mj_H} {p q st lv : Nat} {wp : Int32} (h : pst z H tx p st lv wp) : 0 ≤ (pk tx q).toInt ∧ (pk tx q).toInt ≤ 65535 := by
  rcases pk_rng (p := q) h.2.2.2.1 with ⟨e, -⟩ | ⟨e1, e2, -⟩
  · rw [e, q_0]
    omega
  · omega
/-- operations of one binding -/
theorem L89_do {n b d st : Nat} {wp : Int32} (hb : b < 3) {sub : Rd → Nat ⊕ Rd} (hok : ∀ r q, r.1 ≤ tx.length → r.2.1 ≤ 40 → sub r = .inr q → rLt tx r q) (hs : ∀ (r : Rd) (H : mj_H), pst z H tx r.1 st r.2.1 wp → fz z H → z + 107 ≤ H.2.1 → r.2.1 ≤ 40 → xres z tx st wp d r H (sub r) (O.2.1 (z + 5) (Int32.ofNat (b + 1)) (Int32.ofNat d) H)) {r0 : Rd} {H0 : mj_H} (hz0 : z + 107 ≤ H0.2.1) {most : Nat} (hmost : most ≤ 40) : ∀ (m i : Nat) (r : Rd) (H : mj_H) (a f n : Nat), n + r0.2.1 ≤ r.2.1 + (5 - d) → r0.2.1 < r.2.1 → i + m = most → pst z H tx r.1 st r.2.1 wp → fz z H → r.2.1 ≤ 40 → r0.1 ≤ r.1 → 1 ≤ r.2.2.1.length → xfr z H0 H (r.1 - r0.1) → exT H H0.2.1 H.2.1 r.2.2.1 r.2.2.2 n r0.2.2.1.length (r.2.2.1.length - 1) a f → xres z tx st wp d r0 H0 (rLp tx b sub m r) (t_lp (B89_35 xt ct O N) (m + 1) (z + 5, Int32.ofNat b, Int32.ofNat d, a, Int32.ofNat most, Int32.ofNat i, H)) := by
  intro m
  induction m with
  | zero =>
    intro i r H a f n hnd hlv hi h hf hl h0 h1 hx ht
    have c : mj_c2 .ge (Int32.ofNat i) (Int32.ofNat most) = true := i_c2 (by show decide _ = true; apply decide_eq_true; rw [i_nat (by omega), i_nat (by omega)]; omega)
    refine ⟨fun w hw => (by cases hw), fun q hq => ?_⟩
    cases hq
    refine ⟨a, H, f, n, ?_, h, hf, hx, ht, hnd⟩
    apply t_lp_map
    simp only [B89_35, c, cond_true, J89_94]
  | succ m ih =>
    intro i r H a f n hnd hlv hi h hf hl h0 h1 hx ht
    have c : mj_c2 .ge (Int32.ofNat i) (Int32.ofNat most) = false := i_c2 (by show decide _ = false; apply decide_eq_false; rw [i_nat (by omega), i_nat (by omega)]; omega)
    have k0 := pst_k h
    have rd := C84_do (xt := xt) (ct := ct) (O := O) (N := N) h
    by_cases hc : bd (pk tx r.1) = Int32.ofNat b
    · have c2 : mj_c2 .ne (bd (pk tx r.1)) (Int32.ofNat b) = false := decide_eq_false (fun q => q hc)
      obtain ⟨hlt, hne⟩ := bd_pk hb hc
      obtain ⟨H1, t1, t2, t3, t4, t5, t6⟩ := pst_inc h hf hlt
      have n1 : H1.2.1 = H.2.1 := by rw [t6]
      have hx2 := hx.2
      obtain ⟨H2, hH2⟩ : ∃ H2, mj_new H1 4 (.inr (10, [.int 0, .null, .null, .long 0])) = H2 := ⟨_, rfl⟩
      have p2 := pst_new (n := 4) (e := .inr (10, [.int 0, .null, .null, .long 0])) t3 (by omega)
      have f2 := fz_new (n := 4) (e := .inr (10, [.int 0, .null, .null, .long 0])) t4 (by omega)
      have x12 : xfr z H1 H2 1 := by rw [← hH2]; exact xfr_new (by decide) (by decide)
      have c12 : H2.1 H1.2.1 = some (.inr (10, [.int 0, .null, .null, .long 0])) := by rw [← hH2]; exact mj_new_eq
      have e2 : H2.2.1 = H1.2.1 + 1 := by rw [← hH2]; rfl
      rw [hH2] at p2 f2
      have x2 : xfr z H0 H2 (r.1 + 1 - r0.1) := xfr_trans (xfr_trans hx (xfr_of (k := 0) t5 t6) (Nat.le_refl _)) x12 (by omega)
      have k2 := pst_k p2
      have s := hs (r.1 + 1, r.2) H2 p2 f2 (by omega) hl
      have e1 : Int32.ofNat b + 1 = Int32.ofNat (b + 1) := i_inc (by omega)
      obtain ⟨s1, s2⟩ := s
      have fB : ∀ x, O.2.1 (z + 5) (Int32.ofNat (b + 1)) (Int32.ofNat d) H2 = x → B89_35 xt ct O N (z + 5, Int32.ofNat b, Int32.ofNat d, a, Int32.ofNat most, Int32.ofNat i, H) = x.bind fun r54 => tc (fun z => (.inr z)) r54 fun v57 => (gC r54.2 H1.2.1).bind fun k61 => (C109 xt ct O N H1.2.1 (pk tx r.1) a v57 r54.2).bind fun r64 => some (.inl (z + 5, Int32.ofNat b, Int32.ofNat d, H1.2.1, Int32.ofNat most, Int32.ofNat i + 1, r64)) := by
        intro x hx
        simp only [B89_35, c, c2, cond_false, k0, rd, C108_do, t1, t2, nO, hH2, k2, e1, hx, Option.bind_some]
      rw [rLp, if_pos hc]
      cases es : sub (r.1 + 1, r.2) with
      | inl w =>
        refine ⟨fun w' hw => ?_, fun q hq => (by cases hq)⟩
        cases hw
        obtain ⟨F, pt, u1, u2, u3, u4, u5, u6, u7⟩ := s1 w es
        dsimp only at u6 u7
        refine ⟨F, pt, u1, u2, ?_, u4, u5, by omega, xfr_trans x2 u7 (by omega)⟩
        rw [t_lp, fB _ u3]
        rfl
      | inr q =>
        dsimp only
        obtain ⟨y, G, g, n2, v1, v2, v3, v4, v5, v6⟩ := s2 q es
        have lq := hok (r.1 + 1, r.2) q (show r.1 + 1 ≤ _ by omega) hl es
        have lq1 := lq.1
        have lq2 := lq.2
        dsimp only at v4 v5 v6 lq2
        have hv4 := v4.2
        -- the cells of before
        have old : ∀ q', H0.2.1 ≤ q' → q' < H.2.1 → G.1 q' = H.1 q' := by
          intro q' h3 h4
          rw [v4.1 q' (by omega) (by omega) (by omega), x12.1 q' (by omega) (by omega) (by omega), t5 q' (by omega)]
        have cg : G.1 H1.2.1 = some (.inr (10, [.int 0, .null, .null, .long 0])) := by
          rw [v4.1 _ (by omega) (by omega) (by omega)]
          exact c12
        have tl := exT_mono0 (A' := H0.2.1) (B' := H.2.1) (G := G) (Nat.le_refl _) (Nat.le_refl _) old ht
        have fl := exT_fal _ _ _ _ _ tl
        have fr := exT_fal _ _ _ _ _ v5
        have e3 := C109_do (xt := xt) (ct := ct) (O := O) (N := N) (pk_ch (q := r.1) h) fl.1 fr.1 fl.2.1.2 fr.2.1.2 cg
        obtain ⟨G', hG'⟩ : ∃ G', mj_put G H1.2.1 (.inr (10, [.int (pk tx r.1), .ref a, .ref y, .long (Int64.ofNat (prN f g))])) = G' := ⟨_, rfl⟩
        have gp := pst_put (e := .inr (10, [.int (pk tx r.1), .ref a, .ref y, .long (Int64.ofNat (prN f g))])) v2 (show z + 107 ≤ H1.2.1 by omega)
        have gf := fz_put (e := .inr (10, [.int (pk tx r.1), .ref a, .ref y, .long (Int64.ofNat (prN f g))])) v3 (show z + 107 ≤ H1.2.1 by omega)
        have gx := xfr_put (e := .inr (10, [.int (pk tx r.1), .ref a, .ref y, .long (Int64.ofNat (prN f g))])) (xfr_trans x2 v4 (m := q.1 - r0.1) (by have := lq1.1; dsimp only at this; omega)) (show H0.2.1 ≤ H1.2.1 by omega)
        rw [hG'] at e3 gp gf gx
        have cG' : G'.1 H1.2.1 = some (.inr (10, [.int (pk tx r.1), .ref a, .ref y, .long (Int64.ofNat (prN f g))])) := by rw [← hG']; exact mj_put_eq
        have nG' : ∀ q', q' ≠ H1.2.1 → G'.1 q' = G.1 q' := fun q' hq => by rw [← hG']; exact mj_put_ne hq
        have bG' : G'.2 = G.2 := by rw [← hG']; rfl
        have bG1 : G'.2.1 = G.2.1 := by rw [bG']
        -- the new tree
        have tree : exT G' H0.2.1 G'.2.1 (q.2.2.1 ++ [opN (pk tx r.1) (r.2.2.1.length - 1) (q.2.2.1.length - 1)]) q.2.2.2 (max n n2 + 1) r0.2.2.1.length ((q.2.2.1 ++ [opN (pk tx r.1) (r.2.2.1.length - 1) (q.2.2.1.length - 1)]).length - 1) H1.2.1 (prN f g) := by
          obtain ⟨-, -, ⟨l, l1⟩, -, ⟨k, l2⟩, -⟩ := lq1
          dsimp only at l1 l2
          have el : (q.2.2.1 ++ [opN (pk tx r.1) (r.2.2.1.length - 1) (q.2.2.1.length - 1)]).length = q.2.2.1.length + 1 := by rw [List.length_append]; rfl
          refine Or.inr (Or.inr ⟨q.2.2.1.length - 1, r.2.2.1.length - 1, a, y, f, g, pk tx r.1, by omega, by omega, by omega, ?_, ?_, hne, ?_, rfl, cG'⟩)
          · have := exT_mono (G := G') (A' := H0.2.1) (B' := G'.2.1) (nds' := l ++ [opN (pk tx r.1) (r.2.2.1.length - 1) (q.2.2.1.length - 1)]) (fcs' := k) (Nat.le_refl _) (by omega) (fun q' h3 h4 => nG' q' (by omega)) n (max n n2) _ _ _ _ (Nat.le_max_left _ _) tl
            rw [← List.append_assoc, ← l1, ← l2] at this
            exact this
          · have := exT_mono (G := G') (A' := H0.2.1) (B' := G'.2.1) (nds' := [opN (pk tx r.1) (r.2.2.1.length - 1) (q.2.2.1.length - 1)]) (fcs' := []) (show H0.2.1 ≤ H2.2.1 by omega) (by omega) (fun q' h3 h4 => nG' q' (by omega)) n2 (max n n2) _ _ _ _ (Nat.le_max_right _ _) v5
            rw [List.append_nil] at this
            rw [show r.2.2.1.length - 1 + 1 = r.2.2.1.length by omega]
            exact this
          · rw [el, show q.2.2.1.length + 1 - 1 = q.2.2.1.length by omega, List.getElem?_append_right (Nat.le_refl _), Nat.sub_self]
            rfl
        have := ih (i + 1) (q.1, q.2.1, q.2.2.1 ++ [opN (pk tx r.1) (r.2.2.1.length - 1) (q.2.2.1.length - 1)], q.2.2.2) G' H1.2.1 (prN f g) _ (show max n n2 + 1 + r0.2.1 ≤ q.2.1 + (5 - d) by omega) (show r0.2.1 < q.2.1 by omega) (by omega) gp gf lq1.2.2.2.2.2.2.2 (by show r0.1 ≤ q.1; have := lq1.1; dsimp only at this; omega) (by show 1 ≤ List.length _; rw [List.length_append]; dsimp only [List.length_cons]; omega) gx tree
        have step : t_lp (B89_35 xt ct O N) (m + 1 + 1) (z + 5, Int32.ofNat b, Int32.ofNat d, a, Int32.ofNat most, Int32.ofNat i, H) = t_lp (B89_35 xt ct O N) (m + 1) (z + 5, Int32.ofNat b, Int32.ofNat d, H1.2.1, Int32.ofNat most, Int32.ofNat (i + 1), G') := by
          have fb : B89_35 xt ct O N (z + 5, Int32.ofNat b, Int32.ofNat d, a, Int32.ofNat most, Int32.ofNat i, H) = some (.inl (z + 5, Int32.ofNat b, Int32.ofNat d, H1.2.1, Int32.ofNat most, Int32.ofNat (i + 1), G')) := by
            rw [fB _ v1, ← i_inc (k := i) (by omega)]
            simp only [tc, gC_of cg, e3, Option.bind_some]
          rw [t_lp, fb]
        rw [step]
        exact this
    · have c2 : mj_c2 .ne (bd (pk tx r.1)) (Int32.ofNat b) = true := decide_eq_true hc
      rw [rLp, if_neg hc]
      refine ⟨fun w hw => (by cases hw), fun q hq => ?_⟩
      cases hq
      refine ⟨a, H, f, n, ?_, h, hf, hx, ht, hnd⟩
      apply t_lp_map
      simp only [B89_35, c, cond_false, k0, rd, C108_do, c2, cond_true, J89_94, Option.bind_some]
end EXC
