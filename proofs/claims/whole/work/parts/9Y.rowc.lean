/-! A ROW OF FACES, THE CLASS -/
section ROC
variable {xt : mj_X} {ct : Nat → Value} {O : OR} {N z : Nat} {tx : List Int32}
def frow (z : Nat) (H : mj_H) (fl : List Int32) : Prop := ∃ fc : List Value, H.1 (z + 7) = some (.inl (.int, fc)) ∧ fc.length = 8 ∧ (fc.all (fun v => fits .int v)) = true ∧ ∀ (i : Nat) (x : Int32), fl[i]? = some x → fc[i]? = some (.int x)
theorem frow_fz {H : mj_H} {fl : List Int32} (h : frow z H fl) : fz z H := by
  obtain ⟨fc, h1, h2, h3, -⟩ := h
  exact ⟨fc, h1, h2, h3⟩
theorem frow_fr {H G : mj_H} {fl : List Int32} (h : frow z H fl) (e : G.1 (z + 7) = H.1 (z + 7)) : frow z G fl := by
  obtain ⟨fc, h1, h2⟩ := h
  exact ⟨fc, e.trans h1, h2⟩
theorem frow_nil {H : mj_H} (h : fz z H) : frow z H [] := by
  obtain ⟨fc, h1, h2, h3⟩ := h
  exact ⟨fc, h1, h2, h3, fun i x hx => by cases hx⟩
/-- a face is kept -/
theorem frow_set {H : mj_H} {fl : List Int32} {x : Int32} (h : frow z H fl) (hl : fl.length < 8) : ∃ G, sN .int H (z + 7) (Int32.ofNat fl.length) x = some G ∧ frow z G (fl ++ [x]) ∧ (∀ q, q ≠ z + 7 → G.1 q = H.1 q) ∧ G.2 = H.2 := by
  obtain ⟨fc, h1, h2, h3, h4⟩ := h
  have e : (Int32.ofNat fl.length).toInt = fl.length := i_nat (by omega)
  have hn : (Int32.ofNat fl.length).toInt.toNat = fl.length := by omega
  refine ⟨_, sN_of h1 (by omega) (by omega), ⟨_, mj_put_eq, by rw [List.length_set]; exact h2, ?_, ?_⟩, fun q hq => mj_put_ne hq, rfl⟩
  · rw [List.all_eq_true] at h3 ⊢
    intro v hv
    rcases List.mem_or_eq_of_mem_set hv with q | q
    · exact h3 v q
    · rw [q]
      rfl
  · intro i y hi
    rw [hn]
    by_cases e2 : i = fl.length
    · subst e2
      rw [List.getElem?_append_right (Nat.le_refl _), Nat.sub_self] at hi
      cases hi
      rw [List.getElem?_set_self (by omega)]
      rfl
    · have hlt : i < fl.length := by
        have := (List.getElem?_eq_some_iff.mp hi).1
        rw [List.length_append] at this
        simp at this
        omega
      rw [List.getElem?_append_left hlt] at hi
      rw [List.getElem?_set_ne (by omega)]
      exact h4 i y hi
/-- a copy of the first faces -/
theorem C105_do {H : mj_H} {fl : List Int32} (h : frow z H fl) (hl : fl.length ≤ 8) (hz : z + 107 ≤ H.2.1) : ∃ G, C105 xt ct O N (z + 7) (Int32.ofNat fl.length) H = some (H.2.1, G) ∧ G.1 H.2.1 = some (.inl (.int, fl.map Value.int)) ∧ (∀ q, q ≠ H.2.1 → G.1 q = H.1 q) ∧ G.2 = (H.2.1 + 1, H.2.2 + fl.length) := by
  obtain ⟨fc, h1, h2, h3, h4⟩ := h
  have e : (Int32.ofNat fl.length).toInt = fl.length := i_nat (by omega)
  have hn : (Int32.ofNat fl.length).toInt.toNat = fl.length := by omega
  have a1 : aN xt H (z + 7) = some (Int32.ofNat fc.length) := aN_of h1
  have e8 : (Int32.ofNat fc.length).toInt = 8 := by rw [h2]; exact i_nat (by omega)
  by_cases k : fl.length = 8
  · have b : mj_c2 .ne (Int32.ofNat fl.length) (Int32.ofNat fc.length) = false := i_c2 (by show decide _ = false; apply decide_eq_false; omega)
    have eq : fc = fl.map Value.int := by
      apply List.ext_getElem?
      intro i
      cases hi : fl[i]? with
      | none =>
        have := List.getElem?_eq_none_iff.mp hi
        rw [List.getElem?_eq_none (by omega), List.getElem?_eq_none (by rw [List.length_map]; omega)]
      | some x => rw [h4 i x hi, List.getElem?_map, hi]; rfl
    have c1 : cLn 7 H (z + 7) = some (H.2.1, mj_new H fc.length (.inl (.int, fc))) := by
      unfold cLn
      rw [h1]
      dsimp only
      rw [if_pos ⟨rfl, h3⟩]
    have c2 : cKc 3 (mj_new H fc.length (.inl (.int, fc))) H.2.1 = some () := by
      unfold cKc
      rw [mj_new_eq]
      dsimp only
      rw [if_pos (show mj_ctt 3 = some FieldType.int from rfl)]
    refine ⟨mj_new H fc.length (.inl (.int, fc)), ?_, by rw [mj_new_eq, eq], fun q hq => mj_new_ne hq, by rw [k, ← h2]; rfl⟩
    simp only [C105, a1, b, cond_false, c1, c2, Option.bind_some]
  · have b : mj_c2 .ne (Int32.ofNat fl.length) (Int32.ofNat fc.length) = true := i_c2 (by show decide _ = true; apply decide_eq_true; omega)
    have hA : nA H .int (Int32.ofNat fl.length) = some (H.2.1, mj_new H fl.length (.inl (.int, List.replicate fl.length (.int 0)))) := by
      unfold nA
      rw [if_pos ⟨i_nlt (by omega), by rw [i_clamp, hn]; omega⟩, i_clamp, hn]
      rfl
    obtain ⟨G, hG⟩ : ∃ G, mj_new H fl.length (.inl (.int, List.replicate fl.length (.int 0))) = G := ⟨_, rfl⟩
    rw [hG] at hA
    have G1 : G.1 (z + 7) = some (.inl (.int, fc)) := by rw [← hG, mj_new_ne (by omega)]; exact h1
    have G2 : G.1 H.2.1 = some (.inl (.int, List.replicate fl.length (.int 0))) := by rw [← hG, mj_new_eq]
    have G3 : ∀ q, q ≠ H.2.1 → G.1 q = H.1 q := fun q hq => by rw [← hG, mj_new_ne hq]
    have G4 : G.2 = (H.2.1 + 1, H.2.2 + fl.length) := by rw [← hG]; rfl
    have a2 : aN xt G (z + 7) = some (Int32.ofNat fc.length) := aN_of G1
    have b2 : mj_c2 .gt (Int32.ofNat fc.length) (Int32.ofNat fl.length) = true := i_c2 (by show decide _ = true; apply decide_eq_true; omega)
    have hY : cY G (z + 7) 0 H.2.1 0 (Int32.ofNat fl.length) = some (mj_put G H.2.1 (.inl (.int, mj_cpy fc (List.replicate fl.length (.int 0)) 0 0 fl.length))) := by
      unfold cY
      rw [G1, G2]
      dsimp only
      have z1 : (Int32.ofNat fl.length).toNatClampNeg = fl.length := by rw [i_clamp, hn]
      have z2 : (0 : Int32).toNatClampNeg = 0 := rfl
      rw [z1, z2, if_pos ⟨rfl, rfl, by decide, by decide, i_nlt (by omega), by omega, by rw [List.length_replicate]; omega, h3⟩]
    have eq : mj_cpy fc (List.replicate fl.length (.int 0)) 0 0 fl.length = fl.map Value.int := by
      apply List.ext_getElem?
      intro i
      unfold mj_cpy
      rw [List.length_replicate]
      cases hi : fl[i]? with
      | none =>
        have := List.getElem?_eq_none_iff.mp hi
        rw [List.getElem?_eq_none (by simp; omega), List.getElem?_eq_none (by rw [List.length_map]; omega)]
      | some x =>
        have hlt := (List.getElem?_eq_some_iff.mp hi).1
        rw [m_rg hlt, if_pos ⟨by omega, by omega⟩, List.getElem?_map, hi, show 0 + (i - 0) = i by omega, List.getD_eq_getElem?_getD, h4 i x hi]
        rfl
    refine ⟨mj_put G H.2.1 (.inl (.int, mj_cpy fc (List.replicate fl.length (.int 0)) 0 0 fl.length)), ?_, by rw [mj_put_eq, eq], fun q hq => by rw [mj_put_ne hq]; exact G3 q hq, G4⟩
    simp only [C105, C21, J21_10, a1, b, cond_true, hA, a2, b2, hY, Option.bind_some]
/-- what a row gives: behind the last face -/
def FIN (z : Nat) (tx : List Int32) (st lv : Nat) (wp : Int32) (q : Nat) (fl : List Int32) (p0 : Nat) (H0 : mj_H) (x : Option ((Nat ⊕ Nat) × mj_H)) : Prop := (pk tx q = 93 → ∃ a G r, x = some (.inl a, G) ∧ pst z G tx (q + 1) st lv wp ∧ fz z G ∧ xfr z H0 G (q + 1 - p0) ∧ H0.2.1 ≤ a ∧ a < G.2.1 ∧ H0.2.1 ≤ r ∧ r < G.2.1 ∧ G.1 a = some (.inr (9, [.ref r, .long (Int64.ofNat fl.length)])) ∧ G.1 r = some (.inl (.int, fl.map Value.int))) ∧ (pk tx q ≠ 93 → rthr z tx q p0 H0 x)
theorem J104_do {H H0 : mj_H} {p p0 st lv : Nat} {wp : Int32} {fl : List Int32} (h : pst z H tx p st lv wp) (hf : frow z H fl) (hl : fl.length ≤ 8) (hz : z + 107 ≤ H.2.1) (hx : xfr z H0 H 0) (hp : p0 + 2 ≤ p) : FIN z tx st lv wp p fl p0 H0 (J104_67 xt ct O N (z + 5) (Int32.ofNat fl.length) H) := by
  obtain ⟨a1, a2⟩ := C94_r (xt := xt) (ct := ct) (O := O) (N := N) (c := 93) h (frow_fz hf) (by decide)
  have k0 := pst_k h
  constructor
  · intro hc
    obtain ⟨H1, b1, b2, b3, b4, b5⟩ := a1 hc
    have n1 : H1.2 = H.2 := b5
    have hf1 := frow_fr hf (b4 (z + 7) (by omega))
    obtain ⟨H2, hH2⟩ : ∃ H2, mj_new H1 2 (.inr (9, [.null, .long 0])) = H2 := ⟨_, rfl⟩
    have e2 : H2.2.1 = H1.2.1 + 1 := by rw [← hH2]; rfl
    have e2' : H2.2.2 = H1.2.2 + 2 := by rw [← hH2]; rfl
    have z1 : z + 107 ≤ H1.2.1 := by rw [n1]; exact hz
    have p2 := pst_new (n := 2) (e := .inr (9, [.null, .long 0])) b2 z1
    have f2 := frow_fr (G := H2) hf1 (by rw [← hH2]; exact mj_new_ne (by omega))
    rw [hH2] at p2
    have c2 : H2.1 H1.2.1 = some (.inr (9, [.null, .long 0])) := by rw [← hH2]; exact mj_new_eq
    have ga : gA H2 (z + 5) 1 1 = some (z + 7) := gA_of p2.1 rfl
    obtain ⟨H3, d1, d2, d3, d4⟩ := C105_do (xt := xt) (ct := ct) (O := O) (N := N) f2 hl (by omega)
    have c3 : H3.1 H1.2.1 = some (.inr (9, [.null, .long 0])) := (d3 _ (by omega)).trans c2
    have e3 : H3.2.1 = H2.2.1 + 1 := by rw [d4]
    have e3' : H3.2.2 = H2.2.2 + fl.length := by rw [d4]
    have m3 := C106_do (xt := xt) (ct := ct) (O := O) (N := N) (a := H1.2.1) d2 (by rw [List.length_map]; exact hl) c3
    rw [List.length_map] at m3
    have h01 := hx.2
    have hn1 : H1.2.1 = H.2.1 := by rw [n1]
    have hn2 : H1.2.2 = H.2.2 := by rw [n1]
    refine ⟨H1.2.1, _, H2.2.1, ?_, pst_put (pst_fr p2 (d3 _ (by omega)) (d3 _ (by omega)) (d3 _ (by omega))) z1, fz_put (frow_fz (frow_fr f2 (d3 _ (by omega)))) z1, ⟨fun q h1 h2 h3 => ?_, ?_, ?_, ?_, ?_⟩, by omega, ?_, by omega, ?_, mj_put_eq, ?_⟩
    · simp only [J104_67, k0, b1, tc, nO, hH2, ga, d1, gC_of c3, m3, Option.bind_some]
    · rw [mj_put_ne (by omega), d3 q (by omega), ← hH2, mj_new_ne (by omega), b4 q h2]
      exact hx.1 q h1 h2 h3
    · show H0.2.1 ≤ H3.2.1
      omega
    · show H3.2.1 ≤ _
      omega
    · show H3.2.2 ≤ _
      omega
    · obtain ⟨-, -, -, -, D, x6, x5⟩ := hx
      refine ⟨D, by omega, fun q h1 h2 h3 h4 => ?_⟩
      have h2' : q < H3.2.1 := h2
      by_cases c1 : q = H1.2.1
      · rw [c1, mj_put_eq]
        intro l h
        cases h
      · rw [mj_put_ne c1]
        by_cases c2 : q = H2.2.1
        · rw [c2, d2]
          intro l h
          cases h
        · rw [d3 q c2, ← hH2, mj_new_ne c1, b4 q h3]
          exact x5 q h1 (by omega) h3 h4
    · show H1.2.1 < H3.2.1
      omega
    · show H2.2.1 < H3.2.1
      omega
    · rw [mj_put_ne (by omega)]
      exact d2
  · intro hc
    simp only [J104_67, k0, Option.bind_some]
    exact rthr_tc (rthr_fr (a2 hc) hx (by omega))
theorem L104_do (hN : 2000 ≤ N) {H0 : mj_H} {p0 st lv : Nat} {wp : Int32} (hz0 : z + 107 ≤ H0.2.1) : ∀ (k : Nat) (p : Nat) (H : mj_H) (fl : List Int32), fl.length + k = 8 → p0 + 2 ≤ p → pst z H tx p st lv wp → frow z H fl → xfr z H0 H 0 → (pk tx p ≠ 44 → FIN z tx st lv wp p fl p0 H0 (t_lp (B104_22 xt ct O N) (k + 1) (z + 5, Int32.ofNat fl.length, H))) ∧ (pk tx p = 44 → (∀ w, rFc tx k p = .inl w → rthr z tx w p0 H0 (t_lp (B104_22 xt ct O N) (k + 1) (z + 5, Int32.ofNat fl.length, H))) ∧ (∀ q, rFc tx k p = .inr q → FIN z tx st lv wp q.1 (fl ++ q.2) p0 H0 (t_lp (B104_22 xt ct O N) (k + 1) (z + 5, Int32.ofNat fl.length, H)))) := by
  intro k
  induction k with
  | zero =>
    intro p H fl hk hp h hf hx
    have b : mj_c2 .ge (Int32.ofNat fl.length) 8 = true := i_c2 (by show decide _ = true; apply decide_eq_true; rw [i_nat (by omega), q_8]; omega)
    have e : t_lp (B104_22 xt ct O N) (0 + 1) (z + 5, Int32.ofNat fl.length, H) = J104_67 xt ct O N (z + 5) (Int32.ofNat fl.length) H := by
      apply t_lp_map
      simp only [B104_22, b, cond_true]
    have hx0 := hx.2
    have f := J104_do (xt := xt) (ct := ct) (O := O) (N := N) h hf (by omega) (by omega) hx hp
    rw [e]
    refine ⟨fun _ => f, fun hc => ⟨fun w hw => ?_, fun q hq => (by cases hq)⟩⟩
    cases hw
    exact f.2 (by rw [hc]; decide)
  | succ k ih =>
    intro p H fl hk hp h hf hx
    have hx0 := hx.2
    have b : mj_c2 .ge (Int32.ofNat fl.length) 8 = false := i_c2 (by show decide _ = false; apply decide_eq_false; rw [i_nat (by omega), q_8]; omega)
    have k0 := pst_k h
    have r := C84_do (xt := xt) (ct := ct) (O := O) (N := N) h
    constructor
    · intro hc
      have b2 : mj_c2 .ne (pk tx p) 44 = true := decide_eq_true hc
      have e : t_lp (B104_22 xt ct O N) (k + 1 + 1) (z + 5, Int32.ofNat fl.length, H) = J104_67 xt ct O N (z + 5) (Int32.ofNat fl.length) H := by
        apply t_lp_map
        simp only [B104_22, b, cond_false, k0, r, b2, cond_true, Option.bind_some]
      rw [e]
      exact J104_do (xt := xt) (ct := ct) (O := O) (N := N) h hf (by omega) (by omega) hx hp
    · intro hc
      have b2 : mj_c2 .ne (pk tx p) 44 = false := decide_eq_false (fun q => q hc)
      have hlt := pkz_is hc (by decide)
      obtain ⟨H1, t1, t2, t3, t4, t5, t6⟩ := pst_inc h (frow_fz hf) hlt
      have x1 : xfr z H0 H1 0 := xfr_trans hx (xfr_of (k := 0) t5 t6) (by omega)
      have ga : gA H1 (z + 5) 1 1 = some (z + 7) := gA_of t3.1 rfl
      have k1 := pst_k t3
      have f1 := frow_fr hf (t5 (z + 7) (by omega))
      obtain ⟨a1, a2⟩ := C99_r (xt := xt) (ct := ct) (O := O) (N := N) (lo := 0) (hi := 999) hN t3 t4
      have fB : ∀ x : Option ((Int32 ⊕ Nat) × mj_H), C99 xt ct O N (z + 5) 0 999 H1 = x → B104_22 xt ct O N (z + 5, Int32.ofNat fl.length, H) = x.bind fun r82 => tc (fun z => (.inr z)) r82 fun v85 => (sN .int r82.2 (z + 7) (Int32.ofNat fl.length) v85).bind fun H89 => some (.inl (z + 5, Int32.ofNat fl.length + 1, H89)) := by
        intro x hx
        simp only [B104_22, b, b2, cond_false, k0, r, t1, t2, ga, k1, hx, Option.bind_some]
      cases e1 : rNum tx (p + 1) 0 999 with
      | inl w =>
        have e : rFc tx (k + 1) p = .inl w := by simp only [rFc, e1]
        rw [e]
        refine ⟨fun w' hw => ?_, fun q hq => (by cases hq)⟩
        cases hw
        obtain ⟨F, pt, s1, l1, c1, c2, c3, c4, c5⟩ := a2 w e1
        refine ⟨F, pt, s1, l1, ?_, c2, c3, by omega, xfr_trans x1 c5 (by omega)⟩
        rw [t_lp, fB _ c1]
        rfl
      | inr a =>
        obtain ⟨H2, c1, c2, c3, c4, c5⟩ := a1 a e1
        have f2 := frow_fr f1 (c4 (z + 7) (by omega))
        have x2 : xfr z H0 H2 0 := xfr_trans x1 (xfr_of (k := 0) c4 c5) (by omega)
        obtain ⟨H3, d1, d2, d3, d4⟩ := frow_set (x := Int32.ofNat a.2) f2 (by omega)
        have la := rNum_le t3.2.2.2.2 e1
        have el : (fl ++ [Int32.ofNat a.2]).length = fl.length + 1 := by rw [List.length_append]; rfl
        have fc7 : ∃ fc : List Value, H3.1 (z + 7) = some (.inl (.int, fc)) ∧ fc.length = 8 := by
          obtain ⟨fc, w1, w2, -⟩ := d2
          exact ⟨fc, w1, w2⟩
        have p3 : pst z H3 tx a.1 st lv wp := by
          obtain ⟨w1, ⟨cs, w2, w3⟩, -, w6⟩ := c2
          exact ⟨(d3 _ (by omega)).trans w1, ⟨cs, (d3 _ (by omega)).trans w2, w3⟩, fc7, w6⟩
        have x3 : xfr z H0 H3 0 := by
          refine ⟨fun q h1 h2 h3 => (d3 q h3).trans (x2.1 q h1 h2 h3), ?_, ?_, ?_, ?_⟩
          · rw [d4]; exact x2.2.1
          · rw [d4]; exact x2.2.2.1
          · rw [d4]; exact x2.2.2.2.1
          · obtain ⟨-, -, -, -, D, e6, e5⟩ := x2
            refine ⟨D, e6, fun q h1 h2 h3 h4 => ?_⟩
            rw [d4] at h2
            rw [d3 q h4]
            exact e5 q h1 h2 h3 h4
        have tl : t_lp (B104_22 xt ct O N) (k + 1 + 1) (z + 5, Int32.ofNat fl.length, H) = t_lp (B104_22 xt ct O N) (k + 1) (z + 5, Int32.ofNat (fl ++ [Int32.ofNat a.2]).length, H3) := by
          have : B104_22 xt ct O N (z + 5, Int32.ofNat fl.length, H) = some (.inl (z + 5, Int32.ofNat (fl ++ [Int32.ofNat a.2]).length, H3)) := by
            rw [fB _ c1, el, ← i_inc (k := fl.length) (by omega)]
            simp only [tc, d1, Option.bind_some]
          rw [t_lp, this]
        rw [tl]
        obtain ⟨i1, i2⟩ := ih a.1 H3 (fl ++ [Int32.ofNat a.2]) (by omega) (by omega) p3 d2 x3
        by_cases h44 : pk tx a.1 = 44
        · obtain ⟨j1, j2⟩ := i2 h44
          cases e2 : rFc tx k a.1 with
          | inl w =>
            have e : rFc tx (k + 1) p = .inl w := by simp only [rFc, e1, if_pos h44, e2]
            rw [e]
            refine ⟨fun w' hw => ?_, fun q hq => (by cases hq)⟩
            cases hw
            exact j1 w e2
          | inr c =>
            have e : rFc tx (k + 1) p = .inr (c.1, Int32.ofNat a.2 :: c.2) := by simp only [rFc, e1, if_pos h44, e2]
            rw [e]
            refine ⟨fun w hw => (by cases hw), fun q hq => ?_⟩
            cases hq
            have := j2 c e2
            rw [List.append_assoc] at this
            exact this
        · have e : rFc tx (k + 1) p = .inr (a.1, [Int32.ofNat a.2]) := by simp only [rFc, e1, if_neg h44]
          rw [e]
          refine ⟨fun w hw => (by cases hw), fun q hq => ?_⟩
          cases hq
          exact i1 h44
/-- faces are numbers from 0 to 999 -/
theorem rFc_rng : ∀ (k p : Nat) (q : Nat × List Int32), rFc tx k p = .inr q → ∀ x ∈ q.2, 0 ≤ x.toInt ∧ x.toInt ≤ 999 := by
  intro k
  induction k with
  | zero => intro p q h; cases h
  | succ k ih =>
    intro p q h
    rw [rFc] at h
    split at h
    · cases h
    · rename_i a ha
      obtain ⟨-, -, -, -, o1, o2⟩ := rNum_ok ha
      rw [show (999 : Int32).toInt = 999 from rfl] at o2
      have ea : (Int32.ofNat a.2).toInt = a.2 := i_nat (by omega)
      split at h
      · split at h
        · cases h
        · rename_i b hb
          cases h
          intro x hx
          rcases List.mem_cons.mp hx with q | q
          · rw [q]
            omega
          · exact ih a.1 b hb x q
      · cases h
        intro x hx
        rw [List.mem_singleton] at hx
        rw [hx]
        omega
theorem C104_do (hN : 2000 ≤ N) {H : mj_H} {p st lv : Nat} {wp : Int32} (h : pst z H tx p st lv wp) (hf : fz z H) (hz : z + 107 ≤ H.2.1) (hc : pk tx p = 91) : (∀ w, rRow tx p = .inl w → rthr z tx w p H (C104 xt ct O N (z + 5) H)) ∧ (∀ q, rRow tx p = .inr q → ∃ a G, C104 xt ct O N (z + 5) H = some (.inl a, G) ∧ pst z G tx q.1 st lv wp ∧ fz z G ∧ xfr z H G (q.1 - p) ∧ ∀ b, lfT G H.2.1 G.2.1 (5, Int32.ofNat b, Int32.ofNat q.2.length, 0, 0, -1, -1) b q.2 a q.2.length) := by
  obtain ⟨H1, b1, b2, b3, b4, b5⟩ := (C94_r (xt := xt) (ct := ct) (O := O) (N := N) (c := 91) h hf (by decide)).1 hc
  have hlt := pkz_is hc (by decide)
  have k0 := pst_k h
  have k1 := pst_k b2
  have ga : gA H1 (z + 5) 1 1 = some (z + 7) := gA_of b2.1 rfl
  obtain ⟨a1, a2⟩ := C99_r (xt := xt) (ct := ct) (O := O) (N := N) (lo := 0) (hi := 999) hN b2 b3
  have x1 : xfr z H H1 0 := xfr_of b4 b5
  cases e1 : rNum tx (p + 1) 0 999 with
  | inl w =>
    have e : rRow tx p = .inl w := by simp only [rRow, rFc, e1]
    rw [e]
    refine ⟨fun w' hw => ?_, fun q hq => (by cases hq)⟩
    cases hw
    simp only [C104, k0, b1, tc, ga, k1, Option.bind_some]
    exact rthr_tc (rthr_fr (a2 w e1) x1 (by omega))
  | inr a =>
    obtain ⟨H2, c1, c2, c3, c4, c5⟩ := a1 a e1
    have la := rNum_le b2.2.2.2.2 e1
    obtain ⟨H3, d1, d2, d3, d4⟩ := frow_set (x := Int32.ofNat a.2) (frow_nil c3) (by decide)
    have x2 : xfr z H H2 0 := xfr_trans x1 (xfr_of (k := 0) c4 c5) (by omega)
    have fc7 : ∃ fc : List Value, H3.1 (z + 7) = some (.inl (.int, fc)) ∧ fc.length = 8 := by
      obtain ⟨fc, w1, w2, -⟩ := d2
      exact ⟨fc, w1, w2⟩
    have p3 : pst z H3 tx a.1 st lv wp := by
      obtain ⟨w1, ⟨cs, w2, w3⟩, -, w6⟩ := c2
      exact ⟨(d3 _ (by omega)).trans w1, ⟨cs, (d3 _ (by omega)).trans w2, w3⟩, fc7, w6⟩
    have x3 : xfr z H H3 0 := by
      refine ⟨fun q h1 h2 h3 => (d3 q h3).trans (x2.1 q h1 h2 h3), ?_, ?_, ?_, ?_⟩
      · rw [d4]; exact x2.2.1
      · rw [d4]; exact x2.2.2.1
      · rw [d4]; exact x2.2.2.2.1
      · obtain ⟨-, -, -, -, D, e6, e5⟩ := x2
        refine ⟨D, e6, fun q h1 h2 h3 h4 => ?_⟩
        rw [d4] at h2
        rw [d3 q h4]
        exact e5 q h1 h2 h3 h4
    have d1' : sN .int H2 (z + 7) 0 (Int32.ofNat a.2) = some H3 := d1
    have tl : C104 xt ct O N (z + 5) H = t_lp (B104_22 xt ct O N) N (z + 5, 1, H3) := by
      simp only [C104, k0, b1, tc, ga, k1, c1, d1', L104_22, Option.bind_some]
    obtain ⟨i1, i2⟩ := L104_do (xt := xt) (ct := ct) (O := O) (N := N) hN (p0 := p) hz 7 a.1 H3 [Int32.ofNat a.2] rfl (by omega) p3 d2 x3
    -- with more rounds
    have up : ∀ r, t_lp (B104_22 xt ct O N) (7 + 1) (z + 5, Int32.ofNat [Int32.ofNat a.2].length, H3) = some r → C104 xt ct O N (z + 5) H = some r := fun r hr => tl.trans (t_lp_more _ _ _ (by omega) hr)
    have upT : ∀ w, rthr z tx w p H (t_lp (B104_22 xt ct O N) (7 + 1) (z + 5, Int32.ofNat [Int32.ofNat a.2].length, H3)) → rthr z tx w p H (C104 xt ct O N (z + 5) H) := by
      rintro w ⟨F, pt, s1, l1, w1, w2⟩
      exact ⟨F, pt, s1, l1, up _ w1, w2⟩
    have main : ∀ (q : Nat × List Int32), rFc tx 8 p = .inr q → FIN z tx st lv wp q.1 q.2 p H (t_lp (B104_22 xt ct O N) (7 + 1) (z + 5, Int32.ofNat [Int32.ofNat a.2].length, H3)) := by
      intro q hq
      by_cases h44 : pk tx a.1 = 44
      · cases e2 : rFc tx 7 a.1 with
        | inl w =>
          rw [show rFc tx 8 p = .inl w by simp only [rFc, e1, if_pos h44] at e2 ⊢; rw [e2]] at hq
          cases hq
        | inr c =>
          have : rFc tx 8 p = .inr (c.1, Int32.ofNat a.2 :: c.2) := by rw [rFc, e1]; simp only [if_pos h44, e2]
          rw [this] at hq
          cases hq
          exact (i2 h44).2 c e2
      · have : rFc tx 8 p = .inr (a.1, [Int32.ofNat a.2]) := by rw [rFc, e1]; simp only [if_neg h44]
        rw [this] at hq
        cases hq
        exact i1 h44
    cases e3 : rFc tx 8 p with
    | inl w =>
      have e : rRow tx p = .inl w := by simp only [rRow, e3]
      rw [e]
      refine ⟨fun w' hw => ?_, fun q hq => (by cases hq)⟩
      cases hw
      apply upT
      rw [rFc, e1] at e3
      dsimp only at e3
      by_cases h44 : pk tx a.1 = 44
      · rw [if_pos h44] at e3
        cases e2 : rFc tx 7 a.1 with
        | inl w2 =>
          rw [e2] at e3
          cases e3
          exact (i2 h44).1 _ e2
        | inr c =>
          rw [e2] at e3
          cases e3
      · rw [if_neg h44] at e3
        cases e3
    | inr q =>
      have lq := rFc_le 8 p q hlt e3
      obtain ⟨m1, m2⟩ := main q e3
      by_cases h93 : pk tx q.1 = 93
      · have e : rRow tx p = .inr (q.1 + 1, q.2) := by simp only [rRow, e3, if_pos h93]
        rw [e]
        refine ⟨fun w hw => (by cases hw), fun q' hq => ?_⟩
        cases hq
        obtain ⟨x, G, r, n1, n2, n3, n4, n5, n6, n7, n8, n9, n10⟩ := m1 h93
        exact ⟨x, G, up _ n1, n2, n3, n4, fun b => ⟨n5, n6, Or.inr (Or.inr (Or.inr ⟨r, rfl, ⟨lq.2.2.2, lq.2.2.1⟩, rFc_rng 8 p q e3, n7, n8, n9, n10, rfl⟩))⟩⟩
      · have e : rRow tx p = .inl q.1 := by simp only [rRow, e3, if_neg h93]
        rw [e]
        refine ⟨fun w hw => ?_, fun q' hq => (by cases hq)⟩
        cases hw
        exact upT _ (m2 h93)
end ROC
