/-! PRINTED EXPRESSIONS, THE CLASS -/
def okh (A B : Nat) (H0 H : mj_H) (v : Nat) : Prop := (∀ q, A ≤ q → q < B → H.1 q = H0.1 q) ∧ (v < A ∨ B ≤ v) ∧ B ≤ H.2.1
theorem okh_st {z A B : Nat} {H0 H H' : mj_H} {v v' : Nat} {bs bs' : List Value} (h : okh A B H0 H v) (hA : z + 107 ≤ A) (t : tstep z H v bs H' v' bs') : okh A B H0 H' v' := by
  obtain ⟨h1, h2, h3⟩ := h
  obtain ⟨t1, t2, t3, t4, -⟩ := t
  refine ⟨fun q q1 q2 => (t1 q (by omega) (by omega) (by omega)).trans (h1 q q1 q2), ?_, by omega⟩
  rcases t2 with e | e
  · rw [e]; exact h2
  · exact Or.inr (by omega)
/-- f writes w -/
def wrt (z A B : Nat) (H0 : mj_H) (f : mj_H → Option mj_H) (w : List Int32) : Prop := ∀ (H : mj_H) (v : Nat) (bs : List Value) (tx : List Int32), okh A B H0 H v → wst z H v bs tx → tx.length + w.length ≤ 160 → ∃ H' v' bs', f H = some H' ∧ wst z H' v' bs' (tx ++ w) ∧ tstep z H v bs H' v' bs'
section PRC
variable {xt : mj_X} {ct : Nat → Value} {O : OR} {N z A B : Nat} {H0 : mj_H}
theorem wst_k {H : mj_H} {v : Nat} {bs : List Value} {tx : List Int32} (h : wst z H v bs tx) : gK H (z + 2) 0 = some () ∧ v < H.2.1 := by
  obtain ⟨m, k⟩ := h.1.1
  exact ⟨gK_of k, h.2.1.2.1⟩
/-- with brackets or without -/
theorem C128_do (hA : z + 107 ≤ A) {a : Nat} {w : List Int32} (hw : wrt z A B H0 (O.2.2.2.2.2.1 a (z + 2)) w) (b : Bool) : wrt z A B H0 (C128 xt ct O N a (z + 2) (bif b then 1 else 0)) (sd b w) := by
  have b0 : mj_c1 .eq 0 = true := by decide
  have b1 : mj_c1 .eq 1 = false := by decide
  intro H v bs tx ho hs hl
  cases b with
  | false =>
    obtain ⟨H1, v1, bs1, a1, a2, a3⟩ := hw H v bs tx ho hs hl
    refine ⟨H1, v1, bs1, ?_, a2, a3⟩
    simp only [cond_false, C128, b0, cond_true, J128_11, a1, J128_27, Option.bind_some]
  | true =>
    have hl' : tx.length + (w.length + 2) ≤ 160 := by
      have : (sd true w).length = w.length + 2 := by
        show (40 :: (w ++ [41])).length = _
        rw [List.length_cons, List.length_append]
        rfl
      omega
    obtain ⟨H1, v1, bs1, a1, a2, a3, a4⟩ := wr_ch (xt := xt) (ct := ct) (O := O) (N := N) (c := 40) hs (by omega) (by decide)
    have o1 := okh_st ho hA a4
    obtain ⟨H2, v2, bs2, c1, c2, c3⟩ := hw H1 v1 bs1 (tx ++ [40]) o1 a3 (by rw [List.length_append, List.length_singleton]; omega)
    obtain ⟨H3, v3, bs3, d1, d2, d3, d4⟩ := wr_ch (xt := xt) (ct := ct) (O := O) (N := N) (c := 41) c2 (by rw [List.length_append, List.length_append, List.length_singleton]; omega) (by decide)
    refine ⟨H3, v3, bs3, ?_, ?_, tstep_trans a4 (tstep_trans c3 d4)⟩
    · simp only [cond_true, C128, b1, cond_false, a2, a1, J128_11, c1, d2, d1, J128_27, Option.bind_some]
    · have e : tx ++ sd true w = tx ++ [40] ++ w ++ [41] := by
        show tx ++ (40 :: (w ++ [41])) = _
        simp
      rw [e]
      exact d3
theorem L131_do (hN : 2000 ≤ N) (hd : dgZ xt ct z) (hA : z + 107 ≤ A) {a r : Nat} {fl : List Int32} {x : Value} (ha : A ≤ a ∧ a < B) (hr : A ≤ r ∧ r < B) (h1 : H0.1 a = some (.inr (9, [.ref r, x]))) (h2 : H0.1 r = some (.inl (.int, fl.map Value.int))) (h8 : fl.length ≤ 8) (hf : ∀ y ∈ fl, 0 ≤ y.toInt ∧ y.toInt ≤ 999) : ∀ (n i : Nat) (H : mj_H) (v : Nat) (bs : List Value) (tx : List Int32), i + n = fl.length → okh A B H0 H v → wst z H v bs tx → tx.length + (fcP (fl.drop i) (if i = 0 then 91 else 44)).length ≤ 160 → ∃ H' v' bs', t_lp (B131_2 xt ct O N) (n + 1) (a, z + 2, Int32.ofNat i, H) = some H' ∧ wst z H' v' bs' (tx ++ fcP (fl.drop i) (if i = 0 then 91 else 44)) ∧ tstep z H v bs H' v' bs' := by
  intro n
  induction n with
  | zero =>
    intro i H v bs tx hi ho hs hl
    have hi2 : i = fl.length := by omega
    have hc : H.1 a = some (.inr (9, [.ref r, x])) := (ho.1 a ha.1 ha.2).trans h1
    have hcr : H.1 r = some (.inl (.int, fl.map Value.int)) := (ho.1 r hr.1 hr.2).trans h2
    have g : gA H a 9 0 = some r := gA_of hc rfl
    have gn : aN xt H r = some (Int32.ofNat fl.length) := by
      have := aN_of (xt := xt) hcr
      rw [List.length_map] at this
      exact this
    have c : mj_c2 .ge (Int32.ofNat i) (Int32.ofNat fl.length) = true := i_c2 (by show decide _ = true; apply decide_eq_true; rw [i_nat (by omega), i_nat (by omega)]; omega)
    rw [List.drop_eq_nil_of_le (by omega)] at hl ⊢
    have hl' : tx.length + 1 ≤ 160 := hl
    obtain ⟨H1, v1, bs1, a1, a2, a3, a4⟩ := wr_ch (xt := xt) (ct := ct) (O := O) (N := N) (c := 93) hs (by omega) (by decide)
    refine ⟨H1, v1, bs1, t_end ?_ 0, a3, a4⟩
    simp only [B131_2, g, gn, c, cond_true, a2, a1, Option.bind_some]
  | succ n ih =>
    intro i H v bs tx hi ho hs hl
    have hc : H.1 a = some (.inr (9, [.ref r, x])) := (ho.1 a ha.1 ha.2).trans h1
    have hcr : H.1 r = some (.inl (.int, fl.map Value.int)) := (ho.1 r hr.1 hr.2).trans h2
    have g : gA H a 9 0 = some r := gA_of hc rfl
    have gn : aN xt H r = some (Int32.ofNat fl.length) := by
      have := aN_of (xt := xt) hcr
      rw [List.length_map] at this
      exact this
    have hlt : i < fl.length := by omega
    have c : mj_c2 .ge (Int32.ofNat i) (Int32.ofNat fl.length) = false := i_c2 (by show decide _ = false; apply decide_eq_false; rw [i_nat (by omega), i_nat (by omega)]; omega)
    obtain ⟨y, hy⟩ : ∃ y, fl[i]? = some y := ⟨fl[i], List.getElem?_eq_getElem hlt⟩
    have hyr := hf y (List.mem_of_getElem? hy)
    have ey : y = Int32.ofNat y.toInt.toNat := i_eq (by omega)
    have ed : fl.drop i = y :: fl.drop (i + 1) := by
      rw [List.drop_eq_getElem_cons hlt]
      rw [List.getElem?_eq_getElem hlt] at hy
      rw [Option.some.inj hy]
    rw [ed] at hl ⊢
    obtain ⟨s, hs0⟩ : ∃ s : Int32, (if i = 0 then 91 else 44) = s := ⟨_, rfl⟩
    rw [hs0] at hl ⊢
    have hsr : 0 ≤ s.toInt ∧ s.toInt ≤ 127 := by rw [← hs0]; split <;> decide
    have hl' : tx.length + (1 + ((dgs y.toInt.toNat).length + (fcP (fl.drop (i + 1)) 44).length)) ≤ 160 := by
      have : (fcP (y :: fl.drop (i + 1)) s).length = 1 + ((dgs y.toInt.toNat).length + (fcP (fl.drop (i + 1)) 44).length) := by
        show (s :: (dgs y.toInt.toNat ++ fcP (fl.drop (i + 1)) 44)).length = _
        rw [List.length_cons, List.length_append]
        omega
      omega
    obtain ⟨H1, v1, bs1, a1, a2, a3, a4⟩ := wr_ch (xt := xt) (ct := ct) (O := O) (N := N) (c := s) hs (by omega) hsr
    have o1 := okh_st ho hA a4
    obtain ⟨H2, v2, bs2, c1, c2, c3, c4⟩ := wr_nm (xt := xt) (ct := ct) (O := O) (N := N) hN hd (n := y.toInt.toNat) a3 (by omega) (by rw [List.length_append, List.length_singleton]; omega)
    have o2 := okh_st o1 hA c4
    rw [← ey] at c1
    have e1 : (if i + 1 = 0 then (91 : Int32) else 44) = 44 := if_neg (by omega)
    obtain ⟨H3, v3, bs3, d1, d2, d3⟩ := ih (i + 1) H2 v2 bs2 (tx ++ [s] ++ dgs y.toInt.toNat) (by omega) o2 c3 (by rw [e1, List.length_append, List.length_append, List.length_singleton]; omega)
    rw [e1] at d2
    have g1 : gA H1 a 9 0 = some r := gA_of ((o1.1 a ha.1 ha.2).trans h1) rfl
    have ai : aI xt H1 r (Int32.ofNat i) = some y := by
      have en : (Int32.ofNat i).toInt = i := i_nat (by omega)
      refine aI_of ((o1.1 r hr.1 hr.2).trans h2) (by omega) ?_
      rw [show (Int32.ofNat i).toInt.toNat = i by omega, List.getElem?_map, hy]
      rfl
    have i1 : Int32.ofNat i + 1 = Int32.ofNat (i + 1) := i_inc (by omega)
    have fB : B131_2 xt ct O N (a, z + 2, Int32.ofNat i, H) = some (.inl (a, z + 2, Int32.ofNat (i + 1), H2)) := by
      have way : B131_2 xt ct O N (a, z + 2, Int32.ofNat i, H) = J131_23 xt ct O N a (z + 2) (Int32.ofNat i) s (z + 2) H := by
        by_cases i0 : i = 0
        · subst i0
          have : s = 91 := by rw [← hs0]; rfl
          rw [this]
          have c0 : mj_c1 .ne (Int32.ofNat 0) = false := by decide
          simp only [B131_2, g, gn, c, cond_false, c0, Option.bind_some]
        · have : s = 44 := by rw [← hs0, if_neg i0]
          rw [this]
          have c0 : mj_c1 .ne (Int32.ofNat i) = true := i_ne0 (by rw [i_nat (by omega)]; omega)
          simp only [B131_2, g, gn, c, cond_false, c0, cond_true, Option.bind_some]
      rw [way]
      simp only [J131_23, a2, a1, g1, ai, c2, c1, i1, Option.bind_some]
    refine ⟨H3, v3, bs3, (t_one fB _).trans d1, ?_, tstep_trans a4 (tstep_trans c4 d3)⟩
    have e : tx ++ fcP (y :: fl.drop (i + 1)) s = tx ++ [s] ++ dgs y.toInt.toNat ++ fcP (fl.drop (i + 1)) 44 := by
      show tx ++ (s :: (dgs y.toInt.toNat ++ fcP (fl.drop (i + 1)) 44)) = _
      simp
    rw [e]
    exact d2
/-- dice -/
theorem C124_do (hN : 2000 ≤ N) (hd : dgZ xt ct z) (hA : z + 107 ≤ A) {a n m k f : Nat} {how keep pick : Int32} {w : Value} (ha : A ≤ a ∧ a < B) (hc : dcOK n m how keep pick k) (h : H0.1 a = some (.inr (8, [.int (Int32.ofNat n), .int (Int32.ofNat m), .int pick, .int (Int32.ofNat k), w, .long (Int64.ofNat f)]))) : wrt z A B H0 (C124 xt ct O N a (z + 2)) (dcP (4, Int32.ofNat n, Int32.ofNat m, how, keep, -1, -1)) := by
  obtain ⟨c1, c2, c3⟩ := hc
  have en : (Int32.ofNat n).toInt = n := i_nat (by omega)
  have em : (Int32.ofNat m).toInt = m := i_nat (by omega)
  have hk : k ≤ 6 := by
    rcases c3 with ⟨-, -, -, e⟩ | ⟨-, -, -, e, -⟩ | ⟨-, -, e, -⟩ <;> omega
  -- the end: letter and number
  have tail : wrt z A B H0 (J124_17 xt ct O N a (z + 2)) ([100] ++ dgs m ++ (if how = 32 then [] else how :: dgs keep.toInt.toNat)) := by
    intro H v bs tx ho hs hl
    rw [List.length_append, List.length_append, List.length_singleton] at hl
    obtain ⟨H1, v1, bs1, a1, a2, a3, a4⟩ := wr_ch (xt := xt) (ct := ct) (O := O) (N := N) (c := 100) hs (by omega) (by decide)
    have o1 := okh_st ho hA a4
    have h1 := (o1.1 a ha.1 ha.2).trans h
    obtain ⟨H2, v2, bs2, d1, d2, d3, d4⟩ := wr_nm (xt := xt) (ct := ct) (O := O) (N := N) hN hd (n := m) a3 (by omega) (by rw [List.length_append, List.length_singleton]; omega)
    have o2 := okh_st o1 hA d4
    have h2 := (o2.1 a ha.1 ha.2).trans h
    have g1 : gI H1 a 8 1 = some (Int32.ofNat m) := gI_of h1 rfl
    have g2 : gI H2 a 8 2 = some pick := gI_of h2 rfl
    rcases c3 with ⟨rfl, rfl, rfl, e4⟩ | hh
    · have b : mj_c2 .eq (97 : Int32) 97 = true := by decide
      refine ⟨H2, v2, bs2, ?_, ?_, tstep_trans a4 d4⟩
      · simp only [J124_17, a2, a1, g1, d2, d1, g2, b, cond_true, J124_60, Option.bind_some]
      · rw [if_pos rfl, List.append_nil, ← List.append_assoc]
        exact d3
    · have hp : pick = how ∧ how ≠ 32 ∧ pick ≠ 97 ∧ keep = Int32.ofNat k ∧ (0 ≤ how.toInt ∧ how.toInt ≤ 127) := by
        rcases hh with ⟨e1, e2, -, -, e5⟩ | ⟨e1, e2, -, e5⟩
        · exact ⟨e2.trans e1.symm, by rw [e1]; decide, by rw [e2]; decide, e5, by rw [e1]; decide⟩
        · refine ⟨e2, ?_, ?_, e5, ?_⟩
          · rcases e1 with e | e <;> rw [e] <;> decide
          · rw [e2]; rcases e1 with e | e <;> rw [e] <;> decide
          · rcases e1 with e | e <;> rw [e] <;> decide
      obtain ⟨p1, p2, p3, p4, p5⟩ := hp
      have ek : keep.toInt.toNat = k := by rw [p4, i_nat (by omega)]; omega
      rw [if_neg p2, ek] at hl ⊢
      rw [List.length_cons] at hl
      have b : mj_c2 .eq pick 97 = false := decide_eq_false p3
      obtain ⟨H3, v3, bs3, e1, e2, e3, e4⟩ := wr_ch (xt := xt) (ct := ct) (O := O) (N := N) (c := pick) d3 (by rw [List.length_append, List.length_append, List.length_singleton]; omega) (by rw [p1]; exact p5)
      have o3 := okh_st o2 hA e4
      have h3 := (o3.1 a ha.1 ha.2).trans h
      have g3 : gI H3 a 8 3 = some (Int32.ofNat k) := gI_of h3 rfl
      obtain ⟨H4, v4, bs4, f1, f2, f3, f4⟩ := wr_nm (xt := xt) (ct := ct) (O := O) (N := N) hN hd (n := k) e3 (by omega) (by rw [List.length_append, List.length_append, List.length_append, List.length_singleton, List.length_singleton]; omega)
      refine ⟨H4, v4, bs4, ?_, ?_, tstep_trans a4 (tstep_trans d4 (tstep_trans e4 f4))⟩
      · simp only [J124_17, a2, a1, g1, d2, d1, g2, b, cond_false, e2, e1, g3, f2, f1, J124_60, Option.bind_some]
      · have e : tx ++ ([100] ++ dgs m ++ how :: dgs k) = tx ++ [100] ++ dgs m ++ [pick] ++ dgs k := by
          rw [p1]
          simp
        rw [e]
        exact f3
  intro H v bs tx ho hs hl
  have h0 := (ho.1 a ha.1 ha.2).trans h
  have g0 : gI H a 8 0 = some (Int32.ofNat n) := gI_of h0 rfl
  have eq : dcP (4, Int32.ofNat n, Int32.ofNat m, how, keep, -1, -1) = (if n ≤ 1 then [] else dgs n) ++ ([100] ++ dgs m ++ (if how = 32 then [] else how :: dgs keep.toInt.toNat)) := by
    show (if (Int32.ofNat n).toInt ≤ 1 then [] else dgs (Int32.ofNat n).toInt.toNat) ++ [100] ++ dgs (Int32.ofNat m).toInt.toNat ++ (if how = 32 then [] else how :: dgs keep.toInt.toNat) = _
    rw [en, em, show (n : Int).toNat = n by omega, show (m : Int).toNat = m by omega]
    by_cases h1 : n ≤ 1
    · rw [if_pos (by omega), if_pos h1]
      simp
    · rw [if_neg (by omega), if_neg h1]
      simp
  rw [eq] at hl ⊢
  by_cases h1 : n ≤ 1
  · have b : mj_c2 .le (Int32.ofNat n) 1 = true := i_c2 (by show decide _ = true; apply decide_eq_true; rw [en, q_1]; omega)
    rw [if_pos h1] at hl ⊢
    rw [List.nil_append] at hl ⊢
    obtain ⟨H1, v1, bs1, a1, a2, a3⟩ := tail H v bs tx ho hs hl
    refine ⟨H1, v1, bs1, ?_, a2, a3⟩
    simp only [C124, g0, b, cond_true, Option.bind_some]
    exact a1
  · have b : mj_c2 .le (Int32.ofNat n) 1 = false := i_c2 (by show decide _ = false; apply decide_eq_false; rw [en, q_1]; omega)
    rw [if_neg h1] at hl ⊢
    rw [List.length_append] at hl
    obtain ⟨H1, v1, bs1, a1, a2, a3, a4⟩ := wr_nm (xt := xt) (ct := ct) (O := O) (N := N) hN hd (n := n) hs (by omega) (by omega)
    obtain ⟨H2, v2, bs2, d1, d2, d3⟩ := tail H1 v1 bs1 (tx ++ dgs n) (okh_st ho hA a4) a3 (by rw [List.length_append (as := tx)]; omega)
    refine ⟨H2, v2, bs2, ?_, ?_, tstep_trans a4 d3⟩
    · simp only [C124, g0, b, cond_false, a2, a1, Option.bind_some]
      exact d1
    · rw [← List.append_assoc]
      exact d2
end PRC
