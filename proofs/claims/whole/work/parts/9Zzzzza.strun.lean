/-! RUN KEEPS IT -/
section SRU
variable {xt : mj_X} {ct : Nat → Value} {N z c1 c2 j : Nat} {H K : mj_H} {S S' : mS}
theorem tot_tk : ∀ (l : Sp) (n : Nat) (p : Int32 × Nat), l[n]? = some p → tot (l.take (n + 1)) = tot (l.take n) + p.2 := by
  intro l
  induction l with
  | nil => intro n p h; cases h
  | cons q r ih =>
    intro n p h
    cases n with
    | zero =>
      cases h
      show tot [q] = tot [] + q.2
      rw [tot_cons]
      exact Nat.add_comm _ _
    | succ n =>
      have h' : r[n]? = some p := h
      rw [List.take_succ_cons, List.take_succ_cons, tot_cons, tot_cons, ih n p h']
      omega
theorem rs_new {l : Sp} {Ov : Nat → Int32} {Wv : Nat → Int64} (hp : posS l) (ht : tot l ≤ 2147483648) (hi : ∀ p ∈ l, inR p.1) (hn : 1 ≤ l.length) (ho : outR S' j l) (h61 : S'.2.2 61 j = Int64.ofNat (tot l)) (h57 : S'.2.1 57 j = 1) (hv : vw Ov Wv l) (h64 : l.length ≤ 64) : rsR j l.length (Int64.ofNat (tot l)) (lOv Ov) (lWv Wv) S' := by
  have le : ∀ p ∈ l, p.2 ≤ tot l := by
    intro p hp
    have : ∀ m : Sp, p ∈ m → p.2 ≤ tot m := by
      intro m
      induction m with
      | nil => intro h; cases h
      | cons q r ih =>
        intro h
        rw [tot_cons]
        rcases List.mem_cons.mp h with e | e
        · rw [e]; omega
        · have := ih e; omega
    exact this l hp
  have e60 : ∀ (i : Nat) (p : Int32 × Nat), l[i]? = some p → (S'.2.2 60 (64 * j + i)).toInt = p.2 := by
    intro i p h
    have := le p (List.mem_of_getElem? h)
    rw [(ho.2 i p h).2, j_nat (by omega)]
  have ws : ∀ n, n ≤ l.length → wsum S' j n = (tot (l.take n) : Int) := by
    intro n
    induction n with
    | zero => intro _; rfl
    | succ n ih =>
      intro h
      have g : l[n]? = some l[n] := List.getElem?_eq_getElem (by omega)
      rw [wsum, ih (by omega), e60 n _ g, tot_tk l n _ g]
      omega
  refine Or.inr ⟨⟨hn, h57, ho.1, h61, fun i hi' => ?_⟩, fun i hi' => ?_, ?_, ?_, fun i hi' => ?_⟩
  · have g : l[i]? = some l[i] := List.getElem?_eq_getElem (by omega)
    rw [(ho.2 i _ g).1, (ho.2 i _ g).2, ← (hv i _ g).1, ← (hv i _ g).2]
    unfold lOv lWv
    exact ⟨m_rg (by omega), m_rg (by omega)⟩
  · have g : l[i]? = some l[i] := List.getElem?_eq_getElem (by omega)
    rw [e60 i _ g]
    have := hp _ (List.mem_of_getElem? g)
    omega
  · rw [ws l.length (Nat.le_refl _), List.take_length, j_nat (by omega)]
  · rw [j_nat (by omega)]
    omega
  · have g : l[i]? = some l[i] := List.getElem?_eq_getElem (by omega)
    rw [(ho.2 i _ g).1]
    exact hi _ (List.mem_of_getElem? g)
theorem sfS_mr {j' : Nat} (f : mrF j S S') (hj : j' ≠ j) : sfS j' S S' := by
  obtain ⟨a, f18, f57, f59⟩ := f
  have eA : ∀ k, k ∉ [18, 37, 41, 43, 47, 49, 53, 54, 55, 57, 58, 59] → S'.2.1 k = S.2.1 k := a.2.1
  have no : ∀ k, 4 ≤ k → k ≤ 20 → k ≠ 18 → S'.2.1 k = S.2.1 k := fun k h1 h2 h3 => eA k (by
    intro w
    simp only [List.mem_cons, List.not_mem_nil, or_false] at w
    omega)
  refine ⟨by rw [no 4 (by omega) (by omega) (by omega)], by rw [no 5 (by omega) (by omega) (by omega)], fun k i h1 h2 _ => by rw [no k (by omega) (by omega) (by omega)], fun i _ => by rw [a.2.2 12 (by decide)], fun k i h1 h2 h3 => ?_, (f57 j' hj).1, (f57 j' hj).2.1, (f57 j' hj).2.2, fun i hi => f59 _ ?_⟩
  · by_cases e : k = 18
    · rw [e]
      refine f18 _ (fun w => ?_)
      rcases Nat.lt_or_ge j j' with c | c
      · omega
      · omega
    · rw [no k (by omega) (by omega) e]
  · intro w
    rcases Nat.lt_or_ge j j' with c | c
    · omega
    · omega
theorem dcch_byte {e e' : Option mj_E} {ty : FieldType} {l : List Value} (h : dcch e e') (h1 : e = some (.inl (ty, l))) : False := by
  obtain ⟨n, m, p, k, w, w', f, h2, -⟩ := h
  rw [h1] at h2
  cases h2
theorem inv_run {D : List Nat} {v : Nat} {bs : List Value} {tx : List Int32} {mo mo' : Nat} {π π' : Nat → Nat} {Ls Ls' LsR LsR' : Nat → Ss} (h : invP z D c1 c2 H S v bs tx mo π Ls LsR) (hj : j < 3) (f : rcF z j D H K) (hI : rnI z D K mo' π' Ls') (g : mrF j S S') (h52 : S'.1 52 = Int32.ofNat mo') (hA : rsA S' LsR') (hs : sltI z v K S' j) : invC z c1 c2 K S' ∧ clF z H K := by
  obtain ⟨i1, i2, i3, i4, i5, i6, i7, i8, i9, i10, i11, i12, i13, i14⟩ := h
  obtain ⟨f1, f2, f3, f4⟩ := f
  have z1 := i4.2.1.2.2
  have low : ∀ q, q < z + 107 → ¬ (z + 8 ≤ q ∧ q ≤ z + 13) → ¬ (z + 15 ≤ q ∧ q ≤ z + 27) → ¬ (z + 30 ≤ q ∧ q ≤ z + 53) → q ≠ z + 54 + 3 * j → q ≠ z + 55 + 3 * j → q ≠ z + 56 + 3 * j → K.1 q = H.1 q := fun q q1 q2 q3 q4 q5 q6 q7 => (f1 q (by omega) q2 q3 q4 q5 q6 q7).resolve_right (fun w => absurd w.1 (by omega))
  have hi : ∀ q, z + 107 ≤ q → q < H.2.1 → K.1 q = H.1 q ∨ dcch (H.1 q) (K.1 q) := fun q q1 q2 => (f1 q q2 (by omega) (by omega) (by omega) (by omega) (by omega) (by omega)).imp id And.right
  have hv := cv_rng i4
  have hb := i4.1.2.1
  have ev : K.1 v = H.1 v := by
    rcases hv with e | e
    · rw [e]
      exact low _ (by omega) (by omega) (by omega) (by omega) (by omega) (by omega) (by omega)
    · exact (hi v e i4.2.1.2.1).resolve_right (fun w => dcch_byte w hb)
  have lo7 : ∀ q, q ≤ z + 7 → K.1 q = H.1 q := fun q hq => low q (by omega) (by omega) (by omega) (by omega) (by omega) (by omega) (by omega)
  refine ⟨⟨D, v, bs, tx, mo', π', Ls', LsR', (lo7 _ (by omega)).trans i1, (lo7 _ (by omega)).trans i2, ?_, wst_fr i4 (fun q hq => ?_) f2, ?_, ?_, fz_fr i7 (lo7 _ (by omega)), fun q hq => ⟨(i8 q hq).1, Nat.lt_of_lt_of_le (i8 q hq).2 f2⟩, hI, h52, hA, fun j' hj' => ?_, by omega, by omega⟩, fun q hq => low q (by omega) (by omega) (by omega) (by omega) (by omega) (by omega) (by omega)⟩
  · obtain ⟨u, i3⟩ := i3
    exact ⟨u, (low _ (by omega) (by omega) (by omega) (by omega) (by omega) (by omega) (by omega)).trans i3⟩
  · rcases hq with e | e
    · exact lo7 q (by omega)
    · rw [e]; exact ev
  · obtain ⟨t1, t2, t3, t4⟩ := i5
    exact ⟨by rw [g.1.1 2 (by decide)]; exact t1, t2, fun j c hj => by rw [g.1.2.1 1 (by decide)]; exact t3 j c hj, t4⟩
  · rw [g.1.1 3 (by decide)]
    exact pidle_fr i6 (fun q _ q2 => lo7 q q2)
  · by_cases e : j' = j
    · rw [e]; exact hs
    · exact sltI_st (i12 j' hj') (fun q q1 q2 => low q (by omega) (by omega) (by omega) (by omega) (by omega) (by omega) (by omega)) (fun q q1 q2 _ => hi q q1 q2) f2 (Or.inl rfl) (sfS_mr g e)
theorem st_run (hN : 100000000000000000 ≤ N) (h : invC z c1 c2 H S) (s : Int32) : okI z c1 c2 H (C133 xt ct (TT xt ct N 100) N (z + 1) s (z + 106) H) (M259 N s S) := by
  obtain ⟨D, v, bs, tx, mo, π, Ls, LsR, h'⟩ := id h
  obtain ⟨i1, i2, i3, i4, i5, i6, i7, i8, i9, i10, i11, i12, -⟩ := id h'
  have k0 : gK H (z + 1) 5 = some () := gK_of i1
  have l1 : mj_c1 .le 1 = false := by decide
  have l2 : mj_c1 .le 2 = false := by decide
  obtain ⟨x1, x2⟩ := C121_do (xt := xt) (ct := ct) (O := TT xt ct N 100) (N := N) i1 i2 s
  obtain ⟨m1, m2⟩ := M246_do (N := N) (S := S) s
  by_cases hs : 0 ≤ s.toInt ∧ s.toInt < 3
  · obtain ⟨j, hj⟩ : ∃ j : Nat, s.toInt = j := ⟨s.toInt.toNat, by omega⟩
    have hj3 : j < 3 := by omega
    obtain ⟨hp, fs, oc, to, Ov, Wv, s1, s2, s3⟩ := i12 j hj3
    obtain ⟨d1, d2⟩ := x2 j hj3 hj hp fs oc to _ _ (slF_R s1)
    obtain ⟨e1, e2⟩ := m2 j hj3 hj
    rcases s3 with ⟨rfl, s3⟩ | ⟨rfl, s3, A, B, sts, nds, fcs, l, p1, p2, p3, p4, p5, p6, p7, p8, p9, p10⟩
    · obtain ⟨o1, o2⟩ := inv_thr (ci := 14) h (agZ0 (v := 2))
      refine ⟨2, 0, _, m_sV S 0 2, ?_, ?_, rfl, fun w => absurd w (by decide), o2, inv_up o1 (by omega) (by omega)⟩
      · have g : gC (mj_new H 6 (.inr (14, []))) H.2.1 = some 14 := gC_of mj_new_eq
        have c134 : C134 xt ct (TT xt ct N 100) N (z + 1) s H = some (.inr H.2.1, mj_new H 6 (.inr (14, []))) := by
          simp only [C134, k0, d1 rfl, tc, Option.bind_some]
        simp only [C133, k0, c134, th, g, Option.bind_some]
        rfl
      · simp only [M259, e1 s3, l2, cond_false, Option.bind_some]
    · have h24 := p7.2.1
      have hnl := p7.2.2.1
      have hfc := p7.2.2.2.1
      have cg := C134_go (xt := xt) (ct := ct) (N := N) (D := D) (s := s) (by omega) (fun q hq => (i8 q hq).1) i1 hj3 (d2 rfl) i9 s1 p1 p3 p5 p6 p8 p10 h24 hnl hfc
      have mg := M259_go (N := N) (S := S) (s := s) hN hj3 hj s3 p7 p10 p5 p6 p8 i11
      have good := (rn_good (H := H) hnl hfc h24 5).2 A B l fs 0 sts.length 25 zst 1 (Nat.le_refl _) (by omega) p5 p6 p8 zst_gds (Nat.le_refl _) (by omega)
      generalize rnB sts (rnS sts nds fcs 5) 25 0 sts.length zst 1 = R at cg mg good
      obtain ⟨r1, mo'⟩ := R
      obtain ⟨a, K, π', Ls', Ov', Wv', a1, a2, a3, a4⟩ := cg
      -- the program stays
      have prK : ∀ {S' : mS}, pgR S' j sts nds fcs → prgR z v K S' j fs := by
        intro S' hp
        have dm : dsm A B H K := fun q q1 q2 => (a2.1 q (by omega) (by omega) (by omega) (by omega) (by omega) (by omega) (by omega)).imp id And.right
        obtain ⟨b1, b2⟩ := bk_dc dm p5 p6
        have := a2.2.1
        exact ⟨A, B, sts, nds, fcs, l, p1, p2, by omega, p4, b1, b2, hp, p8, p9, p10⟩
      have e4 : ∀ {S' : mS}, mrF j S S' → S'.2.1 4 j = 1 := fun g => by rw [g.1.2.1 4 (by decide)]; exact s3
      -- what is left once both answer alike
      have fin : ∀ S', M259 N s S = some (a, S') → mrF j S S' → S'.1 0 = 0 → S'.1 52 = Int32.ofNat mo' → (∃ Ls', rsA S' Ls') → sltI z v K S' j → okI z c1 c2 H (C133 xt ct (TT xt ct N 100) N (z + 1) s (z + 106) H) (M259 N s S) := by
        rintro S' y1 y2 y3 y4 ⟨LsR', y5⟩ y6
        obtain ⟨t1, t2⟩ := inv_run h' hj3 a2 a3 y2 y4 y5 y6
        obtain ⟨o1, o2⟩ := inv_out (b := a.toInt64) t1
        obtain ⟨-, -, i3'⟩ := inv_cSl t1
        refine ⟨0, a, _, S', ?_, y1, y3, fun _ => mj_put_eq, clF_trans t2 o2, inv_up o1 (by omega) (by omega)⟩
        simp only [C133, k0, a1, th, out_put i3', Option.bind_some]
      cases r1 with
      | inl w =>
        obtain ⟨b1, b2, b3⟩ := a4
        obtain ⟨S', n1, n2, n3, n4, n5, n6, n7⟩ := mg
        rw [← b1] at n1
        exact fin S' n1 n3 n5 n6 n7 ⟨1, fs, 0, 0, Ov', Wv', b3, Or.inl ⟨rfl, n2⟩, Or.inr ⟨rfl, e4 n3, prK n4⟩⟩
      | inr L' =>
        obtain ⟨g1, g2, g3⟩ : gds L' ∧ L'.length ≤ mo' ∧ toF L' ≤ toF zst * fold_ l 1 := good.2.2
        have gm : mo' ≤ 64 := good.2.1
        rcases a4 with ⟨b0, b1, b3⟩ | ⟨b0, b1, b2, b3, b4, b5, b6⟩
        · rcases mg with ⟨-, S', n1, n2, n3, n4, n5, n6, n7⟩ | ⟨w, -⟩
          · rw [← b1] at n1
            exact fin S' n1 n3 n5 n6 n7 ⟨1, fs, 0, 0, Ov', Wv', b3, Or.inl ⟨rfl, n2⟩, Or.inr ⟨rfl, e4 n3, prK n4⟩⟩
          · exact absurd b0 w
        · rcases mg with ⟨w, -⟩ | ⟨-, S', n1, n2, n3, n4, n5, n6, n7, n8, n9⟩
          · exact absurd w b0
          · rw [← b1] at n1
            have eq : insOs (Ls' 0) [] = insOs L' [] := (outc_eq b3 b2 g1).trans (outc_eq eqs_refl g1 g1).symm
            rw [eq] at b5 b6
            obtain ⟨j1, j2, j3, j4⟩ := insOs_ok L' [] g1.2 trivial (fun p hp => by cases hp) (fun p hp => by cases hp)
            have tt : tot (insOs L' []) = toF L' := by
              unfold tot toF
              rw [insOs_sS]
              exact Nat.zero_add _
            have te : toF (Ls' 0) = toF L' := b3 _
            obtain ⟨v1, v2⟩ := dvO_ok j2
            have dl : (dvO (insOs L' [])).length = (insOs L' []).length := dvO_len
            have ne : 1 ≤ (insOs L' []).length := by
              rcases Nat.lt_or_ge 0 (insOs L' []).length with c | c
              · exact c
              · have e : insOs L' [] = [] := List.length_eq_zero_iff.mp (by omega)
                rw [e] at tt
                have t0 : toF L' = 0 := tt.symm
                cases L' with
                | nil => exact absurd rfl b0
                | cons p r =>
                  have := (g1.2 p List.mem_cons_self).1
                  rw [toF_cons] at t0
                  omega
            have h64 : (insOs L' []).length ≤ 64 := b5.2.2.2
            rw [← dl] at b5
            refine fin S' n1 n5 n7 n8 n9 ⟨1, fs, _, _, Ov', Wv', b5, rs_new v1 (by omega) (fun p hp => ?_) (by omega) n2 n3 n4 b6 (by omega), Or.inr ⟨rfl, e4 n5, prK n6⟩⟩
            unfold dvO at hp
            obtain ⟨q, hq, rfl⟩ := List.mem_map.mp hp
            exact j3 q hq
  · obtain ⟨o1, o2⟩ := inv_thr (ci := 13) h (agZ0 (v := 1))
    refine ⟨1, 0, _, m_sV S 0 1, ?_, ?_, rfl, fun w => absurd w (by decide), o2, inv_up o1 (by omega) (by omega)⟩
    · have g : gC (mj_new H 6 (.inr (13, []))) H.2.1 = some 13 := gC_of mj_new_eq
      have c134 : C134 xt ct (TT xt ct N 100) N (z + 1) s H = some (.inr H.2.1, mj_new H 6 (.inr (13, []))) := by
        simp only [C134, k0, x1 hs, tc, Option.bind_some]
      simp only [C133, k0, c134, th, g, Option.bind_some]
      rfl
    · simp only [M259, m1 hs, l1, cond_false, Option.bind_some]
end SRU
