/-! READ KEEPS IT -/
section SRD
variable {xt : mj_X} {ct : Nat → Value} {N z c1 c2 j : Nat} {D Dn : List Nat} {H G : mj_H} {S S' : mS}
theorem pot_app {A B : List Nat} : pot H (A ++ B) = pot H A + pot H B := by
  unfold pot
  rw [List.filter_append, List.length_append]
/-- what a run works with, once a text was read -/
theorem rnI_rd {mo : Nat} {π : Nat → Nat} {Ls : Nat → Ss} (h : rnI z D H mo π Ls) (hD : ∀ q ∈ D, z + 107 ≤ q ∧ q < H.2.1) (f : ∀ q, z + 8 ≤ q → q < H.2.1 → ¬ (z + 54 ≤ q ∧ q < z + 63) → G.1 q = H.1 q) (n : H.2.1 ≤ G.2.1) (hn : ∀ q, H.2.1 ≤ q → q < G.2.1 → dcN Dn q (G.1 q)) : ∃ D', (∀ q ∈ D', z + 107 ≤ q ∧ q < G.2.1) ∧ rnI z D' G mo π Ls ∧ pot G D' ≤ pot H D + Dn.length := by
  obtain ⟨⟨l1, l2, l3, l4⟩, ⟨sp, h2⟩, h3, h4, h5⟩ := h
  have e : ∀ q, z + 8 ≤ q → q < z + 54 → G.1 q = H.1 q := fun q q1 q2 => f q q1 (by omega) (by omega)
  have u : ∀ q, z + 107 ≤ q → q < H.2.1 → G.1 q = H.1 q := fun q q1 q2 => f q (by omega) q2 (by omega)
  have new : ∀ (a : Nat) (l : List Value), H.2.1 ≤ a → a < G.2.1 → G.1 a = some (.inr (8, l)) → l[4]? = some .null ∧ a ∈ D ++ Dn.filter (fun q => decide (H.2.1 ≤ q ∧ q < G.2.1)) := by
    intro a l a1 a2 a3
    obtain ⟨b1, b2⟩ := hn a a1 a2 l a3
    exact ⟨b1, List.mem_append_right _ (List.mem_filter.mpr ⟨b2, decide_eq_true ⟨a1, a2⟩⟩)⟩
  refine ⟨D ++ Dn.filter (fun q => decide (H.2.1 ≤ q ∧ q < G.2.1)), fun q hq => ?_, ⟨⟨?_, ?_, ?_, by omega⟩, ⟨sp, bst_fr h2 (fun q q1 q2 => e q (by omega) (by omega))⟩, stsH_fr h3 (fun q hq => e q (by omega) (by omega)), (e _ (by omega) (by omega)).trans h4, (e _ (by omega) (by omega)).trans h5⟩, ?_⟩
  · rcases List.mem_append.mp hq with c | c
    · have := hD q c
      omega
    · have := of_decide_eq_true (List.mem_filter.mp c).2
      omega
  · intro a n' m how keep pick k w fv a1 a2 a3 a4
    rcases Nat.lt_or_ge a H.2.1 with c | c
    · have a4' : dcO H a n' m pick k w fv := by
        unfold dcO
        rw [← u a a1 c]
        exact a4
      rcases l1 a n' m how keep pick k w fv a1 c a3 a4' with d | ⟨r, d1, d2, d3, d4⟩
      · exact Or.inl d
      · exact Or.inr ⟨r, d1, d2, by omega, LR_fr d4 (u r d2 d3)⟩
    · obtain ⟨b1, -⟩ := new a _ c a2 a4
      have : some w = some Value.null := b1
      exact Or.inl (Option.some.inj this)
  · intro a a1 a2 a3
    rcases Nat.lt_or_ge a H.2.1 with c | c
    · rw [u a a1 c] at a3
      exact List.mem_append_left _ (l2 a a1 c a3)
    · cases hg : G.1 a with
      | none => rw [hg] at a3; cases a3
      | some w =>
        rw [hg] at a3
        match w, hg, a3 with
        | .inr (8, l), hg, _ => exact (new a l c a2 hg).2
  · exact ⟨(e _ (by omega) (by omega)).trans l3.1, fun p hp => (l3.2 p hp).imp (fun X hX => LR_fr hX (e _ (by omega) (by omega)))⟩
  · rw [pot_app]
    have p1 : pot G D = pot H D := pot_fr (z := z) (fun q hq => by rw [u q (hD q hq).1 (hD q hq).2])
    have p2 : pot G (Dn.filter (fun q => decide (H.2.1 ≤ q ∧ q < G.2.1))) ≤ Dn.length := by
      unfold pot
      exact Nat.le_trans (List.length_filter_le _ _) (List.length_filter_le _ _)
    omega
theorem rsA_eq {Ls : Nat → Ss} (h : rsA S Ls) (e47 : S'.2.1 47 = S.2.1 47) (e49 : S'.2.1 49 = S.2.1 49) (e48 : S'.2.2 48 = S.2.2 48) : rsA S' Ls := fun q hq => by
  obtain ⟨h1, h2, h3⟩ := h q hq
  refine ⟨by rw [e49]; exact h1, h2, fun i x hx => ?_⟩
  rw [e47, e48]
  exact h3 i x hx
theorem pst_idle {tx : List Int32} {p st lv : Nat} {wp : Int32} (h : pst z H tx p st lv wp) : pidle z H wp := by
  obtain ⟨h1, ⟨cs, h2, h3, -⟩, h4, -⟩ := h
  exact ⟨⟨_, _, _, _, h1⟩, ⟨cs, h2, h3⟩, h4⟩
theorem inv_read {v : Nat} {bs : List Value} {tx tx' : List Int32} {mo : Nat} {π : Nat → Nat} {Ls LsR : Nat → Ss} (h : invP z D c1 c2 H S v bs tx mo π Ls LsR) (f : ∀ q, q < H.2.1 → q ≠ z + 2 → q ≠ z + 5 → q ≠ z + 6 → q ≠ z + 7 → q ≠ z + 54 + 3 * j → G.1 q = H.1 q) (hj : j < 3) (n : H.2.1 ≤ G.2.1) (n1 : G.2.1 ≤ H.2.1 + 160) (n2 : G.2.2 ≤ H.2.2 + 1600) (hd : Dn.length ≤ 80) (hn : ∀ q, H.2.1 ≤ q → q < G.2.1 → dcN Dn q (G.1 q)) (hs : sb G (z + 2) v bs tx') (hr : txR tx' S') (hp : pidle z G (S'.1 3)) (hz : fz z G) (e52 : S'.1 52 = S.1 52) (e47 : S'.2.1 47 = S.2.1 47) (e49 : S'.2.1 49 = S.2.1 49) (e48 : S'.2.2 48 = S.2.2 48) (hsl : ∀ j', j' < 3 → sltI z v G S' j') : invC z (c1 + 240) (c2 + 11280) G S' ∧ clF z H G := by
  obtain ⟨i1, i2, i3, i4, i5, i6, i7, i8, i9, i10, i11, i12, i13, i14⟩ := h
  obtain ⟨s1, ⟨v1, v2, v3⟩, w3, w4, w5⟩ := i4
  obtain ⟨D', d1, d2, d3⟩ := rnI_rd i9 i8 (fun q q1 q2 q3 => f q q2 (by omega) (by omega) (by omega) (by omega) (by omega)) n hn
  refine ⟨⟨D', v, bs, tx', mo, π, Ls, LsR, (f _ (by omega) (by omega) (by omega) (by omega) (by omega) (by omega)).trans i1, (f _ (by omega) (by omega) (by omega) (by omega) (by omega) (by omega)).trans i2, ?_, ⟨hs, ⟨v1, by omega, by omega⟩, w3, w4, fun q hq => (f q (by omega) (by omega) (by omega) (by omega) (by omega) (by omega)).trans (w5 q hq)⟩, hr, hp, hz, d1, d2, e52.trans i10, rsA_eq i11 e47 e49 e48, hsl, by omega, by omega⟩, fun q hq => f q (by omega) (by omega) (by omega) (by omega) (by omega) (by omega)⟩
  obtain ⟨u, i3⟩ := i3
  exact ⟨u, (f _ (by omega) (by omega) (by omega) (by omega) (by omega) (by omega)).trans i3⟩
theorem st_read (hN : 2000 ≤ N) (hf : ∃ o, vtO (ct 1) = some o) (h : invC z c1 c2 H S) (s : Int32) : okI z c1 c2 H (C77 xt ct (TT xt ct N 100) N (z + 1) s (z + 106) H) (M209 N s S) := by
  obtain ⟨D, v, bs, tx, mo, π, Ls, LsR, h'⟩ := id h
  obtain ⟨i1, i2, i3, i4, i5, i6, i7, i8, i9, i10, i11, i12, -⟩ := id h'
  have k0 : gK H (z + 1) 5 = some () := gK_of i1
  have ht : txC tx := ⟨i5.2.1, i5.2.2.2⟩
  have hv := cv_rng i4
  have hz := i4.2.1.2.2
  by_cases hs : 0 ≤ s.toInt ∧ s.toInt < 3
  · obtain ⟨j, hj⟩ : ∃ j : Nat, s.toInt = j := ⟨s.toInt.toNat, by omega⟩
    have hj3 : j < 3 := by omega
    obtain ⟨hp, fs, oc, to, Ov, Wv, s1, s2, s3⟩ := i12 j hj3
    obtain ⟨-, -, hT⟩ := C81_do (xt := xt) (ct := ct) (N := N) hN hf (v := v) (by omega) ht i4.1 i6 i7 hz
    obtain ⟨x1, x2⟩ := C78_do (xt := xt) (ct := ct) (N := N) hN hf i1 i2 i4.2.1 ht i4.1 i6 i7 hj hj3 (slF_R s1)
    obtain ⟨m1, m2⟩ := M209_do (N := N) (S := S) hN hj hj3 i5 hT
    cases hq : rdT tx with
    | inl w =>
      obtain ⟨F, pt, st, lv, a1, a2, a3, a4, a5, a6, a7, Dn, a8, a9⟩ := x1 w hq
      obtain ⟨S', b1, b2, b3, b4, b5, b6⟩ := m1 w hq
      have eA : ∀ k p, k ≠ 27 → k ≠ 28 → k ≠ 32 → k ≠ 34 → k ≠ 35 → ¬ (13 ≤ k ∧ k ≤ 20 ∧ 480 ≤ p) → ¬ (k = 5 ∧ p = 3) → ¬ (6 ≤ k ∧ k ≤ 11 ∧ 72 ≤ p) → S'.2.1 k p = S.2.1 k p := fun k p q1 q2 q3 q4 q5 q6 q7 q8 => b5 k p ⟨⟨q1, q2, q3, q6⟩, q4, q5, q7, q8⟩
      have sf : ∀ j', j' < 3 → sfS j' S S' := fun j' hj' => ⟨eA 4 _ (by omega) (by omega) (by omega) (by omega) (by omega) (by omega) (by omega) (by omega), eA 5 _ (by omega) (by omega) (by omega) (by omega) (by omega) (by omega) (by omega) (by omega), fun k i _ _ _ => eA k _ (by omega) (by omega) (by omega) (by omega) (by omega) (by omega) (by omega) (by omega), fun i _ => b6 12 _ (by omega), fun k i _ _ _ => eA k _ (by omega) (by omega) (by omega) (by omega) (by omega) (by omega) (by omega) (by omega), eA 57 _ (by omega) (by omega) (by omega) (by omega) (by omega) (by omega) (by omega) (by omega), eA 58 _ (by omega) (by omega) (by omega) (by omega) (by omega) (by omega) (by omega) (by omega), b6 61 _ (by omega), fun i _ => ⟨eA 59 _ (by omega) (by omega) (by omega) (by omega) (by omega) (by omega) (by omega) (by omega), b6 60 _ (by omega)⟩⟩
      have rowA : ∀ k, k = 1 ∨ k = 47 ∨ k = 49 → S'.2.1 k = S.2.1 k := fun k hk => funext (fun p => eA k p (by omega) (by omega) (by omega) (by omega) (by omega) (by omega) (by omega) (by omega))
      have hr : txR tx S' := by
        obtain ⟨t1, t2, t3, t4⟩ := i5
        exact ⟨by rw [b4 2 (by decide)]; exact t1, t2, fun j c hj => by rw [rowA 1 (by omega)]; exact t3 j c hj, t4⟩
      have sbF : sb F (z + 2) v bs tx := by
        obtain ⟨⟨m, g1⟩, g2, g3⟩ := i4.1
        exact ⟨⟨m, (a4 _ (by omega) (by omega) (by omega) (by omega)).trans g1⟩, (a4 v i4.2.1.2.1 (by omega) (by omega) (by omega)).trans g2, g3⟩
      obtain ⟨t1, t2⟩ := inv_read (j := j) (S' := S') h' (fun q q1 _ q3 q4 q5 _ => a4 q q1 q3 q4 q5) hj3 a5 a6 a7 a8 a9 sbF hr (by rw [b3]; exact pst_idle a2) a3 (b4 52 (by decide)) (rowA 47 (by omega)) (rowA 49 (by omega)) (funext (fun p => b6 48 p (by omega))) (fun j' hj' => sltI_st (i12 j' hj') (fun q q1 q2 => a4 q (by omega) (by omega) (by omega) (by omega)) (fun q q1 q2 _ => Or.inl (a4 q q2 (by omega) (by omega) (by omega))) a5 (Or.inl rfl) (sf j' hj'))
      obtain ⟨o1, o2⟩ := inv_thr (ci := 13) t1 (m_agr_refl (F := [0]) (A := []) (B := []))
      refine ⟨1, 0, _, S', ?_, b1, b2, fun w => absurd w (by decide), clF_trans t2 o2, inv_up o1 (by omega) (by omega)⟩
      have g : gC (mj_new F 6 (.inr (13, []))) F.2.1 = some 13 := gC_of mj_new_eq
      simp only [C77, k0, a1, th, g, Option.bind_some]
      rfl
    | inr q =>
      obtain ⟨o, G, l, a1, a2, a3, a4, a5, a6, a7, a8, a9, a10, a11, a12, Dn, a13, a14⟩ := x2 q hq
      obtain ⟨S', b1, b2, b3, b4, b5, b6, b7, b8, b9⟩ := m2 q hq
      have eA : ∀ k p, k ≠ 27 → k ≠ 28 → k ≠ 32 → k ≠ 34 → k ≠ 35 → ¬ (13 ≤ k ∧ k ≤ 20 ∧ 480 ≤ p) → ¬ (k = 5 ∧ p = 3) → ¬ (6 ≤ k ∧ k ≤ 11 ∧ 72 ≤ p) → ¬ ((k = 4 ∨ k = 5 ∨ k = 57) ∧ p = j) → ¬ ((6 ≤ k ∧ k ≤ 11) ∧ 24 * j ≤ p ∧ p < 24 * j + 24) → ¬ ((13 ≤ k ∧ k ≤ 20) ∧ 160 * j ≤ p ∧ p < 160 * j + 160) → S'.2.1 k p = S.2.1 k p := fun k p q1 q2 q3 q4 q5 q6 q7 q8 q9 q10 q11 => b8 k p ⟨⟨⟨q1, q2, q3, q6⟩, q4, q5, q7, q8⟩, q9, q10, q11⟩
      have sf : ∀ j', j' < 3 → j' ≠ j → sfS j' S S' := fun j' hj' hne => ⟨eA 4 _ (by omega) (by omega) (by omega) (by omega) (by omega) (by omega) (by omega) (by omega) (by omega) (by omega) (by omega), eA 5 _ (by omega) (by omega) (by omega) (by omega) (by omega) (by omega) (by omega) (by omega) (by omega) (by omega) (by omega), fun k i _ _ _ => eA k _ (by omega) (by omega) (by omega) (by omega) (by omega) (by omega) (by omega) (by omega) (by omega) (by omega) (by omega), fun i _ => b9 12 _ (by omega) (by omega), fun k i _ _ _ => eA k _ (by omega) (by omega) (by omega) (by omega) (by omega) (by omega) (by omega) (by omega) (by omega) (by omega) (by omega), eA 57 _ (by omega) (by omega) (by omega) (by omega) (by omega) (by omega) (by omega) (by omega) (by omega) (by omega) (by omega), eA 58 _ (by omega) (by omega) (by omega) (by omega) (by omega) (by omega) (by omega) (by omega) (by omega) (by omega) (by omega), b9 61 _ (by omega) (by omega), fun i _ => ⟨eA 59 _ (by omega) (by omega) (by omega) (by omega) (by omega) (by omega) (by omega) (by omega) (by omega) (by omega) (by omega), b9 60 _ (by omega) (by omega)⟩⟩
      have rowA : ∀ k, k = 1 ∨ k = 47 ∨ k = 49 → S'.2.1 k = S.2.1 k := fun k hk => funext (fun p => eA k p (by omega) (by omega) (by omega) (by omega) (by omega) (by omega) (by omega) (by omega) (by omega) (by omega) (by omega))
      have hr : txR [] S' := ⟨b3, Nat.zero_le _, (fun j c h => by cases h), (fun c h => by cases h)⟩
      have ff : fold_ l 1 ≤ 2147483648 := by
        rw [fold_fo, a12]
        unfold rdT at hq
        split at hq
        · cases hq
        · split at hq
          · split at hq
            · cases hq
              assumption
            · cases hq
          · cases hq
      have slj : sltI z v G S' j := ⟨1, o, 0, 0, Ov, Wv, ⟨a5.1, a5.2.1, a5.2.2.1, Nat.zero_le _⟩, Or.inl ⟨rfl, b4⟩, Or.inr ⟨rfl, b5, H.2.1, G.2.1, _, _, _, l, hz, a7, Nat.le_refl _, Or.inl i4.2.1.2.1, a10, a11, b6, ff, prT_len i5.2.1 hq, pgL_do hq⟩⟩
      obtain ⟨t1, t2⟩ := inv_read (j := j) (S' := S') h' a6 hj3 a7 a8 a9 a13 a14 a4 hr (by rw [b7 3 (by decide)]; exact pst_idle a2) a3 (b7 52 (by decide)) (rowA 47 (by omega)) (rowA 49 (by omega)) (funext (fun p => b9 48 p (by omega) (by omega))) (fun j' hj' => by
        by_cases e : j' = j
        · rw [e]; exact slj
        · exact sltI_st (i12 j' hj') (fun q q1 q2 => a6 q (by omega) (by omega) (by omega) (by omega) (by omega) (by omega)) (fun q q1 q2 _ => Or.inl (a6 q q2 (by omega) (by omega) (by omega) (by omega) (by omega))) a7 (Or.inl rfl) (sf j' hj' e))
      obtain ⟨o1, o2⟩ := inv_out (b := (Int32.ofNat q.1.1.length).toInt64) t1
      obtain ⟨-, -, i3'⟩ := inv_cSl t1
      refine ⟨0, _, _, S', ?_, b1, b2, fun _ => mj_put_eq, clF_trans t2 o2, inv_up o1 (by omega) (by omega)⟩
      simp only [C77, k0, a1, th, out_put i3', Option.bind_some]
  · have m0 := M209_no (N := N) (S := S) hs
    rcases C79_do (xt := xt) (ct := ct) (O := TT xt ct N 100) (N := N) i1 i2 s with ⟨j', h1, h2, -⟩ | ⟨-, h2⟩
    · exact absurd (show 0 ≤ s.toInt ∧ s.toInt < 3 by omega) hs
    · obtain ⟨o1, o2⟩ := inv_thr (ci := 13) (S' := m_sV (m_sV S 0 0) 0 1) h (m_agr_sV (m_agr_sV m_agr_refl (by decide) _) (by decide) _)
      refine ⟨1, 0, _, _, ?_, m0, rfl, fun w => absurd w (by decide), o2, inv_up o1 (by omega) (by omega)⟩
      have g : gC (mj_new H 6 (.inr (13, []))) H.2.1 = some 13 := gC_of mj_new_eq
      have c78 : C78 xt ct (TT xt ct N 100) N (z + 1) s H = some (.inr H.2.1, mj_new H 6 (.inr (13, []))) := by
        simp only [C78, k0, h2, tc, Option.bind_some]
      simp only [C77, k0, c78, th, g, Option.bind_some]
      rfl
end SRD
