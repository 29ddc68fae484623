/-! THE CALLS ON THE TEXT: type, wipe, character -/
section TCL
variable {xt : mj_X} {ct : Nat → Value} {O : OR} {N z : Nat} {H : mj_H} {S : mS} {v : Nat} {bs : List Value} {tx : List Int32}
theorem txR_0 {x : Int32} (h : txR tx S) : txR tx (m_sV S 0 x) := h
theorem i_eq {x : Int32} {n : Nat} (h : x.toInt = n) : x = Int32.ofNat n := by
  have := Int32.toInt_lt x
  exact Int32.toInt_inj.mp (h.trans (i_nat (by omega)).symm)
theorem type_call (hx : cx z H) (hs : sb H (z + 2) v bs tx) (hv : cv_ z H v) (hr : txR tx S) (hN : 100 ≤ N) (w : Int64) (n : Int32) : ∃ (a : Int32) (H' : mj_H) (S' : mS) (v' : Nat) (bs' : List Value) (tx' : List Int32), C9 xt ct O N (z + 1) w n H = some (a, H') ∧ M204 N w n S = some (a, S') ∧ sb H' (z + 2) v' bs' tx' ∧ tstep z H v bs H' v' bs' ∧ txR tx' S' ∧ m_agr [0, 2] [1] [] S S' ∧ S'.1 0 = 0 := by
  have ag : m_agr [0, 2] [1] [] S (m_sV S 0 0) := m_agr_sV m_agr_refl (by decide) _
  have nope : C9 xt ct O N (z + 1) w n H = some (-1000, H) → M204 N w n S = some (-1000, m_sV S 0 0) → ∃ (a : Int32) (H' : mj_H) (S' : mS) (v' : Nat) (bs' : List Value) (tx' : List Int32), C9 xt ct O N (z + 1) w n H = some (a, H') ∧ M204 N w n S = some (a, S') ∧ sb H' (z + 2) v' bs' tx' ∧ tstep z H v bs H' v' bs' ∧ txR tx' S' ∧ m_agr [0, 2] [1] [] S S' ∧ S'.1 0 = 0 := fun e1 e2 => ⟨-1000, H, m_sV S 0 0, v, bs, tx, e1, e2, hs, tstep_refl hs hv, txR_0 hr, ag, rfl⟩
  have m205 := M205_do (N := N) (x := n) (lo := 1) (hi := 8) (S := m_sV S 0 0)
  rw [q_1, q_8] at m205
  have b0 : mj_c1 .eq 0 = true := by decide
  have b1 : mj_c1 .eq 1 = false := by decide
  by_cases h1 : n.toInt < 1
  · have c1 : mj_c2 .lt n 1 = true := i_c2 (by show decide _ = true; apply decide_eq_true; rw [q_1]; exact h1)
    refine nope ?_ ?_
    · simp only [C9, c1, cond_true, J9_26]
    · rw [if_neg (by omega)] at m205
      simp only [M204, m205, b0, cond_true, J204_27, Option.bind_some]
  have c1 : mj_c2 .lt n 1 = false := i_c2 (by show decide _ = false; apply decide_eq_false; rw [q_1]; exact h1)
  by_cases h2 : 8 < n.toInt
  · have c2 : mj_c2 .gt n 8 = true := i_c2 (by show decide _ = true; apply decide_eq_true; rw [q_8]; exact h2)
    refine nope ?_ ?_
    · simp only [C9, c1, c2, cond_true, cond_false, J9_26]
    · rw [if_neg (by omega)] at m205
      simp only [M204, m205, b0, cond_true, J204_27, Option.bind_some]
  have c2 : mj_c2 .gt n 8 = false := i_c2 (by show decide _ = false; apply decide_eq_false; rw [q_8]; exact h2)
  rw [if_pos (by omega)] at m205
  obtain ⟨k, hk⟩ : ∃ k : Nat, n.toInt = k := ⟨n.toInt.toNat, by omega⟩
  have hn : n = Int32.ofNat k := i_eq hk
  have g0 : gA H (z + 1) 5 0 = some (z + 2) := gA_of hx rfl
  obtain ⟨⟨m, k1⟩, -⟩ := id hs
  have l1 : (m_sV S 0 0).1 2 = Int32.ofNat tx.length := hr.1
  have hl := hr.2.1
  have e1 : (Int32.ofNat tx.length).toInt = tx.length := i_nat (by omega)
  have e2 : (Int32.ofNat tx.length + n).toInt = tx.length + k := by rw [i_add (by omega) (by omega), e1, hk]
  cases c3 : mj_c2 .le (Int32.ofNat tx.length + n) 160 with
  | false =>
    refine nope ?_ ?_
    · simp only [C9, c1, c2, cond_false, g0, gK_of k1, C10_sb hs, c3, J9_26, Option.bind_some]
    · simp only [M204, m205, b1, cond_false, l1, c3, J204_27, Option.bind_some]
  | true =>
    have h3 : tx.length + k ≤ 160 := by
      have := of_decide_eq_true c3
      rw [Int32.le_iff_toInt_le, e2, show (160 : Int32).toInt = 160 from rfl] at this
      omega
    subst hn
    by_cases hok : ∀ j, j < k → ty_ok w (Int32.ofNat j)
    · obtain ⟨H', v', bs', a1, a2, a3⟩ := L9_76_do (xt := xt) (ct := ct) (O := O) (N := N) k H v bs tx (by omega) hx hs hv h3 hok
      obtain ⟨S', d1, d2, d3⟩ := L204_86_do (N := N) k (m_sV S 0 0) tx (by omega) (txR_0 hr) h3 hok
      obtain ⟨r, f1, f2⟩ := L9_33_do (xt := xt) (ct := ct) (O := O) (z := z) (w := w) (H := H) (n := k) (by omega) hN (fun _ => t_lp_more _ _ _ (by omega) a1)
      obtain ⟨r2, f3, f4⟩ := L204_34_do (w := w) (S := m_sV S 0 0) (n := k) (by omega) hN (fun _ => t_lp_more _ _ _ (by omega) d1)
      rcases f2 with ⟨-, rfl⟩ | ⟨q, -⟩
      · rcases f4 with ⟨-, rfl⟩ | ⟨q, -⟩
        · refine ⟨Int32.ofNat (tx.length + k), H', S', v', bs', tx ++ tyl w k, ?_, ?_, a2, a3, d2, m_agr_trans ag (m_agr_mono d3 (by decide) (by decide) (by decide)), ?_⟩
          · simp only [C9, c1, c2, cond_false, g0, gK_of k1, C10_sb hs, c3, cond_true, f1, Option.bind_some]
          · simp only [M204, m205, b1, cond_false, l1, c3, cond_true, f3, Option.bind_some]
          · rw [d3.1 0 (by decide)]
            rfl
        · exact absurd hok q
      · exact absurd hok q
    · obtain ⟨r, f1, f2⟩ := L9_33_do (xt := xt) (ct := ct) (O := O) (z := z) (w := w) (H := H) (n := k) (r0 := (0, H)) (by omega) hN (fun q => absurd q hok)
      obtain ⟨r2, f3, f4⟩ := L204_34_do (w := w) (S := m_sV S 0 0) (n := k) (r0 := (0, S)) (by omega) hN (fun q => absurd q hok)
      rcases f2 with ⟨q, -⟩ | ⟨-, rfl⟩
      · exact absurd q hok
      · rcases f4 with ⟨q, -⟩ | ⟨-, rfl⟩
        · exact absurd q hok
        · refine nope ?_ ?_
          · simp only [C9, c1, c2, cond_false, g0, gK_of k1, C10_sb hs, c3, cond_true, f1, Option.bind_some]
          · simp only [M204, m205, b1, cond_false, l1, c3, cond_true, f3, Option.bind_some]
theorem wipe_call (hx : cx z H) (hs : sb H (z + 2) v bs tx) (hv : cv_ z H v) (hr : txR tx S) : ∃ (a : Int32) (H' : mj_H) (S' : mS), C36 xt ct O N (z + 1) H = some (a, H') ∧ M207 N S = some (a, S') ∧ sb H' (z + 2) v bs [] ∧ tstep z H v bs H' v bs ∧ txR [] S' ∧ m_agr [0, 2] [1] [] S S' ∧ S'.1 0 = 0 := by
  obtain ⟨H', a1, a2, a3, a4⟩ := C37_0 (xt := xt) (ct := ct) (O := O) (N := N) hs
  have g0 : gA H (z + 1) 5 0 = some (z + 2) := gA_of hx rfl
  obtain ⟨⟨m, k1⟩, -⟩ := id hs
  refine ⟨Int32.ofNat tx.length, H', m_sV (m_sV S 0 0) 2 0, ?_, ?_, a2, ?_, ?_, ?_, rfl⟩
  · simp only [C36, g0, gK_of k1, C10_sb hs, a1, Option.bind_some]
  · unfold M207
    rw [hr.1]
  · exact ⟨fun q q1 _ _ => a3 q q1, Or.inl rfl, by rw [a4]; exact hv.2.1, by rw [a4]; exact Nat.le_refl _, by rw [a4]; exact Nat.le_refl _, by rw [a4]; exact Nat.le_refl _, id, by rw [a4]; exact Nat.le_refl _, txN_1 hs hv a2 (Or.inl ⟨by rw [a4], rfl⟩)⟩
  · exact ⟨rfl, Nat.zero_le _, (fun j c h => by cases h), (fun c h => by cases h)⟩
  · exact m_agr_sV (m_agr_sV m_agr_refl (by decide) _) (by decide) _
theorem char_call (hf : ∃ o, vtO (ct 1) = some o) (hx : cx z H) (hs : sb H (z + 2) v bs tx) (hr : txR tx S) (i : Int32) : ∃ (a : Int32), C72 xt ct O N (z + 1) i H = some (a, H) ∧ M208 N i S = some (a, m_sV S 0 0) := by
  have g0 : gA H (z + 1) 5 0 = some (z + 2) := gA_of hx rfl
  obtain ⟨⟨m, k1⟩, -⟩ := id hs
  have hl := hr.2.1
  have e1 : (Int32.ofNat tx.length).toInt = tx.length := i_nat (by omega)
  have l1 : S.1 2 = Int32.ofNat tx.length := hr.1
  cases c1 : mj_c1 .lt i with
  | true =>
    refine ⟨-1000, ?_, ?_⟩
    · simp only [C72, c1, cond_true, J72_26, J72_29]
    · simp only [M208, c1, cond_true, J208_26, J208_29]
  | false =>
    have h1 : 0 ≤ i.toInt := by
      have := of_decide_eq_false c1
      rw [Int32.lt_iff_toInt_lt, q_0] at this
      omega
    cases c2 : mj_c2 .ge i (Int32.ofNat tx.length) with
    | true =>
      refine ⟨-1000, ?_, ?_⟩
      · simp only [C72, c1, cond_false, g0, gK_of k1, C10_sb hs, c2, cond_true, J72_26, J72_29, Option.bind_some]
      · simp only [M208, c1, cond_false, l1, c2, cond_true, J208_26, J208_29]
    | false =>
      have h2 : i.toInt < tx.length := by
        have := of_decide_eq_false c2
        rw [Int32.le_iff_toInt_le, e1] at this
        omega
      obtain ⟨c, hc⟩ : ∃ c, tx[i.toInt.toNat]? = some c := ⟨_, List.getElem?_eq_getElem (by omega)⟩
      have hr' := hr.2.2.2 c (List.mem_of_getElem? hc)
      have c73 := C73_sb (xt := xt) (O := O) (N := N) hf hs h1 hc (by omega)
      refine ⟨c, ?_, ?_⟩
      · simp only [C72, c1, cond_false, g0, gK_of k1, C10_sb hs, c2, c73, J72_29, Option.bind_some]
      · unfold M208
        rw [c1, l1, c2]
        show (if 0 ≤ i.toInt ∧ i.toInt < mN 1 then _ else none) = _
        rw [if_pos ⟨h1, by rw [mN_1]; omega⟩]
        show some (S.2.1 1 i.toInt.toNat, m_sV S 0 0) = _
        rw [hr.2.2.1 _ _ hc]
end TCL
