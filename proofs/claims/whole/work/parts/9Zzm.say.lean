section SBA
variable {N : Nat} {x1 : Int32} {sl : Nat} {nds : List Nd} {fcs : List Int32}
/-- dice -/
theorem M255_do {S : mS} {tx : List Int32} {x : Int32} {i n m : Nat} {how keep : Int32} (hx : x.toInt = i) (hi : i < 640) (ht : txR tx S) (e1 : S.2.1 14 i = Int32.ofNat n) (e2 : S.2.1 15 i = Int32.ofNat m) (e3 : S.2.1 16 i = how) (e4 : S.2.1 17 i = keep) {pick : Int32} {k : Nat} (hc : dcOK n m how keep pick k) (hl : tx.length + (dcP (4, Int32.ofNat n, Int32.ofNat m, how, keep, -1, -1)).length ≤ 160) : ∃ S', M255 N x S = some S' ∧ txR (tx ++ dcP (4, Int32.ofNat n, Int32.ofNat m, how, keep, -1, -1)) S' ∧ m_agr [2] [1] [] S S' := by
  obtain ⟨d1, d2, d3⟩ := hc
  have t : x.toInt.toNat = i := by omega
  have c14 : 0 ≤ x.toInt ∧ x.toInt < mN 14 := by rw [show mN 14 = 640 from rfl]; omega
  have c15 : 0 ≤ x.toInt ∧ x.toInt < mN 15 := by rw [show mN 15 = 640 from rfl]; omega
  have c16 : 0 ≤ x.toInt ∧ x.toInt < mN 16 := by rw [show mN 16 = 640 from rfl]; omega
  have c17 : 0 ≤ x.toInt ∧ x.toInt < mN 17 := by rw [show mN 17 = 640 from rfl]; omega
  have en : (Int32.ofNat n).toInt = n := i_nat (by omega)
  have em : (Int32.ofNat m).toInt = m := i_nat (by omega)
  have eq : dcP (4, Int32.ofNat n, Int32.ofNat m, how, keep, -1, -1) = (if n ≤ 1 then [] else dgs n) ++ ([100] ++ dgs m ++ (if how = 32 then [] else how :: dgs keep.toInt.toNat)) := by
    show (if (Int32.ofNat n).toInt ≤ 1 then [] else dgs (Int32.ofNat n).toInt.toNat) ++ [100] ++ dgs (Int32.ofNat m).toInt.toNat ++ (if how = 32 then [] else how :: dgs keep.toInt.toNat) = _
    rw [en, em, show (n : Int).toNat = n by omega, show (m : Int).toNat = m by omega]
    by_cases h1 : n ≤ 1
    · rw [if_pos (by omega), if_pos h1]
      simp
    · rw [if_neg (by omega), if_neg h1]
      simp
  rw [eq] at hl ⊢
  have tail : ∀ (S1 : mS) (ty : List Int32), txR ty S1 → m_agr [2] [1] [] S S1 → ty.length + ([100] ++ dgs m ++ (if how = 32 then [] else how :: dgs keep.toInt.toNat)).length ≤ 160 → ∃ S', J255_20 N x S1 = some S' ∧ txR (ty ++ ([100] ++ dgs m ++ (if how = 32 then [] else how :: dgs keep.toInt.toNat))) S' ∧ m_agr [2] [1] [] S S' := by
    intro S1 ty h1 ag hl1
    rw [List.length_append, List.length_append, List.length_singleton] at hl1
    obtain ⟨S2, a1, a2, a3⟩ := M206_do (N := N) (c := 100) h1 (by omega) (by decide)
    have ag2 := m_agr_trans ag a3
    obtain ⟨S3, b1, b2, b3⟩ := M249_do (N := N) (n := m) a2 (by omega) (by rw [List.length_append, List.length_singleton]; omega)
    have ag3 := m_agr_trans ag2 b3
    have v15 : S2.2.1 15 i = Int32.ofNat m := by rw [ag2.2.1 15 (by decide)]; exact e2
    have v16 : S3.2.1 16 i = how := by rw [ag3.2.1 16 (by decide)]; exact e3
    by_cases h32 : how = 32
    · have c : mj_c2 .eq how 32 = true := decide_eq_true h32
      rw [if_pos h32]
      refine ⟨S3, ?_, by rw [List.append_nil, ← List.append_assoc]; exact b2, ag3⟩
      simp only [J255_20, a1, if_pos c15, t, v15, b1, if_pos c16, v16, c, cond_true, J255_67, Option.bind_some]
    · have c : mj_c2 .eq how 32 = false := decide_eq_false h32
      rw [if_neg h32] at hl1 ⊢
      rw [List.length_cons] at hl1
      have hp : keep = Int32.ofNat k ∧ k ≤ 6 ∧ (33 ≤ how.toInt ∧ how.toInt ≤ 126) := by
        rcases d3 with ⟨q, -⟩ | ⟨q1, -, -, q4, q5⟩ | ⟨q1, -, q4, q5⟩
        · exact absurd q h32
        · exact ⟨q5, by omega, by rw [q1]; decide⟩
        · refine ⟨q5, by omega, ?_⟩
          rcases q1 with q | q <;> rw [q] <;> decide
      obtain ⟨p1, p2, p3⟩ := hp
      have ek : keep.toInt.toNat = k := by rw [p1, i_nat (by omega)]; omega
      rw [ek] at hl1 ⊢
      obtain ⟨S4, f1, f2, f3⟩ := M206_do (N := N) (c := how) b2 (by rw [List.length_append, List.length_append, List.length_singleton]; omega) p3
      have ag4 := m_agr_trans ag3 f3
      have v17 : S4.2.1 17 i = Int32.ofNat k := by rw [ag4.2.1 17 (by decide), e4]; exact p1
      obtain ⟨S5, g1, g2, g3⟩ := M249_do (N := N) (n := k) f2 (by omega) (by rw [List.length_append, List.length_append, List.length_append, List.length_singleton, List.length_singleton]; omega)
      refine ⟨S5, ?_, ?_, m_agr_trans ag4 g3⟩
      · simp only [J255_20, a1, if_pos c15, t, v15, b1, if_pos c16, v16, c, cond_false, f1, if_pos c17, v17, g1, J255_67, Option.bind_some]
      · have e : ty ++ ([100] ++ dgs m ++ how :: dgs k) = ty ++ [100] ++ dgs m ++ [how] ++ dgs k := by simp
        rw [e]
        exact g2
  by_cases h1 : n ≤ 1
  · have b : mj_c2 .le (Int32.ofNat n) 1 = true := i_c2 (by show decide _ = true; apply decide_eq_true; rw [en, q_1]; omega)
    rw [if_pos h1] at hl ⊢
    rw [List.nil_append] at hl ⊢
    obtain ⟨S', a1, a2, a3⟩ := tail S tx ht m_agr_refl hl
    refine ⟨S', ?_, a2, a3⟩
    simp only [M255, if_pos c14, t, e1, b, cond_true]
    exact a1
  · have b : mj_c2 .le (Int32.ofNat n) 1 = false := i_c2 (by show decide _ = false; apply decide_eq_false; rw [en, q_1]; omega)
    rw [if_neg h1] at hl ⊢
    rw [List.length_append] at hl
    obtain ⟨S1, a1, a2, a3⟩ := M249_do (N := N) (n := n) ht (by omega) (by omega)
    obtain ⟨S', c1, c2, c3⟩ := tail S1 (tx ++ dgs n) a2 a3 (by rw [List.length_append (as := tx)]; omega)
    refine ⟨S', ?_, by rw [← List.append_assoc]; exact c2, c3⟩
    simp only [M255, if_pos c14, t, e1, b, cond_false, a1, Option.bind_some]
    exact c1
/-- a row of faces -/
theorem L256_do (hs : x1.toInt = sl) (hsl : sl < 3) {x : Int32} {i b : Nat} {fl : List Int32} (hx : x.toInt = i) (hi : i < 640) (h8 : fl.length ≤ 8) (hb : b + fl.length ≤ 160) (hf : ∀ y ∈ fl, 0 ≤ y.toInt ∧ y.toInt ≤ 999) : ∀ (n k : Nat) (S : mS) (tx : List Int32), k + n = fl.length → txR tx S → S.2.1 14 i = Int32.ofNat b → S.2.1 15 i = Int32.ofNat fl.length → (∀ j y, fl[j]? = some y → S.2.1 20 (160 * sl + (b + j)) = y) → tx.length + (fcP (fl.drop k) (if k = 0 then 91 else 44)).length ≤ 160 → ∃ S', t_lp (B256_2 N) (n + 1) (x1, x, Int32.ofNat k, S) = some S' ∧ txR (tx ++ fcP (fl.drop k) (if k = 0 then 91 else 44)) S' ∧ m_agr [2] [1] [] S S' := by
  have t : x.toInt.toNat = i := by omega
  have c14 : 0 ≤ x.toInt ∧ x.toInt < mN 14 := by rw [show mN 14 = 640 from rfl]; omega
  have c15 : 0 ≤ x.toInt ∧ x.toInt < mN 15 := by rw [show mN 15 = 640 from rfl]; omega
  intro n
  induction n with
  | zero =>
    intro k S tx hk ht e1 e2 e3 hl
    have c : mj_c2 .ge (Int32.ofNat k) (Int32.ofNat fl.length) = true := i_c2 (by show decide _ = true; apply decide_eq_true; rw [i_nat (by omega), i_nat (by omega)]; omega)
    rw [List.drop_eq_nil_of_le (by omega)] at hl ⊢
    have hl' : tx.length + 1 ≤ 160 := hl
    obtain ⟨S1, a1, a2, a3⟩ := M206_do (N := N) (c := 93) ht (by omega) (by decide)
    refine ⟨S1, t_end ?_ 0, a2, a3⟩
    simp only [B256_2, if_pos c15, t, e2, c, cond_true, a1, Option.bind_some]
  | succ n ih =>
    intro k S tx hk ht e1 e2 e3 hl
    have hlt : k < fl.length := by omega
    have c : mj_c2 .ge (Int32.ofNat k) (Int32.ofNat fl.length) = false := i_c2 (by show decide _ = false; apply decide_eq_false; rw [i_nat (by omega), i_nat (by omega)]; omega)
    obtain ⟨y, hy⟩ : ∃ y, fl[k]? = some y := ⟨fl[k], List.getElem?_eq_getElem hlt⟩
    have hyr := hf y (List.mem_of_getElem? hy)
    have ey : y = Int32.ofNat y.toInt.toNat := i_eq (by omega)
    have ed : fl.drop k = y :: fl.drop (k + 1) := by
      rw [List.drop_eq_getElem_cons hlt]
      rw [List.getElem?_eq_getElem hlt] at hy
      rw [Option.some.inj hy]
    rw [ed] at hl ⊢
    obtain ⟨s, hs0⟩ : ∃ s : Int32, (if k = 0 then 91 else 44) = s := ⟨_, rfl⟩
    rw [hs0] at hl ⊢
    have hsr : 33 ≤ s.toInt ∧ s.toInt ≤ 126 := by rw [← hs0]; split <;> decide
    have hl' : tx.length + (1 + ((dgs y.toInt.toNat).length + (fcP (fl.drop (k + 1)) 44).length)) ≤ 160 := by
      have : (fcP (y :: fl.drop (k + 1)) s).length = 1 + ((dgs y.toInt.toNat).length + (fcP (fl.drop (k + 1)) 44).length) := by
        show (s :: (dgs y.toInt.toNat ++ fcP (fl.drop (k + 1)) 44)).length = _
        rw [List.length_cons, List.length_append]
        omega
      omega
    obtain ⟨S1, a1, a2, a3⟩ := M206_do (N := N) (c := s) ht (by omega) hsr
    obtain ⟨S2, b1, b2, b3⟩ := M249_do (N := N) (n := y.toInt.toNat) a2 (by omega) (by rw [List.length_append, List.length_singleton]; omega)
    rw [← ey] at b1
    have ag := m_agr_trans a3 b3
    have v14 : S1.2.1 14 i = Int32.ofNat b := by rw [a3.2.1 14 (by decide)]; exact e1
    have v20 : S1.2.1 20 (160 * sl + (b + k)) = y := by rw [a3.2.1 20 (by decide)]; exact e3 k y hy
    have ei : (160 * x1 + Int32.ofNat b + Int32.ofNat k).toInt = 160 * sl + (b + k) := by
      have q := i_160 (k := b) hs (by omega) (by omega)
      rw [i_add (by rw [q, i_nat (by omega)]; omega) (by rw [q, i_nat (by omega)]; omega), q, i_nat (by omega)]
      omega
    have c20 : 0 ≤ (160 * x1 + Int32.ofNat b + Int32.ofNat k).toInt ∧ (160 * x1 + Int32.ofNat b + Int32.ofNat k).toInt < mN 20 := by rw [show mN 20 = 640 from rfl]; omega
    have t20 : (160 * x1 + Int32.ofNat b + Int32.ofNat k).toInt.toNat = 160 * sl + (b + k) := by omega
    have e44 : (if k + 1 = 0 then (91 : Int32) else 44) = 44 := if_neg (by omega)
    obtain ⟨S3, d1, d2, d3⟩ := ih (k + 1) S2 (tx ++ [s] ++ dgs y.toInt.toNat) (by omega) b2 (by rw [ag.2.1 14 (by decide)]; exact e1) (by rw [ag.2.1 15 (by decide)]; exact e2) (by rw [ag.2.1 20 (by decide)]; exact e3) (by rw [e44, List.length_append, List.length_append, List.length_singleton]; omega)
    rw [e44] at d2
    have i1 : Int32.ofNat k + 1 = Int32.ofNat (k + 1) := i_inc (by omega)
    have fB : B256_2 N (x1, x, Int32.ofNat k, S) = some (.inl (x1, x, Int32.ofNat (k + 1), S2)) := by
      have way : B256_2 N (x1, x, Int32.ofNat k, S) = J256_24 N x1 x (Int32.ofNat k) s S := by
        by_cases i0 : k = 0
        · subst i0
          have : s = 91 := by rw [← hs0]; rfl
          rw [this]
          have c0 : mj_c1 .ne (Int32.ofNat 0) = false := by decide
          simp only [B256_2, if_pos c15, t, e2, c, cond_false, c0]
        · have : s = 44 := by rw [← hs0, if_neg i0]
          rw [this]
          have c0 : mj_c1 .ne (Int32.ofNat k) = true := i_ne0 (by rw [i_nat (by omega)]; omega)
          simp only [B256_2, if_pos c15, t, e2, c, cond_false, c0, cond_true]
      rw [way]
      simp only [J256_24, a1, if_pos c14, t, v14, if_pos c20, t20, v20, b1, i1, Option.bind_some]
    refine ⟨S3, (t_one fB _).trans d1, ?_, m_agr_trans ag d3⟩
    have e : tx ++ fcP (y :: fl.drop (k + 1)) s = tx ++ [s] ++ dgs y.toInt.toNat ++ fcP (fl.drop (k + 1)) 44 := by
      show tx ++ (s :: (dgs y.toInt.toNat ++ fcP (fl.drop (k + 1)) 44)) = _
      simp
    rw [e]
    exact d2
end SBA
