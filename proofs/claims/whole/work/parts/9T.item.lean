/-! READING LEAVES, THE REFERENCE -/
/-- the faces of the draft -/
def fcR (S : mS) (fcs : List Int32) : Prop := S.1 25 = Int32.ofNat fcs.length ∧ fcs.length ≤ 160 ∧ ∀ (i : Nat) (x : Int32), fcs[i]? = some x → S.2.1 20 (480 + i) = x
/-- the signs that wait: sign, and whether a comparison was seen before it -/
def skR (S : mS) (K : List (Int32 × Int32)) (dp : Nat) (sn : Int32) : Prop := S.1 29 = Int32.ofNat K.length ∧ K.length ≤ 160 ∧ (∀ (i : Nat) (k : Int32 × Int32), K[i]? = some k → S.2.1 27 i = k.1 ∧ S.2.1 28 i = k.2 ∧ (k.2 = 0 ∨ k.2 = 1)) ∧ S.1 30 = Int32.ofNat dp ∧ dp ≤ 5 ∧ S.1 31 = sn ∧ (sn = 0 ∨ sn = 1)
section AGS
variable {F A B : List Nat} {S S' : mS}
theorem mst_ag {tx : List Int32} {p : Nat} (h : mst S tx p) (a : m_agr F A B S S') (c : 2 ∉ F ∧ 22 ∉ F ∧ 1 ∉ A) : mst S' tx p := by
  obtain ⟨⟨h1, h2, h3, h4⟩, h5, h6⟩ := h
  refine ⟨⟨by rw [a.1 2 c.1]; exact h1, h2, by rw [a.2.1 1 c.2.2]; exact h3, h4⟩, by rw [a.1 22 c.2.1]; exact h5, h6⟩
theorem txR_ag {tx : List Int32} (h : txR tx S) (a : m_agr F A B S S') (c : 2 ∉ F ∧ 1 ∉ A) : txR tx S' := by
  obtain ⟨h1, h2, h3, h4⟩ := h
  exact ⟨by rw [a.1 2 c.1]; exact h1, h2, by rw [a.2.1 1 c.2]; exact h3, h4⟩
theorem dr_ag {nds : List Nd} {ds : List Nat} (h : dr S nds ds) (a : m_agr F A B S S') (c : 23 ∉ F ∧ 33 ∉ F ∧ 13 ∉ A ∧ 14 ∉ A ∧ 15 ∉ A ∧ 16 ∉ A ∧ 17 ∉ A ∧ 18 ∉ A ∧ 19 ∉ A ∧ 32 ∉ A) : dr S' nds ds := by
  obtain ⟨c1, c2, c3, c4, c5, c6, c7, c8, c9, c10⟩ := c
  unfold dr ndAt
  rw [a.1 23 c1, a.1 33 c2, a.2.1 13 c3, a.2.1 14 c4, a.2.1 15 c5, a.2.1 16 c6, a.2.1 17 c7, a.2.1 18 c8, a.2.1 19 c9, a.2.1 32 c10]
  exact h
theorem fc_ag {fcs : List Int32} (h : fcR S fcs) (a : m_agr F A B S S') (c : 25 ∉ F ∧ 20 ∉ A) : fcR S' fcs := by
  unfold fcR
  rw [a.1 25 c.1, a.2.1 20 c.2]
  exact h
theorem sk_ag {K : List (Int32 × Int32)} {dp : Nat} {sn : Int32} (h : skR S K dp sn) (a : m_agr F A B S S') (c : 29 ∉ F ∧ 30 ∉ F ∧ 31 ∉ F ∧ 27 ∉ A ∧ 28 ∉ A) : skR S' K dp sn := by
  obtain ⟨c1, c2, c3, c4, c5⟩ := c
  unfold skR
  rw [a.1 29 c1, a.1 30 c2, a.1 31 c3, a.2.1 27 c4, a.2.1 28 c5]
  exact h
end AGS
section ITM
variable {N : Nat} {tx : List Int32}
/-- number, in the plain function's words -/
theorem M216_r (hN : 2000 ≤ N) {S : mS} {p : Nat} {lo hi : Int32} (h : mst S tx p) (hh : hi.toInt ≤ 999) : (∀ q, rNum tx p lo hi = .inr q → ∃ S', M216 N lo hi S = some (1, S') ∧ mst S' tx q.1 ∧ S'.1 26 = Int32.ofNat q.2 ∧ m_agr [22, 26] [] [] S S') ∧ (∀ w, rNum tx p lo hi = .inl w → ∃ S', M216 N lo hi S = some (0, S') ∧ S'.1 3 = Int32.ofNat w ∧ m_agr [3, 22, 26] [] [] S S') := by
  obtain ⟨S', a1, a2, a3⟩ := M216_do (N := N) (lo := lo) hN h hh
  constructor
  · intro q hq
    obtain ⟨rfl, o⟩ := rNum_ok hq
    rcases a3 with ⟨-, b2, b3, b4⟩ | ⟨b1, -⟩
    · exact ⟨S', b2, a1, b3, fun j hj => (by by_cases e : j = 3; (subst e; exact b4); exact a2.1 j (by simp at hj ⊢; omega)), a2.2⟩
    · exact absurd o b1
  · intro w hw
    obtain ⟨rfl, o⟩ := rNum_no hw
    rcases a3 with ⟨b1, -⟩ | ⟨-, b2, b3⟩
    · exact absurd b1 o
    · exact ⟨S', b2, b3, a2⟩
theorem mst_inc {S : mS} {p : Nat} (h : mst S tx p) (hp : p < tx.length) : mst (m_sV S 22 (S.1 22 + 1)) tx (p + 1) := by
  obtain ⟨h1, h2, h3⟩ := h
  have hl := h1.2.1
  refine ⟨h1, ?_, hp⟩
  show S.1 22 + 1 = _
  rw [h2]
  exact i_inc (by omega)
def dF : List Nat := [22, 23, 26, 33]
def dA : List Nat := [13, 14, 15, 16, 17, 18, 19, 32]
/-- dice -/
theorem M226_do (hN : 2000 ≤ N) {S : mS} {p n : Nat} {nds : List Nd} {ds : List Nat} (hn : 1 ≤ n ∧ n ≤ 6) (h : mst S tx p) (hd : dr S nds ds) (h1 : nds.length < 160) (h2 : ds.length < 59) : (∀ q, rDc tx n p = .inr q → ∃ S', M226 N (Int32.ofNat n) S = some (1, S') ∧ mst S' tx q.1 ∧ dr S' (nds ++ [q.2]) (ds ++ [nds.length]) ∧ m_agr dF dA [] S S' ∧ pf S S') ∧ (∀ w, rDc tx n p = .inl w → ∃ S', M226 N (Int32.ofNat n) S = some (0, S') ∧ S'.1 3 = Int32.ofNat w ∧ pfx S S') := by
  have b0 : mj_c1 .eq 0 = true := by decide
  have b1 : mj_c1 .eq 1 = false := by decide
  have n0 : mj_c1 .ne 0 = false := by decide
  have n1 : mj_c1 .ne 1 = true := by decide
  have m := M219_do (N := N) h 100
  have F0 : ∀ j ∈ [22, 26], j ∈ dF := by decide
  have F1 : ∀ j ∈ ([] : List Nat), j ∈ dA := fun _ q => absurd q List.not_mem_nil
  have F2 : ∀ j ∈ [23, 33], j ∈ dF := by decide
  have F3 : ∀ j ∈ [13, 14, 15, 16, 17, 18, 19, 32], j ∈ dA := by decide
  have F4 : ∀ j ∈ ([] : List Nat), j ∈ ([] : List Nat) := fun _ q => q
  have P0 : ∀ j ∈ [22, 26], j ∈ pfV := by decide
  have P3 : ∀ j ∈ [3, 22, 26], j ∈ 3 :: pfV := by decide
  have P1 : ∀ j ∈ ([] : List Nat), j = 27 ∨ j = 28 ∨ j = 32 := fun _ q => absurd q List.not_mem_nil
  by_cases hc : pk tx p = 100
  · have hp := pkz_is hc (by decide)
    rw [if_pos hc] at m
    have m1 := mst_inc h hp
    obtain ⟨S1, hS1⟩ : ∃ S1, m_sV S 22 (S.1 22 + 1) = S1 := ⟨_, rfl⟩
    rw [hS1] at m m1
    have g1 : m_agr [22, 26] [] [] S S1 := by rw [← hS1]; exact m_agr_sV m_agr_refl (by decide) _
    obtain ⟨x1, x2⟩ := M216_r (N := N) (lo := 2) (hi := 20) hN m1 (by decide)
    cases e1 : rNum tx (p + 1) 2 20 with
    | inl w =>
      obtain ⟨S2, y1, y2, y3⟩ := x2 w e1
      have g := pfx_trans (pf_ag g1 P0 P1) (pfx_ag y3 P3 P1)
      have e : rDc tx n p = .inl w := by simp only [rDc, if_pos hc, e1]
      rw [e]
      refine ⟨fun q hq => (by cases hq), fun w' hw => ⟨S2, ?_, by cases hw; exact y2, g⟩⟩
      simp only [M226, m, b1, n0, cond_false, y1, J226_19, Option.bind_some]
    | inr a =>
      obtain ⟨S2, y1, y2, y3, y4⟩ := x1 a e1
      have g2 := m_agr_trans g1 y4
      have d2 := dr_ag hd g2 (by decide)
      have m2 := M212_do (N := N) y2
      obtain ⟨c, hcc⟩ : ∃ c, pk tx a.1 = c := ⟨_, rfl⟩
      rw [hcc] at m2
      have l1 := rNum_le (by omega) e1
      -- the end of all that is right: the node
      have fin : ∀ (S3 : mS) (q3 : Nat) (how k : Int32), mst S3 tx q3 → m_agr [22, 26] [] [] S S3 → ∃ S', J226_115 N (Int32.ofNat n) (Int32.ofNat a.2) how k S3 = some (1, S') ∧ mst S' tx q3 ∧ dr S' (nds ++ [(4, Int32.ofNat n, Int32.ofNat a.2, how, k, -1, -1)]) (ds ++ [nds.length]) ∧ m_agr dF dA [] S S' ∧ pf S S' := by
        intro S3 q3 how k hm hg
        obtain ⟨S4, z1, z2, z3, z4⟩ := M224_do (N := N) (dr_ag hd hg (by decide)) h1 h2 4 (Int32.ofNat n) (Int32.ofNat a.2) how k
        refine ⟨S4, ?_, mst_ag hm z3 (by decide), z2, m_agr_trans (m_agr_mono hg F0 F1 F4) (m_agr_mono z3 F2 F3 F4), pf_trans (pf_ag hg P0 P1) z4⟩
        simp only [J226_115, z1, Option.bind_some]
      -- a number behind a letter
      have tail : ∀ (hi : Int32), hi.toInt ≤ 999 → a.1 < tx.length → (∀ q, rNum tx (a.1 + 1) 1 hi = .inr q → ∃ S', J226_95 N (Int32.ofNat n) (Int32.ofNat a.2) c hi 1 (m_sV S2 22 (S2.1 22 + 1)) = some (1, S') ∧ mst S' tx q.1 ∧ dr S' (nds ++ [(4, Int32.ofNat n, Int32.ofNat a.2, c, Int32.ofNat q.2, -1, -1)]) (ds ++ [nds.length]) ∧ m_agr dF dA [] S S' ∧ pf S S') ∧ (∀ w, rNum tx (a.1 + 1) 1 hi = .inl w → ∃ S', J226_95 N (Int32.ofNat n) (Int32.ofNat a.2) c hi 1 (m_sV S2 22 (S2.1 22 + 1)) = some (0, S') ∧ S'.1 3 = Int32.ofNat w ∧ pfx S S') := by
        intro hi hh hlt
        obtain ⟨S3, hS3⟩ : ∃ S3, m_sV S2 22 (S2.1 22 + 1) = S3 := ⟨_, rfl⟩
        have m3 := mst_inc y2 hlt
        rw [hS3] at m3 ⊢
        have g3 : m_agr [22, 26] [] [] S S3 := by rw [← hS3]; exact m_agr_sV g2 (by decide) _
        obtain ⟨u1, u2⟩ := M216_r (N := N) (lo := 1) (hi := hi) hN m3 hh
        constructor
        · intro q hq
          obtain ⟨S4, v1, v2, v3, v4⟩ := u1 q hq
          obtain ⟨S5, w1, w2, w3, w4, w5⟩ := fin S4 q.1 c (Int32.ofNat q.2) v2 (m_agr_trans g3 v4)
          refine ⟨S5, ?_, w2, w3, w4, w5⟩
          simp only [J226_95, v1, n1, cond_true, v3, w1, Option.bind_some]
        · intro w hw
          obtain ⟨S4, v1, v2, v3⟩ := u2 w hw
          refine ⟨S4, ?_, v2, pfx_trans (pf_ag g3 P0 P1) (pfx_ag v3 P3 P1)⟩
          simp only [J226_95, v1, n0, cond_false, Option.bind_some]
      have start : M226 N (Int32.ofNat n) S = (bif mj_c2 .eq c 104 then J226_52 N (Int32.ofNat n) (Int32.ofNat a.2) c S2 else bif mj_c2 .eq c 108 then J226_52 N (Int32.ofNat n) (Int32.ofNat a.2) c S2 else bif mj_c2 .ne c 101 then J226_115 N (Int32.ofNat n) (Int32.ofNat a.2) 32 0 S2 else J226_52 N (Int32.ofNat n) (Int32.ofNat a.2) c S2) := by
        simp only [M226, m, b1, n1, cond_false, cond_true, y1, m2, y3, Option.bind_some]
      by_cases k1 : c = 101
      · have a104 : mj_c2 .eq c 104 = false := by rw [k1]; decide
        have a108 : mj_c2 .eq c 108 = false := by rw [k1]; decide
        have a101 : mj_c2 .ne c 101 = false := by rw [k1]; decide
        have hlt := pkz_is (hcc.trans k1) (by decide)
        by_cases kn : n = 1
        · have cn : mj_c2 .le (Int32.ofNat n) 1 = true := by rw [kn]; decide
          obtain ⟨t1, t2⟩ := tail 3 (by decide) hlt
          have st : M226 N (Int32.ofNat n) S = J226_95 N (Int32.ofNat n) (Int32.ofNat a.2) c 3 1 (m_sV S2 22 (S2.1 22 + 1)) := by
            rw [start]
            simp only [a104, a108, a101, cond_false, J226_52, cn, cond_true, J226_72]
          rw [st]
          cases e2 : rNum tx (a.1 + 1) 1 3 with
          | inl w =>
            have e : rDc tx n p = .inl w := by simp only [rDc, if_pos hc, e1, hcc, if_pos k1, if_pos kn, e2]
            rw [e]
            exact ⟨fun q hq => (by cases hq), fun w' hw => by cases hw; exact t2 w e2⟩
          | inr b =>
            have e : rDc tx n p = .inr (b.1, (4, Int32.ofNat n, Int32.ofNat a.2, 101, Int32.ofNat b.2, -1, -1)) := by simp only [rDc, if_pos hc, e1, hcc, if_pos k1, if_pos kn, e2]
            rw [e]
            refine ⟨fun q hq => ?_, fun w hw => (by cases hw)⟩
            cases hq
            have := t1 b e2
            rw [k1] at this
            rw [k1]
            exact this
        · have cn : mj_c2 .le (Int32.ofNat n) 1 = false := i_c2 (by show decide _ = false; apply decide_eq_false; rw [i_nat (by omega), q_1]; omega)
          have e : rDc tx n p = .inl a.1 := by simp only [rDc, if_pos hc, e1, hcc, if_pos k1, if_neg kn]
          rw [e]
          refine ⟨fun q hq => (by cases hq), fun w hw => ⟨m_sV S2 3 (S2.1 22), ?_, ?_, pfx_3 (pf_ag g2 P0 P1) _⟩⟩
          · rw [start]
            simp only [a104, a108, a101, cond_false, J226_52, cn, M213, Option.bind_some]
            rfl
          · cases hw
            show S2.1 22 = _
            exact y2.2.1
      · by_cases k2 : c = 104 ∨ c = 108
        · have a101 : mj_c2 .ne c 101 = true := decide_eq_true k1
          have hlt : a.1 < tx.length := k2.elim (fun q => pkz_is (hcc.trans q) (by decide)) (fun q => pkz_is (hcc.trans q) (by decide))
          have hin : (Int32.ofNat n).toInt ≤ 999 := by rw [i_nat (by omega)]; omega
          obtain ⟨t1, t2⟩ := tail (Int32.ofNat n) hin hlt
          have st : M226 N (Int32.ofNat n) S = J226_95 N (Int32.ofNat n) (Int32.ofNat a.2) c (Int32.ofNat n) 1 (m_sV S2 22 (S2.1 22 + 1)) := by
            rw [start]
            rcases k2 with q | q
            · have a104 : mj_c2 .eq c 104 = true := by rw [q]; decide
              simp only [a104, a101, cond_true, J226_52, J226_72]
            · have a104 : mj_c2 .eq c 104 = false := by rw [q]; decide
              have a108 : mj_c2 .eq c 108 = true := by rw [q]; decide
              simp only [a104, a108, a101, cond_true, cond_false, J226_52, J226_72]
          rw [st]
          cases e2 : rNum tx (a.1 + 1) 1 (Int32.ofNat n) with
          | inl w =>
            have e : rDc tx n p = .inl w := by simp only [rDc, if_pos hc, e1, hcc, if_neg k1, if_pos k2, e2]
            rw [e]
            exact ⟨fun q hq => (by cases hq), fun w' hw => by cases hw; exact t2 w e2⟩
          | inr b =>
            have e : rDc tx n p = .inr (b.1, (4, Int32.ofNat n, Int32.ofNat a.2, c, Int32.ofNat b.2, -1, -1)) := by simp only [rDc, if_pos hc, e1, hcc, if_neg k1, if_pos k2, e2]
            rw [e]
            refine ⟨fun q hq => ?_, fun w hw => (by cases hw)⟩
            cases hq
            exact t1 b e2
        · have a104 : mj_c2 .eq c 104 = false := decide_eq_false (fun q => k2 (Or.inl q))
          have a108 : mj_c2 .eq c 108 = false := decide_eq_false (fun q => k2 (Or.inr q))
          have a101 : mj_c2 .ne c 101 = true := decide_eq_true k1
          have e : rDc tx n p = .inr (a.1, (4, Int32.ofNat n, Int32.ofNat a.2, 32, 0, -1, -1)) := by simp only [rDc, if_pos hc, e1, hcc, if_neg k1, if_neg k2]
          rw [e]
          refine ⟨fun q hq => ?_, fun w hw => (by cases hw)⟩
          cases hq
          rw [start]
          simp only [a104, a108, a101, cond_true, cond_false]
          exact fin S2 a.1 32 0 y2 g2
  · rw [if_neg hc] at m
    have e : rDc tx n p = .inl p := by simp only [rDc, if_neg hc]
    rw [e]
    refine ⟨fun q hq => (by cases hq), fun w hw => ⟨m_sV S 3 (S.1 22), ?_, ?_, pfx_3 pf_refl _⟩⟩
    · simp only [M226, m, b0, cond_true, J226_19, Option.bind_some]
    · cases hw
      exact h.2.1
end ITM
