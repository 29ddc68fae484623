section SAZ
variable {N : Nat} {x1 : Int32} {sl : Nat} {nds : List Nd} {fcs : List Int32}
theorem M206_c {S : mS} {tx : List Int32} {c : Int32} (h : txR tx S) (hl : tx.length + 1 ≤ 160) (hc : 33 ≤ c.toInt ∧ c.toInt ≤ 126) : ∃ S', M206 N c S = some S' ∧ txR (tx ++ [c]) S' ∧ m_agr [2] [1] [] S S' := M206_do h (by omega) hc
/-- a sign that waits is said -/
theorem say_ch {S : mS} {tx T : List Int32} {c : Int32} (ht : txR tx S) (hT : tkR S (-c :: T)) (hl : tx.length + 1 ≤ 160) (hc : 33 ≤ c.toInt ∧ c.toInt ≤ 126) : ∃ S', txR (tx ++ [c]) S' ∧ tkR S' T ∧ m_agr [2, 40] [1, 39] [] S S' ∧ ∀ F res, t_lp (B250_20 N) F (x1, S') = some res → t_lp (B250_20 N) (F + 1) (x1, S) = some res := by
  obtain ⟨p1, p2, p3, p4⟩ := tk_pop hT
  have em : (-c).toInt = -c.toInt := by
    rw [Int32.toInt_neg]
    exact i_bm (by omega) (by omega)
  have e2 : -(-c) = c := by
    apply Int32.toInt_inj.mp
    rw [Int32.toInt_neg, em, i_bm (by omega) (by omega)]
    omega
  have b : mj_c1 .ge (-c) = false := i_c1 (by show decide _ = false; apply decide_eq_false; omega)
  have ag : m_agr [40] [] [] S (m_sV S 40 (S.1 40 - 1)) := m_agr_sV m_agr_refl (by decide) _
  obtain ⟨S1, a1, a2, a3⟩ := M206_do (N := N) (c := c) (txR_ag ht ag (by decide)) (by omega) hc
  refine ⟨S1, a2, tk_ag p4 a3 (by decide), m_agr_trans (m_agr_mono ag (by decide) (by decide) (by decide)) (m_agr_mono a3 (by decide) (by decide) (by decide)), fun F res h => ?_⟩
  have fB : B250_20 N (x1, S) = some (.inl (x1, S1)) := by
    simp only [B250_20, p1, cond_false, if_pos p2, p3, b, e2, a1, J250_66, Option.bind_some]
  exact (t_one fB F).trans h
/-- tasks of one side -/
def sdT (b : Bool) (x : Int32) (T : List Int32) : List Int32 := bif b then -40 :: x :: -41 :: T else x :: T
theorem M254_do {S : mS} {T : List Int32} {x : Int32} (h : tkR S T) (hl : T.length + 3 ≤ 390) (b : Bool) : ∃ S', M254 N x (bif b then 1 else 0) S = some S' ∧ tkR S' (sdT b x T) ∧ m_agr [40] [39] [] S S' := by
  have b0 : mj_c1 .eq 0 = true := by decide
  have b1 : mj_c1 .eq 1 = false := by decide
  cases b with
  | false =>
    obtain ⟨S1, a1, a2, a3⟩ := M251_do (N := N) (x := x) h (by omega)
    refine ⟨S1, ?_, a2, a3⟩
    simp only [cond_false, M254, b0, cond_true, J254_10, a1, J254_25, Option.bind_some]
  | true =>
    obtain ⟨S1, a1, a2, a3⟩ := M251_do (N := N) (x := -41) h (by omega)
    obtain ⟨S2, c1, c2, c3⟩ := M251_do (N := N) (x := x) a2 (by rw [List.length_cons]; omega)
    obtain ⟨S3, d1, d2, d3⟩ := M251_do (N := N) (x := -40) c2 (by rw [List.length_cons, List.length_cons]; omega)
    refine ⟨S3, ?_, d2, m_agr_trans a3 (m_agr_trans c3 d3)⟩
    simp only [cond_true, M254, b1, cond_false, a1, J254_10, c1, d1, J254_25, Option.bind_some]
/-- what a task does: it says w -/
def SXc (N : Nat) (x1 : Int32) (sl : Nat) (nds : List Nd) (fcs : List Int32) (x : Int32) (w : List Int32) (d k : Nat) : Prop := ∀ (S : mS) (tx T : List Int32), txR tx S → nodesR S sl nds fcs → tkR S (x :: T) → T.length + d ≤ 390 → tx.length + w.length ≤ 160 → ∃ S', txR (tx ++ w) S' ∧ tkR S' T ∧ m_agr [2, 40] [1, 39] [] S S' ∧ ∀ F res, t_lp (B250_20 N) F (x1, S') = some res → t_lp (B250_20 N) (F + k) (x1, S) = some res
/-- a side is said -/
theorem side_do {x : Int32} {w : List Int32} {d k : Nat} (hx : SXc N x1 sl nds fcs x w d k) (b : Bool) : ∀ (S : mS) (tx T : List Int32), txR tx S → nodesR S sl nds fcs → tkR S (sdT b x T) → T.length + d + 1 ≤ 390 → tx.length + (sd b w).length ≤ 160 → ∃ S', txR (tx ++ sd b w) S' ∧ tkR S' T ∧ m_agr [2, 40] [1, 39] [] S S' ∧ ∀ F res, t_lp (B250_20 N) F (x1, S') = some res → t_lp (B250_20 N) (F + (k + 2)) (x1, S) = some res := by
  intro S tx T ht hn hT hd hl
  cases b with
  | false =>
    obtain ⟨S1, a1, a2, a3, a4⟩ := hx S tx T ht hn hT (by omega) hl
    exact ⟨S1, a1, a2, a3, fun F res h => by
      have := a4 F res h
      exact t_lp_more _ _ _ (by omega) this⟩
  | true =>
    have hl' : tx.length + (w.length + 2) ≤ 160 := by
      have : (sd true w).length = w.length + 2 := by
        show (40 :: (w ++ [41])).length = _
        rw [List.length_cons, List.length_append]
        rfl
      omega
    obtain ⟨S1, a1, a2, a3, a4⟩ := say_ch (N := N) (x1 := x1) (c := 40) ht hT (by omega) (by decide)
    obtain ⟨S2, c1, c2, c3, c4⟩ := hx S1 (tx ++ [40]) (-41 :: T) a1 (nodes_ag hn a3 (by decide)) a2 (by rw [List.length_cons]; omega) (by rw [List.length_append, List.length_singleton]; omega)
    obtain ⟨S3, d1, d2, d3, d4⟩ := say_ch (N := N) (x1 := x1) (c := 41) c1 c2 (by rw [List.length_append, List.length_append, List.length_singleton]; omega) (by decide)
    refine ⟨S3, ?_, d2, m_agr_trans a3 (m_agr_trans c3 d3), fun F res h => ?_⟩
    · have e : tx ++ sd true w = tx ++ [40] ++ w ++ [41] := by
        show tx ++ (40 :: (w ++ [41])) = _
        simp
      rw [e]
      exact d1
    · have := a4 _ res (c4 _ res (d4 F res h))
      rw [show F + (k + 2) = F + 1 + k + 1 by omega]
      exact this
/-- a node's task: taken, and the node said -/
theorem node_task {i : Nat} (hi : i < 160) {S : mS} {tx T : List Int32} (ht : txR tx S) (hn : nodesR S sl nds fcs) (hT : tkR S (Int32.ofNat i :: T)) : ∃ S1, txR tx S1 ∧ nodesR S1 sl nds fcs ∧ tkR S1 T ∧ m_agr [2, 40] [1, 39] [] S S1 ∧ ∀ S', M252 N x1 (Int32.ofNat i) S1 = some S' → ∀ F res, t_lp (B250_20 N) F (x1, S') = some res → t_lp (B250_20 N) (F + 1) (x1, S) = some res := by
  obtain ⟨p1, p2, p3, p4⟩ := tk_pop hT
  have b : mj_c1 .ge (Int32.ofNat i) = true := i_c1 (by show decide _ = true; apply decide_eq_true; rw [i_nat (by omega)]; omega)
  have ag : m_agr [40] [] [] S (m_sV S 40 (S.1 40 - 1)) := m_agr_sV m_agr_refl (by decide) _
  refine ⟨_, txR_ag ht ag (by decide), nodes_ag hn ag (by decide), p4, m_agr_mono ag (by decide) (by decide) (by decide), fun S' hM F res h => ?_⟩
  have fB : B250_20 N (x1, S) = some (.inl (x1, S')) := by
    simp only [B250_20, p1, cond_false, if_pos p2, p3, b, cond_true, hM, J250_66, Option.bind_some]
  exact (t_one fB F).trans h
/-- how tightly a node binds -/
theorem M253_do (hs : x1.toInt = sl) (hsl : sl < 3) {S : mS} {j : Nat} {nd : Nd} (hn : nodesR S sl nds fcs) (hj : nds[j]? = some nd) (hj2 : j < 160) : M253 N x1 (Int32.ofNat j) S = some (Int32.ofNat (tgI nds j), S) := by
  have e := i_160 (k := j) hs (by omega) (by omega)
  have t : (160 * x1 + Int32.ofNat j).toInt.toNat = 160 * sl + j := by omega
  have c13 : 0 ≤ (160 * x1 + Int32.ofNat j).toInt ∧ (160 * x1 + Int32.ofNat j).toInt < mN 13 := by rw [show mN 13 = 640 from rfl]; omega
  have c14 : 0 ≤ (160 * x1 + Int32.ofNat j).toInt ∧ (160 * x1 + Int32.ofNat j).toInt < mN 14 := by rw [show mN 14 = 640 from rfl]; omega
  obtain ⟨w1, w2, -⟩ := hn.1 j nd hj
  have e1 : S.2.1 13 (160 * sl + j) = nd.1 := w1
  have e2 : S.2.1 14 (160 * sl + j) = nd.2.1 := w2
  have tI : tgI nds j = tgN nd := by unfold tgI; rw [hj]
  rw [tI]
  unfold tgN
  by_cases h3 : nd.1 = 3
  · have b : mj_c2 .ne nd.1 3 = false := decide_eq_false (fun q => q h3)
    rw [if_pos h3]
    simp only [M253, if_pos c13, if_pos c14, t, e1, b, cond_false, e2, M231_do, J253_31, Option.bind_some]
  · have b : mj_c2 .ne nd.1 3 = true := decide_eq_true h3
    rw [if_neg h3]
    simp only [M253, if_pos c13, t, e1, b, cond_true, J253_31]
    rfl
theorem M257_do {S : mS} {s : Int32} (h : isOp s) : M257 N s S = some (chO s, S) := by
  unfold isOp at h
  have : s = 0 ∨ s = 1 ∨ s = 2 ∨ s = 3 ∨ s = 4 ∨ s = 5 ∨ s = 6 ∨ s = 7 := by
    have e : ∀ k : Nat, s.toInt = k → s = Int32.ofNat k := fun k hk => i_eq hk
    have h7 : s.toInt = 0 ∨ s.toInt = 1 ∨ s.toInt = 2 ∨ s.toInt = 3 ∨ s.toInt = 4 ∨ s.toInt = 5 ∨ s.toInt = 6 ∨ s.toInt = 7 := by omega
    rcases h7 with q | q | q | q | q | q | q | q
    · exact Or.inl (e 0 q)
    · exact Or.inr (Or.inl (e 1 q))
    · exact Or.inr (Or.inr (Or.inl (e 2 q)))
    · exact Or.inr (Or.inr (Or.inr (Or.inl (e 3 q))))
    · exact Or.inr (Or.inr (Or.inr (Or.inr (Or.inl (e 4 q)))))
    · exact Or.inr (Or.inr (Or.inr (Or.inr (Or.inr (Or.inl (e 5 q))))))
    · exact Or.inr (Or.inr (Or.inr (Or.inr (Or.inr (Or.inr (Or.inl (e 6 q)))))))
    · exact Or.inr (Or.inr (Or.inr (Or.inr (Or.inr (Or.inr (Or.inr (e 7 q)))))))
  rcases this with rfl | rfl | rfl | rfl | rfl | rfl | rfl | rfl <;> rfl
end SAZ
