section SAT
variable {N : Nat} {x1 : Int32} {sl : Nat} {sts : List St} {nds : List Nd} {fcs : List Int32} {H : mj_H}
/-- programs and statements are said -/
theorem SP_do (hN : 2000 ≤ N) (hs : x1.toInt = sl) (hsl : sl < 3) (hn : nds.length ≤ 160) (hfc : fcs.length ≤ 160) (h24 : sts.length ≤ 24) : ∀ m : Nat, (∀ (A B s : Nat) (t : St) (a : Nat), sts[s]? = some t → t.2.2.2.2.2.1 ≤ sts.length → sT H sts nds fcs m A B s t a → ∀ (S : mS) (tx : List Int32) (FR : List (Nat × Nat)), sst S sl sts nds fcs tx FR → FR.length + m ≤ 5 → tx.length + (prS sts nds fcs m s).length ≤ 160 → ∃ S', sst S' sl sts nds fcs (tx ++ prS sts nds fcs m s) FR ∧ sg4 S S' ∧ ∀ res, SEr N x1 sts.length FR t.2.2.2.2.2.1 S' res → AEr N x1 s S res) ∧ (∀ (A B : Nat) (l : List (Nat × Nat)) (lo hi j : Nat), hi ≤ sts.length → hi - lo ≤ j → lo < hi → bk (sT H sts nds fcs m A B) sts l lo hi → ∀ (S : mS) (tx : List Int32) (FR : List (Nat × Nat)), sst S sl sts nds fcs tx FR → FR.length + m ≤ 5 → (∀ b r, FR = b :: r → b.1 < 24 ∧ bnd sts b hi) → tx.length + (prB sts (prS sts nds fcs m) (j + 1) lo hi).length ≤ 160 → ∃ S', sst S' sl sts nds fcs (tx ++ prB sts (prS sts nds fcs m) (j + 1) lo hi) FR ∧ sg4 S S' ∧ ∀ res, SEr N x1 sts.length FR hi S' res → AEr N x1 lo S res) := by
  intro m
  induction m with
  | zero =>
    refine ⟨fun A B s t a _ _ h => h.elim, fun A B l lo hi j _ _ hlt hb => ?_⟩
    cases l with
    | nil => exact absurd (show lo = hi from hb) (by omega)
    | cons x r =>
      obtain ⟨t, -, -, h3, -⟩ := hb
      exact h3.elim
  | succ m ih =>
    -- a block inside, in sayEnds' words, empty or not
    have blk : ∀ (A B : Nat) (l : List (Nat × Nat)) (lo hi : Nat) (b : Nat × Nat), hi ≤ sts.length → bk (sT H sts nds fcs m A B) sts l lo hi → b.1 < 24 → bnd sts b hi → ∀ (S : mS) (tx : List Int32) (FR : List (Nat × Nat)), sst S sl sts nds fcs tx (b :: FR) → FR.length + 1 + m ≤ 5 → tx.length + (prB sts (prS sts nds fcs m) 25 lo hi).length ≤ 160 → ∃ S', sst S' sl sts nds fcs (tx ++ prB sts (prS sts nds fcs m) 25 lo hi) (b :: FR) ∧ sg4 S S' ∧ ∀ res, SEr N x1 sts.length (b :: FR) hi S' res → SEr N x1 sts.length (b :: FR) lo S res := by
      intro A B l lo hi b hh hb h1 hbd S tx FR hst hF hl
      have le := bk_le (fun s t a x => sT_end x) _ _ _ hb
      by_cases e : lo = hi
      · subst e
        have ep : prB sts (prS sts nds fcs m) 25 lo lo = [] := by rw [prB, if_neg (by omega)]
        rw [ep, List.append_nil]
        exact ⟨S, hst, m_agr_refl, fun res k => k⟩
      · obtain ⟨S', a1, a2, a3⟩ := ih.2 A B l lo hi 24 hh (by omega) (by omega) hb S tx (b :: FR) hst (by rw [List.length_cons]; exact hF) (fun b' r hr => by cases hr; exact ⟨h1, hbd⟩) hl
        exact ⟨S', a1, a2, fun res k => SE_next hs hsl h24 hst (by omega) (fun b' r hr => by cases hr; exact ⟨h1, hi, hbd, e⟩) (a3 res k)⟩
    have stm : ∀ (A B s : Nat) (t : St) (a : Nat), sts[s]? = some t → t.2.2.2.2.2.1 ≤ sts.length → sT H sts nds fcs (m + 1) A B s t a → ∀ (S : mS) (tx : List Int32) (FR : List (Nat × Nat)), sst S sl sts nds fcs tx FR → FR.length + (m + 1) ≤ 5 → tx.length + (prS sts nds fcs (m + 1) s).length ≤ 160 → ∃ S', sst S' sl sts nds fcs (tx ++ prS sts nds fcs (m + 1) s) FR ∧ sg4 S S' ∧ ∀ res, SEr N x1 sts.length FR t.2.2.2.2.2.1 S' res → AEr N x1 s S res := by
      intro A B s t a hst hend h S tx FR hS hF hl
      have hlt := (List.getElem?_eq_some_iff.mp hst).1
      obtain ⟨a1, a2, a3, c, e, tm, o1, o2, nx, s1, s2, A1, B1, k1, k2, k3, k4, k5⟩ := h
      have ep : prS sts nds fcs (m + 1) s = (if t.1 = 0 then [Int32.ofNat (65 + t.2.1), 61] ++ prX nds fcs 45 t.2.2.2.1 ++ [59] else if t.1 = 1 then [33] ++ prX nds fcs 45 t.2.2.2.1 ++ [59] else if t.1 = 2 then [63] ++ prX nds fcs 45 t.2.2.2.1 ++ [123] ++ prB sts (prS sts nds fcs m) 25 (s + 1) t.2.2.2.2.1 ++ [125] ++ (if t.2.2.2.2.1 < t.2.2.2.2.2.1 then [58, 123] ++ prB sts (prS sts nds fcs m) 25 t.2.2.2.2.1 t.2.2.2.2.2.1 ++ [125] else []) else [42] ++ dgs t.2.1 ++ [123] ++ prB sts (prS sts nds fcs m) 25 (s + 1) t.2.2.2.2.2.1 ++ [125]) := by
        rw [prS, hst]
      rcases k5 with ⟨q1, q2, q3, q4, q5, q6, q7⟩ | ⟨q1, q2, fe, l1, l2, q3, q4, q5, q6, q7, q8, q9, q10⟩ | ⟨q1, q2, q3, q4, q5, q6, q7, q8, l1, q9, q10, q11⟩
      · have eh : prS sts nds fcs (m + 1) s = hdS nds fcs t := by
          rw [ep]
          unfold hdS
          by_cases h0 : t.1 = 0
          · rw [if_pos h0, if_pos h0]
          · rw [if_neg h0, if_neg h0, if_pos (by omega), if_pos (by omega)]
        rw [eh] at hl ⊢
        obtain ⟨S1, d1, d2, d3⟩ := M248_do (N := N) hN hs hsl hn hfc h24 hst (fun _ => ⟨A1, B1, _, _, _, q7⟩) ⟨fun h0 => (q5 h0).1, fun h3 => by omega⟩ hS (fun h2 => by omega) hl
        rw [if_pos q1] at d2
        refine ⟨S1, d2, d3, fun res k => ?_⟩
        rw [q4] at k
        exact AE_SE hN hs hsl h24 hlt d2 d1 k
      · have hmid1 := bk_le (fun s t a x => sT_end x) _ _ _ q5
        have hmid2 := bk_le (fun s t a x => sT_end x) _ _ _ q7
        have ehd : hdS nds fcs t = [63] ++ prX nds fcs 45 t.2.2.2.1 ++ [123] := by
          unfold hdS
          rw [if_neg (by omega), if_neg (by omega), if_pos q1]
        rw [if_neg (by omega), if_neg (by omega), if_pos q1, ← ehd] at ep
        obtain ⟨P1, hP1⟩ : ∃ w, prB sts (prS sts nds fcs m) 25 (s + 1) t.2.2.2.2.1 = w := ⟨_, rfl⟩
        obtain ⟨P2, hP2⟩ : ∃ w, prB sts (prS sts nds fcs m) 25 t.2.2.2.2.1 t.2.2.2.2.2.1 = w := ⟨_, rfl⟩
        rw [hP1, hP2] at ep
        rw [ep] at hl ⊢
        rw [List.length_append, List.length_append, List.length_append, List.length_singleton] at hl
        obtain ⟨S1, d1, d2, d3⟩ := M248_do (N := N) hN hs hsl hn hfc h24 hst (fun _ => ⟨A1, B1, _, _, _, q3⟩) ⟨fun h0 => by omega, fun h3 => by omega⟩ hS (fun h2 => by omega) (by omega)
        rw [if_neg (by omega)] at d2
        have bd0 : bnd sts (s, 0) t.2.2.2.2.1 := ⟨t, hst, by omega, (show (0 : Nat) ≤ 1 by decide), Or.inl ⟨q1, rfl, rfl⟩, fun _ => by omega, by omega⟩
        have bd1 : bnd sts (s, 1) t.2.2.2.2.2.1 := ⟨t, hst, by omega, (show (1 : Nat) ≤ 1 by decide), Or.inr ⟨fun q => absurd q.2 (show (1 : Nat) ≠ 0 by decide), rfl⟩, fun _ => by omega, by omega⟩
        obtain ⟨S2, f1, f2, f3⟩ := blk A1 B1 l1 (s + 1) t.2.2.2.2.1 (s, 0) (by omega) q5 (by show s < 24; omega) bd0 S1 _ FR d2 (by omega) (by rw [hP1, List.length_append]; omega)
        rw [hP1] at f1
        have go2 : ∀ res, SEr N x1 sts.length ((s, 0) :: FR) t.2.2.2.2.1 S2 res → AEr N x1 s S res := fun res k => AE_SE hN hs hsl h24 hlt d2 d1 (f3 res k)
        by_cases hlt2 : t.2.2.2.2.1 < t.2.2.2.2.2.1
        · rw [if_pos hlt2] at hl ⊢
          rw [List.length_append, List.length_append, List.length_singleton] at hl
          have hl2 : ([58, 123] : List Int32).length = 2 := rfl
          obtain ⟨S3, g1, g2, g3⟩ := SE_colon (N := N) hs hsl h24 f1 (show t.2.2.2.2.1 < sts.length by omega) (by show s < 24; omega) bd0 hst ⟨q1, rfl⟩ hlt2 (by rw [List.length_append, List.length_append]; omega)
          obtain ⟨S4, u1, u2, u3⟩ := ih.2 A1 B1 l2 t.2.2.2.2.1 t.2.2.2.2.2.1 24 hend (by omega) hlt2 q7 S3 _ ((s, 1) :: FR) g1 (by rw [List.length_cons]; omega) (fun b' r hr => by cases hr; exact ⟨by show s < 24; omega, bd1⟩) (by
            show _ + (prB sts (prS sts nds fcs m) 25 t.2.2.2.2.1 t.2.2.2.2.2.1).length ≤ 160
            rw [hP2, List.length_append, List.length_append, List.length_append]
            have : ([125, 58, 123] : List Int32).length = 3 := rfl
            omega)
          have u1' : sst S4 sl sts nds fcs (tx ++ hdS nds fcs t ++ P1 ++ [125, 58, 123] ++ P2) ((s, 1) :: FR) := by
            have : prB sts (prS sts nds fcs m) (24 + 1) t.2.2.2.2.1 t.2.2.2.2.2.1 = P2 := hP2
            rw [this] at u1
            exact u1
          obtain ⟨S5, w1, w2, w3⟩ := SE_pop (N := N) hs hsl h24 u1' (show t.2.2.2.2.2.1 ≤ 24 by omega) (by show s < 24; omega) bd1 hst (fun q => absurd q.2.1 (show (1 : Nat) ≠ 0 by decide)) (by
            rw [List.length_append, List.length_append, List.length_append, List.length_append]
            have : ([125, 58, 123] : List Int32).length = 3 := rfl
            omega)
          refine ⟨S5, ?_, m_agr_trans d3 (m_agr_trans f2 (m_agr_trans g2 (m_agr_trans u2 w2))), fun res k => go2 _ (g3 _ (u3 _ (w3 _ k)))⟩
          have e' : tx ++ (hdS nds fcs t ++ P1 ++ [125] ++ ([58, 123] ++ P2 ++ [125])) = tx ++ hdS nds fcs t ++ P1 ++ [125, 58, 123] ++ P2 ++ [125] := by simp
          rw [e']
          exact w1
        · have em : t.2.2.2.2.1 = t.2.2.2.2.2.1 := by omega
          rw [if_neg hlt2] at hl ⊢
          rw [em] at bd0 go2
          obtain ⟨S5, w1, w2, w3⟩ := SE_pop (N := N) hs hsl h24 f1 (show t.2.2.2.2.2.1 ≤ 24 by omega) (by show s < 24; omega) bd0 hst (fun q => hlt2 q.2.2) (by rw [List.length_append, List.length_append]; omega)
          refine ⟨S5, ?_, m_agr_trans d3 (m_agr_trans f2 w2), fun res k => go2 _ (w3 _ k)⟩
          rw [List.append_nil, ← List.append_assoc, ← List.append_assoc]
          exact w1
      · have hmid1 := bk_le (fun s t a x => sT_end x) _ _ _ q10
        have ehd : hdS nds fcs t = [42] ++ dgs t.2.1 ++ [123] := by
          unfold hdS
          rw [if_neg (by omega), if_neg (by omega), if_neg (by omega)]
        rw [if_neg (by omega), if_neg (by omega), if_neg (by omega), ← ehd] at ep
        obtain ⟨P1, hP1⟩ : ∃ w, prB sts (prS sts nds fcs m) 25 (s + 1) t.2.2.2.2.2.1 = w := ⟨_, rfl⟩
        rw [hP1] at ep
        rw [ep] at hl ⊢
        rw [List.length_append, List.length_append, List.length_singleton] at hl
        obtain ⟨S1, d1, d2, d3⟩ := M248_do (N := N) (H := H) hN hs hsl hn hfc h24 hst (fun h3 => absurd q1 h3) ⟨fun h0 => by omega, fun _ => q3⟩ hS (fun h2 => by omega) (by omega)
        rw [if_neg (by omega)] at d2
        have bd0 : bnd sts (s, 0) t.2.2.2.2.2.1 := by
          exact ⟨t, hst, by omega, (show (0 : Nat) ≤ 1 by decide), Or.inr ⟨fun q => by omega, rfl⟩, fun q => by omega, by omega⟩
        obtain ⟨S2, f1, f2, f3⟩ := blk A1 B1 l1 (s + 1) t.2.2.2.2.2.1 (s, 0) hend q10 (by show s < 24; omega) bd0 S1 _ FR d2 (by omega) (by rw [hP1, List.length_append]; omega)
        rw [hP1] at f1
        obtain ⟨S5, w1, w2, w3⟩ := SE_pop (N := N) hs hsl h24 f1 (show t.2.2.2.2.2.1 ≤ 24 by omega) (by show s < 24; omega) bd0 hst (fun q => by omega) (by rw [List.length_append, List.length_append]; omega)
        refine ⟨S5, ?_, m_agr_trans d3 (m_agr_trans f2 w2), fun res k => AE_SE hN hs hsl h24 hlt d2 d1 (f3 _ (w3 _ k))⟩
        rw [← List.append_assoc, ← List.append_assoc]
        exact w1
    refine ⟨stm, fun A B l => ?_⟩
    induction l with
    | nil => intro lo hi j _ _ hlt hb; exact absurd (show lo = hi from hb) (by omega)
    | cons x r ihl =>
      intro lo hi j hh hj hlt hb S tx FR hS hF htop hl
      obtain ⟨t, t1, t2, t3, t4⟩ := hb
      have l1 := sT_end t3
      have l2 := bk_le (fun s t a x => sT_end x) _ _ _ t4
      obtain ⟨j, rfl⟩ : ∃ j', j = j' + 1 := ⟨j - 1, by omega⟩
      have en : enS sts lo = t.2.2.2.2.2.1 := by unfold enS; rw [t1]
      have ep : prB sts (prS sts nds fcs (m + 1)) (j + 1 + 1) lo hi = prS sts nds fcs (m + 1) lo ++ prB sts (prS sts nds fcs (m + 1)) (j + 1) t.2.2.2.2.2.1 hi := by
        rw [prB, if_pos (by omega), en]
      rw [ep] at hl ⊢
      rw [List.length_append] at hl
      obtain ⟨S1, a1, a2, a3⟩ := stm A B lo t x.1 t1 (by omega) t3 S tx FR hS hF (by omega)
      by_cases e : t.2.2.2.2.2.1 = hi
      · have ep2 : prB sts (prS sts nds fcs (m + 1)) (j + 1) t.2.2.2.2.2.1 hi = [] := by rw [prB, if_neg (by omega)]
        rw [ep2, List.append_nil]
        rw [e] at a3
        exact ⟨S1, a1, a2, a3⟩
      · obtain ⟨S2, b1, b2, b3⟩ := ihl t.2.2.2.2.2.1 hi j hh (by omega) (by omega) t4 S1 _ FR a1 hF htop (by rw [List.length_append]; omega)
        refine ⟨S2, by rw [← List.append_assoc]; exact b1, m_agr_trans a2 b2, fun res k => a3 _ (SE_next hs hsl h24 a1 (by omega) (fun b r hr => ?_) (b3 _ k))⟩
        obtain ⟨z1, z2⟩ := htop b r hr
        exact ⟨z1, hi, z2, e⟩
end SAT
