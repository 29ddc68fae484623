/-! DICE, THE REFERENCE: the tables of a statement's dice -/
section DCF
variable {N : Nat}
/-- the dice that a node tells of -/
def dcNd (nd : Nd) (n m k : Nat) (pick : Int32) : Prop := ∃ how keep, dcOK n m how keep pick k ∧ nd = (4, Int32.ofNat n, Int32.ofNat m, how, keep, -1, -1)
/-- the counts of dice lie in the row of all dice, at item -/
def dcRow (S : mS) (item n m k : Nat) (pick : Int32) : Prop := ∀ s, s < 121 → S.2.2 21 (121 * item + s) = Int64.ofNat (dW n m pick k s)
theorem ag_21 {S : mS} {i : Nat} {x : Int64} : m_agr [] [18, 37] [21, 38] S (m_sB S 21 i x) := ⟨fun _ _ => rfl, fun _ _ => rfl, fun j hj => by
  funext p
  show (if j = 21 ∧ p = i then x else S.2.2 j p) = S.2.2 j p
  rw [if_neg (fun q => hj (by rw [q.1]; decide))]⟩
/-- one node's dice -/
theorem dice_do (hN : 100000000000000000 ≤ N) {S : mS} {x1 x2 : Int32} {i item n m k : Nat} {how keep pick : Int32} (hi : i < 640) (hit : item < 40) (hd : dcOK n m how keep pick k) (hnd : S.2.1 14 i = Int32.ofNat n ∧ S.2.1 15 i = Int32.ofNat m ∧ S.2.1 16 i = how ∧ S.2.1 17 i = keep) : ∃ S', L261_58 N (x1, x2, Int32.ofNat item, Int32.ofNat i, 0, S) = some (.inl (x1, x2, Int32.ofNat (item + 1), Int32.ofNat (i + 1), S')) ∧ dcRow S' item n m k pick ∧ S'.2.1 18 i = Int32.ofNat item ∧ m_agr [] [18, 37] [21, 38] S S' ∧ (∀ p, p ≠ i → S'.2.1 18 p = S.2.1 18 p) ∧ (∀ p, p < 121 * item → S'.2.2 21 p = S.2.2 21 p) := by
  -- the row is wiped
  have wipe : ∀ (d s : Nat) (S0 : mS), s + d = 121 → (∀ p, p < s → S0.2.2 38 p = 0) → ∃ S', t_lp (B261_58 N) (d + 1) (x1, x2, Int32.ofNat item, Int32.ofNat i, Int32.ofNat s, S0) = t_lp (B261_58 N) 1 (x1, x2, Int32.ofNat item, Int32.ofNat i, Int32.ofNat 121, S') ∧ nowR S' (fun _ => 0) ∧ m_agr [] [] [38] S0 S' := by
    intro d
    induction d with
    | zero =>
      intro s S0 hs h
      refine ⟨S0, by rw [show s = 121 by omega], fun p hp => h p (by omega), m_agr_refl⟩
    | succ d ih =>
      intro s S0 hs h
      have c : mj_c2 .ge (Int32.ofNat s) 121 = false := (c_ge (b := 121) (by omega) (by omega)).trans (decide_eq_false (by omega))
      have c2 : 0 ≤ (Int32.ofNat s).toInt ∧ (Int32.ofNat s).toInt < mN 38 := n_at (by omega) (show s < 121 by omega)
      obtain ⟨S', a1, a2, a3⟩ := ih (s + 1) (m_sB S0 38 s 0) (by omega) (fun p hp => by
        show (if 38 = 38 ∧ p = s then 0 else S0.2.2 38 p) = 0
        by_cases e : p = s
        · rw [if_pos ⟨rfl, e⟩]
        · rw [if_neg (fun q => e q.2)]
          exact h p (by omega))
      refine ⟨S', ?_, a2, m_agr_trans ag_38 a3⟩
      have e : B261_58 N (x1, x2, Int32.ofNat item, Int32.ofNat i, Int32.ofNat s, S0) = some (.inl (x1, x2, Int32.ofNat item, Int32.ofNat i, Int32.ofNat (s + 1), m_sB S0 38 s 0)) := by
        rw [← i_inc (by omega)]
        simp only [B261_58, c, cond_false, if_pos c2, n_t (a := s) (by omega)]
      rw [t_one e]
      exact a1
  obtain ⟨S1, w1, w2, w3⟩ := wipe 121 0 S (by omega) (fun p hp => by omega)
  -- it is counted
  obtain ⟨hn, hm, hk⟩ := hd
  have n1 : S1.2.1 14 i = Int32.ofNat n := by rw [w3.2.1 14 (by decide)]; exact hnd.1
  have n2 : S1.2.1 15 i = Int32.ofNat m := by rw [w3.2.1 15 (by decide)]; exact hnd.2.1
  have n3 : S1.2.1 16 i = how := by rw [w3.2.1 16 (by decide)]; exact hnd.2.2.1
  have n4 : S1.2.1 17 i = keep := by rw [w3.2.1 17 (by decide)]; exact hnd.2.2.2
  have cnt : ∃ S2, nowR S2 (dW n m pick k) ∧ m_agr [] [37] [38] S1 S2 ∧ B261_58 N (x1, x2, Int32.ofNat item, Int32.ofNat i, Int32.ofNat 121, S1) = (J261_187 N x1 x2 (Int32.ofNat item) (Int32.ofNat i) S2).map Sum.inr := by
    have c : mj_c2 .ge (Int32.ofNat 121) 121 = true := by decide
    have ci : ∀ j, 14 ≤ j → j ≤ 17 → 0 ≤ (Int32.ofNat i).toInt ∧ (Int32.ofNat i).toInt < mN j := by
      intro j h1 h2
      have : j = 14 ∨ j = 15 ∨ j = 16 ∨ j = 17 := by omega
      rcases this with rfl | rfl | rfl | rfl <;> exact n_at (by omega) (show i < 640 from hi)
    have c14 := ci 14 (by decide) (by decide)
    have c15 := ci 15 (by decide) (by decide)
    have c16 := ci 16 (by decide) (by decide)
    have c17 := ci 17 (by decide) (by decide)
    have ti := n_t (a := i) (by omega)
    rcases hk with ⟨rfl, rfl, rfl, rfl⟩ | ⟨rfl, rfl, rfl, hk2, rfl⟩ | ⟨hh, rfl, hk2, rfl⟩
    · obtain ⟨S2, a1, a2, a3⟩ := M263_do (N := N) (by omega) hn.2 hm.2 w2
      have d1 : mj_c2 .ne (32 : Int32) 101 = true := by decide
      have d2 : mj_c2 .ne (32 : Int32) 32 = false := by decide
      refine ⟨S2, fun s hs => ?_, m_agr_mono a3 (by decide) (by decide) (by decide), ?_⟩
      · rw [a2 s hs]
        refine congrArg Int64.ofNat ?_
        unfold dW
        rw [if_neg (by decide), if_neg (by decide), ref_a]
      · simp only [B261_58, c, cond_true, if_pos c14, if_pos c15, if_pos c16, ti, n1, n2, n3, d1, d2, cond_false, a1, Option.bind_some]
    · obtain ⟨S2, a1, a2, a3⟩ := M262_do (N := N) (by omega) hm hk2.2 w2
      have d1 : mj_c2 .ne (101 : Int32) 101 = false := by decide
      refine ⟨S2, fun s hs => ?_, m_agr_mono a3 (by decide) (by decide) (by decide), ?_⟩
      · rw [a2 s hs]
        refine congrArg Int64.ofNat ?_
        unfold dW
        rw [if_pos rfl]
      · simp only [B261_58, c, cond_true, if_pos c15, if_pos c16, if_pos c17, ti, n2, n3, n4, d1, cond_false, a1, Option.bind_some]
    · rcases hh with rfl | rfl
      · obtain ⟨S2, a1, a2, a3⟩ := M264_do (N := N) hN hn.2 ⟨by omega, hm.2⟩ (lb := 0) (G := Gm k) (k := k) ⟨hk2.2, Or.inl ⟨rfl, rfl⟩⟩ w2
        have d1 : mj_c2 .ne (104 : Int32) 101 = true := by decide
        have d2 : mj_c2 .ne (104 : Int32) 32 = true := by decide
        have d3 : mj_c2 .ne (104 : Int32) 108 = true := by decide
        refine ⟨S2, fun s hs => ?_, a3, ?_⟩
        · rw [a2 s hs]
          refine congrArg Int64.ofNat ?_
          dsimp only
          unfold dW
          rw [if_neg (by decide), if_neg (by decide)]
          exact ref_h hn.2
        · simp only [B261_58, c, cond_true, if_pos c14, if_pos c15, if_pos c16, if_pos c17, ti, n1, n2, n3, n4, d1, d2, d3, J261_177, a1, Option.bind_some]
      · obtain ⟨S2, a1, a2, a3⟩ := M264_do (N := N) hN hn.2 ⟨by omega, hm.2⟩ (lb := 1) (G := Gx n k) (k := k) ⟨hk2.2, Or.inr ⟨rfl, rfl⟩⟩ w2
        have d1 : mj_c2 .ne (108 : Int32) 101 = true := by decide
        have d2 : mj_c2 .ne (108 : Int32) 32 = true := by decide
        have d3 : mj_c2 .ne (108 : Int32) 108 = false := by decide
        refine ⟨S2, fun s hs => ?_, a3, ?_⟩
        · rw [a2 s hs]
          refine congrArg Int64.ofNat ?_
          dsimp only
          unfold dW
          rw [if_neg (by decide), if_pos rfl]
          exact ref_l hk2.2
        · simp only [B261_58, c, cond_true, if_pos c14, if_pos c15, if_pos c16, if_pos c17, ti, n1, n2, n3, n4, d1, d2, d3, cond_false, J261_177, a1, Option.bind_some]
  obtain ⟨S2, b1, b2, b3⟩ := cnt
  -- it is copied
  have copy : ∀ (d s : Nat) (S0 : mS), s + d = 121 → nowR S0 (dW n m pick k) → (∀ p, p < s → S0.2.2 21 (121 * item + p) = Int64.ofNat (dW n m pick k p)) → ∃ S', t_lp (B261_199 N) (d + 1) (x1, x2, Int32.ofNat item, Int32.ofNat i, Int32.ofNat s, S0) = some (.inl (x1, x2, Int32.ofNat (item + 1), Int32.ofNat (i + 1), S')) ∧ dcRow S' item n m k pick ∧ S'.1 = S0.1 ∧ S'.2.1 = S0.2.1 ∧ (∀ j, j ≠ 21 → S'.2.2 j = S0.2.2 j) ∧ ∀ p, p < 121 * item → S'.2.2 21 p = S0.2.2 21 p := by
    intro d
    induction d with
    | zero =>
      intro s S0 hs _ h
      have c : mj_c2 .ge (Int32.ofNat s) 121 = true := (c_ge (b := 121) (by omega) (by omega)).trans (decide_eq_true (by omega))
      refine ⟨S0, t_end ?_ _, fun p hp => h p (by omega), rfl, rfl, fun _ _ => rfl, fun _ _ => rfl⟩
      rw [← i_inc (k := item) (by omega), ← i_inc (k := i) (by omega)]
      simp only [B261_199, c, cond_true, J261_235, Option.map_some]
    | succ d ih =>
      intro s S0 hs hw h
      have c : mj_c2 .ge (Int32.ofNat s) 121 = false := (c_ge (b := 121) (by omega) (by omega)).trans (decide_eq_false (by omega))
      have c2 : 0 ≤ (Int32.ofNat s).toInt ∧ (Int32.ofNat s).toInt < mN 38 := n_at (by omega) (show s < 121 by omega)
      have i1 : (121 : Int32) * Int32.ofNat item + Int32.ofNat s = Int32.ofNat (121 * item + s) := by
        have : (121 : Int32) * Int32.ofNat item = Int32.ofNat (121 * item) := n_mul (a := 121)
        rw [this, n_add]
      have c3 : 0 ≤ (Int32.ofNat (121 * item + s)).toInt ∧ (Int32.ofNat (121 * item + s)).toInt < mN 21 := n_at (by omega) (show 121 * item + s < 4840 by omega)
      have v := hw s (by omega)
      obtain ⟨S', a1, a2, a3, a4, a5, a6⟩ := ih (s + 1) (m_sB S0 21 (121 * item + s) (Int64.ofNat (dW n m pick k s))) (by omega) (fun p hp => hw p hp) (fun p hp => by
        show (if 21 = 21 ∧ 121 * item + p = 121 * item + s then Int64.ofNat (dW n m pick k s) else S0.2.2 21 (121 * item + p)) = _
        by_cases e : p = s
        · rw [if_pos ⟨rfl, by omega⟩, e]
        · rw [if_neg (fun q => e (by omega))]
          exact h p (by omega))
      refine ⟨S', ?_, a2, a3, a4, fun j hj => ?_, fun p hp => ?_⟩
      · have e : B261_199 N (x1, x2, Int32.ofNat item, Int32.ofNat i, Int32.ofNat s, S0) = some (.inl (x1, x2, Int32.ofNat item, Int32.ofNat i, Int32.ofNat (s + 1), m_sB S0 21 (121 * item + s) (Int64.ofNat (dW n m pick k s)))) := by
          rw [← i_inc (k := s) (by omega)]
          simp only [B261_199, c, cond_false, if_pos c2, i1, if_pos c3, n_t (a := s) (by omega), n_t (a := 121 * item + s) (by omega), v]
        rw [t_one e]
        exact a1
      · rw [a5 j hj]
        funext p
        show (if j = 21 ∧ p = 121 * item + s then Int64.ofNat (dW n m pick k s) else S0.2.2 j p) = _
        rw [if_neg (fun q => hj q.1)]
      · rw [a6 p hp]
        show (if 21 = 21 ∧ p = 121 * item + s then Int64.ofNat (dW n m pick k s) else S0.2.2 21 p) = _
        rw [if_neg (fun q => by omega)]
  obtain ⟨S3, hS3⟩ : ∃ S3, m_sA S2 18 i (Int32.ofNat item) = S3 := ⟨_, rfl⟩
  have w3' : nowR S3 (dW n m pick k) := by rw [← hS3]; exact b1
  obtain ⟨S4, g1, g2, g3, g4, g5, g6⟩ := copy 121 0 S3 (by omega) w3' (fun p hp => by omega)
  have c18 : 0 ≤ (Int32.ofNat i).toInt ∧ (Int32.ofNat i).toInt < mN 18 := n_at (by omega) (show i < 640 from hi)
  have j187 : J261_187 N x1 x2 (Int32.ofNat item) (Int32.ofNat i) S2 = some (.inl (x1, x2, Int32.ofNat (item + 1), Int32.ofNat (i + 1), S4)) := by
    simp only [J261_187, if_pos c18, n_t (a := i) (by omega), hS3]
    exact t_lp_more _ _ _ (by omega) g1
  rw [j187] at b3
  have l18 : ∀ p, S4.2.1 18 p = if p = i then Int32.ofNat item else S2.2.1 18 p := by
    intro p
    rw [g4, ← hS3]
    show (if 18 = 18 ∧ p = i then Int32.ofNat item else S2.2.1 18 p) = _
    by_cases e : p = i
    · rw [if_pos ⟨rfl, e⟩, if_pos e]
    · rw [if_neg (fun q => e q.2), if_neg e]
  refine ⟨S4, ?_, g2, by rw [l18, if_pos rfl], ?_, fun p hp => ?_, fun p hp => ?_⟩
  · exact t_lp_more _ _ _ (by omega) (w1.trans (t_end b3 _))
  · refine m_agr_trans (m_agr_mono w3 (by decide) (by decide) (by decide)) (m_agr_trans (m_agr_mono b2 (by decide) (by decide) (by decide)) ?_)
    refine ⟨fun j _ => ?_, fun j hj => ?_, fun j hj => ?_⟩
    · rw [g3, ← hS3]
      rfl
    · rw [g4, ← hS3]
      funext p
      show (if j = 18 ∧ p = i then Int32.ofNat item else S2.2.1 j p) = _
      rw [if_neg (fun q => hj (by rw [q.1]; decide))]
    · rw [g5 j (fun e => hj (by rw [e]; decide)), ← hS3]
      rfl
  · rw [l18, if_neg hp, b2.2.1 18 (by decide), w3.2.1 18 (by decide)]
  · rw [g6 p hp, ← hS3]
    show S2.2.2 21 p = _
    rw [b2.2.2 21 (by decide), w3.2.2 21 (by decide)]
end DCF
