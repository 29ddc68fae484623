section RMO
variable {xt : mj_X} {ct : Nat → Value} {O : OR} {N z : Nat}
theorem nA_do {H : mj_H} {n : Nat} (hn : n ≤ 100000) : nA H .long (Int32.ofNat n) = some (H.2.1, mj_new H n (.inl (.long, List.replicate n (.long 0)))) := by
  have tn : (Int32.ofNat n).toNatClampNeg = n := by
    show (Int32.ofNat n).toInt.toNat = n
    exact n_t (by omega)
  have nn : ¬ Int32.ofNat n < 0 := by
    rw [Int32.lt_iff_toInt_lt, i_nat (by omega)]
    have : (0 : Int32).toInt = 0 := rfl
    omega
  unfold nA
  rw [tn, if_pos ⟨nn, by omega⟩]
  rfl
theorem rep_rg {n : Nat} {v : Value} : List.replicate n v = (List.range n).map (fun _ => v) := by
  apply List.ext_getElem
  · simp
  · intro i h1 h2
    simp
/-- dice rolled again, the class -/
theorem C143_do (hN : 2000 ≤ N) {H : mj_H} {a n m k : Nat} {pick : Int32} {w fl : Value} (haB : a < H.2.1) (hm : 2 ≤ m ∧ m ≤ 20) (hk : k ≤ 3) (hd : dcO H a n m pick k w fl) : ∃ G, C143 xt ct O N a H = some (H.2.1, G) ∧ LR G H.2.1 (m * (k + 1) + 1) (fun s => Int64.ofNat (eW m k s)) ∧ (∀ q, q ≠ H.2.1 → G.1 q = H.1 q) ∧ G.2.1 = H.2.1 + 1 ∧ G.2.2 ≤ H.2.2 + 121 := by
  have mk : m * (k + 1) ≤ 20 * 4 := Nat.mul_le_mul hm.2 (by omega)
  have mk' : m * (k + 1) = m * k + m := Nat.mul_succ m k
  obtain ⟨r, hr⟩ : ∃ r, H.2.1 = r := ⟨_, rfl⟩
  have e1 : Int32.ofNat m * (Int32.ofNat k + 1) + 1 = Int32.ofNat (m * (k + 1) + 1) := by
    rw [i_inc (by omega), n_mul, i_inc (by omega)]
  have na := nA_do (H := H) (n := m * (k + 1) + 1) (by omega)
  obtain ⟨H0, hH0⟩ : ∃ H0, mj_new H (m * (k + 1) + 1) (.inl (.long, List.replicate (m * (k + 1) + 1) (.long 0))) = H0 := ⟨_, rfl⟩
  rw [hH0] at na
  have r0 : LR H0 r (m * (k + 1) + 1) (fun _ => 0) := by
    unfold LR
    rw [← hr, ← hH0, mj_new_eq, rep_rg]
  have d0 : dcO H0 a n m pick k w fl := by
    unfold dcO
    rw [← hH0, mj_new_ne (by omega)]
    exact hd
  -- one roll
  have roll : ∀ (d f j : Nat) (H1 : mj_H), f + d = m → 1 ≤ f → j ≤ k → dcO H1 a n m pick k w fl → LR H1 r (m * (k + 1) + 1) (fun s => Int64.ofNat (if s < m * j + f then eW m k s else 0)) → only r H0 H1 → ∃ G, t_lp (B143_44 xt ct O N) (d + 1) (a, r, Int32.ofNat j, Int64.ofNat (m ^ (k - j)), Int32.ofNat f, H1) = some (.inl (a, r, Int32.ofNat (j + 1), G)) ∧ dcO G a n m pick k w fl ∧ LR G r (m * (k + 1) + 1) (fun s => Int64.ofNat (if s < m * j + m then eW m k s else 0)) ∧ only r H0 G := by
    intro d
    induction d with
    | zero =>
      intro f j H1 hf h1 hj hd1 hr1 ho
      have g1 : gI H1 a 8 1 = some (Int32.ofNat m) := gI_of hd1 rfl
      have c : mj_c2 .ge (Int32.ofNat f) (Int32.ofNat m) = true := (c_ge (by omega) (by omega)).trans (decide_eq_true (by omega))
      have : f = m := by omega
      subst this
      refine ⟨H1, t_end ?_ _, hd1, hr1, ho⟩
      rw [← i_inc (k := j) (by omega)]
      simp only [B143_44, g1, c, cond_true, Option.bind_some]
    | succ d ih =>
      intro f j H1 hf h1 hj hd1 hr1 ho
      have g1 : gI H1 a 8 1 = some (Int32.ofNat m) := gI_of hd1 rfl
      have c : mj_c2 .ge (Int32.ofNat f) (Int32.ofNat m) = false := (c_ge (by omega) (by omega)).trans (decide_eq_false (by omega))
      have mj : m * j ≤ m * k := Nat.mul_le_mul_left m hj
      have ix : Int32.ofNat j * Int32.ofNat m + Int32.ofNat f = Int32.ofNat (m * j + f) := by rw [n_mul, n_add, Nat.mul_comm]
      obtain ⟨H2, s1, s2, s3⟩ := LR_set (x := Int64.ofNat (m ^ (k - j))) hr1 (show m * j + f < m * (k + 1) + 1 by omega) (by omega)
      have ha : a ≠ r := by omega
      obtain ⟨G, b1, b2⟩ := ih (f + 1) j H2 (by omega) (by omega) hj ((s3.1 a ha).trans hd1) (LR_ext s2 (fun s hs => by
        try dsimp only
        by_cases q : s = m * j + f
        · rw [if_pos q, if_pos (by omega), q, eW_at ⟨h1, by omega⟩ hj, if_pos (Or.inl (by omega))]
        · rw [if_neg q]
          by_cases q2 : s < m * j + f
          · rw [if_pos q2, if_pos (by omega)]
          · rw [if_neg q2, if_neg (by omega)])) (only_trans ho s3)
      refine ⟨G, ?_, b2⟩
      have st : B143_44 xt ct O N (a, r, Int32.ofNat j, Int64.ofNat (m ^ (k - j)), Int32.ofNat f, H1) = some (.inl (a, r, Int32.ofNat j, Int64.ofNat (m ^ (k - j)), Int32.ofNat (f + 1), H2)) := by
        rw [← i_inc (k := f) (by omega)]
        simp only [B143_44, g1, c, cond_false, ix, s1, Option.bind_some]
      rw [t_one st]
      exact b1
  have all : ∀ (d j : Nat) (H1 : mj_H), j + d = k + 1 → dcO H1 a n m pick k w fl → LR H1 r (m * (k + 1) + 1) (fun s => Int64.ofNat (if s < m * j + 1 ∧ s < m * (k + 1) then eW m k s else 0)) → only r H0 H1 → ∃ G, t_lp (B143_18 xt ct O N) (d + 1) (a, r, Int32.ofNat j, H1) = some (r, G) ∧ LR G r (m * (k + 1) + 1) (fun s => Int64.ofNat (eW m k s)) ∧ only r H0 G := by
    intro d
    induction d with
    | zero =>
      intro j H1 hj hd1 hr1 ho
      have g1 : gI H1 a 8 1 = some (Int32.ofNat m) := gI_of hd1 rfl
      have g3 : gI H1 a 8 3 = some (Int32.ofNat k) := gI_of hd1 rfl
      have c : mj_c2 .gt (Int32.ofNat j) (Int32.ofNat k) = true := (c_gt (by omega) (by omega)).trans (decide_eq_true (by omega))
      have ej : j = k + 1 := by omega
      subst ej
      have ix : Int32.ofNat m * (Int32.ofNat k + 1) = Int32.ofNat (m * (k + 1)) := by rw [i_inc (by omega), n_mul]
      obtain ⟨H2, s1, s2, s3⟩ := LR_set (x := 1) hr1 (show m * (k + 1) < m * (k + 1) + 1 by omega) (by omega)
      refine ⟨H2, t_end ?_ _, LR_ext s2 (fun s hs => ?_), only_trans ho s3⟩
      · simp only [B143_18, g1, g3, c, cond_true, ix, s1, Option.bind_some]
      · try dsimp only
        by_cases q : s = m * (k + 1)
        · rw [if_pos q, q]
          unfold eW
          rw [if_pos rfl]
          rfl
        · rw [if_neg q, if_pos ⟨by omega, by omega⟩]
    | succ d ih =>
      intro j H1 hj hd1 hr1 ho
      have g1 : gI H1 a 8 1 = some (Int32.ofNat m) := gI_of hd1 rfl
      have g3 : gI H1 a 8 3 = some (Int32.ofNat k) := gI_of hd1 rfl
      have c : mj_c2 .gt (Int32.ofNat j) (Int32.ofNat k) = false := (c_gt (by omega) (by omega)).trans (decide_eq_false (by omega))
      have pw : C101 xt ct O N (Int32.ofNat m).toInt64 (Int32.ofNat k - Int32.ofNat j) H1 = some (Int64.ofNat (m ^ (k - j)), H1) := by
        have b : m ^ (k - j) ≤ 20 ^ 3 := Nat.le_trans (Nat.pow_le_pow_left hm.2 _) (Nat.pow_le_pow_right (by decide) (by omega))
        rw [n_l (by omega), n_sub (by omega) (by omega), C101_do hN ⟨by omega, by omega⟩ (by omega), pwN_pow (by omega) _ _ (by rw [Nat.one_mul]; omega), Nat.one_mul]
      have mm : m * (j + 1) = m * j + m := Nat.mul_succ m j
      have mj : m * (j + 1) ≤ m * (k + 1) := Nat.mul_le_mul_left m (by omega)
      obtain ⟨G1, a1, a2, a3, a4⟩ := roll (m - 1) 1 j H1 (by omega) (by omega) (by omega) hd1 (LR_ext hr1 (fun s hs => by
        try dsimp only
        by_cases q : s < m * j + 1
        · rw [if_pos q, if_pos ⟨q, by omega⟩]
        · rw [if_neg q, if_neg (fun w => q w.1)])) ho
      obtain ⟨G, b1, b2⟩ := ih (j + 1) G1 (by omega) a2 (LR_ext a3 (fun s hs => by
        try dsimp only
        by_cases q : s = m * (j + 1)
        · rw [if_neg (by omega)]
          by_cases q2 : j = k
          · rw [if_neg (fun w => by rw [q, q2] at w; omega)]
          · have : m * (j + 1 + 1) ≤ m * (k + 1) := Nat.mul_le_mul_left m (by omega)
            rw [Nat.mul_succ] at this
            rw [if_pos ⟨by omega, by omega⟩, q]
            unfold eW
            rw [if_neg (by omega), if_neg (fun w => w.1 (Nat.mul_mod_right m _))]
        · by_cases q2 : s < m * j + m
          · rw [if_pos q2, if_pos ⟨by omega, by omega⟩]
          · rw [if_neg q2, if_neg (fun w => by omega)])) a4
      refine ⟨G, ?_, b2⟩
      have st : B143_18 xt ct O N (a, r, Int32.ofNat j, H1) = some (.inl (a, r, Int32.ofNat (j + 1), G1)) := by
        simp only [B143_18, g1, g3, c, cond_false, pw, Option.bind_some]
        exact t_lp_more _ _ _ (by omega) a1
      rw [t_one st]
      exact b1
  obtain ⟨G, b1, b2, b3⟩ := all (k + 1) 0 H0 (by omega) d0 (LR_ext r0 (fun s hs => by
    try dsimp only
    by_cases q : s = 0
    · rw [q]
      have e0 : eW m k 0 = 0 := by
        unfold eW
        rw [if_neg (by omega), if_neg (fun w => w.1 (Nat.zero_mod m))]
      rw [if_pos ⟨by omega, by omega⟩, e0]
      rfl
    · rw [if_neg (fun w => by rw [Nat.mul_zero] at w; omega)]
      rfl)) only_refl
  have g1 : gI H a 8 1 = some (Int32.ofNat m) := gI_of hd rfl
  have g3 : gI H a 8 3 = some (Int32.ofNat k) := gI_of hd rfl
  refine ⟨G, ?_, by rw [hr]; exact b2, fun q hq => ?_, ?_, ?_⟩
  · simp only [C143, g1, g3, e1, na, L143_18, Option.bind_some]
    rw [hr]
    exact t_lp_more _ _ _ (by omega) b1
  · rw [b3.1 q (by omega), ← hH0]
    exact mj_new_ne hq
  · rw [b3.2, ← hH0]
    rfl
  · rw [b3.2, ← hH0]
    show H.2.2 + (m * (k + 1) + 1) ≤ _
    omega
end RMO
