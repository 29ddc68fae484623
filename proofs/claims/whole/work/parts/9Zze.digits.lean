/-! NUMBERS IN A TEXT -/
/-- a number's digits -/
def dgs (n : Nat) : List Int32 := if n < 10 then [Int32.ofNat (48 + n)] else if n < 100 then [Int32.ofNat (48 + n / 10), Int32.ofNat (48 + n % 10)] else [Int32.ofNat (48 + n / 100), Int32.ofNat (48 + n / 10 % 10), Int32.ofNat (48 + n % 10)]
section GR3
variable {xt : mj_X} {ct : Nat → Value} {O : OR} {N : Nat} {H : mj_H} {t v : Nat} {bs : List Value} {tx : List Int32}
theorem C15_grow3 {x1 : Int32} (hx1 : (bs.length : Int) < x1.toInt) (hx2 : x1.toInt ≤ bs.length + 3) (h4b : 4 ≤ bs.length) (h : sb H t v bs tx) (hv : v < H.2.1) (ht : t < H.2.1) (hl : bs.length ≤ 40000) : ∃ H' bs', C15 xt ct O N t (x1) H = some H' ∧ sb H' t H.2.1 bs' tx ∧ bs'.length = 2 * bs.length + 2 ∧ (∀ q, q ≠ t → q ≠ H.2.1 → H'.1 q = H.1 q) ∧ H'.2 = (H.2.1 + 1, H.2.2 + (2 * bs.length + 2)) := by
  obtain ⟨⟨m, h1⟩, h2, h3, h4, h5, h6, h7⟩ := h
  have e1 : (Int32.ofNat bs.length).toInt = bs.length := i_nat (by omega)
  have e3 : (x1 - Int32.ofNat bs.length).toInt = x1.toInt - bs.length := by rw [i_sub (by omega) (by omega), e1]
  have e4 : (Int32.ofNat bs.length + 2).toInt = bs.length + 2 := by rw [i_add (by rw [q_2]; omega) (by rw [q_2]; omega), q_2, e1]
  have e5 : (Int32.ofNat bs.length + (Int32.ofNat bs.length + 2)).toInt = 2 * bs.length + 2 := by rw [i_add (by omega) (by omega), e1, e4]; omega
  have g0 : gA H t 0 0 = some v := gA_of h1 rfl
  have g1 : gI H t 0 1 = some 0 := gI_of h1 rfl
  have gn : aN xt H v = some (Int32.ofNat bs.length) := aN_of h2
  have b1 : mj_c1 .le (x1 - Int32.ofNat bs.length) = false := i_c1 (by show decide _ = false; apply decide_eq_false; omega)
  have b2 : mj_c2 .lt (x1 - Int32.ofNat bs.length) (Int32.ofNat bs.length + 2) = true := i_c2 (by show decide _ = true; apply decide_eq_true; omega)
  obtain ⟨s, hs⟩ : ∃ s, Int32.ofNat bs.length + (Int32.ofNat bs.length + 2) = s := ⟨_, rfl⟩
  rw [hs] at e5
  have b3 : mj_c2 .ge 0 s = false := i_c2 (by show decide _ = false; apply decide_eq_false; rw [q_0]; omega)
  have b4 : mj_c2 .gt s 2147483639 = false := i_c2 (by show decide _ = false; apply decide_eq_false; rw [show (2147483639 : Int32).toInt = 2147483639 from rfl]; omega)
  have b5 : mj_c2 .ne s 2147483647 = true := i_c2 (by show decide _ = true; apply decide_eq_true; rw [show (2147483647 : Int32).toInt = 2147483647 from rfl]; omega)
  have b6 : mj_c2 .ne s (Int32.ofNat bs.length) = true := i_c2 (by show decide _ = true; apply decide_eq_true; omega)
  have b7 : mj_c2 .gt (Int32.ofNat bs.length) s = false := i_c2 (by show decide _ = false; apply decide_eq_false; omega)
  have c16 : C16 xt ct O N t (x1) H = some (s, H) := by
    simp only [C16, C17, C18, J18_10, g0, g1, gn, i_shl0, i_shr0, Option.bind_some, b2, cond_true, hs, b3, cond_false, b4, b5]
  have hsn : s.toInt.toNat = 2 * bs.length + 2 := by omega
  have hA : nA H .byte s = some (H.2.1, mj_new H (2 * bs.length + 2) (.inl (.byte, List.replicate (2 * bs.length + 2) (.int 0)))) := by
    unfold nA
    rw [if_pos ⟨i_nlt (by omega), by rw [i_clamp, hsn]; omega⟩, i_clamp, hsn]
    rfl
  obtain ⟨G, hG⟩ : ∃ G, mj_new H (2 * bs.length + 2) (.inl (.byte, List.replicate (2 * bs.length + 2) (.int 0))) = G := ⟨_, rfl⟩
  rw [hG] at hA
  have G1 : G.1 v = some (.inl (.byte, bs)) := by rw [← hG, mj_new_ne (by omega)]; exact h2
  have G2 : G.1 H.2.1 = some (.inl (.byte, List.replicate (2 * bs.length + 2) (.int 0))) := by rw [← hG, mj_new_eq]
  have G3 : ∀ q, q ≠ H.2.1 → G.1 q = H.1 q := fun q hq => by rw [← hG, mj_new_ne hq]
  have G4 : G.2 = (H.2.1 + 1, H.2.2 + (2 * bs.length + 2)) := by rw [← hG]; rfl
  have gn2 : aN xt G v = some (Int32.ofNat bs.length) := aN_of G1
  have hY : cY G v 0 H.2.1 0 (Int32.ofNat bs.length) = some (mj_put G H.2.1 (.inl (.byte, mj_cpy bs (List.replicate (2 * bs.length + 2) (.int 0)) 0 0 bs.length))) := by
    unfold cY
    rw [G1, G2]
    dsimp only
    have z1 : (Int32.ofNat bs.length).toNatClampNeg = bs.length := by rw [i_clamp, e1]; omega
    have z2 : (0 : Int32).toNatClampNeg = 0 := rfl
    rw [z1, z2, if_pos ⟨rfl, rfl, by decide, by decide, i_nlt (by omega), by omega, by rw [List.length_replicate]; omega, h6⟩]
  have c20 : C20 xt ct O N v s H = some (H.2.1, mj_put G H.2.1 (.inl (.byte, mj_cpy bs (List.replicate (2 * bs.length + 2) (.int 0)) 0 0 bs.length))) := by
    simp only [C20, C21, J21_10, gn, gn2, b6, b7, hA, hY, Option.bind_some, cond_true, cond_false]
  have K1 : (mj_put G H.2.1 (.inl (.byte, mj_cpy bs (List.replicate (2 * bs.length + 2) (.int 0)) 0 0 bs.length))).1 t = some (.inr (0, [.ref v, .int 0, .int m, .int (Int32.ofNat tx.length)])) := by
    rw [mj_put_ne (by omega), G3 t (by omega)]
    exact h1
  refine ⟨mj_put (mj_put G H.2.1 (.inl (.byte, mj_cpy bs (List.replicate (2 * bs.length + 2) (.int 0)) 0 0 bs.length))) t (.inr (0, [.ref H.2.1, .int 0, .int m, .int (Int32.ofNat tx.length)])), mj_cpy bs (List.replicate (2 * bs.length + 2) (.int 0)) 0 0 bs.length, ?_, ⟨⟨m, mj_put_eq⟩, ?_, by omega, ?_, ?_, ?_, ?_⟩, ?_, ?_, ?_⟩
  · simp only [C15, g0, g1, gn, i_shr0, i_shl0, b1, cond_false, gK_of h1, c16, c20, uF_of K1, J15_38, Option.bind_some]
    rfl
  · rw [mj_put_ne (by omega), mj_put_eq]
  · rw [cpy_len, List.length_replicate]
    omega
  · rw [cpy_len, List.length_replicate]
    omega
  · exact cpy_fit (Nat.le_refl _) h6 (by rw [List.all_eq_true]; intro w hw; rw [List.eq_of_mem_replicate hw]; rfl)
  · rw [← h7]
    have := cpy_take (xs := bs) (ys := List.replicate (2 * bs.length + 2) (.int 0)) (n := bs.length) (Nat.le_refl _) (by rw [List.length_replicate]; omega)
    have h8 := congrArg (List.take tx.length) this
    rw [List.take_take, List.take_take, Nat.min_eq_left h4] at h8
    exact h8
  · rw [cpy_len, List.length_replicate]
  · intro q q1 q2
    rw [mj_put_ne q1, mj_put_ne q2, G3 q q2]
  · exact G4
end GR3
/-- the JDK's tables of digits -/
def dgT (xt : mj_X) (ct : Nat → Value) (H : mj_H) : Prop := (∃ t ys, ct 2 = .ref t ∧ H.1 t = none ∧ xt t = some (.byte, ys) ∧ ∀ j, j < 100 → ys[j]? = some (.int (Int32.ofNat (48 + j % 10)))) ∧ ∃ t ys, ct 3 = .ref t ∧ H.1 t = none ∧ xt t = some (.byte, ys) ∧ ∀ j, j < 100 → ys[j]? = some (.int (Int32.ofNat (48 + j / 10)))
section DGC
variable {xt : mj_X} {ct : Nat → Value} {O : OR} {N : Nat}
theorem C53_do (hN : 2000 ≤ N) {H : mj_H} {n : Nat} (hn : n ≤ 999) : C53 xt ct O N (Int32.ofNat n) H = some (Int32.ofNat (dgs n).length, H) := by
  have e : (Int32.ofNat n).toInt = n := i_nat (by omega)
  have q10 : (10 : Int32).toInt = 10 := rfl
  have qm10 : (-10 : Int32).toInt = -10 := rfl
  have em : (-(Int32.ofNat n)).toInt = -n := by
    rw [Int32.toInt_neg, e]
    exact i_bm (by omega) (by omega)
  have c0 : mj_c1 .lt (Int32.ofNat n) = false := i_c1 (by show decide _ = false; apply decide_eq_false; omega)
  have s1 : mj_c2 .ge (1 : Int32) 10 = false := by decide
  have s2 : mj_c2 .ge (1 + 1 : Int32) 10 = false := by decide
  have s3 : mj_c2 .ge (1 + 1 + 1 : Int32) 10 = false := by decide
  have go : ∀ k r, t_lp (B53_16 xt ct O N) k (-(Int32.ofNat n), 0, -10, 1, H) = some r → k ≤ 10 → C53 xt ct O N (Int32.ofNat n) H = some r := by
    intro k r hk hk2
    unfold C53
    rw [c0]
    exact t_lp_more _ _ _ (by omega) hk
  unfold dgs
  by_cases h1 : n < 10
  · rw [if_pos h1]
    have d : mj_c2 .le (-(Int32.ofNat n)) (-10) = false := i_c2 (by show decide _ = false; apply decide_eq_false; rw [em, qm10]; omega)
    refine go 1 _ (t_end ?_ 0) (by decide)
    simp only [B53_16, s1, cond_false, d]
    rfl
  · rw [if_neg h1]
    have d : mj_c2 .le (-(Int32.ofNat n)) (-10) = true := i_c2 (by show decide _ = true; apply decide_eq_true; rw [em, qm10]; omega)
    have b1 : B53_16 xt ct O N (-(Int32.ofNat n), 0, -10, 1, H) = some (.inl (-(Int32.ofNat n), 0, 10 * (-10), 1 + 1, H)) := by
      simp only [B53_16, s1, cond_false, d, cond_true]
    by_cases h2 : n < 100
    · rw [if_pos h2]
      have d2 : mj_c2 .le (-(Int32.ofNat n)) (10 * (-10)) = false := i_c2 (by show decide _ = false; apply decide_eq_false; rw [em, show (10 * (-10) : Int32).toInt = -100 from rfl]; omega)
      refine go 2 _ ((t_one b1 1).trans (t_end ?_ 0)) (by decide)
      simp only [B53_16, s2, cond_false, d2]
      rfl
    · rw [if_neg h2]
      have d2 : mj_c2 .le (-(Int32.ofNat n)) (10 * (-10)) = true := i_c2 (by show decide _ = true; apply decide_eq_true; rw [em, show (10 * (-10) : Int32).toInt = -100 from rfl]; omega)
      have d3 : mj_c2 .le (-(Int32.ofNat n)) (10 * (10 * (-10))) = false := i_c2 (by show decide _ = false; apply decide_eq_false; rw [em, show (10 * (10 * (-10)) : Int32).toInt = -1000 from rfl]; omega)
      have b2 : B53_16 xt ct O N (-(Int32.ofNat n), 0, 10 * (-10), 1 + 1, H) = some (.inl (-(Int32.ofNat n), 0, 10 * (10 * (-10)), 1 + 1 + 1, H)) := by
        simp only [B53_16, s2, cond_false, d2, cond_true]
      refine go 3 _ ((t_one b1 2).trans ((t_one b2 1).trans (t_end ?_ 0))) (by decide)
      simp only [B53_16, s3, cond_false, d3]
      rfl
/-- a digit of the tables -/
theorem dg_get {H : mj_H} (h : dgT xt ct H) {x : Int32} {j : Nat} (hx : x.toInt = j) (hj : j < 100) : ∃ t2 t3, vtA (ct 2) = some t2 ∧ vtA (ct 3) = some t3 ∧ (∀ G : mj_H, G.1 t2 = none → aB xt G t2 x = some (Int32.ofNat (48 + j % 10))) ∧ (∀ G : mj_H, G.1 t3 = none → aB xt G t3 x = some (Int32.ofNat (48 + j / 10))) ∧ H.1 t2 = none ∧ H.1 t3 = none := by
  obtain ⟨⟨t2, y2, a1, a2, a3, a4⟩, t3, y3, b1, b2, b3, b4⟩ := h
  have hn : x.toInt.toNat = j := by omega
  have key : ∀ (G : mj_H) (t : Nat) (ys : List Value) (c : Int32), G.1 t = none → xt t = some (.byte, ys) → ys[j]? = some (.int c) → aB xt G t x = some c := by
    intro G t ys c h1 h2 h3
    have : mj_arr xt G t = some (.byte, ys) := by
      unfold mj_arr
      rw [h1]
      exact h2
    unfold aB aV
    rw [this]
    dsimp only
    rw [if_pos ⟨rfl, by omega⟩, hn, h3]
    rfl
  exact ⟨t2, t3, by rw [a1]; rfl, by rw [b1]; rfl, fun G hG => key G t2 y2 _ hG a3 (a4 j hj), fun G hG => key G t3 y3 _ hG b3 (b4 j hj), a2, b2⟩
theorem by_nar {n : Nat} (h : n ≤ 100) : narrow .byte (.int (Int32.ofNat n)) = .int (Int32.ofNat n) := by
  show Value.int ((Int32.ofNat n).toInt8.toInt32) = _
  rw [i_byte (by rw [i_nat (by omega)]; omega)]
end DGC
