/-! A CHARACTER MORE -/
section APP
variable {xt : mj_X} {ct : Nat → Value} {O : OR} {N : Nat} {H : mj_H} {t v : Nat} {bs : List Value} {tx : List Int32}
theorem mj_new_eq {h : mj_H} {n : Nat} {e : mj_E} : (mj_new h n e).1 h.2.1 = some e := by
  show (if h.2.1 = h.2.1 then some e else h.1 h.2.1) = _
  rw [if_pos rfl]
theorem mj_new_ne {h : mj_H} {n q : Nat} {e : mj_E} (hq : q ≠ h.2.1) : (mj_new h n e).1 q = h.1 q := by
  show (if q = h.2.1 then some e else h.1 q) = _
  rw [if_neg hq]
theorem i_clamp {x : Int32} : x.toNatClampNeg = x.toInt.toNat := rfl
theorem i_nlt {x : Int32} (h : 0 ≤ x.toInt) : ¬ x < 0 := by
  rw [Int32.lt_iff_toInt_lt, q_0]
  omega
theorem C15_grow (h : sb H t v bs tx) (hv : v < H.2.1) (ht : t < H.2.1) (hl : bs.length ≤ 40000) : ∃ H' bs', C15 xt ct O N t (Int32.ofNat bs.length + 1) H = some H' ∧ sb H' t H.2.1 bs' tx ∧ bs'.length = 2 * bs.length + 2 ∧ (∀ q, q ≠ t → q ≠ H.2.1 → H'.1 q = H.1 q) ∧ H'.2 = (H.2.1 + 1, H.2.2 + (2 * bs.length + 2)) := by
  obtain ⟨⟨m, h1⟩, h2, h3, h4, h5, h6, h7⟩ := h
  have e1 : (Int32.ofNat bs.length).toInt = bs.length := i_nat (by omega)
  have e2 : (Int32.ofNat bs.length + 1).toInt = bs.length + 1 := by rw [i_add (by rw [q_1]; omega) (by rw [q_1]; omega), q_1, e1]
  have e3 : (Int32.ofNat bs.length + 1 - Int32.ofNat bs.length).toInt = 1 := by rw [i_sub (by omega) (by omega), e1, e2]; omega
  have e4 : (Int32.ofNat bs.length + 2).toInt = bs.length + 2 := by rw [i_add (by rw [q_2]; omega) (by rw [q_2]; omega), q_2, e1]
  have e5 : (Int32.ofNat bs.length + (Int32.ofNat bs.length + 2)).toInt = 2 * bs.length + 2 := by rw [i_add (by omega) (by omega), e1, e4]; omega
  have g0 : gA H t 0 0 = some v := gA_of h1 rfl
  have g1 : gI H t 0 1 = some 0 := gI_of h1 rfl
  have gn : aN xt H v = some (Int32.ofNat bs.length) := aN_of h2
  have b1 : mj_c1 .le (Int32.ofNat bs.length + 1 - Int32.ofNat bs.length) = false := i_c1 (by show decide _ = false; apply decide_eq_false; omega)
  have b2 : mj_c2 .lt (Int32.ofNat bs.length + 1 - Int32.ofNat bs.length) (Int32.ofNat bs.length + 2) = true := i_c2 (by show decide _ = true; apply decide_eq_true; omega)
  obtain ⟨s, hs⟩ : ∃ s, Int32.ofNat bs.length + (Int32.ofNat bs.length + 2) = s := ⟨_, rfl⟩
  rw [hs] at e5
  have b3 : mj_c2 .ge 0 s = false := i_c2 (by show decide _ = false; apply decide_eq_false; rw [q_0]; omega)
  have b4 : mj_c2 .gt s 2147483639 = false := i_c2 (by show decide _ = false; apply decide_eq_false; rw [show (2147483639 : Int32).toInt = 2147483639 from rfl]; omega)
  have b5 : mj_c2 .ne s 2147483647 = true := i_c2 (by show decide _ = true; apply decide_eq_true; rw [show (2147483647 : Int32).toInt = 2147483647 from rfl]; omega)
  have b6 : mj_c2 .ne s (Int32.ofNat bs.length) = true := i_c2 (by show decide _ = true; apply decide_eq_true; omega)
  have b7 : mj_c2 .gt (Int32.ofNat bs.length) s = false := i_c2 (by show decide _ = false; apply decide_eq_false; omega)
  have c16 : C16 xt ct O N t (Int32.ofNat bs.length + 1) H = some (s, H) := by
    simp only [C16, C17, C18, J18_10, g0, g1, gn, i_shl0, i_shr0, Option.bind_some, b2, cond_true, hs, b3, cond_false, b4, b5]
  have hsn : s.toInt.toNat = 2 * bs.length + 2 := by omega
  have hA : nA H .byte s = some (H.2.1, mj_new H (2 * bs.length + 2) (.inl (.byte, List.replicate (2 * bs.length + 2) (.int 0)))) := by
    unfold nA
    rw [if_pos ⟨i_nlt (by omega), by rw [i_clamp, hsn]; omega⟩, i_clamp, hsn]
    rfl
  obtain ⟨G, hG⟩ : ∃ G, mj_new H (2 * bs.length + 2) (.inl (.byte, List.replicate (2 * bs.length + 2) (.int 0))) = G := ⟨_, rfl⟩
  rw [hG] at hA
  have G1 : G.1 v = some (.inl (.byte, bs)) := by rw [← hG, mj_new_ne (by omega)]; exact h2
  have G2 : G.1 H.2.1 = some (.inl (.byte, List.replicate (2 * bs.length + 2) (.int 0))) := by rw [← hG, mj_new_eq]
  have G3 : ∀ q, q ≠ H.2.1 → G.1 q = H.1 q := fun q hq => by rw [← hG, mj_new_ne hq]
  have G4 : G.2 = (H.2.1 + 1, H.2.2 + (2 * bs.length + 2)) := by rw [← hG]; rfl
  have gn2 : aN xt G v = some (Int32.ofNat bs.length) := aN_of G1
  have hY : cY G v 0 H.2.1 0 (Int32.ofNat bs.length) = some (mj_put G H.2.1 (.inl (.byte, mj_cpy bs (List.replicate (2 * bs.length + 2) (.int 0)) 0 0 bs.length))) := by
    unfold cY
    rw [G1, G2]
    dsimp only
    have z1 : (Int32.ofNat bs.length).toNatClampNeg = bs.length := by rw [i_clamp, e1]; omega
    have z2 : (0 : Int32).toNatClampNeg = 0 := rfl
    rw [z1, z2, if_pos ⟨rfl, rfl, by decide, by decide, i_nlt (by omega), by omega, by rw [List.length_replicate]; omega, h6⟩]
  have c20 : C20 xt ct O N v s H = some (H.2.1, mj_put G H.2.1 (.inl (.byte, mj_cpy bs (List.replicate (2 * bs.length + 2) (.int 0)) 0 0 bs.length))) := by
    simp only [C20, C21, J21_10, gn, gn2, b6, b7, hA, hY, Option.bind_some, cond_true, cond_false]
  have K1 : (mj_put G H.2.1 (.inl (.byte, mj_cpy bs (List.replicate (2 * bs.length + 2) (.int 0)) 0 0 bs.length))).1 t = some (.inr (0, [.ref v, .int 0, .int m, .int (Int32.ofNat tx.length)])) := by
    rw [mj_put_ne (by omega), G3 t (by omega)]
    exact h1
  refine ⟨mj_put (mj_put G H.2.1 (.inl (.byte, mj_cpy bs (List.replicate (2 * bs.length + 2) (.int 0)) 0 0 bs.length))) t (.inr (0, [.ref H.2.1, .int 0, .int m, .int (Int32.ofNat tx.length)])), mj_cpy bs (List.replicate (2 * bs.length + 2) (.int 0)) 0 0 bs.length, ?_, ⟨⟨m, mj_put_eq⟩, ?_, by omega, ?_, ?_, ?_, ?_⟩, ?_, ?_, ?_⟩
  · simp only [C15, g0, g1, gn, i_shr0, i_shl0, b1, cond_false, gK_of h1, c16, c20, uF_of K1, J15_38, Option.bind_some]
    rfl
  · rw [mj_put_ne (by omega), mj_put_eq]
  · rw [cpy_len, List.length_replicate]
    omega
  · rw [cpy_len, List.length_replicate]
    omega
  · exact cpy_fit (Nat.le_refl _) h6 (by rw [List.all_eq_true]; intro w hw; rw [List.eq_of_mem_replicate hw]; rfl)
  · rw [← h7]
    have := cpy_take (xs := bs) (ys := List.replicate (2 * bs.length + 2) (.int 0)) (n := bs.length) (Nat.le_refl _) (by rw [List.length_replicate]; omega)
    have h8 := congrArg (List.take tx.length) this
    rw [List.take_take, List.take_take, Nat.min_eq_left h4] at h8
    exact h8
  · rw [cpy_len, List.length_replicate]
  · intro q q1 q2
    rw [mj_put_ne q1, mj_put_ne q2, G3 q q2]
  · exact G4
end APP
