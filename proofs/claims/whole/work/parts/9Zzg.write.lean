/-! WRITING INTO THE TEXT, THE CLASS -/
def lowN (z : Nat) (H : mj_H) : Prop := ∀ q, q ≤ z → H.1 q = none
def dgZ (xt : mj_X) (ct : Nat → Value) (z : Nat) : Prop := (∃ t ys, ct 2 = .ref t ∧ t ≤ z ∧ xt t = some (.byte, ys) ∧ ∀ j, j < 100 → ys[j]? = some (.int (Int32.ofNat (48 + j % 10)))) ∧ ∃ t ys, ct 3 = .ref t ∧ t ≤ z ∧ xt t = some (.byte, ys) ∧ ∀ j, j < 100 → ys[j]? = some (.int (Int32.ofNat (48 + j / 10)))
theorem dgZ_T {xt : mj_X} {ct : Nat → Value} {z : Nat} {H : mj_H} (h : dgZ xt ct z) (hl : lowN z H) : dgT xt ct H := by
  obtain ⟨⟨t, ys, a1, a2, a3⟩, t', ys', b1, b2, b3⟩ := h
  exact ⟨⟨t, ys, a1, hl t a2, a3⟩, t', ys', b1, hl t' b2, b3⟩
/-- the text while it is written -/
def wst (z : Nat) (H : mj_H) (v : Nat) (bs : List Value) (tx : List Int32) : Prop := sb H (z + 2) v bs tx ∧ cv_ z H v ∧ 16 ≤ bs.length ∧ bs.length ≤ 322 ∧ lowN z H
section WRC
variable {xt : mj_X} {ct : Nat → Value} {O : OR} {N z : Nat}
theorem wr_ch {H : mj_H} {v : Nat} {bs : List Value} {tx : List Int32} {c : Int32} (h : wst z H v bs tx) (hl : tx.length < 160) (hc : 0 ≤ c.toInt ∧ c.toInt ≤ 127) : ∃ H' v' bs', C13 xt ct O N (z + 2) c H = some (z + 2, H') ∧ gK H (z + 2) 0 = some () ∧ wst z H' v' bs' (tx ++ [c]) ∧ tstep z H v bs H' v' bs' := by
  obtain ⟨h1, ⟨h2, h3, h4⟩, h5, h6, h7⟩ := h
  obtain ⟨H', v', bs', a1, a2, a3, a4, a5, a6⟩ := C13_sb (xt := xt) (ct := ct) (O := O) (N := N) h1 h3 (by omega) (by omega) hc
  have hk : gK H (z + 2) 0 = some () := by
    obtain ⟨m, k⟩ := h1.1
    exact gK_of k
  have hle := h1.2.2.2.1
  have num : H.2.1 ≤ H'.2.1 ∧ H'.2.2 + 2 * bs.length ≤ H.2.2 + 2 * bs'.length ∧ H'.2.1 + bs.length ≤ H.2.1 + bs'.length ∧ (bs.length ≤ 322 → bs'.length ≤ 322) ∧ H.2.2 ≤ H'.2.2 ∧ bs.length ≤ bs'.length := by
    rcases a6 with ⟨b1, b2⟩ | ⟨b1, b2, b3, -, -⟩
    · rw [b1, b2]
      exact ⟨Nat.le_refl _, Nat.le_refl _, Nat.le_refl _, id, Nat.le_refl _, Nat.le_refl _⟩
    · rw [b2, b3]
      dsimp only
      omega
  have n1 : txN z H v H' := txN_1 h1 ⟨h2, h3, h4⟩ a2 (by
    rcases a6 with ⟨p1, -⟩ | ⟨-, p2, -, p4, p5⟩
    · rw [p1] at a4
      exact Or.inl ⟨by rw [p1], by omega⟩
    · exact Or.inr ⟨by rw [p2], p4, p5⟩)
  refine ⟨H', v', bs', a1, hk, ⟨a2, ⟨?_, a4, by omega⟩, by omega, num.2.2.2.1 h6, fun q hq => ?_⟩, ⟨fun q q1 q2 q3 => a3 q q1 q2 (by omega), ?_, a4, num.1, num.2.1, num.2.2.1, num.2.2.2.1, num.2.2.2.2.1, n1⟩⟩
  · rcases a5 with e | e
    · rw [e]; exact h2
    · rw [e]; exact Or.inr h4
  · rw [a3 q (by omega) (by omega) (by omega)]
    exact h7 q hq
  · rcases a5 with e | e
    · exact Or.inl e
    · exact Or.inr (by omega)
theorem dgs_len {n : Nat} : 1 ≤ (dgs n).length ∧ (dgs n).length ≤ 3 := by
  unfold dgs
  split
  · simp only [List.length_cons, List.length_nil]
    omega
  · split
    · simp only [List.length_cons, List.length_nil]
      omega
    · simp only [List.length_cons, List.length_nil]
      omega
theorem wr_nm (hN : 2000 ≤ N) (hd : dgZ xt ct z) {H : mj_H} {v n : Nat} {bs : List Value} {tx : List Int32} (h : wst z H v bs tx) (hn : n ≤ 999) (hl : tx.length + (dgs n).length ≤ 160) : ∃ H' v' bs', C51 xt ct O N (z + 2) (Int32.ofNat n) H = some (z + 2, H') ∧ gK H (z + 2) 0 = some () ∧ wst z H' v' bs' (tx ++ dgs n) ∧ tstep z H v bs H' v' bs' := by
  obtain ⟨h1, ⟨h2, h3, h4⟩, h5, h6, h7⟩ := h
  obtain ⟨⟨m0, k1⟩, k2, k3, k4, k5, k6, k7⟩ := id h1
  have dl := dgs_len (n := n)
  have hk : gK H (z + 2) 0 = some () := gK_of k1
  have g3 : gI H (z + 2) 0 3 = some (Int32.ofNat tx.length) := gI_of k1 rfl
  have c53 := C53_do (xt := xt) (ct := ct) (O := O) (N := N) (H := H) hN hn
  have es : Int32.ofNat tx.length + Int32.ofNat (dgs n).length = Int32.ofNat (tx.length + (dgs n).length) := i_eq (by rw [i_add (by rw [i_nat (by omega), i_nat (by omega)]; omega) (by rw [i_nat (by omega), i_nat (by omega)]; omega), i_nat (by omega), i_nat (by omega)]; omega)
  have eN : (Int32.ofNat (tx.length + (dgs n).length)).toInt = tx.length + (dgs n).length := by rw [i_nat (by omega)]; omega
  -- room
  have room : ∃ G v1 bs1, C15 xt ct O N (z + 2) (Int32.ofNat (tx.length + (dgs n).length)) H = some G ∧ sb G (z + 2) v1 bs1 tx ∧ (∀ q, q ≠ z + 2 → q ≠ H.2.1 → G.1 q = H.1 q) ∧ tx.length + (dgs n).length ≤ bs1.length ∧ (v1 = v ∨ v1 = H.2.1) ∧ v1 < G.2.1 ∧ ((G.2 = H.2 ∧ bs1.length = bs.length) ∨ (bs.length < tx.length + (dgs n).length ∧ G.2 = (H.2.1 + 1, H.2.2 + (2 * bs.length + 2)) ∧ bs1.length = 2 * bs.length + 2 ∧ v1 = H.2.1)) := by
    by_cases hr : tx.length + (dgs n).length ≤ bs.length
    · exact ⟨H, v, bs, C15_ok' h1 (by omega) (by omega), h1, fun _ _ _ => rfl, hr, Or.inl rfl, h3, Or.inl ⟨rfl, rfl⟩⟩
    · obtain ⟨G, bs1, c15, w1, w2, w3, w4⟩ := C15_grow3 (xt := xt) (ct := ct) (O := O) (N := N) (x1 := Int32.ofNat (tx.length + (dgs n).length)) (by omega) (by omega) (by omega) h1 h3 (by omega) (by omega)
      exact ⟨G, H.2.1, bs1, c15, w1, w3, by omega, Or.inr rfl, by rw [w4]; exact Nat.lt_succ_self _, Or.inr ⟨by omega, w4, w2, rfl⟩⟩
  obtain ⟨G, v1, bs1, r1, r2, r3, r4, r5, r6, r7⟩ := room
  obtain ⟨⟨m1, p1⟩, p2, p3, p4, p5, p6, p7⟩ := id r2
  have gA0 : gA G (z + 2) 0 0 = some v1 := gA_of p1 rfl
  have lowG : lowN z G := fun q hq => by rw [r3 q (by omega) (by omega)]; exact h7 q hq
  obtain ⟨r, bs2, w1, w2, w3, w4⟩ := C54_do (xt := xt) (ct := ct) (O := O) (N := N) hN (dgZ_T hd lowG) p2 hn (p := tx.length) r4 p5
  have b1 : mj_c1 .eq 1 = false := by decide
  have hzv : z + 2 ≠ v1 := p3
  obtain ⟨G2, hG2⟩ : ∃ G2, mj_put G v1 (.inl (.byte, bs2)) = G2 := ⟨_, rfl⟩
  rw [hG2] at w1
  have q1 : G2.1 (z + 2) = some (.inr (0, [.ref v1, .int 0, .int m1, .int (Int32.ofNat tx.length)])) := by rw [← hG2, mj_put_ne hzv]; exact p1
  have u := uF_of (n := 3) (v := .int (Int32.ofNat (tx.length + (dgs n).length))) q1
  obtain ⟨G3, hG3⟩ : ∃ G3, mj_put G2 (z + 2) (.inr (0, ([.ref v1, .int 0, .int m1, .int (Int32.ofNat tx.length)] : List Value).set 3 (.int (Int32.ofNat (tx.length + (dgs n).length))))) = G3 := ⟨_, rfl⟩
  rw [hG3] at u
  have c52 : C52 xt ct O N (z + 2) (Int32.ofNat n) H = some (z + 2, G3) := by
    simp only [C52, g3, c53, hk, es, r1, gK_of p1, C22_sb r2, b1, cond_false, gA0, w1, J52_48, u, Option.bind_some]
  have e3 : G3.2 = G.2 := by rw [← hG3, ← hG2]; rfl
  have o3 : ∀ q, q ≠ z + 2 → q ≠ v1 → G3.1 q = G.1 q := fun q a b => by rw [← hG3, mj_put_ne a, ← hG2, mj_put_ne b]
  have sb3 : sb G3 (z + 2) v1 bs2 (tx ++ dgs n) := by
    refine ⟨⟨m1, ?_⟩, ?_, p3, ?_, by omega, w4 p6, ?_⟩
    · rw [← hG3, mj_put_eq, List.length_append]
      rfl
    · rw [← hG3, mj_put_ne (fun e => hzv e.symm), ← hG2]
      exact mj_put_eq
    · rw [List.length_append]
      omega
    · rw [List.length_append, w3, p7, List.map_append]
  have num : H.2.1 ≤ G.2.1 ∧ G.2.2 + 2 * bs.length ≤ H.2.2 + 2 * bs2.length ∧ G.2.1 + bs.length ≤ H.2.1 + bs2.length ∧ (bs.length ≤ 322 → bs2.length ≤ 322) ∧ H.2.2 ≤ G.2.2 ∧ bs.length ≤ bs2.length := by
    rcases r7 with ⟨b1, b2⟩ | ⟨b1, b2, b3, -⟩
    · rw [w2, b1, b2]
      exact ⟨Nat.le_refl _, Nat.le_refl _, Nat.le_refl _, id, Nat.le_refl _, Nat.le_refl _⟩
    · rw [w2, b2, b3]
      dsimp only
      omega
  have e31 : G3.2.1 = G.2.1 := by rw [e3]
  have n1 : txN z H v G3 := txN_1 h1 ⟨h2, h3, h4⟩ sb3 (by
    rcases r7 with ⟨b1, -⟩ | ⟨-, b2, -, e⟩
    · rw [b1] at r6 e31
      exact Or.inl ⟨e31, by omega⟩
    · exact Or.inr ⟨by rw [e31, b2], e, by rw [o3 v (fun w => k3 w.symm) (by omega), r3 v (fun w => k3 w.symm) (by omega)]⟩)
  have e32 : G3.2.2 = G.2.2 := by rw [e3]
  refine ⟨G3, v1, bs2, ?_, hk, ⟨sb3, ⟨?_, by omega, by omega⟩, by omega, num.2.2.2.1 h6, fun q hq => ?_⟩, ⟨fun q a b c => ?_, ?_, by omega, by omega, by rw [e32]; exact num.2.1, by rw [e31]; exact num.2.2.1, num.2.2.2.1, by rw [e32]; exact num.2.2.2.2.1, n1⟩⟩
  · simp only [C51, gC_of k1, c52, Option.bind_some]
  · rcases r5 with e | e
    · rw [e]; exact h2
    · rw [e]; exact Or.inr h4
  · rw [o3 q (by omega) (by omega)]
    exact lowG q hq
  · have hv1 : q ≠ v1 := by
      rcases r5 with e | e
      · rw [e]; exact b
      · rw [e]; omega
    rw [o3 q a hv1, r3 q a (by omega)]
  · rcases r5 with e | e
    · exact Or.inl e
    · exact Or.inr (by omega)
end WRC
