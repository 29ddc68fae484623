/-! A CHARACTER THAT MUST BE THERE; THE BEGINNING -/
section PAS
variable {xt : mj_X} {ct : Nat → Value} {O : OR} {N z : Nat} {tx : List Int32} {H : mj_H} {p st lv : Nat} {wp : Int32}
theorem C94_do (h : pst z H tx p st lv wp) {c : Int32} (hc : c ≠ 0) : (pk tx p = c ∧ p < tx.length ∧ ∃ G, C94 xt ct O N (z + 5) c H = some (.inl (), G) ∧ pst z G tx (p + 1) st lv wp ∧ (∀ q, q ≠ z + 5 → G.1 q = H.1 q) ∧ G.2 = H.2) ∨ (pk tx p ≠ c ∧ pthr z tx p st lv p H (C94 xt ct O N (z + 5) c H)) := by
  have hl := h.2.2.2.1.1
  have hp := h.2.2.2.2
  have k1 : gK H (z + 5) 1 = some () := gK_of h.1
  have g3 : gI H (z + 5) 1 3 = some (Int32.ofNat p) := gI_of h.1 rfl
  by_cases e : pk tx p = c
  · have hlt : p < tx.length := by
      rcases pk_rng (p := p) h.2.2.2.1 with ⟨q, -⟩ | ⟨-, -, q⟩
      · exact absurd (e.symm.trans q) hc
      · exact q
    have b : mj_c2 .ne (pk tx p) c = false := decide_eq_false (fun q => q e)
    obtain ⟨u1, u2⟩ := pst_at h hlt
    refine Or.inl ⟨e, hlt, _, ?_, u2, fun q hq => mj_put_ne hq, rfl⟩
    simp only [C94, k1, C84_do h, b, cond_false, J94_14, g3, C87_yes, tc, i_inc (k := p) (by omega), u1, Option.bind_some]
  · have b : mj_c2 .ne (pk tx p) c = true := decide_eq_true e
    obtain ⟨F, n1, n2, n3, n4⟩ := C87_no (xt := xt) (ct := ct) (O := O) (N := N) h (Int32.ofNat p)
    refine Or.inr ⟨e, F, ?_, n2, n3, n4⟩
    simp only [C94, k1, C84_do h, b, cond_true, J94_14, g3, n1, tc, Option.bind_some]
/-- the parser between two readings -/
def pidle (z : Nat) (H : mj_H) (wp : Int32) : Prop := (∃ a b c d : Int32, H.1 (z + 5) = some (.inr (1, [.ref (z + 6), .ref (z + 7), .int a, .int b, .int c, .int d, .int wp]))) ∧ (∃ cs : List Value, H.1 (z + 6) = some (.inl (.char, cs)) ∧ cs.length = 160) ∧ ∃ fc : List Value, H.1 (z + 7) = some (.inl (.int, fc)) ∧ fc.length = 8
theorem L82_do (hf : ∃ o, vtO (ct 1) = some o) {v : Nat} {bs : List Value} (hv : v ≠ z + 5 ∧ v ≠ z + 6 ∧ v ≠ z + 7) (ht : txC tx) {b c d wp : Int32} : ∀ (n i : Nat) (G : mj_H) (cs fc : List Value), i + n = tx.length → sb G (z + 2) v bs tx → G.1 (z + 5) = some (.inr (1, [.ref (z + 6), .ref (z + 7), .int (Int32.ofNat tx.length), .int b, .int c, .int d, .int wp])) → G.1 (z + 6) = some (.inl (.char, cs)) → cs.length = 160 → (∀ (j : Nat) (x : Int32), j < i → tx[j]? = some x → cs[j]? = some (Value.int x)) → G.1 (z + 7) = some (.inl (.int, fc)) → fc.length = 8 → ∃ G', t_lp (B82_16 xt ct O N) (n + 1) (z + 5, z + 2, Int32.ofNat i, G) = some G' ∧ pst z G' tx 0 0 0 wp ∧ (∀ q, q ≠ z + 5 → q ≠ z + 6 → G'.1 q = G.1 q) ∧ G'.2 = G.2 := by
  have hl := ht.1
  have e0 : ∀ i, i ≤ 160 → (Int32.ofNat i).toInt = i := fun i hi => i_nat (by omega)
  intro n
  induction n with
  | zero =>
    intro i G cs fc hi hs h5 h6 hcs hcp h7 hfc
    have bb : mj_c2 .ge (Int32.ofNat i) (Int32.ofNat tx.length) = true := i_c2 (by show decide _ = true; apply decide_eq_true; rw [e0 i (by omega), e0 _ hl]; omega)
    have g2 : gI G (z + 5) 1 2 = some (Int32.ofNat tx.length) := gI_of h5 rfl
    have u1 : uF G (z + 5) 1 3 (.int 0) = some (mj_put G (z + 5) (.inr (1, [.ref (z + 6), .ref (z + 7), .int (Int32.ofNat tx.length), .int 0, .int c, .int d, .int wp]))) := by
      rw [uF_of h5]
      rfl
    have u2 : uF (mj_put G (z + 5) (.inr (1, [.ref (z + 6), .ref (z + 7), .int (Int32.ofNat tx.length), .int 0, .int c, .int d, .int wp]))) (z + 5) 1 4 (.int 0) = some (mj_put (mj_put G (z + 5) (.inr (1, [.ref (z + 6), .ref (z + 7), .int (Int32.ofNat tx.length), .int 0, .int c, .int d, .int wp]))) (z + 5) (.inr (1, [.ref (z + 6), .ref (z + 7), .int (Int32.ofNat tx.length), .int 0, .int 0, .int d, .int wp]))) := by
      rw [uF_of mj_put_eq]
      rfl
    have u3 : uF (mj_put (mj_put G (z + 5) (.inr (1, [.ref (z + 6), .ref (z + 7), .int (Int32.ofNat tx.length), .int 0, .int c, .int d, .int wp]))) (z + 5) (.inr (1, [.ref (z + 6), .ref (z + 7), .int (Int32.ofNat tx.length), .int 0, .int 0, .int d, .int wp]))) (z + 5) 1 5 (.int 0) = some (mj_put (mj_put (mj_put G (z + 5) (.inr (1, [.ref (z + 6), .ref (z + 7), .int (Int32.ofNat tx.length), .int 0, .int c, .int d, .int wp]))) (z + 5) (.inr (1, [.ref (z + 6), .ref (z + 7), .int (Int32.ofNat tx.length), .int 0, .int 0, .int d, .int wp]))) (z + 5) (.inr (1, [.ref (z + 6), .ref (z + 7), .int (Int32.ofNat tx.length), .int 0, .int 0, .int 0, .int wp]))) := by
      rw [uF_of mj_put_eq]
      rfl
    refine ⟨mj_put (mj_put (mj_put G (z + 5) (.inr (1, [.ref (z + 6), .ref (z + 7), .int (Int32.ofNat tx.length), .int 0, .int c, .int d, .int wp]))) (z + 5) (.inr (1, [.ref (z + 6), .ref (z + 7), .int (Int32.ofNat tx.length), .int 0, .int 0, .int d, .int wp]))) (z + 5) (.inr (1, [.ref (z + 6), .ref (z + 7), .int (Int32.ofNat tx.length), .int 0, .int 0, .int 0, .int wp])), ?_, ⟨mj_put_eq, ⟨cs, ?_, hcs, fun j x hj => hcp j x ?_ hj⟩, ⟨fc, ?_, hfc⟩, ht, Nat.zero_le _⟩, ?_, rfl⟩
    · rw [t_lp]
      simp only [B82_16, g2, bb, cond_true, u1, u2, u3, Option.bind_some]
    · rw [mj_put_ne (by omega), mj_put_ne (by omega), mj_put_ne (by omega)]
      exact h6
    · have := (List.getElem?_eq_some_iff.mp hj).1
      omega
    · rw [mj_put_ne (by omega), mj_put_ne (by omega), mj_put_ne (by omega)]
      exact h7
    · intro q q1 q2
      rw [mj_put_ne q1, mj_put_ne q1, mj_put_ne q1]
  | succ n ih =>
    intro i G cs fc hi hs h5 h6 hcs hcp h7 hfc
    have bb : mj_c2 .ge (Int32.ofNat i) (Int32.ofNat tx.length) = false := i_c2 (by show decide _ = false; apply decide_eq_false; rw [e0 i (by omega), e0 _ hl]; omega)
    have g2 : gI G (z + 5) 1 2 = some (Int32.ofNat tx.length) := gI_of h5 rfl
    have g0 : gA G (z + 5) 1 0 = some (z + 6) := gA_of h5 rfl
    obtain ⟨⟨mm, k1⟩, kk⟩ := id hs
    have ei := e0 i (by omega)
    have en : (Int32.ofNat i).toInt.toNat = i := by omega
    obtain ⟨x, hx⟩ : ∃ x, tx[i]? = some x := ⟨_, List.getElem?_eq_getElem (by omega)⟩
    have hxr := ht.2 x (List.mem_of_getElem? hx)
    have c73 := C73_sb (xt := xt) (O := O) (N := N) hf hs (j := Int32.ofNat i) (c := x) (by omega) (by rw [en]; exact hx) (by omega)
    have s := sN_of (i := Int32.ofNat i) (x := x) h6 (by omega) (by omega)
    rw [n_char (c := x) (by omega), en] at s
    have fB : B82_16 xt ct O N (z + 5, z + 2, Int32.ofNat i, G) = some (.inl (z + 5, z + 2, Int32.ofNat (i + 1), mj_put G (z + 6) (.inl (.char, cs.set i (.int x))))) := by
      simp only [B82_16, g2, bb, cond_false, g0, gK_of k1, c73, s, i_inc (k := i) (by omega), Option.bind_some]
    have hs' : sb (mj_put G (z + 6) (.inl (.char, cs.set i (.int x)))) (z + 2) v bs tx := ⟨⟨mm, by rw [mj_put_ne (by omega)]; exact k1⟩, by rw [mj_put_ne (by omega)]; exact kk.1, kk.2⟩
    obtain ⟨G', f1, f2, f3, f4⟩ := ih (i + 1) (mj_put G (z + 6) (.inl (.char, cs.set i (.int x)))) (cs.set i (.int x)) fc (by omega) hs' (by rw [mj_put_ne (by omega)]; exact h5) mj_put_eq (by rw [List.length_set]; exact hcs) (by
      intro j y hj hy
      by_cases e : j = i
      · subst e
        rw [List.getElem?_set_self (by omega)]
        rw [hx] at hy
        cases hy
        rfl
      · rw [List.getElem?_set_ne (fun q => e q.symm)]
        exact hcp j y (by omega) hy) (by rw [mj_put_ne (by omega)]; exact h7) hfc
    refine ⟨G', ?_, f2, fun q q1 q2 => (f3 q q1 q2).trans (mj_put_ne q2), f4⟩
    rw [t_lp, fB]
    exact f1
end PAS
