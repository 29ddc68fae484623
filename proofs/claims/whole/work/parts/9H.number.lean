/-! A NUMBER: its digits are read as far as there are any -/
def scn (tx : List Int32) : Nat → Nat → Nat → Nat × Nat
  | 0, p, v => (p, v)
  | n + 1, p, v => if 48 ≤ (pk tx p).toInt ∧ (pk tx p).toInt < 58 then scn tx n (p + 1) (min (10 * v + ((pk tx p).toInt - 48).toNat) 1000) else (p, v)
theorem t_lp_map {σ ρ : Type} {f : σ → Option (σ ⊕ ρ)} {s : σ} {x : Option ρ} {n : Nat} (h : f s = x.map Sum.inr) : t_lp f (n + 1) s = x := by
  rw [t_lp, h]
  cases x <;> rfl
/-- the number that starts at p0, ends before p and is v may stand there -/
def numOK (tx : List Int32) (p0 p v : Nat) (lo hi : Int32) : Prop := p0 + 1 ≤ p ∧ p ≤ p0 + 3 ∧ (p = p0 + 1 ∨ pk tx p0 ≠ 48) ∧ lo.toInt ≤ v ∧ (v : Int) ≤ hi.toInt
section NUM
variable {xt : mj_X} {ct : Nat → Value} {O : OR} {N z : Nat} {tx : List Int32} {st lv : Nat} {wp : Int32} {lo hi : Int32}
theorem pst_at {H : mj_H} {p : Nat} (h : pst z H tx p st lv wp) (hp : p < tx.length) : uF H (z + 5) 1 3 (.int (Int32.ofNat (p + 1))) = some (mj_put H (z + 5) (.inr (1, [.ref (z + 6), .ref (z + 7), .int (Int32.ofNat tx.length), .int (Int32.ofNat (p + 1)), .int (Int32.ofNat st), .int (Int32.ofNat lv), .int wp]))) ∧ pst z (mj_put H (z + 5) (.inr (1, [.ref (z + 6), .ref (z + 7), .int (Int32.ofNat tx.length), .int (Int32.ofNat (p + 1)), .int (Int32.ofNat st), .int (Int32.ofNat lv), .int wp]))) tx (p + 1) st lv wp := by
  obtain ⟨h1, ⟨cs, h2, h3, h4⟩, ⟨fc, h5, h5'⟩, h6, h7⟩ := h
  refine ⟨by rw [uF_of h1]; rfl, mj_put_eq, ⟨cs, ?_, h3, h4⟩, ⟨fc, ?_, h5'⟩, h6, hp⟩
  · rw [mj_put_ne (by omega)]
    exact h2
  · rw [mj_put_ne (by omega)]
    exact h5
theorem L99_do {x3 : Int32} : ∀ (n p v i : Nat) (G : mj_H), n + p = tx.length → v ≤ 1000 → i ≤ p → pst z G tx p st lv wp → ∃ G', t_lp (B99_11 xt ct O N) (n + 1) (z + 5, lo, hi, x3, Int32.ofNat v, Int32.ofNat i, G) = J99_66 xt ct O N (z + 5) lo hi x3 (Int32.ofNat (scn tx n p v).2) G' ∧ pst z G' tx (scn tx n p v).1 st lv wp ∧ (∀ q, q ≠ z + 5 → G'.1 q = G.1 q) ∧ G'.2 = G.2 ∧ (scn tx n p v).2 ≤ 1000 ∧ p ≤ (scn tx n p v).1 := by
  have b0 : mj_c1 .eq 0 = true := by decide
  have b1 : mj_c1 .eq 1 = false := by decide
  have stop : ∀ (n p v i : Nat) (G : mj_H), pst z G tx p st lv wp → ¬ (48 ≤ (pk tx p).toInt ∧ (pk tx p).toInt < 58) → t_lp (B99_11 xt ct O N) (n + 1) (z + 5, lo, hi, x3, Int32.ofNat v, Int32.ofNat i, G) = J99_66 xt ct O N (z + 5) lo hi x3 (Int32.ofNat v) G := by
    intro n p v i G h hd
    have c95 := C95_do (xt := xt) (ct := ct) (O := O) (N := N) (H := G) (c := pk tx p)
    rw [if_neg hd] at c95
    apply t_lp_map
    cases c : mj_c2 .ge (Int32.ofNat i) 160 with
    | true => simp only [B99_11, c, cond_true]
    | false => simp only [B99_11, c, cond_false, gK_of h.1, C84_do h, c95, b0, cond_true, Option.bind_some]
  intro n
  induction n with
  | zero =>
    intro p v i G hn hv hip h
    have hd : ¬ (48 ≤ (pk tx p).toInt ∧ (pk tx p).toInt < 58) := by
      rcases pk_rng (p := p) h.2.2.2.1 with ⟨e, -⟩ | ⟨-, -, e⟩
      · rw [e, q_0]
        omega
      · omega
    exact ⟨G, stop 0 p v i G h hd, h, fun _ _ => rfl, rfl, hv, Nat.le_refl _⟩
  | succ n ih =>
    intro p v i G hn hv hip h
    by_cases hd : 48 ≤ (pk tx p).toInt ∧ (pk tx p).toInt < 58
    · have hl := h.2.2.2.1.1
      obtain ⟨u1, u2⟩ := pst_at h (by omega)
      have c95 := C95_do (xt := xt) (ct := ct) (O := O) (N := N) (H := G) (c := pk tx p)
      rw [if_pos hd] at c95
      have c : mj_c2 .ge (Int32.ofNat i) 160 = false := i_c2 (by show decide _ = false; apply decide_eq_false; rw [i_nat (by omega), show (160 : Int32).toInt = 160 from rfl]; omega)
      have e10 : (10 : Int32).toInt = 10 := rfl
      have e48 : (48 : Int32).toInt = 48 := rfl
      have ev : (Int32.ofNat v).toInt = v := i_nat (by omega)
      have eM : (Int32.ofNat v * 10).toInt = v * 10 := by rw [i_mul (by rw [e10]; omega) (by rw [e10]; omega), e10, ev]
      have eA : (Int32.ofNat v * 10 + pk tx p).toInt = v * 10 + (pk tx p).toInt := by rw [i_add (by omega) (by omega), eM]
      have eS : (Int32.ofNat v * 10 + pk tx p - 48).toInt = v * 10 + (pk tx p).toInt - 48 := by rw [i_sub (by rw [e48]; omega) (by rw [e48]; omega), e48, eA]
      have c21 : C21 xt ct O N (Int32.ofNat v * 10 + pk tx p - 48) 1000 G = some (Int32.ofNat (min (10 * v + ((pk tx p).toInt - 48).toNat) 1000), G) := by
        unfold C21 J21_10
        by_cases hg : 1000 < v * 10 + (pk tx p).toInt - 48
        · have bg : mj_c2 .gt (Int32.ofNat v * 10 + pk tx p - 48) 1000 = true := i_c2 (by show decide _ = true; apply decide_eq_true; rw [eS, q_1000]; omega)
          rw [bg, show min (10 * v + ((pk tx p).toInt - 48).toNat) 1000 = 1000 by omega]
          rfl
        · have bg : mj_c2 .gt (Int32.ofNat v * 10 + pk tx p - 48) 1000 = false := i_c2 (by show decide _ = false; apply decide_eq_false; rw [eS, q_1000]; omega)
          rw [bg, show Int32.ofNat v * 10 + pk tx p - 48 = Int32.ofNat (min (10 * v + ((pk tx p).toInt - 48).toNat) 1000) from i_eq (by rw [eS]; omega)]
          rfl
      have g3 : gI G (z + 5) 1 3 = some (Int32.ofNat p) := gI_of h.1 rfl
      obtain ⟨G', f1, f2, f3, f4, f5, f6⟩ := ih (p + 1) (min (10 * v + ((pk tx p).toInt - 48).toNat) 1000) (i + 1) _ (by omega) (by omega) (by omega) u2
      have hsc : scn tx (n + 1) p v = scn tx n (p + 1) (min (10 * v + ((pk tx p).toInt - 48).toNat) 1000) := by
        rw [scn, if_pos hd]
      rw [hsc]
      refine ⟨G', ?_, f2, fun q hq => (f3 q hq).trans (mj_put_ne hq), f4, f5, by omega⟩
      rw [t_lp]
      have fB : B99_11 xt ct O N (z + 5, lo, hi, x3, Int32.ofNat v, Int32.ofNat i, G) = some (.inl (z + 5, lo, hi, x3, Int32.ofNat (min (10 * v + ((pk tx p).toInt - 48).toNat) 1000), Int32.ofNat (i + 1), mj_put G (z + 5) (.inr (1, [.ref (z + 6), .ref (z + 7), .int (Int32.ofNat tx.length), .int (Int32.ofNat (p + 1)), .int (Int32.ofNat st), .int (Int32.ofNat lv), .int wp])))) := by
        simp only [B99_11, c, cond_false, gK_of h.1, C84_do h, c95, b1, c21, g3, i_inc (k := p) (by omega), i_inc (k := i) (by omega), u1, Option.bind_some]
      rw [fB]
      exact f1
    · have hsc : scn tx (n + 1) p v = (p, v) := by rw [scn, if_neg hd]
      rw [hsc]
      exact ⟨G, stop _ p v i G h hd, h, fun _ _ => rfl, rfl, hv, Nat.le_refl _⟩
end NUM
