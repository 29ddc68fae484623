/-! THE LAW'S LOOP, ALL OF IT -/
section LPA
variable {xt : mj_X} {ct : Nat → Value} {O : OR} {N d b z B1 B2 L : Nat} {ra : Nat → Nat} {xs : Nat → Int32}
theorem xt_len {h : mj_H} (hx : xt b = some (.int, (List.range L).map (fun j => .int (xs j)))) (h0 : h.1 b = none) : aN xt h b = some (Int32.ofNat L) := by
  unfold aN mj_arr
  rw [h0]
  dsimp only
  rw [hx]
  show some (Int32.ofNat ((List.range L).map (fun j => Value.int (xs j))).length) = _
  rw [List.length_map, List.length_range]
theorem xt_at {h : mj_H} {i : Int32} {n : Nat} (hx : xt b = some (.int, (List.range L).map (fun j => .int (xs j)))) (h0 : h.1 b = none) (hi : i.toInt = n) (hn : n < L) : aI xt h b i = some (xs n) := by
  have ha : mj_arr xt h b = some (.int, (List.range L).map (fun j => .int (xs j))) := by
    unfold mj_arr
    rw [h0]
    exact hx
  have hv : aV xt h kI b i = some (.int (xs n)) := by
    unfold aV
    rw [ha]
    dsimp only
    rw [if_pos ⟨rfl, by omega⟩, show i.toInt.toNat = n by omega]
    exact m_rg hn
  unfold aI
  rw [hv]
  rfl
theorem rm_up {c p k e B : Nat} (h : c + p * (k + 1) + e ≤ B) : (c + p) + p * k + e ≤ B := by
  rw [Nat.mul_succ] at h
  generalize p * k = y at h ⊢
  omega
theorem lw_loop (hct : ct 0 = .int 1) (hf : ∃ o, vtO (ct 1) = some o) (hd : dgZ xt ct z) (hN : 100000000000000000 ≤ N) (hT : TT xt ct N 100 = O) (hO : oOK xt ct d O) (hsep : m_sep (z + 63) ra) (hz : raZ z ra) (hb : b ≤ z) (hL : L ≤ 2048) (hx : xt b = some (.int, (List.range L).map (fun j => .int (xs j)))) : ∀ (k m c1 c2 : Nat) (H : mj_H) (S : mS), L < 4 * (m + k) + 4 → 4 * m ≤ L → invC z c1 c2 H S → md (z + 63) ra S H → H.1 b = none → c1 + 250 * k + 322 ≤ B1 → c2 + 11400 * k + 644 ≤ B2 → LWx xt ct d b z B1 B2 (Int32.ofNat (4 * m)) H := by
  have RN : ∀ h : mj_H, h.1 b = none → aN xt h b = some (Int32.ofNat L) := fun h h0 => xt_len hx h0
  have e4 : (Int32.ofNat L - 4).toInt = (L : Int) - 4 := by
    have q4 : (4 : Int32).toInt = 4 := rfl
    rw [i_sub (by rw [i_nat (by omega), q4]; omega) (by rw [i_nat (by omega), q4]; omega), i_nat (by omega), q4]
  have fin : ∀ (m c1 c2 k : Nat) (H : mj_H) (S : mS), L < 4 * m + 4 → 4 * m ≤ L → invC z c1 c2 H S → H.1 b = none → c1 + 250 * k + 322 ≤ B1 → c2 + 11400 * k + 644 ≤ B2 → LWx xt ct d b z B1 B2 (Int32.ofNat (4 * m)) H := by
    intro m c1 c2 k H S h1 h2 hi h0 r1 r2
    have hlt : mj_c2 .gt (Int32.ofNat (4 * m)) (Int32.ofNat L - 4) = true := i_c2 (by
      show decide _ = true
      apply decide_eq_true
      rw [e4, i_nat (by omega)]
      omega)
    obtain ⟨D, v, bs, tx, mo, π, Ls, LsR, i1, i2, i3, i4, i5, i6, i7, i8, i9, i10, i11, i12, i13, i14⟩ := hi
    have hbs := i4.2.2.2.1
    exact ⟨H, law_end RN hlt h0, by omega, by omega⟩
  intro k
  induction k with
  | zero => intro m c1 c2 H S h1 h2 hi hm h0 r1 r2; exact fin m c1 c2 0 H S (by omega) h2 hi h0 r1 r2
  | succ k ih =>
    intro m c1 c2 H S h1 h2 hi hm h0 r1 r2
    have r1' : (c1 + 250) + 250 * k + 322 ≤ B1 := rm_up r1
    have r2' : (c2 + 11400) + 11400 * k + 644 ≤ B2 := rm_up r2
    by_cases hc : 4 * m + 4 ≤ L
    · have hlt : mj_c2 .gt (Int32.ofNat (4 * m)) (Int32.ofNat L - 4) = false := i_c2 (by
        show decide _ = false
        apply decide_eq_false
        rw [e4, i_nat (by omega)]
        omega)
      have ad : ∀ (x : Int32) (n : Nat), x.toInt = n → n ≤ 4 → (Int32.ofNat (4 * m) + x).toInt = ((4 * m + n : Nat) : Int) := fun x n e1 e2 => by
        rw [i_add (by rw [i_nat (by omega), e1]; omega) (by rw [i_nat (by omega), e1]; omega), i_nat (by omega), e1]
        omega
      have n4 : Int32.ofNat (4 * m) + 4 = Int32.ofNat (4 * (m + 1)) := i_eq (ad 4 4 rfl (by omega))
      refine lw_step hct hf hd hN hT hO hsep hz hb RN hlt (fun h e => xt_at (n := 4 * m) hx e (i_nat (by omega)) (by omega)) (fun h e => xt_at hx e (ad 1 1 rfl (by omega)) (by omega)) (fun h e => xt_at hx e (ad 2 2 rfl (by omega)) (by omega)) (fun h e => xt_at hx e (ad 3 3 rfl (by omega)) (by omega)) h0 hi hm (fun H' S' j1 j2 j3 => ?_)
      rw [n4]
      exact ih (m + 1) (c1 + 250) (c2 + 11400) H' S' (by omega) (by omega) j1 j2 j3 r1' r2'
    · exact fin m c1 c2 (k + 1) H S (by omega) h2 hi h0 r1 r2
end LPA
