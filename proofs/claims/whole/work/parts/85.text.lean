/-! THE TEXT: a StringBuilder at t, its bytes at v, the characters tx -/
def sb (H : mj_H) (t v : Nat) (bs : List Value) (tx : List Int32) : Prop := (∃ m, H.1 t = some (.inr (0, [.ref v, .int 0, .int m, .int (Int32.ofNat tx.length)]))) ∧ H.1 v = some (.inl (.byte, bs)) ∧ t ≠ v ∧ tx.length ≤ bs.length ∧ bs.length ≤ 100000 ∧ bs.all (fun v => fits .byte v) = true ∧ bs.take tx.length = tx.map Value.int
section TXT
variable {xt : mj_X} {ct : Nat → Value} {O : OR} {N : Nat} {H : mj_H} {t v : Nat} {bs : List Value} {tx : List Int32}
theorem C10_sb (h : sb H t v bs tx) : C10 xt ct O N t H = some (Int32.ofNat tx.length, H) := by
  obtain ⟨⟨m, h1⟩, -⟩ := h
  unfold C10 C11
  rw [gC_of h1, gI_of h1 rfl]
  rfl
/-- there is room for so many -/
theorem C15_ok' {x1 : Int32} (h : sb H t v bs tx) (hx : x1.toInt ≤ bs.length) (hm : -1000 ≤ x1.toInt) : C15 xt ct O N t x1 H = some H := by
  obtain ⟨⟨m, h1⟩, h2, -, -, h5, -⟩ := h
  unfold C15
  rw [gA_of h1 rfl, gI_of h1 rfl]
  show (aN xt H v).bind _ = _
  rw [aN_of h2]
  show (bif mj_c1 .le (x1 - (Int32.ofNat bs.length >>> ((0 : Int32) &&& 31))) then J15_38 xt ct O N H else _) = _
  have e1 : (Int32.ofNat bs.length).toInt = bs.length := i_nat (by omega)
  rw [i_shr0, show mj_c1 .le (x1 - Int32.ofNat bs.length) = true from i_c1 (by
    show decide _ = true
    apply decide_eq_true
    rw [i_sub (by omega) (by omega)]
    omega)]
  rfl
theorem C38_0 (h : sb H t v bs tx) : ∃ H', C38 xt ct O N t 0 H = some H' ∧ sb H' t v bs [] ∧ (∀ q, q ≠ t → H'.1 q = H.1 q) ∧ H'.2 = H.2 := by
  have hc := C15_ok' (xt := xt) (ct := ct) (O := O) (N := N) (x1 := 0) h (by rw [q_0]; omega) (by rw [q_0]; omega)
  obtain ⟨⟨m, h1⟩, h2, h3, h4, h5, h6, h7⟩ := h
  have e1 : (Int32.ofNat tx.length).toInt = tx.length := i_nat (by omega)
  have g3 : gI H t 0 3 = some (Int32.ofNat tx.length) := gI_of h1 rfl
  have c1 : mj_c1 .ge 0 = true := by decide
  have c2 : mj_c2 .ge (Int32.ofNat tx.length) 0 = true := i_c2 (by
    show decide _ = true
    apply decide_eq_true
    rw [q_0, e1]
    omega)
  simp only [C38, c1, c2, gK_of h1, hc, g3, Option.bind_some, cond_true]
  have fin : ∀ (G : mj_H) (m : Int32), G.1 t = some (.inr (0, [.ref v, .int 0, .int m, .int (Int32.ofNat tx.length)])) → (∀ q, q ≠ t → G.1 q = H.1 q) → G.2 = H.2 → ∃ H', J38_76 xt ct O N t 0 G = some H' ∧ sb H' t v bs [] ∧ (∀ q, q ≠ t → H'.1 q = H.1 q) ∧ H'.2 = H.2 := by
    intro G m g1 g2 g3
    unfold J38_76
    rw [uF_of g1]
    refine ⟨_, rfl, ⟨⟨m, mj_put_eq⟩, ?_, h3, Nat.zero_le _, h5, h6, rfl⟩, fun q hq => ?_, g3⟩
    · rw [mj_put_ne (fun z => h3 z.symm), g2 _ (fun z => h3 z.symm)]
      exact h2
    · rw [mj_put_ne hq, g2 _ hq]
  cases hb : mj_c2 .le (Int32.ofNat tx.length) 0 with
  | true => exact fin H m h1 (fun _ _ => rfl) rfl
  | false =>
    rw [uF_of h1]
    exact fin _ 1 mj_put_eq (fun q hq => mj_put_ne hq) rfl
theorem C37_0 (h : sb H t v bs tx) : ∃ H', C37 xt ct O N t 0 H = some H' ∧ sb H' t v bs [] ∧ (∀ q, q ≠ t → H'.1 q = H.1 q) ∧ H'.2 = H.2 := by
  obtain ⟨H', e1, e2⟩ := C38_0 (xt := xt) (ct := ct) (O := O) (N := N) h
  obtain ⟨⟨m, h1⟩, -⟩ := h
  refine ⟨H', ?_, e2⟩
  unfold C37
  rw [gC_of h1]
  show (C38 xt ct O N t 0 H).bind _ = _
  rw [e1]
  rfl
theorem cpy_len {xs ys : List Value} {sp dp n : Nat} : (mj_cpy xs ys sp dp n).length = ys.length := by simp [mj_cpy]
theorem cpy_get {xs ys : List Value} {n k : Nat} (h : k < ys.length) : (mj_cpy xs ys 0 0 n)[k]? = some (if k < n then xs.getD k .null else ys.getD k .null) := by
  unfold mj_cpy
  rw [List.getElem?_map, List.getElem?_range h]
  simp
theorem cpy_take {xs ys : List Value} {n : Nat} (h1 : n ≤ xs.length) (h2 : n ≤ ys.length) : (mj_cpy xs ys 0 0 n).take n = xs.take n := by
  apply List.ext_getElem?
  intro k
  rw [List.getElem?_take, List.getElem?_take]
  by_cases hk : k < n
  · rw [if_pos hk, if_pos hk, cpy_get (by omega), if_pos hk, List.getD_eq_getElem?_getD, List.getElem?_eq_getElem (by omega)]
    rfl
  · rw [if_neg hk, if_neg hk]
theorem cpy_fit {xs ys : List Value} {n : Nat} {p : Value → Bool} (h1 : n ≤ xs.length) (hx : xs.all p = true) (hy : ys.all p = true) : (mj_cpy xs ys 0 0 n).all p = true := by
  rw [List.all_eq_true] at hx hy ⊢
  intro w hw
  obtain ⟨k, hk⟩ := List.getElem?_of_mem hw
  have hl : k < ys.length := by
    have := (List.getElem?_eq_some_iff.mp hk).1
    rw [cpy_len] at this
    exact this
  rw [cpy_get hl] at hk
  cases hk
  by_cases hn : k < n
  · rw [if_pos hn, List.getD_eq_getElem?_getD, List.getElem?_eq_getElem (by omega)]
    exact hx _ (List.getElem_mem _)
  · rw [if_neg hn, List.getD_eq_getElem?_getD, List.getElem?_eq_getElem hl]
    exact hy _ (List.getElem_mem _)
end TXT
