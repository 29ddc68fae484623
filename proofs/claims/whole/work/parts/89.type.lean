/-! TYPING -/
/-- the object itself -/
def cx (z : Nat) (H : mj_H) : Prop := H.1 (z + 1) = some (.inr (5, [.ref (z + 2), .ref (z + 4), .ref (z + 5), .ref (z + 8)]))
/-- where the text's bytes may lie -/
def cv_ (z : Nat) (H : mj_H) (v : Nat) : Prop := (v = z + 3 ∨ z + 107 ≤ v) ∧ v < H.2.1 ∧ z + 107 ≤ H.2.1
/-- what the text leaves behind are rows of bytes -/
def txN (z : Nat) (H : mj_H) (v : Nat) (H' : mj_H) : Prop := v < H.2.1 ∧ z + 2 < H.2.1 ∧ v ≠ z + 2 ∧ (∃ l, H'.1 v = some (.inl (.byte, l))) ∧ ∀ q, H.2.1 ≤ q → q < H'.2.1 → ∃ l, H'.1 q = some (.inl (.byte, l))
theorem txN_1 {z : Nat} {H H' : mj_H} {v v' : Nat} {bs bs' : List Value} {tx tx' : List Int32} (hs : sb H (z + 2) v bs tx) (hv : cv_ z H v) (hs' : sb H' (z + 2) v' bs' tx') (h : (H'.2.1 = H.2.1 ∧ v' = v) ∨ (H'.2.1 = H.2.1 + 1 ∧ v' = H.2.1 ∧ H'.1 v = H.1 v)) : txN z H v H' := by
  obtain ⟨v1, v2, v3⟩ := hv
  refine ⟨v2, by omega, by omega, ?_, fun q q1 q2 => ?_⟩
  · rcases h with ⟨-, e⟩ | ⟨-, -, e⟩
    · rw [← e]; exact ⟨_, hs'.2.1⟩
    · rw [e]; exact ⟨_, hs.2.1⟩
  · rcases h with ⟨e, -⟩ | ⟨e1, e2, -⟩
    · omega
    · have : q = v' := by omega
      rw [this]; exact ⟨_, hs'.2.1⟩
/-- the text's cells, from one heap to a later one -/
def tstep (z : Nat) (H : mj_H) (v : Nat) (bs : List Value) (H' : mj_H) (v' : Nat) (bs' : List Value) : Prop := (∀ q, q ≠ z + 2 → q ≠ v → q < H.2.1 → H'.1 q = H.1 q) ∧ (v' = v ∨ H.2.1 ≤ v') ∧ v' < H'.2.1 ∧ H.2.1 ≤ H'.2.1 ∧ H'.2.2 + 2 * bs.length ≤ H.2.2 + 2 * bs'.length ∧ H'.2.1 + bs.length ≤ H.2.1 + bs'.length ∧ (bs.length ≤ 322 → bs'.length ≤ 322) ∧ H.2.2 ≤ H'.2.2 ∧ txN z H v H'
theorem tstep_refl {z : Nat} {H : mj_H} {v : Nat} {bs : List Value} {tx : List Int32} (hs : sb H (z + 2) v bs tx) (hv : cv_ z H v) : tstep z H v bs H v bs := ⟨fun _ _ _ _ => rfl, Or.inl rfl, hv.2.1, Nat.le_refl _, Nat.le_refl _, Nat.le_refl _, id, Nat.le_refl _, txN_1 hs hv hs (Or.inl ⟨rfl, rfl⟩)⟩
theorem tstep_trans {z : Nat} {H H1 H2 : mj_H} {v v1 v2 : Nat} {bs bs1 bs2 : List Value} (x : tstep z H v bs H1 v1 bs1) (y : tstep z H1 v1 bs1 H2 v2 bs2) : tstep z H v bs H2 v2 bs2 := by
  obtain ⟨x1, x2, x3, x4, x5, x6, x7, x8, u1, u2, u3, u4, u5⟩ := x
  obtain ⟨y1, y2, y3, y4, y5, y6, y7, y8, w1, w2, w3, w4, w5⟩ := y
  refine ⟨fun q q1 q2 q3 => ?_, ?_, y3, by omega, by omega, by omega, fun h => y7 (x7 h), by omega, u1, u2, u3, ?_, fun q q1 q2 => ?_⟩
  · rw [y1 q q1 (by omega) (by omega), x1 q q1 q2 q3]
  · omega
  · by_cases e : v = v1
    · rw [e]; exact w4
    · rw [y1 v u3 e (by omega)]; exact u4
  · by_cases e : q < H1.2.1
    · by_cases e1 : q = v1
      · rw [e1]; exact w4
      · rw [y1 q (by omega) e1 e]; exact u5 q q1 e
    · exact w5 q (by omega) q2
def ty_b (w : Int64) (i : Int32) : Int32 := ((w >>> (((8 * i) : Int32).toInt64 &&& 63)) : Int64).toInt32 &&& 255
def ty_ok (w : Int64) (i : Int32) : Prop := mj_c2 .lt (ty_b w i) 33 = false ∧ mj_c2 .le (ty_b w i) 126 = true
def tyl (w : Int64) : Nat → List Int32
  | 0 => []
  | k + 1 => ty_b w (Int32.ofNat k) :: tyl w k
theorem tyl_len (w : Int64) : ∀ k, (tyl w k).length = k
  | 0 => rfl
  | k + 1 => by rw [tyl, List.length_cons, tyl_len w k]
theorem ty_rng {w : Int64} {i : Int32} (h : ty_ok w i) : 33 ≤ (ty_b w i).toInt ∧ (ty_b w i).toInt ≤ 126 := by
  obtain ⟨h1, h2⟩ := h
  have h1 := of_decide_eq_false h1
  have h2 := of_decide_eq_true h2
  rw [Int32.lt_iff_toInt_lt, q_33] at h1
  rw [Int32.le_iff_toInt_le, q_126] at h2
  omega
theorem i_c16 {c : Int32} (h : 0 ≤ c.toInt ∧ c.toInt ≤ 65535) : ((c : Int32).toUInt32 % 65536).toInt32 = c := by
  apply Int32.toInt_inj.mp
  have w1 : ((c : Int32).toUInt32 % 65536).toInt32.toBitVec.toNat = c.toBitVec.toNat % 65536 := by
    show (c.toBitVec % 65536#32).toNat = _
    rw [BitVec.toNat_umod]
    rfl
  have w2 : c.toBitVec.toInt = c.toInt := rfl
  have w3 := BitVec.toInt_eq_toNat_cond c.toBitVec
  have w4 : c.toBitVec.toNat < 2 ^ 32 := c.toBitVec.isLt
  rw [w2] at w3
  show ((c : Int32).toUInt32 % 65536).toInt32.toBitVec.toInt = _
  rw [BitVec.toInt_eq_toNat_of_lt (by rw [w1]; omega), w1]
  split at w3 <;> omega
theorem i_dec {k : Nat} (h : k < 1000000) : Int32.ofNat (k + 1) - 1 = Int32.ofNat k ∧ Int32.ofNat k + (-1) = Int32.ofNat k - 1 := by
  constructor
  · apply Int32.toInt_inj.mp
    rw [i_sub (by rw [i_nat (by omega), q_1]; omega) (by rw [i_nat (by omega), q_1]; omega), i_nat (by omega), i_nat (by omega), q_1]
    omega
  · apply Int32.toInt_inj.mp
    rw [i_add (by rw [i_nat (by omega), q_m1]; omega) (by rw [i_nat (by omega), q_m1]; omega), i_sub (by rw [i_nat (by omega), q_1]; omega) (by rw [i_nat (by omega), q_1]; omega), i_nat (by omega), q_1, q_m1]
    omega
theorem i_inc {k : Nat} (h : k < 1000000) : Int32.ofNat k + 1 = Int32.ofNat (k + 1) := by
  apply Int32.toInt_inj.mp
  rw [i_add (by rw [i_nat (by omega), q_1]; omega) (by rw [i_nat (by omega), q_1]; omega), i_nat (by omega), i_nat (by omega), q_1]
  omega
section TYP
variable {xt : mj_X} {ct : Nat → Value} {O : OR} {N z : Nat} {w : Int64}
/-- the object's text grows by k characters -/
theorem L9_76_do : ∀ (k : Nat) (H : mj_H) (v : Nat) (bs : List Value) (tx : List Int32), k ≤ 8 → cx z H → sb H (z + 2) v bs tx → cv_ z H v → tx.length + k ≤ 160 → (∀ j, j < k → ty_ok w (Int32.ofNat j)) → ∃ H' v' bs', t_lp (B9_76 xt ct O N) (k + 1) (z + 1, w, Int32.ofNat k - 1, H) = some (Int32.ofNat (tx.length + k), H') ∧ sb H' (z + 2) v' bs' (tx ++ tyl w k) ∧ tstep z H v bs H' v' bs' := by
  intro k
  induction k with
  | zero =>
    intro H v bs tx _ hx hs hv _ _
    refine ⟨H, v, bs, ?_, by rw [tyl, List.append_nil]; exact hs, tstep_refl hs hv⟩
    have b : mj_c1 .lt (Int32.ofNat 0 - 1) = true := by decide
    have g0 : gA H (z + 1) 5 0 = some (z + 2) := gA_of hx rfl
    obtain ⟨⟨m, h1⟩, -⟩ := id hs
    rw [t_lp]
    simp only [B9_76, b, cond_true, g0, gK_of h1, C10_sb hs, Option.bind_some]
    rfl
  | succ k ih =>
    intro H v bs tx hk hx hs hv hl hok
    have hr := ty_rng (hok k (Nat.lt_succ_self _))
    obtain ⟨H1, v1, bs1, a1, a2, a3, a4, a5, a6⟩ := C13_sb (xt := xt) (ct := ct) (O := O) (N := N) hs hv.2.1 (by have := hv.2.2; omega) (by omega) (c := ty_b w (Int32.ofNat k)) (by omega)
    obtain ⟨⟨m, h1⟩, h2, h3, h4, h5, -⟩ := id hs
    have st1 : tstep z H v bs H1 v1 bs1 := by
      have n1 : txN z H v H1 := txN_1 hs hv a2 (by
        rcases a6 with ⟨p1, -⟩ | ⟨-, p2, -, p4, p5⟩
        · rw [p1] at a4
          exact Or.inl ⟨by rw [p1], by omega⟩
        · exact Or.inr ⟨by rw [p2], p4, p5⟩)
      rcases a6 with ⟨p1, p2⟩ | ⟨p1, p2, p3, -, -⟩
      · refine ⟨fun q q1 q2 q3 => a3 q q1 q2 (by omega), by omega, a4, by rw [p1]; exact Nat.le_refl _, by rw [p1]; omega, by rw [p1]; omega, by omega, by rw [p1]; exact Nat.le_refl _, n1⟩
      · refine ⟨fun q q1 q2 q3 => a3 q q1 q2 (by omega), by omega, a4, by rw [p2]; exact Nat.le_succ _, by rw [p2]; dsimp only; omega, by rw [p2]; dsimp only; omega, by omega, by rw [p2]; dsimp only; omega, n1⟩
    have hx1 : cx z H1 := by
      have hv1 := hv.1
      have hv2 := hv.2.2
      unfold cx
      rw [st1.1 (z + 1) (by omega) (by omega) (by omega)]
      exact hx
    have hv1 : cv_ z H1 v1 := by
      obtain ⟨-, s2, s3, s4, -⟩ := st1
      obtain ⟨u1, u2, u3⟩ := hv
      exact ⟨by omega, s3, by omega⟩
    obtain ⟨H2, v2, bs2, b1, b2, b3⟩ := ih H1 v1 bs1 (tx ++ [ty_b w (Int32.ofNat k)]) (by omega) hx1 a2 hv1 (by rw [List.length_append]; simp; omega) (fun j hj => hok j (by omega))
    refine ⟨H2, v2, bs2, ?_, ?_, tstep_trans st1 b3⟩
    · obtain ⟨d1, d2⟩ := i_dec (k := k) (by omega)
      have b : mj_c1 .lt (Int32.ofNat k) = false := i_c1 (by show decide _ = false; apply decide_eq_false; rw [i_nat (by omega)]; omega)
      have g0 : gA H (z + 1) 5 0 = some (z + 2) := gA_of hx rfl
      have c12 : C12 xt ct O N w (Int32.ofNat k) H = some (ty_b w (Int32.ofNat k), H) := rfl
      rw [t_lp, d1]
      have fB : B9_76 xt ct O N (z + 1, w, Int32.ofNat k, H) = some (.inl (z + 1, w, Int32.ofNat k - 1, H1)) := by
        simp only [B9_76, b, cond_false, g0, c12, gK_of h1, i_c16 (c := ty_b w (Int32.ofNat k)) (by omega), a1, d2, Option.bind_some]
      rw [fB]
      dsimp only
      rw [b1, List.length_append]
      rw [show tx.length + [ty_b w (Int32.ofNat k)].length + k = tx.length + (k + 1) by simp; omega]
    · rw [tyl]
      rw [List.append_assoc] at b2
      exact b2
/-- the check: all well, or not -/
theorem L9_33_do {H : mj_H} {n : Nat} (hn : n ≤ 8) (hN : 100 ≤ N) {r0 : Int32 × mj_H} (h76 : (∀ j, j < n → ty_ok w (Int32.ofNat j)) → L9_76 xt ct O N (z + 1, w, Int32.ofNat n - 1, H) = some r0) : ∃ r, L9_33 xt ct O N (z + 1, w, Int32.ofNat n, 0, H) = some r ∧ (((∀ j, j < n → ty_ok w (Int32.ofNat j)) ∧ r = r0) ∨ ((¬ ∀ j, j < n → ty_ok w (Int32.ofNat j)) ∧ r = (-1000, H))) := by
  have e0 : ∀ i, i ≤ 8 → (Int32.ofNat i).toInt = i := fun i hi => i_nat (by omega)
  unfold L9_33
  refine t_lp_do (I := fun k s => ∃ i, i + k = n ∧ s = (z + 1, w, Int32.ofNat n, Int32.ofNat i, H) ∧ ∀ j, j < i → ty_ok w (Int32.ofNat j)) (k := n) ?_ ?_ (by omega) ⟨0, by omega, rfl, fun j hj => absurd hj (Nat.not_lt_zero _)⟩
  · rintro k s ⟨i, hi, rfl, hok⟩
    have b1 : mj_c2 .ge (Int32.ofNat i) (Int32.ofNat n) = false := i_c2 (by show decide _ = false; apply decide_eq_false; rw [e0 i (by omega), e0 n hn]; omega)
    have c12 : C12 xt ct O N w (Int32.ofNat i) H = some (ty_b w (Int32.ofNat i), H) := rfl
    cases h1 : mj_c2 .lt (ty_b w (Int32.ofNat i)) 33 with
    | true =>
      refine Or.inr ⟨(-1000, H), ?_, Or.inr ⟨fun z => ?_, rfl⟩⟩
      · simp only [B9_33, b1, cond_false, c12, h1, cond_true, J9_61, Option.bind_some, Option.map_some]
      · have := (z i (by omega)).1
        rw [h1] at this
        cases this
    | false =>
      cases h2 : mj_c2 .le (ty_b w (Int32.ofNat i)) 126 with
      | true =>
        refine Or.inl ⟨(z + 1, w, Int32.ofNat n, Int32.ofNat (i + 1), H), ?_, i + 1, by omega, rfl, fun j hj => ?_⟩
        · simp only [B9_33, b1, cond_false, c12, h1, h2, cond_true, Option.bind_some, i_inc (k := i) (by omega)]
        · by_cases e : j = i
          · subst e
            exact ⟨h1, h2⟩
          · exact hok j (by omega)
      | false =>
        refine Or.inr ⟨(-1000, H), ?_, Or.inr ⟨fun z => ?_, rfl⟩⟩
        · simp only [B9_33, b1, cond_false, c12, h1, h2, J9_61, Option.bind_some, Option.map_some]
        · have := (z i (by omega)).2
          rw [h2] at this
          cases this
  · rintro s ⟨i, hi, rfl, hok⟩
    have hi : i = n := by omega
    subst hi
    have b1 : mj_c2 .ge (Int32.ofNat i) (Int32.ofNat i) = true := i_c2 (by show decide _ = true; apply decide_eq_true; omega)
    refine ⟨r0, ?_, Or.inl ⟨hok, rfl⟩⟩
    simp only [B9_33, b1, cond_true, h76 hok, Option.map_some]
end TYP
