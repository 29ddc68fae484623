section DL2
variable {xt : mj_X} {ct : Nat → Value} {O : OR} {N z : Nat} {mo : Int32}
theorem dcO_un {H : mj_H} {a n m k n' m' k' : Nat} {how keep pick how' keep' pick' : Int32} {w fv w' fv' : Value} (h : dcO H a n m pick k w fv) (h' : dcO H a n' m' pick' k' w' fv') (o : dcOK n m how keep pick k) (o' : dcOK n' m' how' keep' pick' k') : n = n' ∧ m = m' ∧ pick = pick' ∧ k = k' ∧ w = w' := by
  unfold dcO at h h'
  rw [h] at h'
  have e := List.cons.inj (Prod.mk.inj (Sum.inr.inj (Option.some.inj h'))).2
  have e2 := List.cons.inj e.2
  have e3 := List.cons.inj e2.2
  have e4 := List.cons.inj e3.2
  have e5 := List.cons.inj e4.2
  have kb : ∀ {n m k : Nat} {how keep pick : Int32}, dcOK n m how keep pick k → k ≤ 6 := by
    intro n m k how keep pick o
    obtain ⟨o1, o2, o3⟩ := o
    rcases o3 with ⟨-, -, -, q⟩ | ⟨-, -, -, q, -⟩ | ⟨-, -, q, -⟩ <;> omega
  have k1 := kb o
  have k2 := kb o'
  obtain ⟨⟨a1, a2⟩, ⟨a3, a4⟩, -⟩ := o
  obtain ⟨⟨b1, b2⟩, ⟨b3, b4⟩, -⟩ := o'
  exact ⟨n_inj (by omega) (by omega) (Value.int.inj e.1), n_inj (by omega) (by omega) (Value.int.inj e2.1), Value.int.inj e3.1, n_inj (by omega) (by omega) (Value.int.inj e4.1), e5.1⟩
theorem nulB_inl {e : mj_E} {t : FieldType} {xs : List Value} (h : e = .inl (t, xs)) : nulB (some e) = false := by rw [h]; rfl
/-- dice keep their ways -/
theorem keep_do {D : List Nat} {H G1 : mj_H} {a n m k : Nat} {how keep pick : Int32} {fv : Value} (ha : z + 107 ≤ a) (haB : a < H.2.1) (hok : dcOK n m how keep pick k) (hd : dcO H a n m pick k .null fv) (hS : lyS z D H) (h1 : LR G1 H.2.1 (dcL m pick k) (fun s => Int64.ofNat (dW n m pick k s))) (h2 : ∀ q, q ≠ H.2.1 → ¬ (z + 15 ≤ q ∧ q ≤ z + 21) → G1.1 q = H.1 q) (h3 : tly z G1) (h4 : G1.2.1 = H.2.1 + 1) (h5 : G1.2.2 ≤ H.2.2 + 121) : ∃ G2, uF G1 a 8 4 (.ref H.2.1) = some G2 ∧ dcO G2 a n m pick k (.ref H.2.1) fv ∧ LR G2 H.2.1 (dcL m pick k) (fun s => Int64.ofNat (dW n m pick k s)) ∧ lyF z D H G2 ∧ lyS z D G2 ∧ (∀ q, z + 8 ≤ q → q ≤ z + 13 → G2.1 q = H.1 q) := by
  obtain ⟨c1, c2, c3, c4⟩ := hS
  have d1 : dcO G1 a n m pick k .null fv := (h2 a (by omega) (by omega)).trans hd
  obtain ⟨G2, hG2⟩ : ∃ G2, mj_put G1 a (.inr (8, [.int (Int32.ofNat n), .int (Int32.ofNat m), .int pick, .int (Int32.ofNat k), .ref H.2.1, fv])) = G2 := ⟨_, rfl⟩
  have u : uF G1 a 8 4 (.ref H.2.1) = some G2 := by rw [uF_of d1, ← hG2]; rfl
  have ea : dcO G2 a n m pick k (.ref H.2.1) fv := by rw [← hG2]; exact mj_put_eq
  have ne : ∀ q, q ≠ a → G2.1 q = G1.1 q := fun q hq => by rw [← hG2]; exact mj_put_ne hq
  have n1 : G2.2.1 = H.2.1 + 1 := by rw [← hG2]; exact h4
  have n2 : G2.2.2 = G1.2.2 := by rw [← hG2]; rfl
  have row : LR G2 H.2.1 (dcL m pick k) (fun s => Int64.ofNat (dW n m pick k s)) := LR_fr h1 (ne _ (by omega))
  have t2 : tly z G2 := ⟨(ne _ (by omega)).trans h3.1, fun p hp => by
    obtain ⟨X, hX⟩ := h3.2 p hp
    exact ⟨X, LR_fr hX (ne _ (by omega))⟩⟩
  have old : ∀ q, q ≠ a → q ≠ H.2.1 → ¬ (z + 15 ≤ q ∧ q ≤ z + 21) → G2.1 q = H.1 q := fun q q1 q2 q3 => (ne q q1).trans (h2 q q2 q3)
  have nH : nulB (H.1 a) = true := by rw [hd]; rfl
  have nG : nulB (G2.1 a) = false := by rw [ea]; rfl
  have nr : nulB (G2.1 H.2.1) = false := by rw [show G2.1 H.2.1 = _ from row]; rfl
  have nt : ∀ q, z + 15 ≤ q → q ≤ z + 21 → nulB (G2.1 q) = false := fun q q1 q2 => by
    obtain ⟨X, hX⟩ := t2.2 (q - (z + 15)) (by omega)
    rw [show z + 15 + (q - (z + 15)) = q by omega] at hX
    rw [show G2.1 q = _ from hX]
    rfl
  have nul : ∀ q, q ≠ a → nulB (G2.1 q) = true → nulB (H.1 q) = true := fun q q1 q2 => by
    by_cases e : q = H.2.1
    · rw [e, nr] at q2; cases q2
    · by_cases e2 : z + 15 ≤ q ∧ q ≤ z + 21
      · rw [nt q e2.1 e2.2] at q2; cases q2
      · rw [old q q1 e e2] at q2; exact q2
  have pd := (pot_down nH nG nul D).2 (c2 a ha haB nH)
  refine ⟨G2, u, ea, row, ⟨fun q q1 q2 q3 => ?_, by omega, by omega, by omega⟩, ⟨?_, fun q q1 q2 q3 => ?_, t2, by omega⟩, fun q q1 q2 => old q (by omega) (by omega) (by omega)⟩
  · by_cases e : q = a
    · refine Or.inr ⟨by omega, ?_⟩
      rw [e]
      exact ⟨_, _, _, _, _, _, _, hd, ea⟩
    · exact Or.inl (old q e (by omega) q3)
  · intro a' n' m' how' keep' pick' k' w' fv' x1 x2 x3 x4
    by_cases e : a' = a
    · subst e
      obtain ⟨e1, e2, e3, e4, e5⟩ := dcO_un ea x4 hok x3
      subst e1 e2 e3 e4
      exact Or.inr ⟨H.2.1, e5.symm, c4, by omega, row⟩
    · by_cases e2 : a' = H.2.1
      · unfold dcO at x4
        rw [e2, show G2.1 H.2.1 = _ from row] at x4
        cases x4
      · have x4' : dcO H a' n' m' pick' k' w' fv' := (old a' e e2 (by omega)).symm.trans x4
        rcases c1 a' n' m' how' keep' pick' k' w' fv' x1 (by omega) x3 x4' with y | ⟨r, y1, y2, y3, y4⟩
        · exact Or.inl y
        · refine Or.inr ⟨r, y1, y2, by omega, LR_fr y4 (old r (fun q => ?_) (by omega) (by omega))⟩
          unfold LR at y4
          rw [q, show H.1 a = _ from hd] at y4
          cases y4
  · have e : q ≠ a := fun e => by rw [e, nG] at q3; cases q3
    have e2 : q ≠ H.2.1 := fun e => by rw [e, nr] at q3; cases q3
    exact c2 q q1 (by omega) (nul q e q3)
/-- dice laid on the bench -/
theorem C142_do (hN : 100000 ≤ N) {D : List Nat} (hD : ∀ q ∈ D, z + 107 ≤ q) {H : mj_H} {a n m k x2 : Nat} {x3 how keep pick : Int32} {w fv : Value} {r : List Sp} (ha : z + 107 ≤ a) (haB : a < H.2.1) (hok : dcOK n m how keep pick k) (hd : dcO H a n m pick k w fv) (hS : lyS z D H) (hb : bst z H r mo) (hn : r.length < 40) (hroom : szS (dcS (dW n m pick k) 121 :: r) ≤ 4598) : ∃ G, C142 xt ct O N a (z + 8) x2 x3 H = some (1, G) ∧ bst z G (dcS (dW n m pick k) 121 :: r) mo ∧ lyF z D H G ∧ lyS z D G := by
  have hl := dcOK_len hok
  rw [dcS_dW hok] at hroom ⊢
  have wb : ∀ s, s < dcL m pick k → dW n m pick k s ≤ 2147483648 := fun s hs => Nat.le_trans (dW_le hok (by omega)) (by decide)
  -- the ways not counted yet
  have fin : ∀ G1 : mj_H, LR G1 H.2.1 (dcL m pick k) (fun s => Int64.ofNat (dW n m pick k s)) → (∀ q, q ≠ H.2.1 → ¬ (z + 15 ≤ q ∧ q ≤ z + 21) → G1.1 q = H.1 q) → tly z G1 → G1.2.1 = H.2.1 + 1 → G1.2.2 ≤ H.2.2 + 121 → w = .null → ∃ G, J142_32 xt ct O N a (z + 8) H.2.1 a G1 = some (1, G) ∧ bst z G (dcS (dW n m pick k) (dcL m pick k) :: r) mo ∧ lyF z D H G ∧ lyS z D G := by
    intro G1 h1 h2 h3 h4 h5 hw
    subst hw
    obtain ⟨G2, u1, u2, u3, u4, u5, u6⟩ := keep_do ha haB hok hd hS h1 h2 h3 h4 h5
    obtain ⟨G, b1, b2, b3⟩ := J142_do (xt := xt) (ct := ct) (O := O) (N := N) hN ha hS.2.2.2 u2 u3 hl wb (bst_fr hb u6) hn hroom
    refine ⟨G, ?_, b2, lyF_trans u4 (lyF_b b3 hD), lyS_b u5 b3⟩
    simp only [J142_32, u1, b1, Option.bind_some]
  rcases hS.1 a n m how keep pick k w fv ha haB hok hd with e | ⟨rr, e, r1, r2, r3⟩
  · have g4 : gR H a 8 4 = some none := gR_of (x := none) hd (by rw [e]; rfl)
    have g2 : gI H a 8 2 = some pick := gI_of hd rfl
    have k0 : gK H a 8 = some () := gK_of hd
    have g7 : gA H (z + 8) 3 7 = some (z + 14) := gA_of hb.1 rfl
    have nn : (!Option.isNone (none : Option Nat)) = false := rfl
    by_cases hp : pick = 101
    · have c : mj_c2 .ne pick 101 = false := decide_eq_false (fun q => q hp)
      have kb : 2 ≤ m ∧ m ≤ 20 := hok.2.1
      have kk : k ≤ 3 := by
        obtain ⟨o1, o2, o3⟩ := hok
        rcases o3 with ⟨-, -, q, -⟩ | ⟨-, -, -, q, -⟩ | ⟨q0, q, -, -⟩
        · rw [hp] at q; exact absurd q (by decide)
        · omega
        · rw [hp] at q; rw [← q] at q0; exact absurd q0 (by decide)
      obtain ⟨G1, a1, a2, a3, a4, a5⟩ := C143_do (xt := xt) (ct := ct) (O := O) (N := N) (by omega) haB kb kk hd
      have a2' : LR G1 H.2.1 (dcL m pick k) (fun s => Int64.ofNat (dW n m pick k s)) := by
        unfold dcL dW
        rw [if_pos hp]
        simp only [if_pos hp]
        exact a2
      have t1 : tly z G1 := ⟨(a3 _ (by have := hS.2.2.2; omega)).trans hS.2.2.1.1, fun p hp => by
        obtain ⟨X, hX⟩ := hS.2.2.1.2 p hp
        exact ⟨X, LR_fr hX (a3 _ (by have := hS.2.2.2; omega))⟩⟩
      obtain ⟨G, b1, b2⟩ := fin G1 a2' (fun q q1 _ => a3 q q1) t1 a4 a5 e
      refine ⟨G, ?_, b2⟩
      simp only [C142, g4, nn, cond_false, g2, c, k0, a1, b1, Option.bind_some]
    · have c : mj_c2 .ne pick 101 = true := decide_eq_true hp
      obtain ⟨G1, a1, a2, a3, a4, a5, a6⟩ := C144_do (xt := xt) (ct := ct) (O := O) (N := N) (by omega) ha haB hok hp hd hS.2.2.1
      have a2' : LR G1 H.2.1 (dcL m pick k) (fun s => Int64.ofNat (dW n m pick k s)) := by
        unfold dcL
        rw [if_neg hp]
        exact a2
      obtain ⟨G, b1, b2⟩ := fin G1 a2' a3 a4 a5 a6 e
      refine ⟨G, ?_, b2⟩
      simp only [C142, g4, nn, cond_false, g2, c, cond_true, g7, k0, a1, b1, Option.bind_some]
  · subst e
    have g4 : gR H a 8 4 = some (some rr) := gR_of (x := some rr) hd rfl
    have nn : (!Option.isNone (some rr)) = true := rfl
    obtain ⟨G, b1, b2, b3⟩ := J142_do (xt := xt) (ct := ct) (O := O) (N := N) hN ha r1 hd r3 hl wb hb hn hroom
    refine ⟨G, ?_, b2, lyF_b b3 hD, lyS_b hS b3⟩
    simp only [C142, g4, nn, cond_true, b1, Option.bind_some]
end DL2
