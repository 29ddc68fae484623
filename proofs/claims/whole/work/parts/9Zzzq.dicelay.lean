/-! DICE LAID ON THE BENCH, THE CLASS -/
/-- dice whose ways are not counted yet -/
def nulB (e : Option mj_E) : Bool := match e with
  | some (.inr (8, l)) => decide (l[4]? = some .null)
  | _ => false
def pot (H : mj_H) (D : List Nat) : Nat := (D.filter (fun a => nulB (H.1 a))).length
def dcL (m : Nat) (pick : Int32) (k : Nat) : Nat := m * (if pick = 101 then k + 1 else k) + 1
/-- the ways that dice keep are right -/
def cI (z : Nat) (H : mj_H) : Prop := ∀ (a n m : Nat) (how keep pick : Int32) (k : Nat) (w fv : Value), z + 107 ≤ a → a < H.2.1 → dcOK n m how keep pick k → dcO H a n m pick k w fv → w = .null ∨ ∃ r : Nat, w = .ref r ∧ z + 107 ≤ r ∧ r < H.2.1 ∧ LR H r (dcL m pick k) (fun s => Int64.ofNat (dW n m pick k s))
def dIn (z : Nat) (H : mj_H) (D : List Nat) : Prop := ∀ a, z + 107 ≤ a → a < H.2.1 → nulB (H.1 a) = true → a ∈ D
def lyS (z : Nat) (D : List Nat) (H : mj_H) : Prop := cI z H ∧ dIn z H D ∧ tly z H ∧ z + 107 ≤ H.2.1
/-- the same dice, with other ways kept -/
def dcch (e e' : Option mj_E) : Prop := ∃ n m p k w w' f, e = some (.inr (8, [n, m, p, k, w, f])) ∧ e' = some (.inr (8, [n, m, p, k, w', f]))
theorem dcch_trans {e e' e'' : Option mj_E} (x : dcch e e') (y : dcch e' e'') : dcch e e'' := by
  obtain ⟨n, m, p, k, w, w', f, h1, h2⟩ := x
  obtain ⟨n2, m2, p2, k2, w2, w2', f2, h3, h4⟩ := y
  rw [h2] at h3
  cases h3
  exact ⟨_, _, _, _, _, _, _, h1, h4⟩
/-- what laying does to the heap -/
def lyF (z : Nat) (D : List Nat) (H G : mj_H) : Prop := (∀ q, q < H.2.1 → ¬ (z + 8 ≤ q ∧ q ≤ z + 13) → ¬ (z + 15 ≤ q ∧ q ≤ z + 21) → G.1 q = H.1 q ∨ z + 107 ≤ q ∧ dcch (H.1 q) (G.1 q)) ∧ H.2.1 ≤ G.2.1 ∧ G.2.1 + pot G D ≤ H.2.1 + pot H D ∧ G.2.2 + 121 * pot G D ≤ H.2.2 + 121 * pot H D
theorem lyF_trans {z : Nat} {D : List Nat} {H G K : mj_H} (x : lyF z D H G) (y : lyF z D G K) : lyF z D H K := by
  obtain ⟨x1, x2, x3, x4⟩ := x
  obtain ⟨y1, y2, y3, y4⟩ := y
  refine ⟨fun q h1 h2 h3 => ?_, by omega, by omega, by omega⟩
  rcases x1 q h1 h2 h3 with a | ⟨a0, a⟩
  · rcases y1 q (by omega) h2 h3 with b | ⟨b0, b⟩
    · exact Or.inl (b.trans a)
    · rw [a] at b; exact Or.inr ⟨b0, b⟩
  · rcases y1 q (by omega) h2 h3 with b | ⟨b0, b⟩
    · rw [b]; exact Or.inr ⟨a0, a⟩
    · exact Or.inr ⟨a0, dcch_trans a b⟩
theorem pot_fr {z : Nat} {D : List Nat} {H G : mj_H} (h : ∀ q, q ∈ D → nulB (G.1 q) = nulB (H.1 q)) : pot G D = pot H D := by
  unfold pot
  congr 1
  exact List.filter_congr (fun q hq => h q hq)
theorem pot_cons {H : mj_H} {q : Nat} {D : List Nat} : pot H (q :: D) = (if nulB (H.1 q) = true then 1 else 0) + pot H D := by
  unfold pot
  rw [List.filter_cons]
  split
  · rw [List.length_cons]; omega
  · omega
theorem pot_down {H G : mj_H} {a : Nat} (hn : nulB (H.1 a) = true) (hg : nulB (G.1 a) = false) (he : ∀ q, q ≠ a → nulB (G.1 q) = true → nulB (H.1 q) = true) : ∀ D : List Nat, pot G D ≤ pot H D ∧ (a ∈ D → pot G D + 1 ≤ pot H D) := by
  intro D
  induction D with
  | nil => exact ⟨Nat.le_refl _, fun h => by cases h⟩
  | cons q D ih =>
    rw [pot_cons, pot_cons]
    by_cases e : q = a
    · rw [e, hn, hg]
      refine ⟨?_, fun _ => ?_⟩ <;> · have := ih.1; simp only [Bool.false_eq_true, if_false, if_true]; omega
    · have k : (if nulB (G.1 q) = true then 1 else 0) ≤ (if nulB (H.1 q) = true then 1 else 0) := by
        by_cases c : nulB (G.1 q) = true
        · rw [if_pos c, if_pos (he q e c)]; omega
        · rw [if_neg c]; omega
      refine ⟨by have := ih.1; omega, fun h => ?_⟩
      have := ih.2 ((List.mem_cons.mp h).resolve_left (fun w => e w.symm))
      omega
theorem nulB_fr {z : Nat} {H G : mj_H} {q : Nat} (h : bfr z H G) (hb : ∃ n fi mo, bO z H n fi mo) : ¬ (z + 8 ≤ q ∧ q ≤ z + 13) → nulB (G.1 q) = nulB (H.1 q) := fun hq => by rw [h.1 q hq]
/-- the bench is worked with -/
theorem lyF_b {z : Nat} {D : List Nat} {H G : mj_H} (h : bfr z H G) (hD : ∀ q ∈ D, z + 107 ≤ q) : lyF z D H G := by
  have e : pot G D = pot H D := pot_fr (z := z) (fun q hq => by rw [h.1 q (by have := hD q hq; omega)])
  have n1 : G.2.1 = H.2.1 := by rw [h.2]
  have n2 : G.2.2 = H.2.2 := by rw [h.2]
  exact ⟨fun q _ h2 _ => Or.inl (h.1 q h2), by omega, by omega, by omega⟩
theorem cI_fr {z : Nat} {H G : mj_H} (h : cI z H) (e : ∀ q, z + 107 ≤ q → q < H.2.1 → G.1 q = H.1 q) (n : G.2.1 = H.2.1) : cI z G := by
  intro a n' m how keep pick k w fv h1 h2 h3 h4
  rw [n] at h2
  have h4' : dcO H a n' m pick k w fv := (e a h1 h2).symm.trans h4
  rcases h a n' m how keep pick k w fv h1 h2 h3 h4' with c | ⟨r, c1, c2, c3, c4⟩
  · exact Or.inl c
  · exact Or.inr ⟨r, c1, c2, by rw [n]; exact c3, LR_fr c4 (e r c2 c3)⟩
theorem lyS_b {z : Nat} {D : List Nat} {H G : mj_H} (h : lyS z D H) (hf : bfr z H G) : lyS z D G := by
  obtain ⟨h1, h2, h3, h4⟩ := h
  have n1 : G.2.1 = H.2.1 := by rw [hf.2]
  refine ⟨cI_fr h1 (fun q q1 _ => hf.1 q (by omega)) n1, fun a a1 a2 a3 => h2 a a1 (by omega) (by rw [hf.1 a (by omega)] at a3; exact a3), ⟨(hf.1 _ (by omega)).trans h3.1, fun p hp => ?_⟩, by omega⟩
  obtain ⟨X, hX⟩ := h3.2 p hp
  exact ⟨X, LR_fr hX (hf.1 _ (by omega))⟩
section DLY
variable {xt : mj_X} {ct : Nat → Value} {O : OR} {N z : Nat} {mo : Int32}
theorem bst_fr {H G : mj_H} {sp : List Sp} (h : bst z H sp mo) (e : ∀ q, z + 8 ≤ q → q ≤ z + 13 → G.1 q = H.1 q) : bst z G sp mo := by
  obtain ⟨ho, V, T, F, W, ⟨u1, u2, u3, u4, u5⟩, hs, hv⟩ := h
  exact ⟨(e _ (by omega) (by omega)).trans ho, V, T, F, W, ⟨IR_fr u1 (e _ (by omega) (by omega)), LR_fr u2 (e _ (by omega) (by omega)), IR_fr u3 (e _ (by omega) (by omega)), LR_fr u4 (e _ (by omega) (by omega)), IR_fr u5 (e _ (by omega) (by omega))⟩, hs, hv⟩
/-- dice whose ways are counted -/
theorem J142_do (hN : 100000 ≤ N) {H : mj_H} {a n m k rr : Nat} {pick : Int32} {fv : Value} {len : Nat} {w : Nat → Nat} {r : List Sp} (ha : z + 107 ≤ a) (hrr : z + 107 ≤ rr) (hd : dcO H a n m pick k (.ref rr) fv) (hl : LR H rr len (fun s => Int64.ofNat (w s))) (hlen : len ≤ 121) (hw : ∀ s, s < len → w s ≤ 2147483648) (hb : bst z H r mo) (hn : r.length < 40) (hroom : szS (dcS w len :: r) ≤ 4598) : ∃ G, J142_35 xt ct O N a (z + 8) H = some (1, G) ∧ bst z G (dcS w len :: r) mo ∧ bfr z H G := by
  obtain ⟨H1, a1, a2, a3⟩ := bst_open (xt := xt) (ct := ct) (O := O) (N := N) hb hn
  have hroom' : (dcS w len).length + szS r ≤ 4598 := hroom
  have mono : ∀ d s, s + d = len → (dcS w s).length ≤ (dcS w len).length := by
    intro d
    induction d with
    | zero => intro s hs; rw [show s = len by omega]; exact Nat.le_refl _
    | succ d ih =>
      intro s hs
      have := ih (s + 1) (by omega)
      rw [dcS, List.length_append] at this
      omega
  have key : ∀ (d s : Nat) (K : mj_H), s + d = len → bst z K (dcS w s :: r) mo → bfr z H K → ∃ G, t_lp (B142_42 xt ct O N) (d + 1) (a, z + 8, Int32.ofNat s, K) = some (1, G) ∧ bst z G (dcS w len :: r) mo ∧ bfr z H G := by
    intro d
    induction d with
    | zero =>
      intro s K hs hK hf
      have dk : dcO K a n m pick k (.ref rr) fv := (hf.1 a (by omega)).trans hd
      have lk : LR K rr len (fun s => Int64.ofNat (w s)) := LR_fr hl (hf.1 rr (by omega))
      have g4 : gR K a 8 4 = some (some rr) := gR_of dk rfl
      have c := c_geT (a := s) (b := len) (by omega) (by omega) (by omega)
      refine ⟨K, t_end ?_ _, by rw [← show s = len by omega]; exact hK, hf⟩
      simp only [B142_42, g4, LR_len lk, c, cond_true, Option.bind_some]
    | succ d ih =>
      intro s K hs hK hf
      have dk : dcO K a n m pick k (.ref rr) fv := (hf.1 a (by omega)).trans hd
      have lk : LR K rr len (fun s => Int64.ofNat (w s)) := LR_fr hl (hf.1 rr (by omega))
      have g4 : gR K a 8 4 = some (some rr) := gR_of dk rfl
      have c := c_geF (a := s) (b := len) (by omega) (by omega) (by omega)
      have wv : aL xt K rr (Int32.ofNat s) = some (Int64.ofNat (w s)) := LR_get lk (by omega) (by omega)
      have q0 : (0 : Int64).toInt = 0 := rfl
      have wb := hw s (by omega)
      have i1 : Int32.ofNat s + 1 = Int32.ofNat (s + 1) := i_inc (by omega)
      by_cases e : w s = 0
      · have l1 : mj_c1 .le (lg_cmp (Int64.ofNat (w s)) 0) = true := by
          rw [lc_le, e]
          rfl
        have st : B142_42 xt ct O N (a, z + 8, Int32.ofNat s, K) = some (.inl (a, z + 8, Int32.ofNat (s + 1), K)) := by
          simp only [B142_42, g4, LR_len lk, c, cond_false, wv, l1, cond_true, J142_77, i1, Option.bind_some]
        rw [t_one st]
        refine ih (s + 1) K (by omega) ?_ hf
        rw [dcS, if_pos e, List.append_nil]
        exact hK
      · have l1 : mj_c1 .le (lg_cmp (Int64.ofNat (w s)) 0) = false := by
          rw [lc_le, j_nat (by omega), q0]
          exact decide_eq_false (by omega)
        have mm := mono d (s + 1) (by omega)
        rw [dcS, if_neg e, List.length_append, List.length_singleton] at mm
        obtain ⟨K2, b1, b2, b3⟩ := bst_put (xt := xt) (ct := ct) (O := O) (N := N) (v := Int32.ofNat s) (w := w s) hK hn (by show (dcS w s).length + szS r < 4598; omega)
        have kk : gK K (z + 8) 3 = some () := gK_of hK.1
        have st : B142_42 xt ct O N (a, z + 8, Int32.ofNat s, K) = some (.inl (a, z + 8, Int32.ofNat (s + 1), K2)) := by
          simp only [B142_42, g4, LR_len lk, c, cond_false, wv, l1, kk, b1, J142_77, i1, Option.bind_some]
        rw [t_one st]
        refine ih (s + 1) K2 (by omega) ?_ (bfr_trans hf b3)
        rw [dcS, if_neg e]
        exact b2
  obtain ⟨G, b1, b2, b3⟩ := key len 0 H1 (by omega) a2 a3
  refine ⟨G, ?_, b2, b3⟩
  have k0 : gK H (z + 8) 3 = some () := gK_of hb.1
  simp only [J142_35, k0, a1, L142_42, Option.bind_some]
  exact t_lp_more _ _ _ (by omega) b1
theorem dcOK_len {n m k : Nat} {how keep pick : Int32} (h : dcOK n m how keep pick k) : dcL m pick k ≤ 121 := by
  obtain ⟨⟨h1, h2⟩, ⟨h3, h4⟩, h5⟩ := h
  unfold dcL
  rcases h5 with ⟨-, -, e, e'⟩ | ⟨-, e, -, e', -⟩ | ⟨e0, e, e', -⟩
  · rw [if_neg (by rw [e]; decide)]
    have := Nat.mul_le_mul h4 (show k ≤ 6 by omega)
    omega
  · rw [if_pos e]
    have := Nat.mul_le_mul h4 (show k + 1 ≤ 6 by omega)
    omega
  · rw [if_neg (by rw [e]; rcases e0 with w | w <;> rw [w] <;> decide)]
    have := Nat.mul_le_mul h4 (show k ≤ 6 by omega)
    omega
theorem dW_b {n m k : Nat} {how keep pick : Int32} (h : dcOK n m how keep pick k) : m ^ (if pick = 101 then k + 1 else n) ≤ 64000000 := by
  obtain ⟨⟨h1, h2⟩, ⟨h3, h4⟩, h5⟩ := h
  have e : (if pick = 101 then k + 1 else n) ≤ 6 := by
    rcases h5 with ⟨-, -, e, e'⟩ | ⟨-, e, -, e', -⟩ | ⟨e0, e, e', -⟩
    · rw [if_neg (by rw [e]; decide)]; omega
    · rw [if_pos e]; omega
    · rw [if_neg (by rw [e]; rcases e0 with w | w <;> rw [w] <;> decide)]; omega
  exact Nat.le_trans (Nat.pow_le_pow_left h4 _) (Nat.le_trans (Nat.pow_le_pow_right (by decide) e) (by decide))
theorem dW_le {n m k s : Nat} {how keep pick : Int32} (h : dcOK n m how keep pick k) (hs : s < 121) : dW n m pick k s ≤ 64000000 := by
  have := sm_le (f := dW n m pick k) s 121 hs
  rw [dW_tot h] at this
  exact Nat.le_trans this (dW_b h)
theorem dcS_dW {n m k : Nat} {how keep pick : Int32} (h : dcOK n m how keep pick k) : dcS (dW n m pick k) 121 = dcS (dW n m pick k) (dcL m pick k) := dcS_cut (fun s hs => dW_far h (by unfold dcL at hs; omega)) 121 (dcOK_len h)
end DLY
