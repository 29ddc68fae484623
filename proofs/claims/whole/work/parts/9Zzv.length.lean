/-! THE PRINTED TEXT IS NOT LONGER THAN THE TEXT READ: expressions -/
theorem scn_ge {tx : List Int32} : ∀ (n p v : Nat), p ≤ (scn tx n p v).1 := by
  intro n
  induction n with
  | zero => intro p v; exact Nat.le_refl _
  | succ n ih =>
    intro p v
    rw [scn]
    split
    · have := ih (p + 1) (min (10 * v + ((pk tx p).toInt - 48).toNat) 1000)
      omega
    · exact Nat.le_refl _
theorem scn_pow {tx : List Int32} : ∀ (n p v : Nat), (scn tx n p v).2 + 1 ≤ (v + 1) * 10 ^ ((scn tx n p v).1 - p) := by
  intro n
  induction n with
  | zero =>
    intro p v
    show v + 1 ≤ (v + 1) * 10 ^ (p - p)
    rw [Nat.sub_self, Nat.pow_zero, Nat.mul_one]
    exact Nat.le_refl _
  | succ n ih =>
    intro p v
    rw [scn]
    split
    · rename_i c
      have h := ih (p + 1) (min (10 * v + ((pk tx p).toInt - 48).toNat) 1000)
      have g := scn_ge (tx := tx) n (p + 1) (min (10 * v + ((pk tx p).toInt - 48).toNat) 1000)
      obtain ⟨e, he⟩ : ∃ e, (scn tx n (p + 1) (min (10 * v + ((pk tx p).toInt - 48).toNat) 1000)).1 - (p + 1) = e := ⟨_, rfl⟩
      have he2 : (scn tx n (p + 1) (min (10 * v + ((pk tx p).toInt - 48).toNat) 1000)).1 - p = e + 1 := by omega
      rw [he] at h
      rw [he2, Nat.pow_succ, Nat.mul_comm _ 10, ← Nat.mul_assoc]
      refine Nat.le_trans h (Nat.mul_le_mul_right _ ?_)
      omega
    · show v + 1 ≤ (v + 1) * 10 ^ (p - p)
      rw [Nat.sub_self, Nat.pow_zero, Nat.mul_one]
      exact Nat.le_refl _
theorem rNum_dg {tx : List Int32} {p : Nat} {lo hi : Int32} {q : Nat × Nat} (h : rNum tx p lo hi = .inr q) : (dgs q.2).length + p ≤ q.1 := by
  obtain ⟨rfl, o⟩ := rNum_ok h
  have b := scn_pow (tx := tx) (tx.length - p) p 0
  obtain ⟨q, hq⟩ : ∃ q, scn tx (tx.length - p) p 0 = q := ⟨_, rfl⟩
  rw [hq] at b o ⊢
  obtain ⟨o1, o2, -⟩ := o
  obtain ⟨e, he⟩ : ∃ e, q.1 - p = e := ⟨_, rfl⟩
  rw [he] at b
  have : e = 1 ∨ e = 2 ∨ e = 3 := by omega
  unfold dgs
  rcases this with rfl | rfl | rfl
  · rw [if_pos (by omega)]
    show 1 + p ≤ _
    omega
  · split
    · show 1 + p ≤ _
      omega
    · rw [if_pos (by omega)]
      show 2 + p ≤ _
      omega
  · split
    · show 1 + p ≤ _
      omega
    · split
      · show 2 + p ≤ _
        omega
      · show 3 + p ≤ _
        omega
theorem on_ (n : Nat) (h : n ≤ 999) : (Int32.ofNat n).toInt.toNat = n := by rw [i_nat (by omega)]; omega
theorem rDc_len {tx : List Int32} {n p : Nat} {q : Nat × Nd} (hn : n ≤ 6) (h : rDc tx n p = .inr q) : q.2.1 = 4 ∧ (dcP q.2).length + p ≤ (if n ≤ 1 then 0 else (dgs n).length) + q.1 := by
  have q2 : (20 : Int32).toInt = 20 := rfl
  have q3 : (3 : Int32).toInt = 3 := rfl
  have first : ∀ a b c d : Int32, (dcP (4, Int32.ofNat n, a, b, c, -1, d)).length = (if n ≤ 1 then 0 else (dgs n).length) + 1 + (dgs a.toInt.toNat).length + (if b = 32 then 0 else 1 + (dgs c.toInt.toNat).length) := by
    intro a b c d
    unfold dcP
    dsimp only
    rw [List.length_append, List.length_append, List.length_append, i_nat (by omega)]
    by_cases h1 : n ≤ 1
    · rw [if_pos (by omega), if_pos h1]
      by_cases h2 : b = 32
      · rw [if_pos h2, if_pos h2]; rfl
      · rw [if_neg h2, if_neg h2]
        dsimp only [List.length_cons, List.length_nil]
        omega
    · rw [if_neg (by omega), if_neg h1]
      by_cases h2 : b = 32
      · rw [if_pos h2, if_pos h2]; rfl
      · rw [if_neg h2, if_neg h2]
        dsimp only [List.length_cons, List.length_nil, Int.toNat_natCast]
        omega
  unfold rDc at h
  split at h
  · rename_i c
    have hp := pkz_is c (by decide)
    split at h
    · cases h
    · rename_i k hk
      have l1 := rNum_le (by omega) hk
      have g1 := rNum_dg hk
      split at h
      · rename_i c2
        have hp2 := pkz_is c2 (by decide)
        split at h
        · split at h
          · cases h
          · rename_i k2 hk2
            have l2 := rNum_le (by omega) hk2
            have g2 := rNum_dg hk2
            cases h
            dsimp only
            rw [first, if_neg (show ¬ (101 : Int32) = 32 by decide), on_ _ (by omega), on_ _ (by omega)]
            exact ⟨rfl, by omega⟩
        · cases h
      · split at h
        · rename_i c2
          have hp2 : k.1 < tx.length := c2.elim (fun e => pkz_is e (by decide)) (fun e => pkz_is e (by decide))
          split at h
          · cases h
          · rename_i k2 hk2
            have l2 := rNum_le (by omega) hk2
            have g2 := rNum_dg hk2
            have l3 : (k2.2 : Int) ≤ n := by
              have := l2.2.2.2
              rw [i_nat (by omega)] at this
              exact this
            cases h
            dsimp only
            rw [first, on_ _ (by omega), on_ _ (by omega)]
            have u : (if pk tx k.1 = 32 then 0 else 1 + (dgs k2.2).length) ≤ 1 + (dgs k2.2).length := by split <;> omega
            exact ⟨rfl, by omega⟩
        · cases h
          dsimp only
          rw [first, if_pos rfl, on_ _ (by omega)]
          exact ⟨rfl, by omega⟩
  · cases h
theorem rFc_len {tx : List Int32} : ∀ (k p : Nat) (q : Nat × List Int32), p < tx.length → rFc tx k p = .inr q → ∀ s, (fcP q.2 s).length + p ≤ q.1 + 1 := by
  have q9 : (999 : Int32).toInt = 999 := rfl
  intro k
  induction k with
  | zero => intro p q _ h; cases h
  | succ k ih =>
    intro p q hp h s
    rw [rFc] at h
    split at h
    · cases h
    · rename_i a ha
      have l1 := rNum_le (by omega) ha
      have g1 := rNum_dg ha
      split at h
      · rename_i c
        have hp2 := pkz_is c (by decide)
        split at h
        · cases h
        · rename_i r hr
          cases h
          have := ih _ _ hp2 hr 44
          dsimp only [fcP]
          rw [List.length_cons, List.length_append, on_ _ (by omega)]
          omega
      · cases h
        dsimp only [fcP]
        rw [List.length_cons, List.length_append, on_ _ (by omega)]
        dsimp only [List.length_cons, List.length_nil]
        omega
/-- a leaf's text -/
theorem rLf_len {tx : List Int32} {p nf : Nat} {q : Nat × Nd × List Int32} (hp : p < tx.length) (hnf : nf ≤ 160) (h : rLf tx p nf = .inr q) : ∀ (nds : List Nd) (fcs : List Int32) (i : Nat), nds[i]? = some q.2.1 → (fcs.drop nf).take q.2.2.length = q.2.2 → (∀ k, (prX nds fcs k i).length + p ≤ q.1) ∧ tgI nds i = 3 := by
  intro nds fcs i hi hf
  have q9 : (999 : Int32).toInt = 999 := rfl
  have fin : ∀ w : List Int32, w.length + p ≤ q.1 → (q.2.1.1 = 0 ∨ q.2.1.1 = 1 ∨ q.2.1.1 = 4 ∨ q.2.1.1 = 5) → (∀ k, prX nds fcs (k + 1) i = w) → (∀ k, (prX nds fcs k i).length + p ≤ q.1) ∧ tgI nds i = 3 := by
    intro w hw hk h
    refine ⟨fun k => ?_, ?_⟩
    · cases k with
      | zero =>
        show 0 + p ≤ q.1
        omega
      | succ k => rw [h]; exact hw
    · unfold tgI
      rw [hi]
      show (if q.2.1.1 = 3 then _ else 3) = 3
      rw [if_neg]
      rcases hk with e | e | e | e <;> rw [e] <;> decide
  have dc : ∀ (n p0 : Nat) (k : Nat × Nd), n ≤ 6 → (q.1, q.2.1) = k → rDc tx n p0 = .inr k → (if n ≤ 1 then 0 else (dgs n).length) + p ≤ p0 → (∀ k, (prX nds fcs k i).length + p ≤ q.1) ∧ tgI nds i = 3 := by
    intro n p0 k hn e hd hle
    obtain ⟨d1, d2⟩ := rDc_len hn hd
    subst e
    refine fin (dcP q.2.1) (by dsimp only at d2; omega) (Or.inr (Or.inr (Or.inl d1))) (fun k => ?_)
    dsimp only at d1
    rw [prX, hi]
    dsimp only
    rw [d1, if_neg (by decide), if_neg (by decide), if_neg (by decide), if_pos rfl]
  unfold rLf at h
  split at h
  · rename_i c
    cases h
    refine fin [65 + (pk tx p - 65)] (by show 1 + p ≤ p + 1; omega) (Or.inr (Or.inl rfl)) (fun k => ?_)
    rw [prX, hi]
    rfl
  · split at h
    · split at h
      · cases h
      · rename_i r hr
        unfold rRow at hr
        split at hr
        · cases hr
        · rename_i u hu
          have l := rFc_len 8 p u hp hu 91
          have l2 := rFc_le 8 p u hp hu
          split at hr
          · cases hr
            cases h
            refine fin (fcP u.2 91) l (Or.inr (Or.inr (Or.inr rfl))) (fun k => ?_)
            dsimp only at hf
            rw [prX, hi]
            show fcP ((fcs.drop (Int32.ofNat nf).toInt.toNat).take (Int32.ofNat u.2.length).toInt.toNat) 91 = _
            rw [on_ _ (by omega), on_ _ (by omega), hf]
          · cases hr
    · split at h
      · split at h
        · cases h
        · rename_i r hr
          cases h
          exact dc 1 p r (by decide) rfl hr (by rw [if_pos (by decide)]; omega)
      · split at h
        · cases h
        · rename_i a ha
          have l1 := rNum_le (by omega) ha
          have g1 := rNum_dg ha
          split at h
          · split at h
            · rename_i c3
              split at h
              · cases h
              · rename_i r hr
                cases h
                exact dc a.2 a.1 r c3.2 rfl hr (by split <;> omega)
            · cases h
          · cases h
            refine fin (dgs a.2) g1 (Or.inl rfl) (fun k => ?_)
            rw [prX, hi]
            show dgs (Int32.ofNat a.2).toInt.toNat = _
            rw [on_ _ (by omega)]
theorem sd_len {b : Bool} {w : List Int32} : (sd b w).length = w.length + (if b = true then 2 else 0) := by
  cases b
  · rfl
  · show (40 :: (w ++ [41])).length = _
    rw [List.length_cons, List.length_append]
    rfl
/-- the text of what was read last, from p on, two more if it binds less tightly than b: in whatever is read later -/
def XL (q : Rd) (b p : Nat) : Prop := ∀ (l1 : List Nd) (l2 : List Int32) (k : Nat), (prX (q.2.2.1 ++ l1) (q.2.2.2 ++ l2) k (q.2.2.1.length - 1)).length + (if tgI (q.2.2.1 ++ l1) (q.2.2.1.length - 1) < b then 2 else 0) + p ≤ q.1
theorem bd_tg {c : Int32} {b : Nat} (hb : b < 3) (h : bd c = Int32.ofNat b) : tgt (sg c) = b := by
  have n : bd c ≠ -1000 := by
    rw [h]
    have : b = 0 ∨ b = 1 ∨ b = 2 := by omega
    rcases this with rfl | rfl | rfl <;> decide
  have e := (chO_sg n).2.1
  rw [h] at e
  have t : tgt (sg c) ≤ 2 := by
    unfold tgt
    split
    · omega
    · split <;> omega
  have e2 := congrArg Int32.toInt e
  rw [i_nat (by omega), i_nat (by omega)] at e2
  omega
theorem op_len {tx : List Int32} {c : Int32} {b p : Nat} {r s : Rd} (hb : b < 3) (hc : bd c = Int32.ofNat b) (hr : XL r (if b = 0 then 1 else b) p) (hs : XL s (b + 1) (r.1 + 1)) (hle : rLe tx (r.1 + 1, r.2) s) (hn : s.2.2.1.length ≤ 160) (h1 : 1 ≤ r.2.2.1.length) (hpr : p ≤ r.1) (nds : List Nd) (hnd : nds = s.2.2.1 ++ [opN c (r.2.2.1.length - 1) (s.2.2.1.length - 1)]) : ∀ (l1 : List Nd) (l2 : List Int32) (k : Nat), (prX (nds ++ l1) (s.2.2.2 ++ l2) k (nds.length - 1)).length + p ≤ s.1 ∧ tgI (nds ++ l1) (nds.length - 1) = b := by
  intro l1 l2 k
  have tg := bd_tg hb hc
  obtain ⟨e1, e2, ⟨m1, e3⟩, e4, ⟨m2, e5⟩, e6⟩ := hle
  dsimp only at e1 e3 e5
  have hlen : nds.length - 1 = s.2.2.1.length := by rw [hnd, List.length_append]; rfl
  have hrs : r.2.2.1.length ≤ s.2.2.1.length := by rw [e3, List.length_append]; omega
  rw [hlen]
  have at_ : (nds ++ l1)[s.2.2.1.length]? = some (opN c (r.2.2.1.length - 1) (s.2.2.1.length - 1)) := by
    rw [hnd, List.append_assoc, List.getElem?_append_right (Nat.le_refl _), Nat.sub_self]
    rfl
  have ea : nds ++ l1 = s.2.2.1 ++ ([opN c (r.2.2.1.length - 1) (s.2.2.1.length - 1)] ++ l1) := by rw [hnd, List.append_assoc]
  have eb : nds ++ l1 = r.2.2.1 ++ (m1 ++ ([opN c (r.2.2.1.length - 1) (s.2.2.1.length - 1)] ++ l1)) := by rw [ea, e3, List.append_assoc]
  have ec : s.2.2.2 ++ l2 = r.2.2.2 ++ (m2 ++ l2) := by rw [e5, List.append_assoc]
  refine ⟨?_, ?_⟩
  · cases k with
    | zero =>
      show 0 + p ≤ s.1
      omega
    | succ k =>
      rw [prX_op at_ (by omega) (by omega), List.length_append, List.length_append, sd_len, sd_len, tg]
      have a1 := hr (m1 ++ ([opN c (r.2.2.1.length - 1) (s.2.2.1.length - 1)] ++ l1)) (m2 ++ l2) k
      have a2 := hs ([opN c (r.2.2.1.length - 1) (s.2.2.1.length - 1)] ++ l1) l2 k
      rw [← eb, ← ec] at a1
      rw [← ea] at a2
      obtain ⟨T1, hT1⟩ : ∃ T, tgI (nds ++ l1) (r.2.2.1.length - 1) = T := ⟨_, rfl⟩
      obtain ⟨T2, hT2⟩ : ∃ T, tgI (nds ++ l1) (s.2.2.1.length - 1) = T := ⟨_, rfl⟩
      rw [hT1] at a1 ⊢
      rw [hT2] at a2 ⊢
      have u1 : (if decide (T1 < b ∨ b = 0 ∧ T1 = 0) = true then 2 else 0) ≤ (if T1 < (if b = 0 then 1 else b) then 2 else 0) := by
        by_cases h : T1 < b ∨ b = 0 ∧ T1 = 0
        · rw [if_pos (decide_eq_true h), if_pos (by split <;> omega)]
          exact Nat.le_refl _
        · rw [if_neg (by rw [decide_eq_false h]; decide)]
          exact Nat.zero_le _
      have u2 : (if decide (T2 ≤ b) = true then 2 else 0) ≤ (if T2 < b + 1 then 2 else 0) := by
        by_cases h : T2 ≤ b
        · rw [if_pos (decide_eq_true h), if_pos (by omega)]
          exact Nat.le_refl _
        · rw [if_neg (by rw [decide_eq_false h]; decide)]
          exact Nat.zero_le _
      dsimp only [List.length_cons, List.length_nil]
      omega
  · unfold tgI
    rw [at_]
    show (if (3 : Int32) = 3 then tgt (sg c) else 3) = b
    rw [if_pos rfl, tg]
theorem XL_mono {q : Rd} {b b' p : Nat} (h : XL q b p) (hb : b' ≤ b) : XL q b' p := by
  intro l1 l2 k
  have := h l1 l2 k
  refine Nat.le_trans (Nat.add_le_add_right (Nat.add_le_add_left ?_ _) _) this
  by_cases c : tgI (q.2.2.1 ++ l1) (q.2.2.1.length - 1) < b'
  · rw [if_pos c, if_pos (by omega)]
    exact Nat.le_refl _
  · rw [if_neg c]
    exact Nat.zero_le _
/-- where the lists fit the place -/
def rFit (r : Rd) : Prop := r.2.2.1.length ≤ r.1 ∧ r.2.2.2.length ≤ r.1
theorem rFit_le {tx : List Int32} {r q : Rd} (h : rFit r) (k : rLe tx r q) : rFit q := by
  obtain ⟨-, -, -, h4, -, h6, -⟩ := k
  obtain ⟨h1, h2⟩ := h
  exact ⟨by omega, by omega⟩
theorem rLp_len {tx : List Int32} (ht : tx.length ≤ 160) {b : Nat} (hb3 : b < 3) (hb1 : 1 ≤ b) {sub : Rd → Nat ⊕ Rd} (hs : ∀ r q, r.1 ≤ tx.length → r.2.1 ≤ 40 → sub r = .inr q → rLt tx r q) (hx : ∀ r q, r.1 ≤ tx.length → r.2.1 ≤ 40 → rFit r → sub r = .inr q → XL q (b + 1) r.1) : ∀ (m p : Nat) (r q : Rd), r.1 ≤ tx.length → r.2.1 ≤ 40 → rFit r → 1 ≤ r.2.2.1.length → p ≤ r.1 → XL r b p → rLp tx b sub m r = .inr q → XL q b p := by
  intro m
  induction m with
  | zero =>
    intro p r q _ _ _ _ _ hX h
    cases h
    exact hX
  | succ m ih =>
    intro p r q hr hl hf h1 hp hX h
    rw [rLp] at h
    split at h
    · rename_i hb
      have hlt : r.1 < tx.length := pkz_in (fun e => by
        rw [e] at hb
        have : b = 0 ∨ b = 1 ∨ b = 2 := by omega
        rcases this with rfl | rfl | rfl <;> revert hb <;> decide)
      split at h
      · cases h
      · rename_i s e
        have f1 : rFit (r.1 + 1, r.2) := ⟨by have := hf.1; dsimp only; omega, by have := hf.2; dsimp only; omega⟩
        have k1 := hs (r.1 + 1, r.2) s (show r.1 + 1 ≤ _ by omega) hl e
        have k2 := hx (r.1 + 1, r.2) s (show r.1 + 1 ≤ _ by omega) hl f1 e
        have f2 := rFit_le f1 k1.1
        have l2 : s.2.2.1.length ≤ 160 := by have := f2.1; have := k1.1.2.1; omega
        have op := op_len hb3 hb (by rw [if_neg (by omega)]; exact hX) k2 k1.1 l2 h1 hp _ rfl
        have f3 : rFit (s.1, s.2.1, s.2.2.1 ++ [opN (pk tx r.1) (r.2.2.1.length - 1) (s.2.2.1.length - 1)], s.2.2.2) := rFit_le hf (rLe_node k1.1)
        refine ih p (s.1, s.2.1, s.2.2.1 ++ [opN (pk tx r.1) (r.2.2.1.length - 1) (s.2.2.1.length - 1)], s.2.2.2) q k1.1.2.1 k1.1.2.2.2.2.2.2.2 f3 (by dsimp only; rw [List.length_append, List.length_singleton]; omega) (by have := k1.1.1; dsimp only at this ⊢; omega) ?_ h
        intro l1 l2 k
        obtain ⟨a1, a2⟩ := op l1 l2 k
        dsimp only
        rw [a2, if_neg (by omega)]
        omega
    · cases h
      exact hX
theorem rX_len {tx : List Int32} (ht : tx.length ≤ 160) : ∀ (n b d : Nat) (r q : Rd), b ≤ 4 → r.1 ≤ tx.length → r.2.1 ≤ 40 → rFit r → rX tx n b d r = .inr q → XL q (min b 3) r.1 := by
  intro n
  induction n with
  | zero => intro b d r q _ _ _ _ h; cases h
  | succ n ih =>
    intro b d r q hb4 hr hl hf h
    rw [rX] at h
    split at h
    · rename_i hb
      split at h
      · cases h
      · rename_i s e
        have l1 := rX_ok _ _ _ r s hr hl e
        have x1 := ih _ _ r s (by omega) hr hl hf e
        have f1 := rFit_le hf l1.1
        have hle := l1.1.1
        have h1 : 1 ≤ s.2.2.1.length := by have := l1.2.2.1; omega
        rw [show min (b + 1) 3 = b + 1 by omega] at x1
        rw [show min b 3 = b by omega]
        by_cases hb0 : b = 0
        · subst hb0
          rw [if_pos rfl, rLp] at h
          split at h
          · rename_i hc
            have hlt : s.1 < tx.length := pkz_in (fun e => by
              rw [e] at hc
              revert hc
              decide)
            split at h
            · cases h
            · rename_i u e2
              have f1' : rFit (s.1 + 1, s.2) := ⟨by have := f1.1; dsimp only; omega, by have := f1.2; dsimp only; omega⟩
              have k1 := rX_ok _ _ _ (s.1 + 1, s.2) u (show s.1 + 1 ≤ _ by omega) l1.1.2.2.2.2.2.2.2 e2
              have k2 := ih _ _ (s.1 + 1, s.2) u (by omega) (show s.1 + 1 ≤ _ by omega) l1.1.2.2.2.2.2.2.2 f1' e2
              rw [show min (0 + 1) 3 = 0 + 1 by omega] at k2
              have f2 := rFit_le f1' k1.1
              have l2 : u.2.2.1.length ≤ 160 := by have := f2.1; have := k1.1.2.1; omega
              have op := op_len (by omega) hc (by rw [if_pos rfl]; exact x1) k2 k1.1 l2 h1 hle _ rfl
              rw [rLp] at h
              cases h
              intro l1 l2 k
              obtain ⟨a1, a2⟩ := op l1 l2 k
              dsimp only
              rw [if_neg (by omega)]
              omega
          · cases h
            exact XL_mono x1 (by omega)
        · rw [if_neg hb0] at h
          exact rLp_len ht hb (by omega) (fun r q a b c => rX_ok _ _ _ r q a b c) (fun r q c1 c2 c3 c4 => by
            have := ih _ _ r q (by omega) c1 c2 c3 c4
            rw [show min (b + 1) 3 = b + 1 by omega] at this
            exact this) 40 r.1 s q l1.1.2.1 l1.1.2.2.2.2.2.2.2 f1 h1 hle (XL_mono x1 (by omega)) h
    · split at h
      · rename_i hb
        subst hb
        exact ih 4 d r q (by omega) hr hl hf h
      · have hb : b = 4 := by omega
        subst hb
        split at h
        · rename_i hc
          have hlt := pkz_is hc (by decide)
          split at h
          · split at h
            · cases h
            · rename_i s e
              have f1 : rFit (r.1 + 1, r.2) := ⟨by have := hf.1; dsimp only; omega, by have := hf.2; dsimp only; omega⟩
              have k1 := rX_ok _ _ _ (r.1 + 1, r.2) s (show r.1 + 1 ≤ _ by omega) hl e
              have k2 := ih _ _ (r.1 + 1, r.2) s (by omega) (show r.1 + 1 ≤ _ by omega) hl f1 e
              have f2 := rFit_le f1 k1.1
              have l2 : s.2.2.1.length ≤ 160 := by have := f2.1; have := k1.1.2.1; omega
              cases h
              intro l1 l2 k
              have hlen : (s.2.2.1 ++ [ngN (s.2.2.1.length - 1)]).length - 1 = s.2.2.1.length := by rw [List.length_append]; rfl
              dsimp only
              rw [hlen]
              have at_ : (s.2.2.1 ++ [ngN (s.2.2.1.length - 1)] ++ l1)[s.2.2.1.length]? = some (ngN (s.2.2.1.length - 1)) := by
                rw [List.append_assoc, List.getElem?_append_right (Nat.le_refl _), Nat.sub_self]
                rfl
              have tg : tgI (s.2.2.1 ++ [ngN (s.2.2.1.length - 1)] ++ l1) s.2.2.1.length = 3 := by
                unfold tgI
                rw [at_]
                rfl
              have a := k2 ([ngN (s.2.2.1.length - 1)] ++ l1) l2
              rw [← List.append_assoc] at a
              rw [tg, if_neg (by decide)]
              have g := k1.1.1
              dsimp only at g a
              cases k with
              | zero =>
                show 0 + 0 + r.1 ≤ s.1
                omega
              | succ k =>
                have a' := a k
                rw [prX_neg at_ (by omega), List.length_cons, sd_len]
                rw [show min 4 3 = 3 by decide] at a'
                have u : (if decide (tgI (s.2.2.1 ++ [ngN (s.2.2.1.length - 1)] ++ l1) (s.2.2.1.length - 1) < 3) = true then 2 else 0) = (if tgI (s.2.2.1 ++ [ngN (s.2.2.1.length - 1)] ++ l1) (s.2.2.1.length - 1) < 3 then 2 else 0) := by
                  simp only [decide_eq_true_eq]
                rw [u]
                omega
          · cases h
        · split at h
          · rename_i hc
            have hlt := pkz_is hc (by decide)
            split at h
            · split at h
              · cases h
              · rename_i s e
                have f1 : rFit (r.1 + 1, r.2) := ⟨by have := hf.1; dsimp only; omega, by have := hf.2; dsimp only; omega⟩
                have k2 := ih _ _ (r.1 + 1, r.2) s (by omega) (show r.1 + 1 ≤ _ by omega) hl f1 e
                split at h
                · cases h
                  intro l1 l2 k
                  have a := k2 l1 l2 k
                  dsimp only at a ⊢
                  have u : (if tgI (s.2.2.1 ++ l1) (s.2.2.1.length - 1) < min 4 3 then 2 else 0) ≤ 2 := by split <;> omega
                  omega
                · cases h
            · cases h
          · split at h
            · cases h
            · rename_i s e
              have l1 := rIt_ok hl e
              cases h
              unfold rIt at e
              split at e
              · rename_i c
                have hlt : r.1 < tx.length := by
                  rcases c.1 with k | k | k | k
                  · exact pkz_nm k
                  · exact pkz_dg k
                  · exact pkz_is k (by decide)
                  · exact pkz_is k (by decide)
                intro m1 m2 k
                have hlen : (r.2.2.1 ++ [s.2.1]).length - 1 = r.2.2.1.length := by rw [List.length_append]; rfl
                dsimp only
                rw [hlen]
                have at_ : (r.2.2.1 ++ [s.2.1] ++ m1)[r.2.2.1.length]? = some s.2.1 := by
                  rw [List.append_assoc, List.getElem?_append_right (Nat.le_refl _), Nat.sub_self]
                  rfl
                obtain ⟨a1, a2⟩ := rLf_len hlt (by have := hf.2; omega) e (r.2.2.1 ++ [s.2.1] ++ m1) (r.2.2.2 ++ s.2.2 ++ m2) r.2.2.1.length at_ (by
                  rw [List.append_assoc, List.drop_left, List.take_left])
                rw [a2, if_neg (by decide)]
                have := a1 k
                omega
              · cases e
