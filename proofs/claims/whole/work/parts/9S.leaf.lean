/-! READING LEAVES: what both sides read, as plain functions of the text -/
/-- a number: the place that is wrong, or where it ends and what it is -/
noncomputable def rNum (tx : List Int32) (p : Nat) (lo hi : Int32) : Nat ⊕ (Nat × Nat) := @ite _ (numOK tx p (scn tx (tx.length - p) p 0).1 (scn tx (tx.length - p) p 0).2 lo hi) (Classical.propDecidable _) (.inr (scn tx (tx.length - p) p 0)) (.inl p)
/-- dice from the d on -/
noncomputable def rDc (tx : List Int32) (n p : Nat) : Nat ⊕ (Nat × Nd) :=
  if pk tx p = 100 then
    match rNum tx (p + 1) 2 20 with
    | .inl w => .inl w
    | .inr q =>
      if pk tx q.1 = 101 then
        if n = 1 then
          match rNum tx (q.1 + 1) 1 3 with
          | .inl w => .inl w
          | .inr k => .inr (k.1, (4, Int32.ofNat n, Int32.ofNat q.2, 101, Int32.ofNat k.2, -1, -1))
        else .inl q.1
      else if pk tx q.1 = 104 ∨ pk tx q.1 = 108 then
        match rNum tx (q.1 + 1) 1 (Int32.ofNat n) with
        | .inl w => .inl w
        | .inr k => .inr (k.1, (4, Int32.ofNat n, Int32.ofNat q.2, pk tx q.1, Int32.ofNat k.2, -1, -1))
      else .inr (q.1, (4, Int32.ofNat n, Int32.ofNat q.2, 32, 0, -1, -1))
  else .inl p
/-- faces, k more at most, from the sign before the first on -/
noncomputable def rFc (tx : List Int32) : Nat → Nat → Nat ⊕ (Nat × List Int32)
  | 0, p => .inl p
  | k + 1, p =>
    match rNum tx (p + 1) 0 999 with
    | .inl w => .inl w
    | .inr q =>
      if pk tx q.1 = 44 then
        match rFc tx k q.1 with
        | .inl w => .inl w
        | .inr r => .inr (r.1, Int32.ofNat q.2 :: r.2)
      else .inr (q.1, [Int32.ofNat q.2])
noncomputable def rRow (tx : List Int32) (p : Nat) : Nat ⊕ (Nat × List Int32) :=
  match rFc tx 8 p with
  | .inl w => .inl w
  | .inr q => if pk tx q.1 = 93 then .inr (q.1 + 1, q.2) else .inl q.1
abbrev isNm (c : Int32) : Prop := 65 ≤ c.toInt ∧ c.toInt < 71
abbrev isDg (c : Int32) : Prop := 48 ≤ c.toInt ∧ c.toInt < 58
/-- a leaf: where it ends, its node, its faces; nf faces are there before -/
noncomputable def rLf (tx : List Int32) (p nf : Nat) : Nat ⊕ (Nat × Nd × List Int32) :=
  if isNm (pk tx p) then .inr (p + 1, (1, pk tx p - 65, 0, 0, 0, -1, -1), [])
  else if pk tx p = 91 then
    match rRow tx p with
    | .inl w => .inl w
    | .inr q => .inr (q.1, (5, Int32.ofNat nf, Int32.ofNat q.2.length, 0, 0, -1, -1), q.2)
  else if pk tx p = 100 then
    match rDc tx 1 p with
    | .inl w => .inl w
    | .inr q => .inr (q.1, q.2, [])
  else
    match rNum tx p 0 999 with
    | .inl w => .inl w
    | .inr q =>
      if pk tx q.1 = 100 then
        if 1 ≤ q.2 ∧ q.2 ≤ 6 then
          match rDc tx q.2 q.1 with
          | .inl w => .inl w
          | .inr k => .inr (k.1, k.2, [])
        else .inl p
      else .inr (q.1, (0, Int32.ofNat q.2, 0, 0, 0, -1, -1), [])
theorem rNum_ok {tx : List Int32} {p : Nat} {lo hi : Int32} {q : Nat × Nat} (h : rNum tx p lo hi = .inr q) : q = scn tx (tx.length - p) p 0 ∧ numOK tx p q.1 q.2 lo hi := by
  unfold rNum at h
  split at h
  · rename_i c
    cases h
    exact ⟨rfl, c⟩
  · cases h
theorem rNum_no {tx : List Int32} {p w : Nat} {lo hi : Int32} (h : rNum tx p lo hi = .inl w) : w = p ∧ ¬ numOK tx p (scn tx (tx.length - p) p 0).1 (scn tx (tx.length - p) p 0).2 lo hi := by
  unfold rNum at h
  split at h
  · cases h
  · rename_i c
    cases h
    exact ⟨rfl, c⟩
theorem scn_end {tx : List Int32} : ∀ (n p v : Nat), n + p ≤ tx.length → (scn tx n p v).1 ≤ tx.length ∧ p ≤ (scn tx n p v).1 := by
  intro n
  induction n with
  | zero => intro p v h; exact ⟨by show p ≤ _; omega, Nat.le_refl _⟩
  | succ n ih =>
    intro p v h
    rw [scn]
    split
    · have := ih (p + 1) (min (10 * v + ((pk tx p).toInt - 48).toNat) 1000) (by omega)
      omega
    · exact ⟨by show p ≤ _; omega, Nat.le_refl _⟩
theorem rNum_le {tx : List Int32} {p : Nat} {lo hi : Int32} {q : Nat × Nat} (hp : p ≤ tx.length) (h : rNum tx p lo hi = .inr q) : p + 1 ≤ q.1 ∧ q.1 ≤ tx.length ∧ lo.toInt ≤ q.2 ∧ (q.2 : Int) ≤ hi.toInt := by
  obtain ⟨rfl, o⟩ := rNum_ok h
  have := scn_end (tx := tx) (tx.length - p) p 0 (by omega)
  exact ⟨o.1, this.1, o.2.2.2.1, o.2.2.2.2⟩
theorem pkz_in {tx : List Int32} {p : Nat} (hp : pk tx p ≠ 0) : p < tx.length := by
  unfold pk at hp
  cases e : tx[p]? with
  | none => rw [e] at hp; exact absurd rfl hp
  | some c => exact (List.getElem?_eq_some_iff.mp e).1
theorem pkz_is {tx : List Int32} {p : Nat} {c : Int32} (hp : pk tx p = c) (hc : c ≠ 0) : p < tx.length := pkz_in (by rw [hp]; exact hc)
theorem pkz_nm {tx : List Int32} {p : Nat} (hp : isNm (pk tx p)) : p < tx.length := pkz_in (fun e => by
  unfold isNm at hp
  rw [e, q_0] at hp
  omega)
theorem pkz_dg {tx : List Int32} {p : Nat} (hp : isDg (pk tx p)) : p < tx.length := pkz_in (fun e => by
  unfold isDg at hp
  rw [e, q_0] at hp
  omega)
theorem rDc_le {tx : List Int32} {n p : Nat} {q : Nat × Nd} (h : rDc tx n p = .inr q) : p + 1 ≤ q.1 ∧ q.1 ≤ tx.length := by
  unfold rDc at h
  split at h
  · rename_i c
    have hp := pkz_is c (by decide)
    split at h
    · cases h
    · rename_i k hk
      have l1 := rNum_le (by omega) hk
      split at h
      · rename_i c2
        have hp2 := pkz_is c2 (by decide)
        split at h
        · split at h
          · cases h
          · rename_i k2 hk2
            have l2 := rNum_le (by omega) hk2
            cases h
            dsimp only
            omega
        · cases h
      · split at h
        · rename_i c2
          have hp2 : k.1 < tx.length := c2.elim (fun e => pkz_is e (by decide)) (fun e => pkz_is e (by decide))
          split at h
          · cases h
          · rename_i k2 hk2
            have l2 := rNum_le (by omega) hk2
            cases h
            dsimp only
            omega
        · cases h
          dsimp only
          omega
  · cases h
theorem rFc_le {tx : List Int32} : ∀ (k p : Nat) (q : Nat × List Int32), p < tx.length → rFc tx k p = .inr q → p + 1 + q.2.length ≤ q.1 ∧ q.1 ≤ tx.length ∧ q.2.length ≤ k ∧ 1 ≤ q.2.length := by
  intro k
  induction k with
  | zero => intro p q _ h; cases h
  | succ k ih =>
    intro p q hp h
    rw [rFc] at h
    split at h
    · cases h
    · rename_i a ha
      have l1 := rNum_le (by omega) ha
      split at h
      · rename_i c
        have hp2 := pkz_is c (by decide)
        split at h
        · cases h
        · rename_i b hb
          have l2 := ih a.1 b hp2 hb
          cases h
          simp only [List.length_cons]
          omega
      · cases h
        simp only [List.length_cons, List.length_nil]
        omega
theorem rLf_le {tx : List Int32} {p nf : Nat} {q : Nat × Nd × List Int32} (hp : p < tx.length) (h : rLf tx p nf = .inr q) : p + 1 + q.2.2.length ≤ q.1 ∧ q.1 ≤ tx.length ∧ q.2.2.length ≤ 8 := by
  unfold rLf at h
  split at h
  · cases h
    dsimp only [List.length_nil]
    omega
  · split at h
    · split at h
      · cases h
      · rename_i a ha
        unfold rRow at ha
        split at ha
        · cases ha
        · rename_i b hb
          have l1 := rFc_le 8 p b hp hb
          split at ha
          · rename_i c
            have hp2 := pkz_is c (by decide)
            cases ha
            cases h
            dsimp only
            omega
          · cases ha
    · split at h
      · split at h
        · cases h
        · rename_i a ha
          have l1 := rDc_le ha
          cases h
          dsimp only [List.length_nil]
          omega
      · split at h
        · cases h
        · rename_i a ha
          have l1 := rNum_le (by omega) ha
          split at h
          · split at h
            · split at h
              · cases h
              · rename_i b hb
                have l2 := rDc_le hb
                cases h
                dsimp only [List.length_nil]
                omega
            · cases h
          · cases h
            dsimp only [List.length_nil]
            omega
