/-! READING EXPRESSIONS: a plain function, written as the class reads. State: place, leaves, nodes, faces -/
abbrev Rd : Type := Nat × Nat × List Nd × List Int32
/-- how tightly a sign binds, as the class tells it; which sign it is, as the reference tells it -/
def bd (c : Int32) : Int32 := if c = 37 then 2 else if c = 42 then 2 else if c = 43 then 1 else if c = 45 then 1 else if c = 47 then 2 else if c = 60 then 0 else if c = 61 then 0 else if c = 62 then 0 else -1000
def sg (c : Int32) : Int32 := if c = 60 then 0 else if c = 62 then 1 else if c = 61 then 2 else if c = 43 then 3 else if c = 45 then 4 else if c = 42 then 5 else if c = 47 then 6 else if c = 37 then 7 else -1
def opN (c : Int32) (l r : Nat) : Nd := (3, sg c, 0, 0, 0, Int32.ofNat l, Int32.ofNat r)
def ngN (l : Nat) : Nd := (2, 0, 0, 0, 0, Int32.ofNat l, -1)
/-- operations of one binding, m more at most -/
noncomputable def rLp (tx : List Int32) (b : Nat) (sub : Rd → Nat ⊕ Rd) : Nat → Rd → Nat ⊕ Rd
  | 0, r => .inr r
  | m + 1, r =>
    if bd (pk tx r.1) = Int32.ofNat b then
      match sub (r.1 + 1, r.2) with
      | .inl w => .inl w
      | .inr q => rLp tx b sub m (q.1, q.2.1, q.2.2.1 ++ [opN (pk tx r.1) (r.2.2.1.length - 1) (q.2.2.1.length - 1)], q.2.2.2)
    else .inr r
/-- an expression (b below 4: its binding at least) or an operand (b = 4), d brackets deep -/
noncomputable def rX (tx : List Int32) : Nat → Nat → Nat → Rd → Nat ⊕ Rd
  | 0, _, _, _ => .inl 0
  | n + 1, b, d, r =>
    if b < 3 then
      match rX tx n (b + 1) d r with
      | .inl w => .inl w
      | .inr q => rLp tx b (rX tx n (b + 1) d) (if b = 0 then 1 else 40) q
    else if b = 3 then rX tx n 4 d r
    else if pk tx r.1 = 45 then
      if d < 5 then
        match rX tx n 4 (d + 1) (r.1 + 1, r.2) with
        | .inl w => .inl w
        | .inr q => .inr (q.1, q.2.1, q.2.2.1 ++ [ngN (q.2.2.1.length - 1)], q.2.2.2)
      else .inl r.1
    else if pk tx r.1 = 40 then
      if d < 5 then
        match rX tx n 0 (d + 1) (r.1 + 1, r.2) with
        | .inl w => .inl w
        | .inr q => if pk tx q.1 = 41 then .inr (q.1 + 1, q.2) else .inl q.1
      else .inl r.1
    else
      match rIt tx r.1 r.2.1 r.2.2.2.length with
      | .inl w => .inl w
      | .inr q => .inr (q.1, r.2.1 + 1, r.2.2.1 ++ [q.2.1], r.2.2.2 ++ q.2.2)
/-- how a reading goes on -/
def rLe (tx : List Int32) (r q : Rd) : Prop := r.1 ≤ q.1 ∧ q.1 ≤ tx.length ∧ (∃ l, q.2.2.1 = r.2.2.1 ++ l) ∧ q.2.2.1.length + r.1 ≤ r.2.2.1.length + q.1 ∧ (∃ l, q.2.2.2 = r.2.2.2 ++ l) ∧ q.2.2.2.length + r.1 ≤ r.2.2.2.length + q.1 ∧ r.2.1 ≤ q.2.1 ∧ q.2.1 ≤ 40
def rLt (tx : List Int32) (r q : Rd) : Prop := rLe tx r q ∧ r.1 < q.1 ∧ r.2.2.1.length < q.2.2.1.length ∧ r.2.1 < q.2.1
theorem rLe_trans {tx : List Int32} {r q s : Rd} (h : rLe tx r q) (k : rLe tx q s) : rLe tx r s := by
  obtain ⟨h1, h2, ⟨l, h3⟩, h4, ⟨m, h5⟩, h6, h7, h8⟩ := h
  obtain ⟨k1, k2, ⟨l', k3⟩, k4, ⟨m', k5⟩, k6, k7, k8⟩ := k
  exact ⟨by omega, k2, ⟨l ++ l', by rw [k3, h3, List.append_assoc]⟩, by omega, ⟨m ++ m', by rw [k5, h5, List.append_assoc]⟩, by omega, by omega, k8⟩
theorem rLe_len {tx : List Int32} {r q : Rd} (h : rLe tx r q) : r.2.2.1.length ≤ q.2.2.1.length ∧ r.2.2.2.length ≤ q.2.2.2.length := by
  obtain ⟨-, -, ⟨l, h3⟩, -, ⟨m, h5⟩, -⟩ := h
  rw [h3, h5, List.length_append, List.length_append]
  omega
/-- a node more, a character before it -/
theorem rLe_node {tx : List Int32} {r q : Rd} {nd : Nd} (h : rLe tx (r.1 + 1, r.2) q) : rLe tx r (q.1, q.2.1, q.2.2.1 ++ [nd], q.2.2.2) := by
  obtain ⟨h1, h2, ⟨l, h3⟩, h4, ⟨m, h5⟩, h6, h7, h8⟩ := h
  refine ⟨by show r.1 ≤ q.1; omega, h2, ⟨l ++ [nd], by show q.2.2.1 ++ [nd] = _; rw [h3, List.append_assoc]⟩, ?_, ⟨m, h5⟩, by dsimp only at h6 ⊢; omega, h7, h8⟩
  show (q.2.2.1 ++ [nd]).length + r.1 ≤ _
  rw [List.length_append]
  dsimp only [List.length_cons, List.length_nil] at h4 ⊢
  omega
theorem rLp_ok {tx : List Int32} {b : Nat} (hb3 : b < 3) {sub : Rd → Nat ⊕ Rd} (hs : ∀ r q, r.1 ≤ tx.length → r.2.1 ≤ 40 → sub r = .inr q → rLt tx r q) : ∀ (m : Nat) (r q : Rd), r.1 ≤ tx.length → r.2.1 ≤ 40 → rLp tx b sub m r = .inr q → rLe tx r q := by
  intro m
  induction m with
  | zero =>
    intro r q hr hl h
    cases h
    exact ⟨Nat.le_refl _, hr, ⟨[], (List.append_nil _).symm⟩, Nat.le_refl _, ⟨[], (List.append_nil _).symm⟩, Nat.le_refl _, Nat.le_refl _, hl⟩
  | succ m ih =>
    intro r q hr hl h
    rw [rLp] at h
    split at h
    · rename_i hb
      have hlt : r.1 < tx.length := pkz_in (fun e => by
        rw [e] at hb
        have : b = 0 ∨ b = 1 ∨ b = 2 := by omega
        rcases this with rfl | rfl | rfl <;> revert hb <;> decide)
      split at h
      · cases h
      · rename_i s e
        have l1 := hs (r.1 + 1, r.2) s (show r.1 + 1 ≤ _ by omega) hl e
        exact rLe_trans (rLe_node l1.1) (ih _ q l1.1.2.1 l1.1.2.2.2.2.2.2.2 h)
    · cases h
      exact ⟨Nat.le_refl _, hr, ⟨[], (List.append_nil _).symm⟩, Nat.le_refl _, ⟨[], (List.append_nil _).symm⟩, Nat.le_refl _, Nat.le_refl _, hl⟩
theorem rIt_ok {tx : List Int32} {r : Rd} {q : Nat × Nd × List Int32} (hl : r.2.1 ≤ 40) (h : rIt tx r.1 r.2.1 r.2.2.2.length = .inr q) : rLt tx r (q.1, r.2.1 + 1, r.2.2.1 ++ [q.2.1], r.2.2.2 ++ q.2.2) := by
  unfold rIt at h
  split at h
  · rename_i c
    have hlt : r.1 < tx.length := by
      rcases c.1 with k | k | k | k
      · exact pkz_nm k
      · exact pkz_dg k
      · exact pkz_is k (by decide)
      · exact pkz_is k (by decide)
    have l := rLf_le hlt h
    refine ⟨⟨?_, l.2.1, ⟨_, rfl⟩, ?_, ⟨_, rfl⟩, ?_, ?_, ?_⟩, ?_, ?_, ?_⟩ <;> dsimp only <;> (try rw [List.length_append]) <;> (try dsimp only [List.length_cons, List.length_nil]) <;> omega
  · cases h
theorem rX_ok {tx : List Int32} : ∀ (n b d : Nat) (r q : Rd), r.1 ≤ tx.length → r.2.1 ≤ 40 → rX tx n b d r = .inr q → rLt tx r q := by
  intro n
  induction n with
  | zero => intro b d r q _ _ h; cases h
  | succ n ih =>
    intro b d r q hr hl h
    rw [rX] at h
    split at h
    · rename_i hb
      split at h
      · cases h
      · rename_i s e
        have l1 := ih _ _ r s hr hl e
        have l2 := rLp_ok hb (fun r q hr hl hh => ih _ _ r q hr hl hh) _ s q l1.1.2.1 l1.1.2.2.2.2.2.2.2 h
        have l3 := rLe_len l2
        exact ⟨rLe_trans l1.1 l2, by have := l2.1; have := l1.2.1; omega, by have := l1.2.2.1; omega, by have := l1.2.2.2; have := l2.2.2.2.2.2.2.1; omega⟩
    · split at h
      · exact ih _ _ r q hr hl h
      · split at h
        · rename_i hc
          have hlt := pkz_is hc (by decide)
          split at h
          · split at h
            · cases h
            · rename_i s e
              have l1 := ih _ _ (r.1 + 1, r.2) s (show r.1 + 1 ≤ _ by omega) hl e
              cases h
              have a := l1.2.1
              have b := l1.2.2.1
              have c := l1.2.2.2
              dsimp only at a b c
              refine ⟨rLe_node l1.1, ?_, ?_, c⟩
              · show r.1 < s.1
                omega
              · show _ < (s.2.2.1 ++ [ngN (s.2.2.1.length - 1)]).length
                rw [List.length_append]
                omega
          · cases h
        · split at h
          · rename_i hc
            have hlt := pkz_is hc (by decide)
            split at h
            · split at h
              · cases h
              · rename_i s e
                have l1 := ih _ _ (r.1 + 1, r.2) s (show r.1 + 1 ≤ _ by omega) hl e
                split at h
                · rename_i hc2
                  have hlt2 := pkz_is hc2 (by decide)
                  cases h
                  obtain ⟨⟨a1, a2, a3, a4, a5, a6, a7, a8⟩, a9, a10, a11⟩ := l1
                  dsimp only at a1 a2 a3 a4 a5 a6 a7 a8 a9 a10 a11
                  refine ⟨⟨?_, ?_, a3, ?_, a5, ?_, a7, a8⟩, ?_, a10, a11⟩ <;> dsimp only <;> omega
                · cases h
            · cases h
          · split at h
            · cases h
            · rename_i s e
              cases h
              exact rIt_ok hl e
