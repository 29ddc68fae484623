/-! READING PROGRAMS: a plain function, written as the class reads. A statement: kind, about, from, to, middle, end, factor -/
abbrev St : Type := Nat × Nat × Nat × Nat × Nat × Nat × Nat
abbrev Rs : Type := List St × Rd
/-- a node's factor; the factor of a row of factors -/
def ndF (nd : Nd) : Nat := if nd.1 = 5 then nd.2.2.1.toInt.toNat else if nd.1 = 4 then pwN nd.2.2.1.toInt.toNat (if nd.2.2.2.1 = 101 then nd.2.2.2.2.1.toInt.toNat + 1 else nd.2.1.toInt.toNat) 1 else 1
def fo : List Nat → Nat → Nat
  | [], a => a
  | x :: r, a => fo r (prN a x)
/-- the factor of the nodes from lo on -/
def exF (nds : List Nd) (lo : Nat) : Nat := fo ((nds.drop lo).map ndF) 1
/-- a program in braces -/
noncomputable def rBr (tx : List Int32) (pr : Nat → Rs → Nat ⊕ (Rs × List Nat)) (dep : Nat) (s : Rs) : Nat ⊕ (Rs × List Nat) :=
  if dep < 4 ∧ pk tx s.2.1 = 123 then
    match pr (dep + 1) (s.1, s.2.1 + 1, s.2.2) with
    | .inl w => .inl w
    | .inr q => if pk tx q.1.2.1 = 125 then .inr ((q.1.1, q.1.2.1 + 1, q.1.2.2), q.2) else .inl q.1.2.1
  else .inl s.2.1
/-- the parts of a statement behind its first sign -/
noncomputable def rRep (tx : List Int32) (pr : Nat → Rs → Nat ⊕ (Rs × List Nat)) (dep : Nat) (s : Rs) : Nat ⊕ (Rs × Nat) :=
  match rNum tx (s.2.1 + 1) 0 20 with
  | .inl w => .inl w
  | .inr v =>
    match rBr tx pr dep (s.1 ++ [(3, v.2, 0, 0, s.1.length + 1, s.1.length + 1, 1)], v.1, s.2.2) with
    | .inl w => .inl w
    | .inr q => .inr ((q.1.1.set s.1.length (3, v.2, 0, 0, s.1.length + 1, q.1.1.length, pwN (fo q.2 1) v.2 1), q.1.2), pwN (fo q.2 1) v.2 1)
noncomputable def rCho (tx : List Int32) (pr : Nat → Rs → Nat ⊕ (Rs × List Nat)) (ex : Rd → Nat ⊕ Rd) (dep : Nat) (s : Rs) : Nat ⊕ (Rs × Nat) :=
  match ex (s.2.1 + 1, s.2.2) with
  | .inl w => .inl w
  | .inr r =>
    match rBr tx pr dep (s.1 ++ [(2, 0, s.2.2.2.1.length, r.2.2.1.length - 1, s.1.length + 1, s.1.length + 1, 1)], r) with
    | .inl w => .inl w
    | .inr q =>
      if pk tx q.1.2.1 = 58 then
        match rBr tx pr dep (q.1.1.set s.1.length (2, 0, s.2.2.2.1.length, r.2.2.1.length - 1, q.1.1.length, q.1.1.length, 1), q.1.2.1 + 1, q.1.2.2) with
        | .inl w => .inl w
        | .inr u => .inr ((u.1.1.set s.1.length (2, 0, s.2.2.2.1.length, r.2.2.1.length - 1, q.1.1.length, u.1.1.length, prN (exF r.2.2.1 s.2.2.2.1.length) (mlN (fo q.2 1) (fo u.2 1))), u.1.2), prN (exF r.2.2.1 s.2.2.2.1.length) (mlN (fo q.2 1) (fo u.2 1)))
      else .inr ((q.1.1.set s.1.length (2, 0, s.2.2.2.1.length, r.2.2.1.length - 1, q.1.1.length, q.1.1.length, prN (exF r.2.2.1 s.2.2.2.1.length) (mlN (fo q.2 1) 1)), q.1.2), prN (exF r.2.2.1 s.2.2.2.1.length) (mlN (fo q.2 1) 1))
/-- k: the kind, a: what it is about; from place p on -/
noncomputable def rSim (tx : List Int32) (ex : Rd → Nat ⊕ Rd) (k a p : Nat) (s : Rs) : Nat ⊕ (Rs × Nat) :=
  match ex (p, s.2.2) with
  | .inl w => .inl w
  | .inr r => if pk tx r.1 = 59 then .inr ((s.1 ++ [(k, a, s.2.2.2.1.length, r.2.2.1.length - 1, s.1.length + 1, s.1.length + 1, exF r.2.2.1 s.2.2.2.1.length)], r.1 + 1, r.2), exF r.2.2.1 s.2.2.2.1.length) else .inl r.1
noncomputable def rS (tx : List Int32) (pr : Nat → Rs → Nat ⊕ (Rs × List Nat)) (ex : Rd → Nat ⊕ Rd) (dep : Nat) (s : Rs) : Nat ⊕ (Rs × Nat) :=
  if (isNm (pk tx s.2.1) ∨ pk tx s.2.1 = 33 ∨ pk tx s.2.1 = 63 ∨ pk tx s.2.1 = 42) ∧ s.1.length < 24 then
    if pk tx s.2.1 = 63 then rCho tx pr ex dep s
    else if pk tx s.2.1 = 42 then rRep tx pr dep s
    else if pk tx s.2.1 = 33 then rSim tx ex 1 0 (s.2.1 + 1) s
    else if pk tx (s.2.1 + 1) = 61 then rSim tx ex 0 ((pk tx s.2.1).toInt - 65).toNat (s.2.1 + 2) s
    else .inl (s.2.1 + 1)
  else .inl s.2.1
/-- statements one behind another, m at most -/
noncomputable def rBl (tx : List Int32) (sub : Rs → Nat ⊕ (Rs × Nat)) : Nat → Rs → Nat ⊕ (Rs × List Nat)
  | 0, s => .inr (s, [])
  | m + 1, s =>
    if pk tx s.2.1 = 0 ∨ pk tx s.2.1 = 125 then .inr (s, [])
    else
      match sub s with
      | .inl w => .inl w
      | .inr q =>
        match rBl tx sub m q.1 with
        | .inl w => .inl w
        | .inr u => .inr (u.1, q.2 :: u.2)
/-- a program, dep braces deep -/
noncomputable def rB (tx : List Int32) : Nat → Nat → Rs → Nat ⊕ (Rs × List Nat)
  | 0, _, _ => .inl 0
  | n + 1, dep, s => rBl tx (rS tx (rB tx n) (rX tx n 0 0) dep) 25 s
/-- how a reading goes on: statements that were there stay -/
def sLe (tx : List Int32) (s q : Rs) : Prop := rLe tx s.2 q.2 ∧ s.1.length ≤ q.1.length ∧ q.1.length ≤ 24 ∧ ∀ i, i < s.1.length → q.1[i]? = s.1[i]?
def sLt (tx : List Int32) (s q : Rs) : Prop := sLe tx s q ∧ s.1.length < q.1.length ∧ s.2.1 < q.2.1
theorem sLe_trans {tx : List Int32} {s q u : Rs} (h : sLe tx s q) (k : sLe tx q u) : sLe tx s u := ⟨rLe_trans h.1 k.1, by have := h.2.1; have := k.2.1; omega, k.2.2.1, fun i hi => (k.2.2.2 i (by have := h.2.1; omega)).trans (h.2.2.2 i hi)⟩
theorem rLe_refl {tx : List Int32} {r : Rd} (h : r.1 ≤ tx.length) (hl : r.2.1 ≤ 40) : rLe tx r r := ⟨Nat.le_refl _, h, ⟨[], (List.append_nil _).symm⟩, Nat.le_refl _, ⟨[], (List.append_nil _).symm⟩, Nat.le_refl _, Nat.le_refl _, hl⟩
theorem sLe_refl {tx : List Int32} {s : Rs} (h : s.2.1 ≤ tx.length) (hl : s.2.2.1 ≤ 40) (h4 : s.1.length ≤ 24) : sLe tx s s := ⟨rLe_refl h hl, Nat.le_refl _, h4, fun _ _ => rfl⟩
/-- the place goes on by k -/
theorem rLe_at {tx : List Int32} {r q : Rd} {k : Nat} (h : rLe tx (r.1 + k, r.2) q) : rLe tx r q := by
  obtain ⟨h1, h2, h3, h4, h5, h6, h7⟩ := h
  dsimp only at h1 h4 h6
  exact ⟨by omega, h2, h3, by omega, h5, by omega, h7⟩
theorem rLe_to {tx : List Int32} {r q : Rd} (h : rLe tx r q) (hq : q.1 < tx.length) : rLe tx r (q.1 + 1, q.2) := by
  obtain ⟨h1, h2, h3, h4, h5, h6, h7⟩ := h
  exact ⟨by dsimp only; omega, hq, h3, by dsimp only; omega, h5, by dsimp only; omega, h7⟩
theorem rBr_ok {tx : List Int32} {pr : Nat → Rs → Nat ⊕ (Rs × List Nat)} (hpr : ∀ dep s q, s.2.1 ≤ tx.length → s.2.2.1 ≤ 40 → s.1.length ≤ 24 → pr dep s = .inr q → sLe tx s q.1) {dep : Nat} {s : Rs} {q : Rs × List Nat} (h1 : s.2.1 ≤ tx.length) (h2 : s.2.2.1 ≤ 40) (h3 : s.1.length ≤ 24) (h : rBr tx pr dep s = .inr q) : sLe tx s q.1 ∧ s.2.1 + 2 ≤ q.1.2.1 := by
  unfold rBr at h
  split at h
  · rename_i c
    have hlt := pkz_is c.2 (by decide)
    split at h
    · cases h
    · rename_i u e
      have l := hpr (dep + 1) (s.1, s.2.1 + 1, s.2.2) u hlt h2 h3 e
      split at h
      · rename_i c2
        have hlt2 := pkz_is c2 (by decide)
        cases h
        have := l.1.1
        dsimp only at this
        exact ⟨⟨rLe_to (rLe_at (k := 1) l.1) hlt2, l.2⟩, by dsimp only; omega⟩
      · cases h
  · cases h
theorem set_old {s q : List St} {x t : St} (hl : s.length + 1 ≤ q.length) (h : ∀ i, i < (s ++ [x]).length → q[i]? = (s ++ [x])[i]?) : ∀ i, i < s.length → (q.set s.length t)[i]? = s[i]? := by
  intro i hi
  rw [List.getElem?_set_ne (by omega), h i (by rw [List.length_append]; omega), List.getElem?_append_left hi]
theorem rSim_ok {tx : List Int32} {ex : Rd → Nat ⊕ Rd} (hex : ∀ r q, r.1 ≤ tx.length → r.2.1 ≤ 40 → ex r = .inr q → rLt tx r q) {k a p : Nat} {s : Rs} {q : Rs × Nat} (hp : s.2.1 < p ∧ p ≤ tx.length) (h2 : s.2.2.1 ≤ 40) (h3 : s.1.length < 24) (h : rSim tx ex k a p s = .inr q) : sLt tx s q.1 := by
  unfold rSim at h
  split at h
  · cases h
  · rename_i r e
    have l := hex (p, s.2.2) r hp.2 h2 e
    split at h
    · rename_i c
      have hlt := pkz_is c (by decide)
      cases h
      have l1 := l.1.1
      dsimp only at l1
      have l2 : rLe tx s.2 r := by
        have := l.1
        obtain ⟨k, hk⟩ : ∃ k, p = s.2.1 + k := ⟨p - s.2.1, by omega⟩
        rw [hk] at this
        exact rLe_at this
      refine ⟨⟨rLe_to l2 hlt, ?_, ?_, ?_⟩, ?_, ?_⟩
      · dsimp only
        rw [List.length_append]
        omega
      · dsimp only
        rw [List.length_append]
        exact h3
      · intro i hi
        exact List.getElem?_append_left hi
      · dsimp only
        rw [List.length_append]
        dsimp only [List.length_cons]
        omega
      · dsimp only
        omega
    · cases h
theorem rS_ok {tx : List Int32} {pr : Nat → Rs → Nat ⊕ (Rs × List Nat)} {ex : Rd → Nat ⊕ Rd} (hpr : ∀ dep s q, s.2.1 ≤ tx.length → s.2.2.1 ≤ 40 → s.1.length ≤ 24 → pr dep s = .inr q → sLe tx s q.1) (hex : ∀ r q, r.1 ≤ tx.length → r.2.1 ≤ 40 → ex r = .inr q → rLt tx r q) {dep : Nat} {s : Rs} {q : Rs × Nat} (h2 : s.2.2.1 ≤ 40) (h : rS tx pr ex dep s = .inr q) : sLt tx s q.1 := by
  unfold rS at h
  split at h
  · rename_i c
    have hlt : s.2.1 < tx.length := by
      rcases c.1 with k | k | k | k
      · exact pkz_nm k
      · exact pkz_is k (by decide)
      · exact pkz_is k (by decide)
      · exact pkz_is k (by decide)
    split at h
    · unfold rCho at h
      split at h
      · cases h
      · rename_i r e
        have l := hex (s.2.1 + 1, s.2.2) r hlt h2 e
        have l0 := rLe_at l.1
        have l1 := l.1.1
        dsimp only at l1
        split at h
        · cases h
        · rename_i q1 e1
          have k1 := rBr_ok hpr (s := (s.1 ++ [_], r)) l.1.2.1 l.1.2.2.2.2.2.2.2 (by rw [List.length_append]; exact c.2) e1
          have k1' := k1.1.2
          dsimp only at k1'
          rw [List.length_append, List.length_singleton] at k1'
          have k10 := k1.2
          dsimp only at k10
          split at h
          · rename_i c2
            have hlt2 := pkz_is c2 (by decide)
            split at h
            · cases h
            · rename_i u e2
              have k2 := rBr_ok hpr (s := (q1.1.1.set s.1.length _, q1.1.2.1 + 1, q1.1.2.2)) hlt2 k1.1.1.2.2.2.2.2.2.2 (by rw [List.length_set]; exact k1'.2.1) e2
              have k2' := k2.1.2
              dsimp only at k2'
              rw [List.length_set] at k2'
              have k20 := k2.2
              dsimp only at k20
              cases h
              refine ⟨⟨rLe_trans l0 (rLe_trans k1.1.1 (rLe_at k2.1.1)), ?_, ?_, ?_⟩, ?_, ?_⟩
              · dsimp only
                rw [List.length_set]
                omega
              · dsimp only
                rw [List.length_set]
                exact k2'.2.1
              · intro i hi
                dsimp only
                rw [List.getElem?_set_ne (by omega), k2'.2.2 i (by omega), List.getElem?_set_ne (by omega), k1'.2.2 i (by omega), List.getElem?_append_left hi]
              · dsimp only
                rw [List.length_set]
                omega
              · dsimp only
                omega
          · cases h
            refine ⟨⟨rLe_trans l0 k1.1.1, ?_, ?_, ?_⟩, ?_, ?_⟩
            · dsimp only
              rw [List.length_set]
              omega
            · dsimp only
              rw [List.length_set]
              exact k1'.2.1
            · intro i hi
              dsimp only
              rw [List.getElem?_set_ne (by omega), k1'.2.2 i (by omega), List.getElem?_append_left hi]
            · dsimp only
              rw [List.length_set]
              omega
            · dsimp only
              omega
    · split at h
      · unfold rRep at h
        split at h
        · cases h
        · rename_i v e
          have l := rNum_le (show s.2.1 + 1 ≤ tx.length from hlt) e
          split at h
          · cases h
          · rename_i q1 e1
            have k1 := rBr_ok hpr (s := (s.1 ++ [_], v.1, s.2.2)) l.2.1 h2 (by rw [List.length_append]; exact c.2) e1
            have k1' := k1.1.2
            dsimp only at k1'
            rw [List.length_append, List.length_singleton] at k1'
            have k10 := k1.2
            dsimp only at k10
            have k11 : rLe tx s.2 q1.1.2 := by
              have := k1.1.1
              obtain ⟨k, hk⟩ : ∃ k, v.1 = s.2.1 + k := ⟨v.1 - s.2.1, by omega⟩
              dsimp only at this
              rw [hk] at this
              exact rLe_at this
            cases h
            refine ⟨⟨k11, ?_, ?_, ?_⟩, ?_, ?_⟩
            · dsimp only
              rw [List.length_set]
              omega
            · dsimp only
              rw [List.length_set]
              exact k1'.2.1
            · intro i hi
              dsimp only
              rw [List.getElem?_set_ne (by omega), k1'.2.2 i (by omega), List.getElem?_append_left hi]
            · dsimp only
              rw [List.length_set]
              omega
            · dsimp only
              omega
      · split at h
        · exact rSim_ok hex ⟨by omega, hlt⟩ h2 c.2 h
        · split at h
          · rename_i c2
            have hlt2 := pkz_is c2 (by decide)
            exact rSim_ok hex ⟨by omega, hlt2⟩ h2 c.2 h
          · cases h
  · cases h
theorem rBl_ok {tx : List Int32} {sub : Rs → Nat ⊕ (Rs × Nat)} (hs : ∀ s q, s.2.1 ≤ tx.length → s.2.2.1 ≤ 40 → s.1.length ≤ 24 → sub s = .inr q → sLt tx s q.1) : ∀ (m : Nat) (s : Rs) (q : Rs × List Nat), s.2.1 ≤ tx.length → s.2.2.1 ≤ 40 → s.1.length ≤ 24 → rBl tx sub m s = .inr q → sLe tx s q.1 := by
  intro m
  induction m with
  | zero =>
    intro s q h1 h2 h3 h
    cases h
    exact sLe_refl h1 h2 h3
  | succ m ih =>
    intro s q h1 h2 h3 h
    rw [rBl] at h
    split at h
    · cases h
      exact sLe_refl h1 h2 h3
    · split at h
      · cases h
      · rename_i u e
        have l := hs s u h1 h2 h3 e
        split at h
        · cases h
        · rename_i v e2
          cases h
          exact sLe_trans l.1 (ih u.1 v l.1.1.2.1 l.1.1.2.2.2.2.2.2.2 l.1.2.2.1 e2)
theorem rB_ok {tx : List Int32} : ∀ (n dep : Nat) (s : Rs) (q : Rs × List Nat), s.2.1 ≤ tx.length → s.2.2.1 ≤ 40 → s.1.length ≤ 24 → rB tx n dep s = .inr q → sLe tx s q.1 := by
  intro n
  induction n with
  | zero => intro dep s q _ _ _ h; cases h
  | succ n ih =>
    intro dep s q h1 h2 h3 h
    exact rBl_ok (fun s q _ k2 _ k => rS_ok (fun d s q a b c e => ih d s q a b c e) (fun r q a b e => rX_ok n 0 0 r q a b e) k2 k) 25 s q h1 h2 h3 h
