/-! WHAT IS READ: leaves are at most 40, statements' expressions lie one behind another, braces are at most 4 deep -/
def isLf (nd : Nd) : Bool := decide (nd.1 ≠ 2 ∧ nd.1 ≠ 3)
def lcn (nds : List Nd) : Nat := (nds.filter isLf).length
theorem lcn_app {a b : List Nd} : lcn (a ++ b) = lcn a + lcn b := by unfold lcn; rw [List.filter_append, List.length_append]
theorem lcn_op {c : Int32} {l r : Nat} : lcn [opN c l r] = 0 := rfl
theorem lcn_ng {l : Nat} : lcn [ngN l] = 0 := rfl
theorem lcn_1 {nd : Nd} : lcn [nd] ≤ 1 := by
  unfold lcn
  exact List.length_filter_le _ _
def rLc (r : Rd) : Prop := lcn r.2.2.1 ≤ r.2.1
theorem rLp_lc {tx : List Int32} {b : Nat} {sub : Rd → Nat ⊕ Rd} (hs : ∀ r q, rLc r → sub r = .inr q → rLc q) : ∀ (m : Nat) (r q : Rd), rLc r → rLp tx b sub m r = .inr q → rLc q := by
  intro m
  induction m with
  | zero => intro r q hr h; cases h; exact hr
  | succ m ih =>
    intro r q hr h
    rw [rLp] at h
    split at h
    · split at h
      · cases h
      · rename_i s e
        have k := hs (r.1 + 1, r.2) s hr e
        refine ih _ q ?_ h
        show lcn (s.2.2.1 ++ [_]) ≤ s.2.1
        rw [lcn_app, lcn_op]
        exact k
    · cases h
      exact hr
theorem rX_lc {tx : List Int32} : ∀ (n b d : Nat) (r q : Rd), rLc r → rX tx n b d r = .inr q → rLc q := by
  intro n
  induction n with
  | zero => intro b d r q _ h; cases h
  | succ n ih =>
    intro b d r q hr h
    rw [rX] at h
    split at h
    · split at h
      · cases h
      · rename_i s e
        exact rLp_lc (fun r q a c => ih _ _ r q a c) _ s q (ih _ _ r s hr e) h
    · split at h
      · exact ih _ _ r q hr h
      · split at h
        · split at h
          · split at h
            · cases h
            · rename_i s e
              have k := ih _ _ (r.1 + 1, r.2) s hr e
              cases h
              show lcn (s.2.2.1 ++ [_]) ≤ s.2.1
              rw [lcn_app, lcn_ng]
              exact k
          · cases h
        · split at h
          · split at h
            · split at h
              · cases h
              · rename_i s e
                have k := ih _ _ (r.1 + 1, r.2) s hr e
                split at h
                · cases h
                  exact k
                · cases h
            · cases h
          · split at h
            · cases h
            · rename_i s e
              cases h
              show lcn (r.2.2.1 ++ [s.2.1]) ≤ r.2.1 + 1
              rw [lcn_app]
              have := lcn_1 (nd := s.2.1)
              have : lcn r.2.2.1 ≤ r.2.1 := hr
              omega
/-- no more than so many braces -/
def nest (sts : List St) : Nat → Nat → Prop
  | 0, s => ∀ t, sts[s]? = some t → t.1 < 2
  | k + 1, s => ∀ t, sts[s]? = some t → 2 ≤ t.1 → ∀ i, s < i → i < t.2.2.2.2.2.1 → nest sts k i
theorem nest_up {sts : List St} : ∀ (k s : Nat), nest sts k s → nest sts (k + 1) s := by
  intro k
  induction k with
  | zero => intro s h t ht h2; have := h t ht; omega
  | succ k ih => intro s h t ht h2 i h3 h4; exact ih i (h t ht h2 i h3 h4)
theorem nest_lt {sts : List St} {k s : Nat} (h : ∀ t, sts[s]? = some t → t.1 < 2) : nest sts k s := by
  cases k with
  | zero => exact h
  | succ k => intro t ht h2; have := h t ht; omega
/-- statements from s to q: where their expressions lie, how deep their braces go -/
def PB (d : Nat) (s q : Rs) : Prop := ∀ sts : List St, AG sts q.1 s.1.length q.1.length → ∀ i, s.1.length ≤ i → i < q.1.length → nest sts d i ∧ ∀ t, sts[i]? = some t → t.1 ≠ 3 → s.2.2.2.1.length ≤ t.2.2.1 ∧ t.2.2.1 ≤ t.2.2.2.1 ∧ t.2.2.2.1 < q.2.2.2.1.length ∧ ∀ j u, i < j → j < q.1.length → sts[j]? = some u → u.1 ≠ 3 → t.2.2.2.1 < u.2.2.1
section PBS
variable {tx : List Int32}
/-- one statement, its expression, the statements inside -/
theorem PB_one {d : Nat} {s r q : Rs} {t : St} (hq : s.1.length + 1 ≤ q.1.length) (hlen : ∃ l, q.2.2.2.1 = r.2.2.2.1 ++ l) (hrs : r.1.length = s.1.length + 1) (hsr : s.2.2.2.1.length ≤ r.2.2.2.1.length) (ht : q.1[s.1.length]? = some t) (hkind : t.1 = 3 ∨ (s.2.2.2.1.length ≤ t.2.2.1 ∧ t.2.2.1 ≤ t.2.2.2.1 ∧ t.2.2.2.1 < r.2.2.2.1.length)) (hend : t.2.2.2.2.2.1 ≤ q.1.length) (hin : PB d r q) (hd : 2 ≤ t.1 ∨ q.1.length = s.1.length + 1) : PB (d + 1) s q := by
  intro sts ag i h1 h2
  obtain ⟨l, hl⟩ := hlen
  have hle : r.2.2.2.1.length ≤ q.2.2.2.1.length := by rw [hl, List.length_append]; omega
  have ag' : AG sts q.1 r.1.length q.1.length := fun j j1 j2 => ag j (by omega) j2
  have at_ : sts[s.1.length]? = some t := (ag _ (Nat.le_refl _) (by omega)).trans ht
  by_cases e : i = s.1.length
  · subst e
    refine ⟨fun t' ht' _ j j1 j2 => ?_, fun t' ht' hk => ?_⟩
    · rw [at_] at ht'
      cases ht'
      exact (hin sts ag' j (by omega) (by omega)).1
    · rw [at_] at ht'
      cases ht'
      rcases hkind with k | ⟨k1, k2, k3⟩
      · exact absurd k hk
      · refine ⟨k1, k2, by omega, fun j u j1 j2 ju jk => ?_⟩
        have := ((hin sts ag' j (by omega) j2).2 u ju jk).1
        omega
  · obtain ⟨a1, a2⟩ := hin sts ag' i (by omega) h2
    refine ⟨nest_up _ _ a1, fun t' ht' hk => ?_⟩
    obtain ⟨b1, b2, b3, b4⟩ := a2 t' ht' hk
    exact ⟨by omega, b2, b3, b4⟩
theorem PB_nil {d : Nat} {s q : Rs} (h : q.1.length = s.1.length) : PB d s q := by
  intro sts _ i h1 h2
  omega
/-- one behind another -/
theorem PB_app {d : Nat} {s q u : Rs} (h1 : PB d s q) (h2 : PB d q u) (hsq : sLe tx s q) (hqu : sLe tx q u) : PB d s u := by
  intro sts ag i i1 i2
  have e1 := hsq.2.1
  have e2 := hqu.2.1
  have n1 := rLe_len hsq.1
  have n2 := rLe_len hqu.1
  have agq : AG sts q.1 s.1.length q.1.length := fun j j1 j2 => (ag j j1 (by omega)).trans (hqu.2.2.2 j j2)
  have agu : AG sts u.1 q.1.length u.1.length := fun j j1 j2 => ag j (by omega) j2
  by_cases c : i < q.1.length
  · obtain ⟨a1, a2⟩ := h1 sts agq i i1 c
    refine ⟨a1, fun t ht hk => ?_⟩
    obtain ⟨b1, b2, b3, b4⟩ := a2 t ht hk
    refine ⟨b1, b2, by omega, fun j w j1 j2 jw jk => ?_⟩
    by_cases c2 : j < q.1.length
    · exact b4 j w j1 c2 jw jk
    · have := ((h2 sts agu j (by omega) j2).2 w jw jk).1
      omega
  · obtain ⟨a1, a2⟩ := h2 sts agu i (by omega) i2
    refine ⟨a1, fun t ht hk => ?_⟩
    obtain ⟨b1, b2, b3, b4⟩ := a2 t ht hk
    exact ⟨by omega, b2, b3, b4⟩
/-- where a statement's row is told anew -/
theorem PB_set {d : Nat} {r q : Rs} {k : Nat} {t : St} (h : PB d r q) (hk : k < r.1.length) : PB d r (q.1.set k t, q.2) := by
  intro sts ag i i1 i2
  dsimp only at ag i2 ⊢
  rw [List.length_set] at ag i2 ⊢
  exact h sts (fun j j1 j2 => by rw [ag j j1 j2, List.getElem?_set_ne (by omega)]) i i1 i2
theorem rBr_pb {pr : Nat → Rs → Nat ⊕ (Rs × List Nat)} (hpb : ∀ dep s q, dep ≤ 4 → s.2.1 ≤ tx.length → s.2.2.1 ≤ 40 → s.1.length ≤ 24 → rLc s.2 → pr dep s = .inr q → PB (4 - dep) s q.1 ∧ rLc q.1.2) {dep : Nat} {s : Rs} {q : Rs × List Nat} (h2 : s.2.2.1 ≤ 40) (h3 : s.1.length ≤ 24) (hf : rLc s.2) (h : rBr tx pr dep s = .inr q) : dep < 4 ∧ PB (4 - (dep + 1)) s q.1 ∧ rLc q.1.2 := by
  unfold rBr at h
  split at h
  · rename_i c
    have hlt := pkz_is c.2 (by decide)
    split at h
    · cases h
    · rename_i u e
      have l := hpb (dep + 1) (s.1, s.2.1 + 1, s.2.2) u (by omega) hlt h2 h3 hf e
      split at h
      · cases h
        exact ⟨c.1, l.1, l.2⟩
      · cases h
  · cases h
theorem rSim_pb {ex : Rd → Nat ⊕ Rd} (hex : ∀ r q, r.1 ≤ tx.length → r.2.1 ≤ 40 → ex r = .inr q → rLt tx r q) (hlc : ∀ r q, rLc r → ex r = .inr q → rLc q) {d k a p : Nat} (hk : k < 2) {s : Rs} {q : Rs × Nat} (hp : p ≤ tx.length) (h2 : s.2.2.1 ≤ 40) (hf : rLc s.2) (h : rSim tx ex k a p s = .inr q) : PB d s q.1 ∧ rLc q.1.2 := by
  unfold rSim at h
  split at h
  · cases h
  · rename_i r e
    have l := hex (p, s.2.2) r hp h2 e
    have lc := hlc (p, s.2.2) r hf e
    have l3 := l.2.2.1
    dsimp only at l3
    split at h
    · cases h
      refine ⟨?_, lc⟩
      intro sts ag i i1 i2
      dsimp only at ag i2 ⊢
      have ll : (s.1 ++ [((k, a, s.2.2.2.1.length, r.2.2.1.length - 1, s.1.length + 1, s.1.length + 1, exF r.2.2.1 s.2.2.2.1.length) : St)]).length = s.1.length + 1 := by rw [List.length_append]; rfl
      rw [ll] at ag i2
      have e : i = s.1.length := by omega
      subst e
      have at_ : sts[s.1.length]? = some (k, a, s.2.2.2.1.length, r.2.2.1.length - 1, s.1.length + 1, s.1.length + 1, exF r.2.2.1 s.2.2.2.1.length) := by
        rw [ag s.1.length (Nat.le_refl _) (by omega), List.getElem?_append_right (Nat.le_refl _), Nat.sub_self]
        rfl
      refine ⟨nest_lt (fun t ht => by rw [at_] at ht; cases ht; exact hk), fun t ht _ => ?_⟩
      rw [at_] at ht
      cases ht
      dsimp only
      refine ⟨Nat.le_refl _, by omega, by omega, fun j u j1 j2 => ?_⟩
      rw [ll] at j2
      omega
    · cases h
theorem rS_pb {pr : Nat → Rs → Nat ⊕ (Rs × List Nat)} {ex : Rd → Nat ⊕ Rd} (hpr : ∀ dep s q, s.2.1 ≤ tx.length → s.2.2.1 ≤ 40 → s.1.length ≤ 24 → pr dep s = .inr q → sLe tx s q.1) (hpb : ∀ dep s q, dep ≤ 4 → s.2.1 ≤ tx.length → s.2.2.1 ≤ 40 → s.1.length ≤ 24 → rLc s.2 → pr dep s = .inr q → PB (4 - dep) s q.1 ∧ rLc q.1.2) (hex : ∀ r q, r.1 ≤ tx.length → r.2.1 ≤ 40 → ex r = .inr q → rLt tx r q) (hlc : ∀ r q, rLc r → ex r = .inr q → rLc q) {dep : Nat} {s : Rs} {q : Rs × Nat} (h2 : s.2.2.1 ≤ 40) (hf : rLc s.2) (h : rS tx pr ex dep s = .inr q) : PB (4 - dep) s q.1 ∧ rLc q.1.2 := by
  unfold rS at h
  split at h
  · rename_i c
    have hlt : s.2.1 < tx.length := by
      rcases c.1 with k | k | k | k
      · exact pkz_nm k
      · exact pkz_is k (by decide)
      · exact pkz_is k (by decide)
      · exact pkz_is k (by decide)
    split at h
    · unfold rCho at h
      split at h
      · cases h
      · rename_i r e
        have l := hex (s.2.1 + 1, s.2.2) r hlt h2 e
        have lc := hlc (s.2.1 + 1, s.2.2) r hf e
        have l3 := l.2.2.1
        dsimp only at l3
        split at h
        · cases h
        · rename_i q1 e1
          have k1 := rBr_ok hpr (s := (s.1 ++ [_], r)) l.1.2.1 l.1.2.2.2.2.2.2.2 (by rw [List.length_append]; exact c.2) e1
          have b1 := rBr_pb hpb (s := (s.1 ++ [_], r)) l.1.2.2.2.2.2.2.2 (by rw [List.length_append]; exact c.2) lc e1
          obtain ⟨hdep, pb1, lc1⟩ := b1
          have k1' := k1.1.2
          dsimp only at k1'
          rw [List.length_append, List.length_singleton] at k1'
          split at h
          · rename_i c2
            have hlt2 := pkz_is c2 (by decide)
            split at h
            · cases h
            · rename_i u e2
              have k2 := rBr_ok hpr (s := (q1.1.1.set s.1.length _, q1.1.2.1 + 1, q1.1.2.2)) hlt2 k1.1.1.2.2.2.2.2.2.2 (by rw [List.length_set]; exact k1'.2.1) e2
              have b2 := rBr_pb hpb (s := (q1.1.1.set s.1.length _, q1.1.2.1 + 1, q1.1.2.2)) k1.1.1.2.2.2.2.2.2.2 (by rw [List.length_set]; exact k1'.2.1) lc1 e2
              obtain ⟨-, pb2, lc2⟩ := b2
              have k2' := k2.1.2
              dsimp only at k2'
              rw [List.length_set] at k2'
              have kk := k2.1
              cases h
              refine ⟨?_, lc2⟩
              obtain ⟨l1, hl1⟩ := k1.1.1.2.2.1
              obtain ⟨l2, hl2⟩ := k2.1.1.2.2.1
              dsimp only at hl1 hl2
              have pbA := PB_set (t := (2, 0, s.2.2.2.1.length, r.2.2.1.length - 1, q1.1.1.length, q1.1.1.length, 1)) (k := s.1.length) pb1 (by dsimp only; rw [List.length_append]; exact Nat.lt_succ_self _)
              have q1le : sLe tx (s.1 ++ [((2, 0, s.2.2.2.1.length, r.2.2.1.length - 1, s.1.length + 1, s.1.length + 1, 1) : St)], r) q1.1 := k1.1
              have pbB : PB (4 - (dep + 1)) (s.1 ++ [((2, 0, s.2.2.2.1.length, r.2.2.1.length - 1, s.1.length + 1, s.1.length + 1, 1) : St)], r) u.1 := by
                intro sts ag i i1 i2
                have ll : (s.1 ++ [((2, 0, s.2.2.2.1.length, r.2.2.1.length - 1, s.1.length + 1, s.1.length + 1, 1) : St)]).length = s.1.length + 1 := by rw [List.length_append]; rfl
                dsimp only at ag i1
                rw [ll] at ag i1
                have n2 : q1.1.2.2.2.1.length ≤ u.1.2.2.2.1.length := by rw [hl2, List.length_append]; omega
                have n1 : r.2.2.1.length ≤ q1.1.2.2.2.1.length := by rw [hl1, List.length_append]; omega
                have agq : AG sts q1.1.1 (s.1 ++ [((2, 0, s.2.2.2.1.length, r.2.2.1.length - 1, s.1.length + 1, s.1.length + 1, 1) : St)]).length q1.1.1.length := fun j j1 j2 => by
                  rw [ll] at j1
                  rw [ag j j1 (by omega), k2'.2.2 j j2, List.getElem?_set_ne (by omega)]
                have agu : AG sts u.1.1 (q1.1.1.set s.1.length ((2, 0, s.2.2.2.1.length, r.2.2.1.length - 1, q1.1.1.length, q1.1.1.length, 1) : St)).length u.1.1.length := fun j j1 j2 => by
                  rw [List.length_set] at j1
                  exact ag j (by omega) j2
                by_cases c3 : i < q1.1.1.length
                · obtain ⟨a1, a2⟩ := pb1 sts agq i (by dsimp only; rw [ll]; exact i1) c3
                  refine ⟨a1, fun t ht hk => ?_⟩
                  obtain ⟨b1, b2, b3, b4⟩ := a2 t ht hk
                  refine ⟨b1, b2, by omega, fun j w j1 j2 jw jk => ?_⟩
                  by_cases c4 : j < q1.1.1.length
                  · exact b4 j w j1 c4 jw jk
                  · have := ((pb2 sts agu j (by dsimp only; rw [List.length_set]; omega) j2).2 w jw jk).1
                    dsimp only at this
                    omega
                · obtain ⟨a1, a2⟩ := pb2 sts agu i (by dsimp only; rw [List.length_set]; omega) i2
                  refine ⟨a1, fun t ht hk => ?_⟩
                  obtain ⟨b1, b2, b3, b4⟩ := a2 t ht hk
                  dsimp only at b1 ⊢
                  exact ⟨by omega, b2, b3, b4⟩
              have pbC := PB_set (t := (2, 0, s.2.2.2.1.length, r.2.2.1.length - 1, q1.1.1.length, u.1.1.length, prN (exF r.2.2.1 s.2.2.2.1.length) (mlN (fo q1.2 1) (fo u.2 1)))) (k := s.1.length) pbB (by dsimp only; rw [List.length_append]; exact Nat.lt_succ_self _)
              have := PB_one (d := 4 - (dep + 1)) (s := s) (r := (s.1 ++ [((2, 0, s.2.2.2.1.length, r.2.2.1.length - 1, s.1.length + 1, s.1.length + 1, 1) : St)], r)) (t := (2, 0, s.2.2.2.1.length, r.2.2.1.length - 1, q1.1.1.length, u.1.1.length, prN (exF r.2.2.1 s.2.2.2.1.length) (mlN (fo q1.2 1) (fo u.2 1)))) (q := (u.1.1.set s.1.length (2, 0, s.2.2.2.1.length, r.2.2.1.length - 1, q1.1.1.length, u.1.1.length, prN (exF r.2.2.1 s.2.2.2.1.length) (mlN (fo q1.2 1) (fo u.2 1))), u.1.2)) (by dsimp only; rw [List.length_set]; omega) ⟨l1 ++ l2, by dsimp only; rw [hl2, hl1, List.append_assoc]⟩ (by dsimp only; rw [List.length_append]; rfl) (by dsimp only; omega) (by dsimp only; rw [List.getElem?_set_self (by omega)]) (Or.inr ⟨Nat.le_refl _, by dsimp only; omega, by dsimp only; omega⟩) (by dsimp only; rw [List.length_set]; exact Nat.le_refl _) pbC (Or.inl (Nat.le_refl _))
              rw [show 4 - dep = 4 - (dep + 1) + 1 by omega]
              exact this
          · cases h
            refine ⟨?_, lc1⟩
            obtain ⟨l1, hl1⟩ := k1.1.1.2.2.1
            dsimp only at hl1
            have pbC := PB_set (t := (2, 0, s.2.2.2.1.length, r.2.2.1.length - 1, q1.1.1.length, q1.1.1.length, prN (exF r.2.2.1 s.2.2.2.1.length) (mlN (fo q1.2 1) 1))) (k := s.1.length) pb1 (by dsimp only; rw [List.length_append]; exact Nat.lt_succ_self _)
            have := PB_one (d := 4 - (dep + 1)) (s := s) (r := (s.1 ++ [((2, 0, s.2.2.2.1.length, r.2.2.1.length - 1, s.1.length + 1, s.1.length + 1, 1) : St)], r)) (t := (2, 0, s.2.2.2.1.length, r.2.2.1.length - 1, q1.1.1.length, q1.1.1.length, prN (exF r.2.2.1 s.2.2.2.1.length) (mlN (fo q1.2 1) 1))) (q := (q1.1.1.set s.1.length (2, 0, s.2.2.2.1.length, r.2.2.1.length - 1, q1.1.1.length, q1.1.1.length, prN (exF r.2.2.1 s.2.2.2.1.length) (mlN (fo q1.2 1) 1)), q1.1.2)) (by dsimp only; rw [List.length_set]; omega) ⟨l1, by dsimp only; rw [hl1]⟩ (by dsimp only; rw [List.length_append]; rfl) (by dsimp only; omega) (by dsimp only; rw [List.getElem?_set_self (by omega)]) (Or.inr ⟨Nat.le_refl _, by dsimp only; omega, by dsimp only; omega⟩) (by dsimp only; rw [List.length_set]; exact Nat.le_refl _) pbC (Or.inl (Nat.le_refl _))
            rw [show 4 - dep = 4 - (dep + 1) + 1 by omega]
            exact this
    · split at h
      · unfold rRep at h
        split at h
        · cases h
        · rename_i v e
          have l := rNum_le (show s.2.1 + 1 ≤ tx.length from hlt) e
          split at h
          · cases h
          · rename_i q1 e1
            have k1 := rBr_ok hpr (s := (s.1 ++ [_], v.1, s.2.2)) l.2.1 h2 (by rw [List.length_append]; exact c.2) e1
            have b1 := rBr_pb hpb (s := (s.1 ++ [_], v.1, s.2.2)) h2 (by rw [List.length_append]; exact c.2) hf e1
            obtain ⟨hdep, pb1, lc1⟩ := b1
            have k1' := k1.1.2
            dsimp only at k1'
            rw [List.length_append, List.length_singleton] at k1'
            cases h
            refine ⟨?_, lc1⟩
            obtain ⟨l1, hl1⟩ := k1.1.1.2.2.1
            dsimp only at hl1
            have pbC := PB_set (t := (3, v.2, 0, 0, s.1.length + 1, q1.1.1.length, pwN (fo q1.2 1) v.2 1)) (k := s.1.length) pb1 (by dsimp only; rw [List.length_append]; exact Nat.lt_succ_self _)
            have := PB_one (d := 4 - (dep + 1)) (s := s) (r := (s.1 ++ [((3, v.2, 0, 0, s.1.length + 1, s.1.length + 1, 1) : St)], v.1, s.2.2)) (t := (3, v.2, 0, 0, s.1.length + 1, q1.1.1.length, pwN (fo q1.2 1) v.2 1)) (q := (q1.1.1.set s.1.length (3, v.2, 0, 0, s.1.length + 1, q1.1.1.length, pwN (fo q1.2 1) v.2 1), q1.1.2)) (by dsimp only; rw [List.length_set]; omega) ⟨l1, by dsimp only; rw [hl1]⟩ (by dsimp only; rw [List.length_append]; rfl) (by dsimp only; omega) (by dsimp only; rw [List.getElem?_set_self (by omega)]) (Or.inl rfl) (by dsimp only; rw [List.length_set]; exact Nat.le_refl _) pbC (Or.inl (show 2 ≤ 3 by decide))
            rw [show 4 - dep = 4 - (dep + 1) + 1 by omega]
            exact this
      · split at h
        · exact rSim_pb hex hlc (by decide) hlt h2 hf h
        · split at h
          · rename_i c2
            have hlt2 := pkz_is c2 (by decide)
            exact rSim_pb hex hlc (by decide) hlt2 h2 hf h
          · cases h
  · cases h
theorem rBl_pb {d : Nat} {sub : Rs → Nat ⊕ (Rs × Nat)} (hs : ∀ s q, s.2.1 ≤ tx.length → s.2.2.1 ≤ 40 → s.1.length ≤ 24 → sub s = .inr q → sLt tx s q.1) (hx : ∀ s q, s.2.1 ≤ tx.length → s.2.2.1 ≤ 40 → s.1.length ≤ 24 → rLc s.2 → sub s = .inr q → PB d s q.1 ∧ rLc q.1.2) : ∀ (m : Nat) (s : Rs) (q : Rs × List Nat), s.2.1 ≤ tx.length → s.2.2.1 ≤ 40 → s.1.length ≤ 24 → rLc s.2 → rBl tx sub m s = .inr q → PB d s q.1 ∧ rLc q.1.2 := by
  intro m
  induction m with
  | zero =>
    intro s q h1 h2 h3 hf h
    cases h
    exact ⟨PB_nil rfl, hf⟩
  | succ m ih =>
    intro s q h1 h2 h3 hf h
    rw [rBl] at h
    split at h
    · cases h
      exact ⟨PB_nil rfl, hf⟩
    · split at h
      · cases h
      · rename_i u e
        have l := hs s u h1 h2 h3 e
        obtain ⟨x1, x2⟩ := hx s u h1 h2 h3 hf e
        split at h
        · cases h
        · rename_i v e2
          cases h
          have k := rBl_ok hs m u.1 v l.1.1.2.1 l.1.1.2.2.2.2.2.2.2 l.1.2.2.1 e2
          obtain ⟨y1, y2⟩ := ih u.1 v l.1.1.2.1 l.1.1.2.2.2.2.2.2.2 l.1.2.2.1 x2 e2
          exact ⟨PB_app x1 y1 l.1 k, y2⟩
theorem rB_pb : ∀ (n dep : Nat) (s : Rs) (q : Rs × List Nat), dep ≤ 4 → s.2.1 ≤ tx.length → s.2.2.1 ≤ 40 → s.1.length ≤ 24 → rLc s.2 → rB tx n dep s = .inr q → PB (4 - dep) s q.1 ∧ rLc q.1.2 := by
  intro n
  induction n with
  | zero => intro dep s q _ _ _ _ _ h; cases h
  | succ n ih =>
    intro dep s q hd h1 h2 h3 hf h
    exact rBl_pb (fun s q _ k2 _ k => rS_ok (fun d s q a b c e => rB_ok n d s q a b c e) (fun r q a b e => rX_ok n 0 0 r q a b e) k2 k) (fun s q _ k2 _ kf k => rS_pb (fun d s q a b c e => rB_ok n d s q a b c e) (fun d s q a b c e f g => ih d s q a b c e f g) (fun r q a b e => rX_ok n 0 0 r q a b e) (fun r q a e => rX_lc n 0 0 r q a e) k2 kf k) 25 s q h1 h2 h3 hf h
/-- a program that was read -/
def pgL (sts : List St) (nds : List Nd) : Prop := lcn nds ≤ 40 ∧ (∀ i, i < sts.length → nest sts 4 i) ∧ ∀ (i : Nat) (t : St), sts[i]? = some t → t.1 ≠ 3 → t.2.2.1 ≤ t.2.2.2.1 ∧ t.2.2.2.1 < nds.length ∧ ∀ (j : Nat) (u : St), i < j → sts[j]? = some u → u.1 ≠ 3 → t.2.2.2.1 < u.2.2.1
theorem pgL_do {q : Rs × List Nat} (h : rdT tx = .inr q) : pgL q.1.1 q.1.2.2.2.1 := by
  unfold rdT at h
  split at h
  · cases h
  · rename_i u e
    split at h
    · split at h
      · cases h
        obtain ⟨b1, b2⟩ := rB_pb 100 0 ([], 0, 0, [], []) q (by decide) (by dsimp only; omega) (by decide) (by decide) (Nat.le_refl 0) e
        have k := rB_ok 100 0 ([], 0, 0, [], []) q (by dsimp only; omega) (by decide) (by decide) e
        refine ⟨Nat.le_trans b2 k.1.2.2.2.2.2.2.2, fun i hi => (b1 q.1.1 (fun _ _ _ => rfl) i (Nat.zero_le _) hi).1, fun i t it ik => ?_⟩
        have hi := (List.getElem?_eq_some_iff.mp it).1
        obtain ⟨c1, c2, c3, c4⟩ := (b1 q.1.1 (fun _ _ _ => rfl) i (Nat.zero_le _) hi).2 t it ik
        exact ⟨c2, c3, fun j w j1 jw jk => c4 j w j1 (List.getElem?_eq_some_iff.mp jw).1 jw jk⟩
      · cases h
    · cases h
end PBS
