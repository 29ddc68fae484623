/-! THE PRINTED TEXT IS NOT LONGER THAN THE TEXT READ: statements -/
def AG (sts' sts : List St) (lo hi : Nat) : Prop := ∀ i, lo ≤ i → i < hi → sts'[i]? = sts[i]?
/-- the text of the statement that begins at s and ends at q -/
def SLn (s q : Rs) : Prop := ∀ (sts : List St) (l1 : List Nd) (l2 : List Int32) (m : Nat), AG sts q.1 s.1.length q.1.length → (prS sts (q.2.2.2.1 ++ l1) (q.2.2.2.2 ++ l2) m s.1.length).length + s.2.1 ≤ q.2.1 ∧ enS sts s.1.length = q.1.length
/-- the text of the block between s and q, k more -/
def BLn (k : Nat) (s q : Rs) : Prop := ∀ (sts : List St) (l1 : List Nd) (l2 : List Int32) (m j : Nat), AG sts q.1 s.1.length q.1.length → (prB sts (prS sts (q.2.2.2.1 ++ l1) (q.2.2.2.2 ++ l2) m) j s.1.length q.1.length).length + k + s.2.1 ≤ q.2.1
section STL
variable {tx : List Int32}
theorem rFit_1 {r : Rd} {k : Nat} (h : rFit r) : rFit (r.1 + k, r.2) := ⟨by have := h.1; dsimp only; omega, by have := h.2; dsimp only; omega⟩
theorem rBr_len {pr : Nat → Rs → Nat ⊕ (Rs × List Nat)} (hln : ∀ dep s q, s.2.1 ≤ tx.length → s.2.2.1 ≤ 40 → s.1.length ≤ 24 → rFit s.2 → pr dep s = .inr q → BLn 0 s q.1) {dep : Nat} {s : Rs} {q : Rs × List Nat} (h2 : s.2.2.1 ≤ 40) (h3 : s.1.length ≤ 24) (hf : rFit s.2) (h : rBr tx pr dep s = .inr q) : BLn 2 s q.1 := by
  unfold rBr at h
  split at h
  · rename_i c
    have hlt := pkz_is c.2 (by decide)
    split at h
    · cases h
    · rename_i u e
      have l := hln (dep + 1) (s.1, s.2.1 + 1, s.2.2) u hlt h2 h3 (rFit_1 (k := 1) hf) e
      split at h
      · cases h
        intro sts l1 l2 m j ag
        have := l sts l1 l2 m j ag
        dsimp only at this ⊢
        omega
      · cases h
  · cases h
theorem rSim_len {ex : Rd → Nat ⊕ Rd} (hex : ∀ r q, r.1 ≤ tx.length → r.2.1 ≤ 40 → ex r = .inr q → rLt tx r q) (hxl : ∀ r q, r.1 ≤ tx.length → r.2.1 ≤ 40 → rFit r → ex r = .inr q → XL q 0 r.1) {k a p : Nat} {s : Rs} {q : Rs × Nat} (hp : p ≤ tx.length) (hk : (k = 0 ∧ p = s.2.1 + 2) ∨ (k = 1 ∧ p = s.2.1 + 1)) (h2 : s.2.2.1 ≤ 40) (hf : rFit s.2) (h : rSim tx ex k a p s = .inr q) : SLn s q.1 := by
  unfold rSim at h
  split at h
  · cases h
  · rename_i r e
    have hle : s.2.1 ≤ p := by omega
    have fp : rFit (p, s.2.2) := ⟨by have := hf.1; dsimp only; omega, by have := hf.2; dsimp only; omega⟩
    have l := hex (p, s.2.2) r hp h2 e
    have x := hxl (p, s.2.2) r hp h2 fp e
    split at h
    · cases h
      intro sts l1 l2 m ag
      dsimp only at ag ⊢
      have at_ : sts[s.1.length]? = some (k, a, s.2.2.2.1.length, r.2.2.1.length - 1, s.1.length + 1, s.1.length + 1, exF r.2.2.1 s.2.2.2.1.length) := by
        rw [ag s.1.length (Nat.le_refl _) (by rw [List.length_append, List.length_singleton]; omega), List.getElem?_append_right (Nat.le_refl _), Nat.sub_self]
        rfl
      have y := x l1 l2 45
      have g := l.1.1
      dsimp only at y g
      refine ⟨?_, by unfold enS; rw [at_, List.length_append, List.length_singleton]⟩
      cases m with
      | zero =>
        show 0 + s.2.1 ≤ r.1 + 1
        omega
      | succ m =>
        rw [prS, at_]
        dsimp only
        rcases hk with ⟨rfl, k2⟩ | ⟨rfl, k2⟩
        · rw [if_pos rfl, List.length_append, List.length_append]
          dsimp only [List.length_cons, List.length_nil]
          omega
        · rw [if_neg (by decide), if_pos rfl, List.length_append, List.length_append]
          dsimp only [List.length_cons, List.length_nil]
          omega
    · cases h
theorem rS_len {pr : Nat → Rs → Nat ⊕ (Rs × List Nat)} {ex : Rd → Nat ⊕ Rd} (hpr : ∀ dep s q, s.2.1 ≤ tx.length → s.2.2.1 ≤ 40 → s.1.length ≤ 24 → pr dep s = .inr q → sLe tx s q.1) (hln : ∀ dep s q, s.2.1 ≤ tx.length → s.2.2.1 ≤ 40 → s.1.length ≤ 24 → rFit s.2 → pr dep s = .inr q → BLn 0 s q.1) (hex : ∀ r q, r.1 ≤ tx.length → r.2.1 ≤ 40 → ex r = .inr q → rLt tx r q) (hxl : ∀ r q, r.1 ≤ tx.length → r.2.1 ≤ 40 → rFit r → ex r = .inr q → XL q 0 r.1) {dep : Nat} {s : Rs} {q : Rs × Nat} (h2 : s.2.2.1 ≤ 40) (hf : rFit s.2) (h : rS tx pr ex dep s = .inr q) : SLn s q.1 := by
  unfold rS at h
  split at h
  · rename_i c
    have hlt : s.2.1 < tx.length := by
      rcases c.1 with k | k | k | k
      · exact pkz_nm k
      · exact pkz_is k (by decide)
      · exact pkz_is k (by decide)
      · exact pkz_is k (by decide)
    split at h
    · unfold rCho at h
      split at h
      · cases h
      · rename_i r e
        have l := hex (s.2.1 + 1, s.2.2) r hlt h2 e
        have x := hxl (s.2.1 + 1, s.2.2) r hlt h2 (rFit_1 hf) e
        have fr : rFit r := rFit_le (rFit_1 (k := 1) hf) l.1
        have l1 := l.1.1
        dsimp only at l1 x
        split at h
        · cases h
        · rename_i q1 e1
          have k1 := rBr_ok hpr (s := (s.1 ++ [_], r)) l.1.2.1 l.1.2.2.2.2.2.2.2 (by rw [List.length_append]; exact c.2) e1
          have b1 := rBr_len hln (s := (s.1 ++ [_], r)) l.1.2.2.2.2.2.2.2 (by rw [List.length_append]; exact c.2) fr e1
          have k1' := k1.1.2
          dsimp only at k1'
          rw [List.length_append, List.length_singleton] at k1'
          have k10 := k1.2
          obtain ⟨⟨n1, n1e⟩, ⟨n2, n2e⟩⟩ := And.intro k1.1.1.2.2.1 k1.1.1.2.2.2.2.1
          have f1 := rFit_le fr k1.1.1
          dsimp only at k10 n1e n2e
          split at h
          · rename_i c2
            have hlt2 := pkz_is c2 (by decide)
            split at h
            · cases h
            · rename_i u e2
              have k2 := rBr_ok hpr (s := (q1.1.1.set s.1.length _, q1.1.2.1 + 1, q1.1.2.2)) hlt2 k1.1.1.2.2.2.2.2.2.2 (by rw [List.length_set]; exact k1'.2.1) e2
              have b2 := rBr_len hln (s := (q1.1.1.set s.1.length _, q1.1.2.1 + 1, q1.1.2.2)) k1.1.1.2.2.2.2.2.2.2 (by rw [List.length_set]; exact k1'.2.1) (rFit_1 (k := 1) f1) e2
              have k2' := k2.1.2
              dsimp only at k2'
              rw [List.length_set] at k2'
              have k20 := k2.2
              obtain ⟨⟨n3, n3e⟩, ⟨n4, n4e⟩⟩ := And.intro k2.1.1.2.2.1 k2.1.1.2.2.2.2.1
              dsimp only at k20 n3e n4e
              cases h
              intro sts m1 m2 m ag
              dsimp only at ag ⊢
              rw [List.length_set] at ag ⊢
              have at_ := ag s.1.length (Nat.le_refl _) (by omega)
              rw [List.getElem?_set_self (by omega)] at at_
              refine ⟨?_, by unfold enS; rw [at_]⟩
              cases m with
              | zero =>
                show 0 + s.2.1 ≤ u.1.2.1
                omega
              | succ m =>
                have y := x (n1 ++ n3 ++ m1) (n2 ++ n4 ++ m2) 45
                rw [← List.append_assoc, ← List.append_assoc, ← n1e, ← n3e, ← List.append_assoc, ← List.append_assoc, ← n2e, ← n4e] at y
                have z1 := b1 sts (n3 ++ m1) (n4 ++ m2) m 25 (by
                  intro i i1 i2
                  dsimp only at i1 i2 ⊢
                  rw [List.length_append, List.length_singleton] at i1
                  rw [ag i (by omega) (by omega), List.getElem?_set_ne (by omega), k2'.2.2 i i2, List.getElem?_set_ne (by omega)])
                have z2 := b2 sts m1 m2 m 25 (by
                  intro i i1 i2
                  dsimp only at i1 i2 ⊢
                  rw [List.length_set] at i1
                  rw [ag i (by omega) (by omega), List.getElem?_set_ne (by omega)])
                dsimp only at z1 z2
                rw [← List.append_assoc, ← List.append_assoc, ← n3e, ← n4e, List.length_append, List.length_singleton] at z1
                rw [List.length_set] at z2
                rw [prS, at_]
                dsimp only
                rw [if_neg (by decide), if_neg (by decide), if_pos rfl]
                split
                · rw [List.length_append, List.length_append, List.length_append, List.length_append, List.length_append, List.length_append, List.length_append]
                  dsimp only [List.length_cons, List.length_nil]
                  omega
                · rw [List.length_append, List.length_append, List.length_append, List.length_append, List.length_append]
                  dsimp only [List.length_cons, List.length_nil]
                  omega
          · cases h
            intro sts m1 m2 m ag
            dsimp only at ag ⊢
            rw [List.length_set] at ag ⊢
            have at_ := ag s.1.length (Nat.le_refl _) (by omega)
            rw [List.getElem?_set_self (by omega)] at at_
            refine ⟨?_, by unfold enS; rw [at_]⟩
            cases m with
            | zero =>
              show 0 + s.2.1 ≤ q1.1.2.1
              omega
            | succ m =>
              have y := x (n1 ++ m1) (n2 ++ m2) 45
              rw [← List.append_assoc, ← List.append_assoc, ← n1e, ← n2e] at y
              have z1 := b1 sts m1 m2 m 25 (by
                intro i i1 i2
                dsimp only at i1 i2 ⊢
                rw [List.length_append, List.length_singleton] at i1
                rw [ag i (by omega) (by omega), List.getElem?_set_ne (by omega)])
              dsimp only at z1
              rw [List.length_append, List.length_singleton] at z1
              rw [prS, at_]
              dsimp only
              rw [if_neg (by decide), if_neg (by decide), if_pos rfl, if_neg (by omega)]
              rw [List.length_append, List.length_append, List.length_append, List.length_append, List.length_append]
              dsimp only [List.length_cons, List.length_nil]
              omega
    · split at h
      · unfold rRep at h
        split at h
        · cases h
        · rename_i v e
          have l := rNum_le (show s.2.1 + 1 ≤ tx.length from hlt) e
          have g := rNum_dg e
          have fv : rFit (v.1, s.2.2) := ⟨by have := hf.1; dsimp only; omega, by have := hf.2; dsimp only; omega⟩
          split at h
          · cases h
          · rename_i q1 e1
            have k1 := rBr_ok hpr (s := (s.1 ++ [_], v.1, s.2.2)) l.2.1 h2 (by rw [List.length_append]; exact c.2) e1
            have b1 := rBr_len hln (s := (s.1 ++ [_], v.1, s.2.2)) h2 (by rw [List.length_append]; exact c.2) fv e1
            have k1' := k1.1.2
            dsimp only at k1'
            rw [List.length_append, List.length_singleton] at k1'
            have k10 := k1.2
            dsimp only at k10
            cases h
            intro sts m1 m2 m ag
            dsimp only at ag ⊢
            rw [List.length_set] at ag ⊢
            have at_ := ag s.1.length (Nat.le_refl _) (by omega)
            rw [List.getElem?_set_self (by omega)] at at_
            refine ⟨?_, by unfold enS; rw [at_]⟩
            cases m with
            | zero =>
              show 0 + s.2.1 ≤ q1.1.2.1
              omega
            | succ m =>
              have z1 := b1 sts m1 m2 m 25 (by
                intro i i1 i2
                dsimp only at i1 i2 ⊢
                rw [List.length_append, List.length_singleton] at i1
                rw [ag i (by omega) (by omega), List.getElem?_set_ne (by omega)])
              dsimp only at z1
              rw [List.length_append, List.length_singleton] at z1
              rw [prS, at_]
              dsimp only
              rw [if_neg (by decide), if_neg (by decide), if_neg (by decide)]
              rw [List.length_append, List.length_append, List.length_append, List.length_append]
              dsimp only [List.length_cons, List.length_nil]
              omega
      · split at h
        · exact rSim_len hex hxl hlt (Or.inr ⟨rfl, rfl⟩) h2 hf h
        · split at h
          · rename_i c2
            have hlt2 := pkz_is c2 (by decide)
            exact rSim_len hex hxl hlt2 (Or.inl ⟨rfl, rfl⟩) h2 hf h
          · cases h
  · cases h
theorem rBl_len {sub : Rs → Nat ⊕ (Rs × Nat)} (hs : ∀ s q, s.2.1 ≤ tx.length → s.2.2.1 ≤ 40 → s.1.length ≤ 24 → sub s = .inr q → sLt tx s q.1) (hx : ∀ s q, s.2.1 ≤ tx.length → s.2.2.1 ≤ 40 → s.1.length ≤ 24 → rFit s.2 → sub s = .inr q → SLn s q.1) : ∀ (m : Nat) (s : Rs) (q : Rs × List Nat), s.2.1 ≤ tx.length → s.2.2.1 ≤ 40 → s.1.length ≤ 24 → rFit s.2 → rBl tx sub m s = .inr q → BLn 0 s q.1 := by
  have nul : ∀ s : Rs, BLn 0 s s := by
    intro s sts l1 l2 m j ag
    cases j with
    | zero =>
      show 0 + 0 + s.2.1 ≤ s.2.1
      omega
    | succ j =>
      rw [prB, if_neg (by omega)]
      show 0 + 0 + s.2.1 ≤ s.2.1
      omega
  intro m
  induction m with
  | zero =>
    intro s q h1 h2 h3 hf h
    cases h
    exact nul s
  | succ m ih =>
    intro s q h1 h2 h3 hf h
    rw [rBl] at h
    split at h
    · cases h
      exact nul s
    · split at h
      · cases h
      · rename_i u e
        have l := hs s u h1 h2 h3 e
        have x := hx s u h1 h2 h3 hf e
        split at h
        · cases h
        · rename_i v e2
          cases h
          have k := rBl_ok hs m u.1 v l.1.1.2.1 l.1.1.2.2.2.2.2.2.2 l.1.2.2.1 e2
          have y := ih u.1 v l.1.1.2.1 l.1.1.2.2.2.2.2.2.2 l.1.2.2.1 (rFit_le hf l.1.1) e2
          obtain ⟨⟨n1, n1e⟩, ⟨n2, n2e⟩⟩ := And.intro k.1.2.2.1 k.1.2.2.2.2.1
          intro sts l1 l2 mm j ag
          dsimp only at ag ⊢
          have kl := k.2.1
          have ll := l.2.1
          have lp := l.2.2
          have kp := k.1.1
          obtain ⟨a1, a2⟩ := x sts (n1 ++ l1) (n2 ++ l2) mm (fun i i1 i2 => (ag i i1 (by omega)).trans (k.2.2.2 i i2))
          rw [← List.append_assoc, ← List.append_assoc, ← n1e, ← n2e] at a1
          cases j with
          | zero =>
            show 0 + 0 + s.2.1 ≤ v.1.2.1
            omega
          | succ j =>
            have b := y sts l1 l2 mm j (fun i i1 i2 => ag i (by omega) i2)
            rw [prB, if_pos (by omega), a2, List.length_append]
            omega
theorem rB_len (ht : tx.length ≤ 160) : ∀ (n dep : Nat) (s : Rs) (q : Rs × List Nat), s.2.1 ≤ tx.length → s.2.2.1 ≤ 40 → s.1.length ≤ 24 → rFit s.2 → rB tx n dep s = .inr q → BLn 0 s q.1 := by
  intro n
  induction n with
  | zero => intro dep s q _ _ _ _ h; cases h
  | succ n ih =>
    intro dep s q h1 h2 h3 hf h
    exact rBl_len (fun s q _ k2 _ k => rS_ok (fun d s q a b c e => rB_ok n d s q a b c e) (fun r q a b e => rX_ok n 0 0 r q a b e) k2 k) (fun s q _ k2 _ kf k => rS_len (fun d s q a b c e => rB_ok n d s q a b c e) (fun d s q a b c f e => ih d s q a b c f e) (fun r q a b e => rX_ok n 0 0 r q a b e) (fun r q a b f e => by
      have := rX_len ht n 0 0 r q (by omega) a b f e
      exact this) k2 kf k) 25 s q h1 h2 h3 hf h
/-- a program that was read, printed -/
theorem prT_len {q : Rs × List Nat} (ht : tx.length ≤ 160) (h : rdT tx = .inr q) : (prT q.1.1 q.1.2.2.2.1 q.1.2.2.2.2).length ≤ 160 := by
  unfold rdT at h
  split at h
  · cases h
  · rename_i u e
    split at h
    · split at h
      · cases h
        have b := rB_len ht 100 0 ([], 0, 0, [], []) q (by dsimp only; omega) (by decide) (by decide) ⟨by decide, by decide⟩ e
        have k := rB_ok 100 0 ([], 0, 0, [], []) q (by dsimp only; omega) (by decide) (by decide) e
        have := b q.1.1 [] [] 5 25 (fun i _ _ => rfl)
        rw [List.append_nil, List.append_nil] at this
        have g := k.1.2.1
        unfold prT
        dsimp only [List.length_nil] at this
        omega
      · cases h
    · cases h
end STL
