/-! LOOPS: k rounds more at most -/
theorem t_lp_run {σ ρ : Type} {f : σ → Option (σ ⊕ ρ)} {I : Nat → σ → Prop} {Q : ρ → Prop} (hs : ∀ k s, I (k + 1) s → (∃ s', f s = some (.inl s') ∧ I k s') ∨ ∃ r, f s = some (.inr r) ∧ Q r) (he : ∀ s, I 0 s → ∃ r, f s = some (.inr r) ∧ Q r) : ∀ k s, I k s → ∃ r, t_lp f (k + 1) s = some r ∧ Q r := by
  intro k
  induction k with
  | zero =>
    intro s h
    obtain ⟨r, e, q⟩ := he s h
    refine ⟨r, ?_, q⟩
    rw [t_lp, e]
  | succ k ih =>
    intro s h
    rcases hs k s h with ⟨s', e, h'⟩ | ⟨r, e, q⟩
    · obtain ⟨r, e2, q⟩ := ih s' h'
      refine ⟨r, ?_, q⟩
      rw [t_lp, e]
      exact e2
    · refine ⟨r, ?_, q⟩
      rw [t_lp, e]
theorem t_lp_more {σ ρ : Type} {f : σ → Option (σ ⊕ ρ)} {r : ρ} : ∀ (n m : Nat) (s : σ), n ≤ m → t_lp f n s = some r → t_lp f m s = some r := by
  intro n
  induction n with
  | zero => intro m s _ h; cases h
  | succ n ih =>
    intro m s hm h
    obtain ⟨m, rfl⟩ : ∃ j, m = j + 1 := ⟨m - 1, by omega⟩
    rw [t_lp] at h ⊢
    split at h
    · cases h
    · exact ih m _ (by omega) h
    · exact h
/-- a loop that has rounds enough -/
theorem t_lp_do {σ ρ : Type} {f : σ → Option (σ ⊕ ρ)} {I : Nat → σ → Prop} {Q : ρ → Prop} (hs : ∀ k s, I (k + 1) s → (∃ s', f s = some (.inl s') ∧ I k s') ∨ ∃ r, f s = some (.inr r) ∧ Q r) (he : ∀ s, I 0 s → ∃ r, f s = some (.inr r) ∧ Q r) {k N : Nat} {s : σ} (hk : k < N) (h : I k s) : ∃ r, t_lp f N s = some r ∧ Q r := by
  obtain ⟨r, e, q⟩ := t_lp_run hs he k s h
  exact ⟨r, t_lp_more _ _ _ hk e, q⟩
