/-! WHAT CATCHES: behind a call that may throw, in a method with handlers -/
def th {α γ : Type} (p : (α ⊕ Nat) × mj_H) (f : α → Option γ) (g : Nat → Option γ) : Option γ := match p.1 with
  | .inl v => f v
  | .inr x => g x
theorem t_th {α γ : Type} {G : Prop} {p : (α ⊕ Nat) × mj_H} {f : α → Option γ} {g : Nat → Option γ} {o : γ} (e : th p f g = some o) (h1 : ∀ v, p.1 = .inl v → f v = some o → G) (h2 : ∀ x, p.1 = .inr x → g x = some o → G) : G := by
  unfold th at e
  split at e
  · rename_i v hv
    exact h1 v hv e
  · rename_i x hx
    exact h2 x hx e
theorem b_eq {h : mj_H} {a c n : Nat} (e : gC h a = some c) (hb : (c == n) = true) : gC h a = some n := by
  have : c = n := by simpa using hb
  subst this
  exact e
theorem c_cgt {xt : mj_X} {ct : Nat → Value} {d k pc pc' : Nat} {l : mj_L} {st : List Value} {h : mj_H} {r : mj_O × mj_H} {α : Type} {f : α → Option Value} {k2 d2 x ci hpc : Nat} {as st' : List Value} {p : (α ⊕ Nat) × mj_H} (hs : mj_s kY xt ct k pc l st h = some (.inr (.inl (k2, as, pc', l, st')))) (he : mj_Ev kY xt ct d2 k2 as h (tT f p.1, p.2)) (hp : p.1 = .inr x) (hd : d2 < d) (hn : mj_Y.nh kY k = false ∧ mj_Y.hd kY k pc ci = some hpc) (hc : gC p.2 x = some ci) (hr : mj_Run kY xt ct d k hpc l [.ref x] p.2 r) : mj_Run kY xt ct d k pc l st h r := by
  rw [hp] at he
  unfold gC at hc
  split at hc
  · rename_i c fs hh
    cases hc
    exact mj_Run_caught hs he hd hn.1 hh hn.2 hr
  · cases hc
