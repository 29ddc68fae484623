/-! RUNS of the small machine -/
section MJR
variable {Y : mj_Y} {xt : mj_X} {ct : Nat → Value}
set_option maxHeartbeats 4000000 in
theorem mj_x_more : ∀ (f f' d d' k pc : Nat) (l : mj_L) (st : List Value) (h : mj_H) (r : mj_O × mj_H), f ≤ f' → d ≤ d' → mj_x Y xt ct f d k pc l st h = some r → mj_x Y xt ct f' d' k pc l st h = some r := by
  intro f
  induction f with
  | zero => intro f' d d' k pc l st h r _ _ hx; cases hx
  | succ f ih =>
    intro f' d d' k pc l st h r hf hd hx
    obtain ⟨f', rfl⟩ : ∃ g, f' = g + 1 := ⟨f' - 1, by omega⟩
    have hf : f ≤ f' := by omega
    rw [mj_x] at hx
    rw [mj_x]
    split at hx
    · cases hx
    · rename_i q hs
      exact ih _ _ _ _ _ _ _ _ _ hf hd hx
    · rename_i q hs
      cases d with
      | zero => cases hx
      | succ e =>
        obtain ⟨e', rfl⟩ : ∃ e', d' = e' + 1 := ⟨d' - 1, by omega⟩
        dsimp only at hx ⊢
        cases hc : mj_x Y xt ct f e q.1 0 (lv_args 0 q.2.1) [] h with
        | none => rw [hc] at hx; cases hx
        | some z =>
          rw [hc] at hx
          rw [ih f' _ e' _ _ _ _ _ _ hf (by omega) hc]
          obtain ⟨o, h'⟩ := z
          cases o with
          | inl v => exact ih _ _ _ _ _ _ _ _ _ hf hd hx
          | inr a =>
            dsimp only at hx ⊢
            cases hn : Y.nh k with
            | true => rw [hn] at hx; exact hx
            | false =>
              rw [hn] at hx
              dsimp only at hx ⊢
              split at hx
              · rename_i ci fs he
                split at hx
                · rename_i hpc hh
                  exact ih _ _ _ _ _ _ _ _ _ hf hd hx
                · cases hx
              · cases hx
    · rename_i o hs
      exact hx
/-- from here the machine comes to r, with calls d deep at most -/
def mj_Run (Y : mj_Y) (xt : mj_X) (ct : Nat → Value) (d k pc : Nat) (l : mj_L) (st : List Value) (h : mj_H) (r : mj_O × mj_H) : Prop := ∃ f, mj_x Y xt ct f d k pc l st h = some r
variable {d d' k pc : Nat} {l : mj_L} {st : List Value} {h : mj_H} {r : mj_O × mj_H}
theorem mj_Run_deep (hd : d ≤ d') (hr : mj_Run Y xt ct d k pc l st h r) : mj_Run Y xt ct d' k pc l st h r := by
  obtain ⟨f, hf⟩ := hr
  exact ⟨f, mj_x_more _ _ _ _ _ _ _ _ _ _ (Nat.le_refl _) hd hf⟩
theorem mj_Run_go {q : Nat × mj_L × List Value × mj_H} (hs : mj_s Y xt ct k pc l st h = some (.inl q)) (hr : mj_Run Y xt ct d k q.1 q.2.1 q.2.2.1 q.2.2.2 r) : mj_Run Y xt ct d k pc l st h r := by
  obtain ⟨f, hf⟩ := hr
  exact ⟨f + 1, by rw [mj_x, hs]; exact hf⟩
theorem mj_Run_end (hs : mj_s Y xt ct k pc l st h = some (.inr (.inr r))) : mj_Run Y xt ct d k pc l st h r := ⟨1, by rw [mj_x, hs]⟩
/-- a method's run from its entry -/
abbrev mj_Ev (Y : mj_Y) (xt : mj_X) (ct : Nat → Value) (d k : Nat) (as : List Value) (h : mj_H) (r : mj_O × mj_H) : Prop := mj_Run Y xt ct d k 0 (lv_args 0 as) [] h r
theorem mj_Run_call {q : Nat × List Value × Nat × mj_L × List Value} {v : Option Value} {h' : mj_H} (hs : mj_s Y xt ct k pc l st h = some (.inr (.inl q))) (hc : mj_Ev Y xt ct d' q.1 q.2.1 h (.inl v, h')) (hd : d' < d) (hr : mj_Run Y xt ct d k q.2.2.1 q.2.2.2.1 (v.toList ++ q.2.2.2.2) h' r) : mj_Run Y xt ct d k pc l st h r := by
  obtain ⟨f1, hf1⟩ := hc
  obtain ⟨f2, hf2⟩ := hr
  obtain ⟨d, rfl⟩ : ∃ e, d = e + 1 := ⟨d - 1, by omega⟩
  refine ⟨f1 + f2 + 1, ?_⟩
  rw [mj_x, hs]
  dsimp only
  rw [mj_x_more _ (f1 + f2) _ d _ _ _ _ _ _ (by omega) (by omega) hf1]
  exact mj_x_more _ _ _ _ _ _ _ _ _ _ (by omega) (Nat.le_refl _) hf2
theorem mj_Run_thrown {q : Nat × List Value × Nat × mj_L × List Value} {a : Nat} {h' : mj_H} (hs : mj_s Y xt ct k pc l st h = some (.inr (.inl q))) (hc : mj_Ev Y xt ct d' q.1 q.2.1 h (.inr a, h')) (hd : d' < d) (hn : Y.nh k = true) : mj_Run Y xt ct d k pc l st h (.inr a, h') := by
  obtain ⟨f1, hf1⟩ := hc
  obtain ⟨d, rfl⟩ : ∃ e, d = e + 1 := ⟨d - 1, by omega⟩
  refine ⟨f1 + 1, ?_⟩
  rw [mj_x, hs]
  dsimp only
  rw [mj_x_more _ f1 _ d _ _ _ _ _ _ (by omega) (by omega) hf1]
  dsimp only
  rw [hn]
theorem mj_Run_caught {q : Nat × List Value × Nat × mj_L × List Value} {a ci hpc : Nat} {fs : List Value} {h' : mj_H} (hs : mj_s Y xt ct k pc l st h = some (.inr (.inl q))) (hc : mj_Ev Y xt ct d' q.1 q.2.1 h (.inr a, h')) (hd : d' < d) (hn : Y.nh k = false) (he : h'.1 a = some (.inr (ci, fs))) (hh : Y.hd k pc ci = some hpc) (hr : mj_Run Y xt ct d k hpc q.2.2.2.1 [.ref a] h' r) : mj_Run Y xt ct d k pc l st h r := by
  obtain ⟨f1, hf1⟩ := hc
  obtain ⟨f2, hf2⟩ := hr
  obtain ⟨d, rfl⟩ : ∃ e, d = e + 1 := ⟨d - 1, by omega⟩
  refine ⟨f1 + f2 + 1, ?_⟩
  rw [mj_x, hs]
  dsimp only
  rw [mj_x_more _ (f1 + f2) _ d _ _ _ _ _ _ (by omega) (by omega) hf1]
  dsimp only
  rw [hn]
  dsimp only
  rw [he]
  dsimp only
  rw [hh]
  exact mj_x_more _ _ _ _ _ _ _ _ _ _ (by omega) (Nat.le_refl _) hf2
end MJR
