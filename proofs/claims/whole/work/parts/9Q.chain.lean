/-! A PROGRAM'S STATEMENTS ON THE HEAP, ONE BEHIND ANOTHER: their addresses and factors -/
def chn (H : mj_H) : List (Nat × Nat) → Option Nat → Prop
  | [], o => o = none
  | x :: r, o => o = some x.1 ∧ (1 ≤ x.2 ∧ x.2 ≤ 2147483649) ∧ ∃ (s e t u v p q : Value) (nx : Option Nat), H.1 x.1 = some (.inr (11, [s, e, t, u, v, .long (Int64.ofNat x.2), p, q, rv nx])) ∧ chn H r nx
def fold_ (l : List (Nat × Nat)) (acc : Nat) : Nat := match l with
  | [] => acc
  | x :: r => fold_ r (prN acc x.2)
theorem fold_bd : ∀ (l : List (Nat × Nat)) (acc : Nat), acc ≤ 2147483649 → fold_ l acc ≤ 2147483649
  | [], acc, h => h
  | x :: r, acc, _ => fold_bd r _ prN_le
section CHN
variable {xt : mj_X} {ct : Nat → Value} {O : OR} {N : Nat} {H : mj_H}
theorem L112_do : ∀ (l : List (Nat × Nat)) (o : Option Nat) (acc : Nat), chn H l o → acc ≤ 2147483649 → t_lp (B112_4 xt ct O N) (l.length + 1) (Int64.ofNat acc, o, H) = some (Int64.ofNat (fold_ l acc), H) := by
  intro l
  induction l with
  | nil =>
    intro o acc h ha
    have e : o = none := h
    subst e
    rw [t_lp]
    simp only [B112_4, Option.isNone_none, cond_true, fold_]
  | cons x r ih =>
    intro o acc h ha
    obtain ⟨rfl, hf, s, e, t, u, v, p, q, nx, h1, h2⟩ := h
    have g5 : gL H x.1 11 5 = some (Int64.ofNat x.2) := gL_of h1 rfl
    have g8 : gR H x.1 11 8 = some nx := gR_of h1 rfl
    rw [t_lp]
    have fB : B112_4 xt ct O N (Int64.ofNat acc, some x.1, H) = some (.inl (Int64.ofNat (prN acc x.2), nx, H)) := by
      simp only [B112_4, Option.isNone_some, cond_false, Option.bind_some, g5, C102_do ha hf.2, g8]
    rw [fB]
    exact ih nx _ h2 prN_le
/-- the factor of a program -/
theorem C112_do (hN : 2000 ≤ N) {l : List (Nat × Nat)} {o : Option Nat} (h : chn H l o) (hl : l.length ≤ 1000) : C112 xt ct O N o H = some (Int64.ofNat (fold_ l 1), H) := t_lp_more _ _ _ (by omega) (L112_do (xt := xt) (ct := ct) (O := O) (N := N) l o 1 h (by decide))
/-- the chain stays where its cells stay -/
theorem chn_fr {H' : mj_H} : ∀ (l : List (Nat × Nat)) (o : Option Nat), (∀ x ∈ l, H'.1 x.1 = H.1 x.1) → chn H l o → chn H' l o := by
  intro l
  induction l with
  | nil => intro o _ h; exact h
  | cons x r ih =>
    intro o hf h
    obtain ⟨h0, hb, s, e, t, u, v, p, q, nx, h1, h2⟩ := h
    exact ⟨h0, hb, s, e, t, u, v, p, q, nx, by rw [hf x List.mem_cons_self]; exact h1, ih nx (fun y hy => hf y (List.mem_cons_of_mem _ hy)) h2⟩
end CHN
