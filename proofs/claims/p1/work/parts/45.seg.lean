/-! RUNS IN PIECES -/
section MRR
variable {Y : mj_Y} {xt : mj_X} {ct : Nat → Value}
/-- from a place of a method on to the next time it comes to PC -/
def mj_to (Y : mj_Y) (xt : mj_X) (ct : Nat → Value) (PC : Nat) : Nat → Nat → Nat → Nat → mj_L → List Value → mj_H → Option (mj_L × List Value × mj_H)
  | 0, _, _, _, _, _, _ => none
  | f + 1, d, k, pc, l, st, h => match mj_s Y xt ct k pc l st h with
    | some (.inl q) => if q.1 = PC then some (q.2.1, q.2.2.1, q.2.2.2) else mj_to Y xt ct PC f d k q.1 q.2.1 q.2.2.1 q.2.2.2
    | some (.inr (.inl q)) => match d with
      | 0 => none
      | d' + 1 => match mj_x Y xt ct f d' q.1 0 (lv_args 0 q.2.1) [] h with
        | some (.inl v, h') => if q.2.2.1 = PC then some (q.2.2.2.1, v.toList ++ q.2.2.2.2, h') else mj_to Y xt ct PC f (d' + 1) k q.2.2.1 q.2.2.2.1 (v.toList ++ q.2.2.2.2) h'
        | _ => none
    | _ => none
theorem mr_to {d k PC : Nat} {r : mj_O × mj_H} (f : Nat) {pc : Nat} {l : mj_L} {st : List Value} {h : mj_H} (q : mj_L × List Value × mj_H) (hs : mj_to Y xt ct PC f d k pc l st h = some q) (kk : mj_Run Y xt ct d k PC q.1 q.2.1 q.2.2 r) : mj_Run Y xt ct d k pc l st h r := by
  induction f generalizing pc l st h with
  | zero => cases hs
  | succ f ih =>
    rw [mj_to] at hs
    split at hs
    · rename_i q0 h0
      split at hs
      · rename_i e
        cases hs
        refine mj_Run_go h0 ?_
        rw [e]
        exact kk
      · exact mj_Run_go h0 (ih hs)
    · rename_i q0 h0
      cases d with
      | zero => cases hs
      | succ d' =>
        dsimp only at hs
        split at hs
        · rename_i v h' hc
          split at hs
          · rename_i e
            cases hs
            refine mj_Run_call h0 ⟨f, hc⟩ (Nat.lt_succ_self _) ?_
            rw [e]
            exact kk
          · exact mj_Run_call h0 ⟨f, hc⟩ (Nat.lt_succ_self _) (ih hs)
        · cases hs
    · cases hs
end MRR
section MTO
variable {b B : Nat} {ri : Nat → Int32} {rj : Nat → Int64} {sc sc' : Nat → Nat → Option Nat} {hd : Nat → Nat → Nat → Option Nat} {xt xt' : mj_X} {ct ct' : Nat → Value}
theorem me_to (hX : ∀ a e, xt a = some e → a = 0 ∧ xt' b = some (e.1, me_s b B ri rj e.2)) (hsc : ∀ k idx n, sc k idx = some n → sc' k idx = some n ∧ ct' n = me_v b B ri rj (ct n)) (hdf : ∀ k idx q, ky_nw k idx = some q → me_s b B ri rj q.2.2 = q.2.2) {PC : Nat} : ∀ (f d k pc : Nat) (l : mj_L) (st : List Value) (h h' : mj_H) (r : mj_L × List Value × mj_H), me_h b B ri rj h h' → mj_to (ky sc hd) xt ct PC f d k pc l st h = some r → ∃ g', mj_to (ky sc' hd) xt' ct' PC f d k pc (me_l b B ri rj l) (me_s b B ri rj st) h' = some (me_l b B ri rj r.1, me_s b B ri rj r.2.1, g') ∧ me_h b B ri rj r.2.2 g' := by
  intro f
  induction f with
  | zero => intro d k pc l st h h' r _ hx; cases hx
  | succ f ih =>
    intro d k pc l st h h' r hR hx
    have hS := me_st (b := b) (B := B) (ri := ri) (rj := rj) (sc := sc) (sc' := sc') (hd := hd) (xt := xt) (xt' := xt') (ct := ct) (ct' := ct') (k := k) (pc := pc) (l := l) (st := st) hX hsc hdf hR
    rw [mj_to] at hx ⊢
    split at hx
    · rename_i q hs
      obtain ⟨T', e1, h1, e2, e3⟩ := hS _ hs
      subst e2
      rw [e1]
      dsimp only
      split at hx
      · rename_i e
        cases hx
        rw [if_pos e]
        exact ⟨h1, rfl, e3⟩
      · rename_i e
        rw [if_neg e]
        exact ih _ _ _ _ _ _ _ _ e3 hx
    · rename_i q hs
      obtain ⟨T', e1, e2⟩ := hS _ hs
      have e2' : T' = .inr (.inl (q.1, me_s b B ri rj q.2.1, q.2.2.1, me_l b B ri rj q.2.2.2.1, me_s b B ri rj q.2.2.2.2)) := e2
      subst e2'
      rw [e1]
      cases d with
      | zero => cases hx
      | succ d' =>
        dsimp only at hx ⊢
        split at hx
        · rename_i v hz hc
          obtain ⟨g1, e4, e5⟩ := me_x hX hsc hdf _ _ _ _ _ _ _ _ _ hR hc
          rw [show me_s b B ri rj [] = [] from rfl] at e4
          rw [me_args, e4]
          have e8 : (v.map (me_v b B ri rj)).toList ++ me_s b B ri rj q.2.2.2.2 = me_s b B ri rj (v.toList ++ q.2.2.2.2) := by cases v <;> rfl
          show ∃ g', (if q.2.2.1 = PC then some (me_l b B ri rj q.2.2.2.1, (v.map (me_v b B ri rj)).toList ++ me_s b B ri rj q.2.2.2.2, g1) else mj_to (ky sc' hd) xt' ct' PC f (d' + 1) k q.2.2.1 (me_l b B ri rj q.2.2.2.1) ((v.map (me_v b B ri rj)).toList ++ me_s b B ri rj q.2.2.2.2) g1) = some (me_l b B ri rj r.1, me_s b B ri rj r.2.1, g') ∧ me_h b B ri rj r.2.2 g'
          rw [e8]
          split at hx
          · rename_i e
            cases hx
            rw [if_pos e]
            exact ⟨g1, rfl, e5⟩
          · rename_i e
            rw [if_neg e]
            exact ih _ _ _ _ _ _ _ _ e5 hx
        · cases hx
    · cases hx
end MTO
