section MTO
variable {b B : Nat} {ri : Nat → Int32} {rj : Nat → Int64} {sc sc' : Nat → Nat → Option Nat} {hd : Nat → Nat → Nat → Option Nat} {xt xt' : mj_X} {ct ct' : Nat → Value}
theorem me_to_f (hX : ∀ a e, xt a = some e → a = 0 ∧ xt' b = some (e.1, me_s b B ri rj e.2)) (hsc : ∀ k idx n, sc k idx = some n → sc' k idx = some n ∧ ct' n = me_v b B ri rj (ct n)) (hdf : ∀ k idx q, ky_nw k idx = some q → me_s b B ri rj q.2.2 = q.2.2) {PC : Nat} : ∀ (f d k pc : Nat) (l : mj_L) (st : List Value) (h h' : mj_H) (r : mj_L × List Value × mj_H), me_h_f b B ri rj h h' → mj_to (ky sc hd) xt ct PC f d k pc l st h = some r → ∃ g', mj_to (ky sc' hd) xt' ct' PC f d k pc (me_l b B ri rj l) (me_s b B ri rj st) h' = some (me_l b B ri rj r.1, me_s b B ri rj r.2.1, g') ∧ me_h_f b B ri rj r.2.2 g' := by
  intro f
  induction f with
  | zero => intro d k pc l st h h' r _ hx; cases hx
  | succ f ih =>
    intro d k pc l st h h' r hR hx
    have hS := me_st_f (b := b) (B := B) (ri := ri) (rj := rj) (sc := sc) (sc' := sc') (hd := hd) (xt := xt) (xt' := xt') (ct := ct) (ct' := ct') (k := k) (pc := pc) (l := l) (st := st) hX hsc hdf hR
    rw [mj_to] at hx ⊢
    split at hx
    · rename_i q hs
      obtain ⟨T', e1, h1, e2, e3⟩ := hS _ hs
      subst e2
      rw [e1]
      dsimp only
      split at hx
      · rename_i e
        cases hx
        rw [if_pos e]
        exact ⟨h1, rfl, e3⟩
      · rename_i e
        rw [if_neg e]
        exact ih _ _ _ _ _ _ _ _ e3 hx
    · rename_i q hs
      obtain ⟨T', e1, e2⟩ := hS _ hs
      have e2' : T' = .inr (.inl (q.1, me_s b B ri rj q.2.1, q.2.2.1, me_l b B ri rj q.2.2.2.1, me_s b B ri rj q.2.2.2.2)) := e2
      subst e2'
      rw [e1]
      cases d with
      | zero => cases hx
      | succ d' =>
        dsimp only at hx ⊢
        split at hx
        · rename_i v hz hc
          obtain ⟨g1, e4, e5⟩ := me_x_f hX hsc hdf _ _ _ _ _ _ _ _ _ hR hc
          rw [show me_s b B ri rj [] = [] from rfl] at e4
          rw [me_args_f, e4]
          have e8 : (v.map (me_v b B ri rj)).toList ++ me_s b B ri rj q.2.2.2.2 = me_s b B ri rj (v.toList ++ q.2.2.2.2) := by cases v <;> rfl
          show ∃ g', (if q.2.2.1 = PC then some (me_l b B ri rj q.2.2.2.1, (v.map (me_v b B ri rj)).toList ++ me_s b B ri rj q.2.2.2.2, g1) else mj_to (ky sc' hd) xt' ct' PC f (d' + 1) k q.2.2.1 (me_l b B ri rj q.2.2.2.1) ((v.map (me_v b B ri rj)).toList ++ me_s b B ri rj q.2.2.2.2) g1) = some (me_l b B ri rj r.1, me_s b B ri rj r.2.1, g') ∧ me_h_f b B ri rj r.2.2 g'
          rw [e8]
          split at hx
          · rename_i e
            cases hx
            rw [if_pos e]
            exact ⟨g1, rfl, e5⟩
          · rename_i e
            rw [if_neg e]
            exact ih _ _ _ _ _ _ _ _ e5 hx
        · cases hx
    · cases hx
end MTO
