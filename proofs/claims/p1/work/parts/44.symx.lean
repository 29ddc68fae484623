section MSX
variable {b B : Nat} {ri : Nat → Int32} {rj : Nat → Int64} {T : ms_T} {C : ms_C} {sc sc' : Nat → Nat → Option Nat} {hd : Nat → Nat → Nat → Option Nat} {xt xt' : mj_X} {ct ct' : Nat → Value}
variable {k pc idx : Nat} {l : mj_L} {st : List Value} {h h' : mj_H}
theorem ms_tyv {v : Value} {ty : FieldType} (hv : ms_ty v = some ty) : (ty = .int ∧ ∃ a, me_v b B ri rj v = .int a) ∨ (ty = .long ∧ ∃ a, me_v b B ri rj v = .long a) := by
  cases v <;> first | (cases hv; done) | skip
  · cases hv; exact Or.inl ⟨rfl, _, rfl⟩
  · cases hv; exact Or.inr ⟨rfl, _, rfl⟩
set_option maxHeartbeats 4000000 in
theorem ms_f_ok (hT : ms_okT b B ri rj T) (hC : ms_okC b B ri rj C) (hR : me_h b B ri rj h h') : me_S b B ri rj (ms_f T C (ky sc hd) k pc l st h) (mj_s (ky sc' hd) xt' ct' k pc (me_l b B ri rj l) (me_s b B ri rj st) h') := by
  intro t ht
  unfold ms_f at ht
  unfold mj_s
  rw [show (ky sc' hd).code k pc = (ky sc hd).code k pc from rfl]
  cases hc : (ky sc hd).code k pc with
  | none => rw [hc] at ht; cases ht
  | some i =>
    rw [hc] at ht
    dsimp only at ht ⊢
    split at ht
    · rename_i idx
      split at ht
      · rename_i v a r
        split at ht
        · rename_i ci fs he
          split at ht
          · rename_i q hq
            split at ht
            · rename_i hok
              have h1 : h'.1 (me_sg b B a) = some (.inr (ci, me_s b B ri rj fs)) := (hR.1 a _ he).2
              obtain ⟨T', e1, e2⟩ := me_go (b := b) (B := B) (ri := ri) (rj := rj) (pc := pc + 3) (l := l) (st := r) (me_h_put (e := .inr (ci, fs.set q.1 v)) hR (hR.1 a _ he).1 (fun _ _ h => by cases h)) t ht
              refine ⟨T', ?_, e2⟩
              show mj_pf (ky sc' hd) k pc idx (me_l b B ri rj l) (me_v b B ri rj v :: .ref (me_sg b B a) :: me_s b B ri rj r) h' = _
              unfold mj_pf
              dsimp only
              rw [h1]
              dsimp only
              rw [show (ky sc' hd).fl k idx ci = some q from hq]
              dsimp only
              have hn : narrow q.2.1 (me_v b B ri rj v) = me_v b B ri rj v ∧ fits q.2.1 (me_v b B ri rj v) = true := by
                rcases ms_tyv (b := b) (B := B) (ri := ri) (rj := rj) hok.2 with ⟨g1, a', g2⟩ | ⟨g1, a', g2⟩
                · rw [g1, g2]; exact ⟨rfl, rfl⟩
                · rw [g1, g2]; exact ⟨rfl, rfl⟩
              rw [if_pos ⟨hok.1, hn.1, hn.2⟩, ← e1]
              unfold me_e me_s
              dsimp only
              rw [List.map_set]
            · cases ht
          · cases ht
        · cases ht
      · cases ht
    · split at ht
      · rename_i v j a r
        split at ht
        · rename_i xs he
          split at ht
          · rename_i hok
            have h1 : h'.1 (me_sg b B a) = some (.inl (.int, me_s b B ri rj xs)) := (hR.1 a _ he).2
            obtain ⟨T', e1, e2⟩ := me_go (b := b) (B := B) (ri := ri) (rj := rj) (pc := pc + 1) (l := l) (st := r) (me_h_put (e := .inl (.int, xs.set j.toNatClampNeg v)) hR (hR.1 a _ he).1 (fun _ _ h => by cases h; exact ⟨by decide, by decide⟩)) t ht
            refine ⟨T', ?_, e2⟩
            rcases ms_tyv (b := b) (B := B) (ri := ri) (rj := rj) hok.1 with ⟨-, a', g2⟩ | ⟨g1, -⟩
            · show mj_ast (fun ty => decide (ty = .int)) pc (me_l b B ri rj l) (me_v b B ri rj v :: .int j :: .ref (me_sg b B a) :: me_s b B ri rj r) h' = _
              rw [g2]
              unfold mj_ast
              dsimp only
              rw [h1]
              dsimp only
              rw [if_pos ⟨rfl, hok.2.1, by unfold me_s; rw [List.length_map]; exact hok.2.2⟩, ← e1]
              unfold me_e me_s
              dsimp only
              rw [List.map_set, g2]
              rfl
            · cases g1
          · cases ht
        · cases ht
      · cases ht
    · split at ht
      · rename_i v j a r
        split at ht
        · rename_i xs he
          split at ht
          · rename_i hok
            have h1 : h'.1 (me_sg b B a) = some (.inl (.long, me_s b B ri rj xs)) := (hR.1 a _ he).2
            obtain ⟨T', e1, e2⟩ := me_go (b := b) (B := B) (ri := ri) (rj := rj) (pc := pc + 1) (l := l) (st := r) (me_h_put (e := .inl (.long, xs.set j.toNatClampNeg v)) hR (hR.1 a _ he).1 (fun _ _ h => by cases h; exact ⟨by decide, by decide⟩)) t ht
            refine ⟨T', ?_, e2⟩
            rcases ms_tyv (b := b) (B := B) (ri := ri) (rj := rj) hok.1 with ⟨g1, -⟩ | ⟨-, a', g2⟩
            · cases g1
            · show mj_lst pc (me_l b B ri rj l) (me_v b B ri rj v :: .int j :: .ref (me_sg b B a) :: me_s b B ri rj r) h' = _
              rw [g2]
              unfold mj_lst
              dsimp only
              rw [h1]
              dsimp only
              rw [if_pos ⟨hok.2.1, by unfold me_s; rw [List.length_map]; exact hok.2.2⟩, ← e1]
              unfold me_e me_s
              dsimp only
              rw [List.map_set, g2]
          · cases ht
        · cases ht
      · cases ht
    · split at ht
      · rename_i v j a r
        split at ht
        · rename_i xs w he hw
          split at ht
          · rename_i hok
            have h1 : h'.1 (me_sg b B a) = some (.inl (.byte, me_s b B ri rj xs)) := (hR.1 a _ he).2
            obtain ⟨T', e1, e2⟩ := me_go (b := b) (B := B) (ri := ri) (rj := rj) (pc := pc + 1) (l := l) (st := r) (me_h_put (e := .inl (.byte, xs.set j.toNatClampNeg w)) hR (hR.1 a _ he).1 (fun _ _ h => by cases h; exact ⟨by decide, by decide⟩)) t ht
            refine ⟨T', ?_, e2⟩
            have hdn := ms_den_o rfl rfl (ms_lk_ok hT hw)
            simp only [Nat.reduceEqDiff, false_and, or_false, false_or, true_and] at hdn
            obtain ⟨a', g1, g2⟩ := hdn
            show mj_ast (fun ty => decide (ty = .byte ∨ ty = .boolean)) pc (me_l b B ri rj l) (me_v b B ri rj v :: .int j :: .ref (me_sg b B a) :: me_s b B ri rj r) h' = _
            rw [g1]
            unfold mj_ast
            dsimp only
            rw [h1]
            dsimp only
            rw [if_pos ⟨rfl, hok.1, by unfold me_s; rw [List.length_map]; exact hok.2⟩, ← e1]
            unfold me_e me_s
            dsimp only
            rw [List.map_set, g2]
          · cases ht
        · cases ht
      · cases ht
    · split at ht
      · rename_i v hty
        cases ht
        refine ⟨.inr (.inr (.inl (some (.int (ri v.toNat))), h')), ?_, h', rfl, hR⟩
        rw [show (ky sc' hd).rt k = some .int from hty]
        exact if_pos rfl
      · cases ht
    · split at ht
      · rename_i v hty
        cases ht
        refine ⟨.inr (.inr (.inl (some (.long (rj v.toNat))), h')), ?_, h', rfl, hR⟩
        rw [show (ky sc' hd).rt k = some .long from hty]
        rfl
      · cases ht
    · rename_i n1 n2 n3 n4 n5 n6
      obtain ⟨q, hq, hg⟩ := Option.bind_eq_some_iff.mp ht
      obtain ⟨T', e1, e2⟩ := me_go (b := b) (B := B) (ri := ri) (rj := rj) (pc := q.1) (l := q.2.1) (st := q.2.2) hR t hg
      refine ⟨T', ?_, e2⟩
      have hp := ms_p_ok hT hC hq
      rw [← e1]
      have e9 : ((mj_p ((ky sc' hd).nL k) pc i (me_l b B ri rj l) (me_s b B ri rj st)).bind (fun q => mj_go q.1 q.2.1 q.2.2 h')) = mj_go q.1 (me_l b B ri rj q.2.1) (me_s b B ri rj q.2.2) h' := by
        rw [show (ky sc' hd).nL k = (ky sc hd).nL k from rfl, hp]
        rfl
      rw [← e9]
      unfold ms_p at hq
      split at hq
      all_goals first | rfl | (cases hq; done)
theorem ms_st (hT : ms_okT b B ri rj T) (hC : ms_okC b B ri rj C) (hX : ∀ a e, xt a = some e → a = 0 ∧ xt' b = some (e.1, me_s b B ri rj e.2)) (hsc : ∀ k idx n, sc k idx = some n → sc' k idx = some n ∧ ct' n = me_v b B ri rj (ct n)) (hdf : ∀ k idx q, ky_nw k idx = some q → me_s b B ri rj q.2.2 = q.2.2) (hR : me_h b B ri rj h h') : me_S b B ri rj (ms_s T C (ky sc hd) xt ct k pc l st h) (mj_s (ky sc' hd) xt' ct' k pc (me_l b B ri rj l) (me_s b B ri rj st) h') := by
  intro t ht
  unfold ms_s at ht
  cases hm : mj_s (ky sc hd) xt ct k pc l st h with
  | some t' =>
    rw [hm] at ht
    cases ht
    exact me_st hX hsc hdf hR t hm
  | none =>
    rw [hm] at ht
    exact ms_f_ok hT hC hR t ht
set_option maxHeartbeats 2000000 in
/-- A RUN WITH SYMBOLS IS A RUN, whatever they stand for -/
theorem ms_x_ok (hT : ms_okT b B ri rj T) (hC : ms_okC b B ri rj C) (hX : ∀ a e, xt a = some e → a = 0 ∧ xt' b = some (e.1, me_s b B ri rj e.2)) (hsc : ∀ k idx n, sc k idx = some n → sc' k idx = some n ∧ ct' n = me_v b B ri rj (ct n)) (hdf : ∀ k idx q, ky_nw k idx = some q → me_s b B ri rj q.2.2 = q.2.2) : ∀ (f d k pc : Nat) (l : mj_L) (st : List Value) (h h' : mj_H) (r : mj_O × mj_H), me_h b B ri rj h h' → ms_x T C (ky sc hd) xt ct f d k pc l st h = some r → ∃ g', mj_x (ky sc' hd) xt' ct' f d k pc (me_l b B ri rj l) (me_s b B ri rj st) h' = some (me_o b B ri rj r.1, g') ∧ me_h b B ri rj r.2 g' := by
  intro f
  induction f with
  | zero => intro d k pc l st h h' r _ hx; cases hx
  | succ f ih =>
    intro d k pc l st h h' r hR hx
    have hS := ms_st (b := b) (B := B) (ri := ri) (rj := rj) (T := T) (C := C) (sc := sc) (sc' := sc') (hd := hd) (xt := xt) (xt' := xt') (ct := ct) (ct' := ct') (k := k) (pc := pc) (l := l) (st := st) hT hC hX hsc hdf hR
    rw [ms_x] at hx
    rw [mj_x]
    split at hx
    · cases hx
    · rename_i q hs
      obtain ⟨T', e1, h1, e2, e3⟩ := hS _ hs
      subst e2
      rw [e1]
      exact ih _ _ _ _ _ _ _ _ e3 hx
    · rename_i q hs
      obtain ⟨T', e1, e2⟩ := hS _ hs
      have e2' : T' = .inr (.inl (q.1, me_s b B ri rj q.2.1, q.2.2.1, me_l b B ri rj q.2.2.2.1, me_s b B ri rj q.2.2.2.2)) := e2
      subst e2'
      rw [e1]
      cases d with
      | zero => cases hx
      | succ d' =>
        dsimp only at hx ⊢
        cases hc : ms_x T C (ky sc hd) xt ct f d' q.1 0 (lv_args 0 q.2.1) [] h with
        | none => rw [hc] at hx; cases hx
        | some z =>
          rw [hc] at hx
          obtain ⟨g1, e4, e5⟩ := ih _ _ _ _ _ _ _ _ hR hc
          rw [me_args]
          rw [show me_s b B ri rj [] = [] from rfl] at e4
          rw [e4]
          obtain ⟨o, hz⟩ := z
          cases o with
          | inl v =>
            dsimp only at hx e5 ⊢
            obtain ⟨g2, e6, e7⟩ := ih _ _ _ _ _ _ _ _ e5 hx
            refine ⟨g2, ?_, e7⟩
            have e8 : (v.map (me_v b B ri rj)).toList ++ me_s b B ri rj q.2.2.2.2 = me_s b B ri rj (v.toList ++ q.2.2.2.2) := by cases v <;> rfl
            show mj_x (ky sc' hd) xt' ct' f (d' + 1) k q.2.2.1 (me_l b B ri rj q.2.2.2.1) ((v.map (me_v b B ri rj)).toList ++ me_s b B ri rj q.2.2.2.2) g1 = _
            rw [e8]
            exact e6
          | inr a =>
            dsimp only at hx e5 ⊢
            show ∃ g', (match (ky sc' hd).nh k with | true => some (Sum.inr (me_sg b B a), g1) | false => match g1.1 (me_sg b B a) with | some (.inr (ci, _)) => (match (ky sc' hd).hd k pc ci with | some hpc => mj_x (ky sc' hd) xt' ct' f (d' + 1) k hpc (me_l b B ri rj q.2.2.2.1) [.ref (me_sg b B a)] g1 | none => none) | _ => none) = some (me_o b B ri rj r.1, g') ∧ me_h b B ri rj r.2 g'
            rw [show (ky sc' hd).nh k = (ky sc hd).nh k from rfl]
            cases hn : (ky sc hd).nh k with
            | true =>
              rw [hn] at hx
              cases hx
              exact ⟨g1, rfl, e5⟩
            | false =>
              rw [hn] at hx
              dsimp only at hx ⊢
              split at hx
              · rename_i ci fs he
                split at hx
                · rename_i hpc hh
                  obtain ⟨g2, e6, e7⟩ := ih _ _ _ _ _ _ _ _ e5 hx
                  refine ⟨g2, ?_, e7⟩
                  rw [(e5.1 a _ he).2]
                  show (match (ky sc' hd).hd k pc ci with | some hpc => mj_x (ky sc' hd) xt' ct' f (d' + 1) k hpc (me_l b B ri rj q.2.2.2.1) [.ref (me_sg b B a)] g1 | none => none) = _
                  rw [show (ky sc' hd).hd k pc ci = some hpc from hh]
                  exact e6
                · cases hx
              · cases hx
    · rename_i o hs
      cases hx
      obtain ⟨T', e1, h1, e2, e3⟩ := hS _ hs
      subst e2
      rw [e1]
      exact ⟨h1, rfl, e3⟩
end MSX
