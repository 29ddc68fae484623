section MES
variable {b B : Nat} {ri : Nat → Int32} {rj : Nat → Int64} {sc sc' : Nat → Nat → Option Nat} {hd : Nat → Nat → Nat → Option Nat} {xt xt' : mj_X} {ct ct' : Nat → Value}
/-- a step, moved -/
def me_T_f (b B : Nat) (ri : Nat → Int32) (rj : Nat → Int64) (T T' : mj_T) : Prop := match T with
  | .inl q => ∃ h', T' = .inl (q.1, me_l b B ri rj q.2.1, me_s b B ri rj q.2.2.1, h') ∧ me_h_f b B ri rj q.2.2.2 h'
  | .inr (.inl q) => T' = .inr (.inl (q.1, me_s b B ri rj q.2.1, q.2.2.1, me_l b B ri rj q.2.2.2.1, me_s b B ri rj q.2.2.2.2))
  | .inr (.inr o) => ∃ h', T' = .inr (.inr (me_o b B ri rj o.1, h')) ∧ me_h_f b B ri rj o.2 h'
def me_S_f (b B : Nat) (ri : Nat → Int32) (rj : Nat → Int64) (r r' : Option mj_T) : Prop := ∀ T, r = some T → ∃ T', r' = some T' ∧ me_T_f b B ri rj T T'
theorem me_none_f {r' : Option mj_T} : me_S_f b B ri rj none r' := fun T h => by cases h
theorem me_go_f {pc : Nat} {l : mj_L} {st : List Value} {h h' : mj_H} (hR : me_h_f b B ri rj h h') : me_S_f b B ri rj (mj_go pc l st h) (mj_go pc (me_l b B ri rj l) (me_s b B ri rj st) h') := fun T hT => by
  cases hT
  exact ⟨_, rfl, h', rfl, hR⟩
theorem me_if_f {c : Prop} [Decidable c] {r r' : Option mj_T} (h : c → me_S_f b B ri rj r r') : me_S_f b B ri rj (if c then r else none) (if c then r' else none) := by
  by_cases hc : c
  · rw [if_pos hc, if_pos hc]; exact h hc
  · rw [if_neg hc]; exact me_none_f
variable {k pc idx : Nat} {l : mj_L} {st : List Value} {h h' : mj_H}
theorem me_fits_f {ty : FieldType} {v : Value} (hf : ty ≠ .float ∧ ty ≠ .double) (h : fits ty v = true) : fits ty (me_v b B ri rj v) = true := by
  cases v <;> cases ty <;> first | exact h | (exact absurd rfl hf.1) | (exact absurd rfl hf.2) | (cases h; done)
theorem me_narrow_f {ty : FieldType} {v : Value} (hf : ty ≠ .float ∧ ty ≠ .double) (h : fits ty v = true) (hn : narrow ty v = v) : narrow ty (me_v b B ri rj v) = me_v b B ri rj v := by
  cases v with
  | ref a => cases ty <;> first | rfl | (cases h; done)
  | float n => cases ty <;> first | (exact absurd rfl hf.1) | (cases h; done)
  | double n => cases ty <;> first | (exact absurd rfl hf.2) | (cases h; done)
  | _ => exact hn
theorem kf_nf_f : ∀ e ∈ kf, e.2.2.2.2.1 ≠ .float ∧ e.2.2.2.2.1 ≠ .double := by decide +kernel
theorem ky_flf_f {k idx ci : Nat} {q : Nat × FieldType × Bool} (h : ky_fl k idx ci = some q) : q.2.1 ≠ .float ∧ q.2.1 ≠ .double := by
  unfold ky_fl at h
  obtain ⟨v, hv, rfl⟩ := Option.map_eq_some_iff.mp h
  exact kf_nf_f _ (mj_lk3_in hv)
theorem me_gf_f (hR : me_h_f b B ri rj h h') : me_S_f b B ri rj (mj_gf (ky sc hd) k pc idx l st h) (mj_gf (ky sc' hd) k pc idx (me_l b B ri rj l) (me_s b B ri rj st) h') := by
  intro T hT
  unfold mj_gf at hT
  split at hT
  · rename_i a r
    split at hT
    · rename_i ci fs he
      split at hT
      · rename_i q hq
        obtain ⟨v, hv, hg⟩ := Option.bind_eq_some_iff.mp hT
        obtain ⟨T', e1, e2⟩ := me_go_f (b := b) (B := B) (ri := ri) (rj := rj) (pc := pc + 3) (l := l) (st := v :: r) hR T hg
        refine ⟨T', ?_, e2⟩
        have h1 : h'.1 (me_sg b B a) = some (.inr (ci, me_s b B ri rj fs)) := (hR.1 a _ he).2
        unfold mj_gf
        rw [show me_s b B ri rj (.ref a :: r) = .ref (me_sg b B a) :: me_s b B ri rj r from rfl]
        dsimp only
        rw [h1]
        dsimp only
        rw [show (ky sc' hd).fl k idx ci = some q from hq]
        dsimp only
        rw [show (me_s b B ri rj fs)[q.1]? = some (me_v b B ri rj v) by unfold me_s; rw [List.getElem?_map, hv]; rfl]
        exact e1
      · cases hT
    · cases hT
  · cases hT
theorem me_pf_f (hR : me_h_f b B ri rj h h') : me_S_f b B ri rj (mj_pf (ky sc hd) k pc idx l st h) (mj_pf (ky sc' hd) k pc idx (me_l b B ri rj l) (me_s b B ri rj st) h') := by
  intro T hT
  unfold mj_pf at hT
  split at hT
  · rename_i v a r
    split at hT
    · rename_i ci fs he
      split at hT
      · rename_i q hq
        split at hT
        · rename_i hok
          have h1 : h'.1 (me_sg b B a) = some (.inr (ci, me_s b B ri rj fs)) := (hR.1 a _ he).2
          obtain ⟨T', e1, e2⟩ := me_go_f (b := b) (B := B) (ri := ri) (rj := rj) (pc := pc + 3) (l := l) (st := r) (me_h_put_f (e := .inr (ci, fs.set q.1 v)) hR (hR.1 a _ he).1 (fun _ _ h => by cases h)) T hT
          refine ⟨T', ?_, e2⟩
          unfold mj_pf
          rw [show me_s b B ri rj (v :: .ref a :: r) = me_v b B ri rj v :: .ref (me_sg b B a) :: me_s b B ri rj r from rfl]
          dsimp only
          rw [h1]
          dsimp only
          rw [show (ky sc' hd).fl k idx ci = some q from hq]
          dsimp only
          rw [if_pos ⟨hok.1, me_narrow_f (ky_flf_f hq) hok.2.2 hok.2.1, me_fits_f (ky_flf_f hq) hok.2.2⟩, ← e1]
          unfold me_e me_s
          dsimp only
          rw [List.map_set]
        · cases hT
      · cases hT
    · cases hT
  · cases hT
theorem me_arr_f (hX : ∀ a e, xt a = some e → a = 0 ∧ xt' b = some (e.1, me_s b B ri rj e.2)) (hR : me_h_f b B ri rj h h') {a : Nat} {ty : FieldType} {xs : List Value} (he : mj_arr xt h a = some (ty, xs)) : mj_arr xt' h' (me_sg b B a) = some (ty, me_s b B ri rj xs) := by
  unfold mj_arr at he ⊢
  split at he
  · rename_i r hr
    cases he
    rw [(hR.1 a _ hr).2]
    rfl
  · cases he
  · obtain ⟨rfl, h2⟩ := hX a _ he
    rw [show me_sg b B 0 = b from if_pos rfl, hR.2.2.2.2.1 b hR.2.2.2.2.2.1]
    exact h2
theorem me_ald_f (hX : ∀ a e, xt a = some e → a = 0 ∧ xt' b = some (e.1, me_s b B ri rj e.2)) (hR : me_h_f b B ri rj h h') {ok : FieldType → Bool} : me_S_f b B ri rj (mj_ald xt ok pc l st h) (mj_ald xt' ok pc (me_l b B ri rj l) (me_s b B ri rj st) h') := by
  intro T hT
  unfold mj_ald at hT
  split at hT
  · rename_i j a r
    split at hT
    · rename_i ty xs he
      split at hT
      · rename_i hok
        obtain ⟨v, hv, hg⟩ := Option.bind_eq_some_iff.mp hT
        obtain ⟨T', e1, e2⟩ := me_go_f (b := b) (B := B) (ri := ri) (rj := rj) (pc := pc + 1) (l := l) (st := v :: r) hR T hg
        refine ⟨T', ?_, e2⟩
        show (match mj_arr xt' h' (me_sg b B a) with | some (ty, xs) => if ok ty = true ∧ ¬ j < 0 then (xs[j.toNatClampNeg]?).bind (fun v => mj_go (pc + 1) (me_l b B ri rj l) (v :: me_s b B ri rj r) h') else none | none => none) = _
        rw [me_arr_f hX hR he]
        dsimp only
        rw [if_pos hok, show (me_s b B ri rj xs)[j.toNatClampNeg]? = some (me_v b B ri rj v) by unfold me_s; rw [List.getElem?_map, hv]; rfl]
        exact e1
      · cases hT
    · cases hT
  · cases hT
theorem me_ast_f (hR : me_h_f b B ri rj h h') {ok : FieldType → Bool} : me_S_f b B ri rj (mj_ast ok pc l st h) (mj_ast ok pc (me_l b B ri rj l) (me_s b B ri rj st) h') := by
  intro T hT
  unfold mj_ast at hT
  split at hT
  · rename_i x j a r
    split at hT
    · rename_i ty xs he
      split at hT
      · rename_i hok
        have h1 : h'.1 (me_sg b B a) = some (.inl (ty, me_s b B ri rj xs)) := (hR.1 a _ he).2
        have hn : me_v b B ri rj (narrow ty (.int x)) = narrow ty (.int x) := by cases ty <;> rfl
        obtain ⟨T', e1, e2⟩ := me_go_f (b := b) (B := B) (ri := ri) (rj := rj) (pc := pc + 1) (l := l) (st := r) (me_h_put_f (e := .inl (ty, xs.set j.toNatClampNeg (narrow ty (.int x)))) hR (hR.1 a _ he).1 (fun _ _ h => by cases h; exact hR.2.2.2.2.2.2 a _ _ he)) T hT
        refine ⟨T', ?_, e2⟩
        show (match h'.1 (me_sg b B a) with | some (.inl (ty, xs)) => if ok ty = true ∧ ¬ j < 0 ∧ j.toNatClampNeg < xs.length then mj_go (pc + 1) (me_l b B ri rj l) (me_s b B ri rj r) (mj_put h' (me_sg b B a) (.inl (ty, xs.set j.toNatClampNeg (narrow ty (.int x))))) else none | _ => none) = _
        rw [h1]
        dsimp only
        rw [if_pos ⟨hok.1, hok.2.1, by unfold me_s; rw [List.length_map]; exact hok.2.2⟩, ← e1]
        unfold me_e me_s
        dsimp only
        rw [List.map_set, hn]
      · cases hT
    · cases hT
  · cases hT
theorem me_lst_f (hR : me_h_f b B ri rj h h') : me_S_f b B ri rj (mj_lst pc l st h) (mj_lst pc (me_l b B ri rj l) (me_s b B ri rj st) h') := by
  intro T hT
  unfold mj_lst at hT
  split at hT
  · rename_i x j a r
    split at hT
    · rename_i xs he
      split at hT
      · rename_i hok
        have h1 : h'.1 (me_sg b B a) = some (.inl (.long, me_s b B ri rj xs)) := (hR.1 a _ he).2
        obtain ⟨T', e1, e2⟩ := me_go_f (b := b) (B := B) (ri := ri) (rj := rj) (pc := pc + 1) (l := l) (st := r) (me_h_put_f (e := .inl (.long, xs.set j.toNatClampNeg (.long x))) hR (hR.1 a _ he).1 (fun _ _ h => by cases h; exact ⟨by decide, by decide⟩)) T hT
        refine ⟨T', ?_, e2⟩
        show (match h'.1 (me_sg b B a) with | some (.inl (.long, xs)) => if ¬ j < 0 ∧ j.toNatClampNeg < xs.length then mj_go (pc + 1) (me_l b B ri rj l) (me_s b B ri rj r) (mj_put h' (me_sg b B a) (.inl (.long, xs.set j.toNatClampNeg (.long x)))) else none | _ => none) = _
        rw [h1]
        dsimp only
        rw [if_pos ⟨hok.1, by unfold me_s; rw [List.length_map]; exact hok.2⟩, ← e1]
        unfold me_e me_s
        dsimp only
        rw [List.map_set]
        rfl
      · cases hT
    · cases hT
  · cases hT
theorem me_rst_f (hR : me_h_f b B ri rj h h') : me_S_f b B ri rj (mj_rst (ky sc hd) pc l st h) (mj_rst (ky sc' hd) pc (me_l b B ri rj l) (me_s b B ri rj st) h') := by
  intro T hT
  unfold mj_rst at hT
  split at hT
  · rename_i v j a r
    split at hT
    · rename_i C xs ci fs he hv
      split at hT
      · rename_i hok
        have h1 : h'.1 (me_sg b B a) = some (.inl (.object C, me_s b B ri rj xs)) := (hR.1 a _ he).2
        have h2 : h'.1 (me_sg b B v) = some (.inr (ci, me_s b B ri rj fs)) := (hR.1 v _ hv).2
        obtain ⟨T', e1, e2⟩ := me_go_f (b := b) (B := B) (ri := ri) (rj := rj) (pc := pc + 1) (l := l) (st := r) (me_h_put_f (e := .inl (.object C, xs.set j.toNatClampNeg (.ref v))) hR (hR.1 a _ he).1 (fun _ _ h => by cases h; exact hR.2.2.2.2.2.2 a _ _ he)) T hT
        refine ⟨T', ?_, e2⟩
        show (match h'.1 (me_sg b B a), h'.1 (me_sg b B v) with | some (.inl (.object C, xs)), some (.inr (ci, _)) => if (ky sc' hd).ca ci C = true ∧ ¬ j < 0 ∧ j.toNatClampNeg < xs.length then mj_go (pc + 1) (me_l b B ri rj l) (me_s b B ri rj r) (mj_put h' (me_sg b B a) (.inl (.object C, xs.set j.toNatClampNeg (.ref (me_sg b B v))))) else none | _, _ => none) = _
        rw [h1, h2]
        dsimp only
        rw [if_pos ⟨hok.1, hok.2.1, by unfold me_s; rw [List.length_map]; exact hok.2.2⟩, ← e1]
        unfold me_e me_s
        dsimp only
        rw [List.map_set]
        rfl
      · cases hT
    · cases hT
  · cases hT
theorem me_dflt_f {ty : FieldType} (hf : ty ≠ .float ∧ ty ≠ .double) : me_v b B ri rj (defaultValue ty) = defaultValue ty := by
  cases ty <;> first | rfl | (exact absurd rfl hf.1) | (exact absurd rfl hf.2)
theorem me_nwo_f (hR : me_h_f b B ri rj h h') (hdf : ∀ q, ky_nw k idx = some q → me_s b B ri rj q.2.2 = q.2.2) : me_S_f b B ri rj (mj_nwo (ky sc hd) k pc idx l st h) (mj_nwo (ky sc' hd) k pc idx (me_l b B ri rj l) (me_s b B ri rj st) h') := by
  intro T hT
  unfold mj_nwo at hT
  split at hT
  · rename_i q hq
    obtain ⟨T', e1, e2⟩ := me_go_f (b := b) (B := B) (ri := ri) (rj := rj) (pc := pc + 3) (l := l) (st := .ref h.2.1 :: st) (me_h_new_f (n := q.2.1) (e := .inr (q.1, q.2.2)) hR (fun _ _ h => by cases h)) T hT
    refine ⟨T', ?_, e2⟩
    show (match (ky sc' hd).nw k idx with | some q => mj_go (pc + 3) (me_l b B ri rj l) (.ref h'.2.1 :: me_s b B ri rj st) (mj_new h' q.2.1 (.inr (q.1, q.2.2))) | none => none) = _
    rw [show (ky sc' hd).nw k idx = some q from hq]
    dsimp only
    rw [← e1]
    unfold me_e
    dsimp only
    rw [hdf q hq, hR.2.2.1]
    rfl
  · cases hT
theorem me_nwa_f (hR : me_h_f b B ri rj h h') {at0 : ArrayType} (hat : newarray.typeOf at0 ≠ .float ∧ newarray.typeOf at0 ≠ .double) : me_S_f b B ri rj (mj_nwa at0 pc l st h) (mj_nwa at0 pc (me_l b B ri rj l) (me_s b B ri rj st) h') := by
  intro T hT
  unfold mj_nwa at hT
  split at hT
  · rename_i n r
    split at hT
    · rename_i hok
      obtain ⟨T', e1, e2⟩ := me_go_f (b := b) (B := B) (ri := ri) (rj := rj) (pc := pc + 2) (l := l) (st := .ref h.2.1 :: r) (me_h_new_f (n := n.toNatClampNeg) (e := .inl (newarray.typeOf at0, List.replicate n.toNatClampNeg (defaultValue (newarray.typeOf at0)))) hR (fun _ _ h => by cases h; exact hat)) T hT
      refine ⟨T', ?_, e2⟩
      show (if ¬ n < 0 ∧ n.toNatClampNeg * 8 ≤ 536870912 then mj_go (pc + 2) (me_l b B ri rj l) (.ref h'.2.1 :: me_s b B ri rj r) (mj_new h' n.toNatClampNeg (.inl (newarray.typeOf at0, List.replicate n.toNatClampNeg (defaultValue (newarray.typeOf at0))))) else none) = _
      rw [if_pos hok, ← e1]
      unfold me_e me_s
      dsimp only
      rw [List.map_replicate, me_dflt_f hat, hR.2.2.1]
      rfl
    · cases hT
  · cases hT
theorem me_nwq_f (hR : me_h_f b B ri rj h h') : me_S_f b B ri rj (mj_nwq (ky sc hd) k pc idx l st h) (mj_nwq (ky sc' hd) k pc idx (me_l b B ri rj l) (me_s b B ri rj st) h') := by
  intro T hT
  unfold mj_nwq at hT
  split at hT
  · rename_i n r C hC
    split at hT
    · rename_i hok
      obtain ⟨T', e1, e2⟩ := me_go_f (b := b) (B := B) (ri := ri) (rj := rj) (pc := pc + 3) (l := l) (st := .ref h.2.1 :: r) (me_h_new_f (n := n.toNatClampNeg) (e := .inl (.object C, List.replicate n.toNatClampNeg .null)) hR (fun _ _ h => by cases h; exact ⟨by simp, by simp⟩)) T hT
      refine ⟨T', ?_, e2⟩
      show (match Value.int n :: me_s b B ri rj r, (ky sc' hd).an k idx with | .int n :: r, some C => if ¬ n < 0 ∧ n.toNatClampNeg * 8 ≤ 536870912 then mj_go (pc + 3) (me_l b B ri rj l) (.ref h'.2.1 :: r) (mj_new h' n.toNatClampNeg (.inl (.object C, List.replicate n.toNatClampNeg .null))) else none | _, _ => none) = _
      rw [show (ky sc' hd).an k idx = some C from hC]
      dsimp only
      rw [if_pos hok, ← e1]
      unfold me_e me_s
      dsimp only
      rw [List.map_replicate, hR.2.2.1]
      rfl
    · cases hT
  · cases hT
end MES
