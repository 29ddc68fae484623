section MEX
variable {b B : Nat} {ri : Nat → Int32} {rj : Nat → Int64} {sc sc' : Nat → Nat → Option Nat} {hd : Nat → Nat → Nat → Option Nat} {xt xt' : mj_X} {ct ct' : Nat → Value}
variable {k pc idx : Nat} {l : mj_L} {st : List Value} {h h' : mj_H}
theorem me_wt_f (st : List Value) : mj_wt (me_s b B ri rj st) = mj_wt st := by
  unfold mj_wt me_s
  rw [List.map_map]
  congr 1
  apply List.map_congr_left
  intro v _
  exact me_cat v
theorem me_sl_f (vs : List Value) : (lg_sl (me_s b B ri rj vs)).length = (lg_sl vs).length := by
  induction vs with
  | nil => rfl
  | cons v r ih =>
    have hc : ∀ (w : Value) (t : List Value), (lg_sl (w :: t)).length = w.category + (lg_sl t).length := fun w t => by
      cases w <;> simp [lg_sl, Value.category] <;> omega
    show (lg_sl (me_v b B ri rj v :: me_s b B ri rj r)).length = _
    rw [hc, hc, me_cat, ih]
theorem me_args_f (vs : List Value) (i : Nat) : lv_args i (me_s b B ri rj vs) = me_l b B ri rj (lv_args i vs) := by
  induction vs generalizing i with
  | nil => rfl
  | cons v r ih =>
    show (i, me_v b B ri rj v) :: lv_args (if (me_v b B ri rj v).category = 2 then i + 2 else i + 1) (me_s b B ri rj r) = _
    rw [me_cat, ih]
    rfl
theorem me_cal_f {k2 n : Nat} : me_S_f b B ri rj (mj_cal (ky sc hd) k2 n pc l st) (mj_cal (ky sc' hd) k2 n pc (me_l b B ri rj l) (me_s b B ri rj st)) := by
  intro T hT
  unfold mj_cal at hT
  split at hT
  · rename_i hok
    cases hT
    have e1 : (me_s b B ri rj st).drop n = me_s b B ri rj (st.drop n) := by unfold me_s; rw [List.map_drop]
    have e2 : ((me_s b B ri rj st).take n).reverse = me_s b B ri rj (st.take n).reverse := by unfold me_s; rw [List.map_reverse, List.map_take]
    refine ⟨.inr (.inl (k2, me_s b B ri rj (st.take n).reverse, pc + 3, me_l b B ri rj l, me_s b B ri rj (st.drop n))), ?_, rfl⟩
    unfold mj_cal
    rw [e1, e2, me_wt_f, me_sl_f, show (me_s b B ri rj st).length = st.length by unfold me_s; rw [List.length_map]]
    exact if_pos hok
  · cases hT
theorem me_cpy_f (xs ys : List Value) (sp dp n : Nat) : me_s b B ri rj (mj_cpy xs ys sp dp n) = mj_cpy (me_s b B ri rj xs) (me_s b B ri rj ys) sp dp n := by
  unfold mj_cpy me_s
  rw [List.map_map, List.length_map]
  apply List.map_congr_left
  intro j _
  have hg : ∀ (l : List Value) (i : Nat), (l.map (me_v b B ri rj)).getD i .null = me_v b B ri rj (l.getD i .null) := fun l i => by
    rw [List.getD_eq_getElem?_getD, List.getD_eq_getElem?_getD, List.getElem?_map]
    cases l[i]? <;> rfl
  simp only [Function.comp_def]
  split
  · rw [hg]
  · rw [hg]
theorem me_all_f {xs : List Value} {ty : FieldType} (hf : ty ≠ .float ∧ ty ≠ .double) (h : xs.all (fun v => fits ty v) = true) : (me_s b B ri rj xs).all (fun v => fits ty v) = true := by
  unfold me_s
  rw [List.all_map]
  exact List.all_eq_true.mpr fun v hv => me_fits_f hf (List.all_eq_true.mp h v hv)
theorem me_acp_f (hR : me_h_f b B ri rj h h') : me_S_f b B ri rj (mj_acp pc l st h) (mj_acp pc (me_l b B ri rj l) (me_s b B ri rj st) h') := by
  intro T hT
  unfold mj_acp at hT
  split at hT
  · rename_i n dp a2 sp a1 r
    split at hT
    · rename_i ty xs tz ys he1 he2
      split at hT
      · rename_i hok
        have h1 : h'.1 (me_sg b B a1) = some (.inl (ty, me_s b B ri rj xs)) := (hR.1 a1 _ he1).2
        have h2 : h'.1 (me_sg b B a2) = some (.inl (tz, me_s b B ri rj ys)) := (hR.1 a2 _ he2).2
        obtain ⟨T', e1, e2⟩ := me_go_f (b := b) (B := B) (ri := ri) (rj := rj) (pc := pc + 3) (l := l) (st := r) (me_h_put_f (e := .inl (ty, mj_cpy xs ys sp.toNatClampNeg dp.toNatClampNeg n.toNatClampNeg)) hR (hR.1 a2 _ he2).1 (fun _ _ h => by cases h; exact hR.2.2.2.2.2.2 a1 _ _ he1)) T hT
        refine ⟨T', ?_, e2⟩
        unfold mj_acp
        rw [show me_s b B ri rj (.int n :: .int dp :: .ref a2 :: .int sp :: .ref a1 :: r) = .int n :: .int dp :: .ref (me_sg b B a2) :: .int sp :: .ref (me_sg b B a1) :: me_s b B ri rj r from rfl]
        dsimp only
        rw [h1, h2]
        dsimp only
        rw [me_wt_f, show (me_s b B ri rj xs).length = xs.length by unfold me_s; rw [List.length_map], show (me_s b B ri rj ys).length = ys.length by unfold me_s; rw [List.length_map], if_pos ⟨hok.1, hok.2.1, hok.2.2.1, hok.2.2.2.1, hok.2.2.2.2.1, hok.2.2.2.2.2.1, hok.2.2.2.2.2.2.1, me_all_f (hR.2.2.2.2.2.2 a1 _ _ he1) hok.2.2.2.2.2.2.2.1, hok.2.2.2.2.2.2.2.2⟩, ← e1]
        unfold me_e
        dsimp only
        rw [me_cpy_f]
      · cases hT
    · cases hT
  · cases hT
theorem me_mna_f (hR : me_h_f b B ri rj h h') : me_S_f b B ri rj (mj_mna pc l st h) (mj_mna pc (me_l b B ri rj l) (me_s b B ri rj st) h') := by
  intro T hT
  unfold mj_mna at hT
  split at hT
  · rename_i kk n r
    split at hT
    · rename_i hok
      obtain ⟨T', e1, e2⟩ := me_go_f (b := b) (B := B) (ri := ri) (rj := rj) (pc := pc + 4) (l := l) (st := .ref h.2.1 :: r) (me_h_mul_f (n := n.toNatClampNeg) (k := kk.toNatClampNeg) hR) T hT
      refine ⟨T', ?_, e2⟩
      unfold mj_mna
      rw [show me_s b B ri rj (.int kk :: .int n :: r) = .int kk :: .int n :: me_s b B ri rj r from rfl]
      dsimp only
      rw [if_pos hok, hR.2.2.1]
      exact e1
    · cases hT
  · cases hT
theorem me_cln_f {n : Nat} (hR : me_h_f b B ri rj h h') : me_S_f b B ri rj (mj_cln n pc l st h) (mj_cln n pc (me_l b B ri rj l) (me_s b B ri rj st) h') := by
  intro T hT
  unfold mj_cln at hT
  split at hT
  · rename_i a r
    split at hT
    · rename_i ty xs he
      split at hT
      · rename_i hok
        have h1 : h'.1 (me_sg b B a) = some (.inl (ty, me_s b B ri rj xs)) := (hR.1 a _ he).2
        obtain ⟨T', e1, e2⟩ := me_go_f (b := b) (B := B) (ri := ri) (rj := rj) (pc := pc + 3) (l := l) (st := .ref h.2.1 :: r) (me_h_new_f (n := xs.length) (e := .inl (ty, xs)) hR (fun _ _ h => by cases h; exact hR.2.2.2.2.2.2 a _ _ he)) T hT
        refine ⟨T', ?_, e2⟩
        unfold mj_cln
        rw [show me_s b B ri rj (.ref a :: r) = .ref (me_sg b B a) :: me_s b B ri rj r from rfl]
        dsimp only
        rw [h1]
        dsimp only
        rw [me_wt_f, if_pos ⟨hok.1, me_all_f (hR.2.2.2.2.2.2 a _ _ he) hok.2.1, hok.2.2⟩, hR.2.2.1, show (me_s b B ri rj xs).length = xs.length by unfold me_s; rw [List.length_map]]
        exact e1
      · cases hT
    · cases hT
  · cases hT
theorem me_ccs_f (hR : me_h_f b B ri rj h h') : me_S_f b B ri rj (mj_ccs (ky sc hd) k pc idx l st h) (mj_ccs (ky sc' hd) k pc idx (me_l b B ri rj l) (me_s b B ri rj st) h') := by
  intro T hT
  unfold mj_ccs at hT
  split at hT
  · rename_i a r
    split at hT
    · rename_i ty xs n he hn
      split at hT
      · rename_i hok
        have h1 : h'.1 (me_sg b B a) = some (.inl (ty, me_s b B ri rj xs)) := (hR.1 a _ he).2
        obtain ⟨T', e1, e2⟩ := me_go_f (b := b) (B := B) (ri := ri) (rj := rj) (pc := pc + 3) (l := l) (st := .ref a :: r) hR T hT
        refine ⟨T', ?_, e2⟩
        unfold mj_ccs
        rw [show me_s b B ri rj (.ref a :: r) = .ref (me_sg b B a) :: me_s b B ri rj r from rfl]
        dsimp only
        rw [h1, show (ky sc' hd).pr k idx = some n from hn]
        dsimp only
        rw [if_pos hok]
        exact e1
      · cases hT
    · cases hT
  · cases hT
theorem me_alen_f (hX : ∀ a e, xt a = some e → a = 0 ∧ xt' b = some (e.1, me_s b B ri rj e.2)) (hR : me_h_f b B ri rj h h') {a : Nat} {r : List Value} : me_S_f b B ri rj (match mj_arr xt h a with | some (_, xs) => mj_go (pc + 1) l (.int (Int32.ofNat xs.length) :: r) h | none => none) (match mj_arr xt' h' (me_sg b B a) with | some (_, xs) => mj_go (pc + 1) (me_l b B ri rj l) (.int (Int32.ofNat xs.length) :: me_s b B ri rj r) h' | none => none) := by
  intro T hT
  split at hT
  · rename_i ty xs he
    obtain ⟨T', e1, e2⟩ := me_go_f (b := b) (B := B) (ri := ri) (rj := rj) (pc := pc + 1) (l := l) (st := .int (Int32.ofNat xs.length) :: r) hR T hT
    refine ⟨T', ?_, e2⟩
    rw [me_arr_f hX hR he]
    dsimp only
    rw [show (me_s b B ri rj xs).length = xs.length by unfold me_s; rw [List.length_map]]
    exact e1
  · cases hT
set_option maxHeartbeats 4000000 in
theorem me_st_f (hX : ∀ a e, xt a = some e → a = 0 ∧ xt' b = some (e.1, me_s b B ri rj e.2)) (hsc : ∀ k idx n, sc k idx = some n → sc' k idx = some n ∧ ct' n = me_v b B ri rj (ct n)) (hdf : ∀ k idx q, ky_nw k idx = some q → me_s b B ri rj q.2.2 = q.2.2) (hR : me_h_f b B ri rj h h') : me_S_f b B ri rj (mj_s (ky sc hd) xt ct k pc l st h) (mj_s (ky sc' hd) xt' ct' k pc (me_l b B ri rj l) (me_s b B ri rj st) h') := by
  unfold mj_s
  rw [show (ky sc' hd).code k pc = (ky sc hd).code k pc from rfl]
  cases hc : (ky sc hd).code k pc with
  | none => exact me_none_f
  | some i =>
    dsimp only
    split
    · exact me_gf_f hR
    · exact me_pf_f hR
    · exact me_ald_f hX hR
    · exact me_ald_f hX hR
    · exact me_ald_f hX hR
    · exact me_ald_f hX hR
    · exact me_ald_f hX hR
    · exact me_ast_f hR
    · exact me_ast_f hR
    · exact me_ast_f hR
    · exact me_lst_f hR
    · exact me_rst_f hR
    · cases st with
      | nil => exact me_none_f
      | cons v r => cases v <;> first | exact me_alen_f hX hR | exact me_none_f
    · rename_i idx
      rw [show (ky sc' hd).ex k idx = (ky sc hd).ex k idx from rfl, show (ky sc' hd).nh k = (ky sc hd).nh k from rfl]
      cases he : (ky sc hd).ex k idx with
      | none => exact me_nwo_f hR (hdf k idx)
      | some ci =>
        dsimp only
        rw [me_wt_f]
        refine me_if_f fun _ T hT => ?_
        cases hT
        refine ⟨_, rfl, mj_new h' 6 (.inr (ci, [])), ?_, me_h_new_f (e := .inr (ci, [])) hR (fun _ _ h => by cases h)⟩
        show _ = Sum.inr (Sum.inr (Sum.inr (me_sg b B h.2.1), _))
        rw [hR.2.2.1]
    · refine me_nwa_f hR ?_
      have h1 := (ky_okA hc).2
      have h2 : ∀ t ∈ kty, t ≠ .float ∧ t ≠ .double := by decide
      exact h2 _ h1
    · exact me_nwq_f hR
    · rename_i idx
      rw [show (ky sc' hd).ck k idx = (ky sc hd).ck k idx from rfl]
      split
      · exact me_go_f (st := _ :: _) hR
      · cases hs : (ky sc hd).sc k (idx + 65536) with
        | none => exact me_none_f
        | some n =>
          obtain ⟨g1, g2⟩ := hsc _ _ _ hs
          rw [show (ky sc' hd).sc k (idx + 65536) = some n from g1]
          dsimp only
          rw [g2]
          exact me_go_f (st := _ :: _) hR
    · rename_i idx
      rw [show (ky sc' hd).ck k idx = (ky sc hd).ck k idx from rfl]
      split
      · exact me_go_f (st := _ :: _) hR
      · exact me_none_f
    · rename_i idx
      cases hs : (ky sc hd).sc k idx with
      | none => exact me_none_f
      | some n =>
        obtain ⟨g1, g2⟩ := hsc _ _ _ hs
        rw [show (ky sc' hd).sc k idx = some n from g1]
        dsimp only
        rw [g2]
        exact me_go_f (st := _ :: _) hR
    · rename_i idx
      rw [show (ky sc' hd).pr k idx = (ky sc hd).pr k idx from rfl, show (ky sc' hd).cs k idx = (ky sc hd).cs k idx from rfl]
      split
      · exact me_acp_f hR
      · exact me_none_f
      · split
        · exact me_cal_f
        · exact me_none_f
    · rename_i idx
      rw [show (ky sc' hd).pr k idx = (ky sc hd).pr k idx from rfl, show (ky sc' hd).cp k idx = (ky sc hd).cp k idx from rfl]
      split
      · cases st with
        | nil => exact me_none_f
        | cons v r =>
          cases v <;> first | exact me_none_f | skip
          show me_S_f b B ri rj (if mj_wt r ≤ 20 then _ else none) (if mj_wt (me_s b B ri rj r) ≤ 20 then _ else none)
          rw [me_wt_f]
          exact me_if_f fun _ => me_go_f hR
      · exact me_none_f
      · split
        · rename_i q hq
          rw [show (me_s b B ri rj st).drop q.2 = me_s b B ri rj (st.drop q.2) by unfold me_s; rw [List.map_drop]]
          cases hdr : st.drop q.2 with
          | nil => exact me_none_f
          | cons v r =>
            cases v <;> first | exact me_none_f | skip
            rename_i a
            intro T hT
            dsimp only at hT
            split at hT
            · rename_i o ho
              obtain ⟨T', e1, e2⟩ := me_cal_f (b := b) (B := B) (ri := ri) (rj := rj) (sc := sc) (sc' := sc') (hd := hd) T hT
              refine ⟨T', ?_, e2⟩
              show (match h'.1 (me_sg b B a) with | some (.inr _) => mj_cal (ky sc' hd) q.1 (q.2 + 1) pc (me_l b B ri rj l) (me_s b B ri rj st) | _ => none) = _
              rw [(hR.1 a _ ho).2]
              exact e1
            · cases hT
        · exact me_none_f
    · rename_i idx
      rw [show (ky sc' hd).pr k idx = (ky sc hd).pr k idx from rfl, show (ky sc' hd).na k idx = (ky sc hd).na k idx from rfl]
      split
      · rename_i n hn
        rw [show (me_s b B ri rj st).drop n = me_s b B ri rj (st.drop n) by unfold me_s; rw [List.map_drop]]
        cases hdr : st.drop n with
        | nil => exact me_none_f
        | cons v r =>
          cases v <;> first | exact me_none_f | skip
          rename_i a
          intro T hT
          dsimp only at hT
          split at hT
          · rename_i ci fs ho
            split at hT
            · rename_i k2 hk2
              obtain ⟨T', e1, e2⟩ := me_cal_f (b := b) (B := B) (ri := ri) (rj := rj) (sc := sc) (sc' := sc') (hd := hd) T hT
              refine ⟨T', ?_, e2⟩
              show (match h'.1 (me_sg b B a) with | some (.inr (ci, _)) => (match (ky sc' hd).cv k idx ci with | some k2 => mj_cal (ky sc' hd) k2 (n + 1) pc (me_l b B ri rj l) (me_s b B ri rj st) | none => none) | _ => none) = _
              rw [(hR.1 a _ ho).2]
              show (match (ky sc' hd).cv k idx ci with | some k2 => mj_cal (ky sc' hd) k2 (n + 1) pc (me_l b B ri rj l) (me_s b B ri rj st) | none => none) = _
              rw [show (ky sc' hd).cv k idx ci = some k2 from hk2]
              exact e1
            · cases hT
          · cases hT
      · split
        · exact me_cln_f hR
        · exact me_none_f
    · rw [show (ky sc' hd).rt k = (ky sc hd).rt k from rfl]
      intro T hT
      split at hT
      · rename_i v ty hty
        split at hT
        · rename_i hok
          cases hT
          refine ⟨.inr (.inr (.inl (some (.int v)), h')), ?_, h', rfl, hR⟩
          rw [hty]
          exact if_pos hok
        · cases hT
      · cases hT
    · rw [show (ky sc' hd).rt k = (ky sc hd).rt k from rfl]
      intro T hT
      split at hT
      · rename_i v hty
        cases hT
        refine ⟨.inr (.inr (.inl (some (.long v)), h')), ?_, h', rfl, hR⟩
        rw [hty]
        rfl
      · cases hT
    · rw [show (ky sc' hd).rt k = (ky sc hd).rt k from rfl]
      intro T hT
      split at hT
      · rename_i v ty hty
        split at hT
        · rename_i hok
          cases hT
          refine ⟨.inr (.inr (.inl (some (.ref (me_sg b B v))), h')), ?_, h', rfl, hR⟩
          rw [hty]
          exact if_pos hok
        · cases hT
      · rename_i ty hty
        split at hT
        · rename_i hok
          cases hT
          refine ⟨.inr (.inr (.inl (some .null), h')), ?_, h', rfl, hR⟩
          rw [hty]
          exact if_pos hok
        · cases hT
      · cases hT
    · rw [show (ky sc' hd).rt k = (ky sc hd).rt k from rfl]
      intro T hT
      split at hT
      · rename_i hty
        cases hT
        refine ⟨.inr (.inr (.inl none, h')), ?_, h', rfl, hR⟩
        rw [hty]
        rfl
      · cases hT
    · rw [show (ky sc' hd).nh k = (ky sc hd).nh k from rfl]
      intro T hT
      split at hT
      · rename_i a r
        split at hT
        · rename_i hok
          cases hT
          exact ⟨.inr (.inr (.inr (me_sg b B a), h')), if_pos hok, h', rfl, hR⟩
        · cases hT
      · cases hT
    · rw [show (ky sc' hd).pr k _ = (ky sc hd).pr k _ from rfl]
      exact me_if_f fun _ => me_mna_f hR
    · exact me_ccs_f hR
    · rw [show (ky sc' hd).nL k = (ky sc hd).nL k from rfl]
      intro T hT
      obtain ⟨q, hq, hg⟩ := Option.bind_eq_some_iff.mp hT
      obtain ⟨T', e1, e2⟩ := me_go_f (b := b) (B := B) (ri := ri) (rj := rj) (pc := q.1) (l := q.2.1) (st := q.2.2) hR T hg
      exact ⟨T', by rw [me_p hq]; exact e1, e2⟩
set_option maxHeartbeats 2000000 in
/-- A RUN, MOVED -/
theorem me_x_f (hX : ∀ a e, xt a = some e → a = 0 ∧ xt' b = some (e.1, me_s b B ri rj e.2)) (hsc : ∀ k idx n, sc k idx = some n → sc' k idx = some n ∧ ct' n = me_v b B ri rj (ct n)) (hdf : ∀ k idx q, ky_nw k idx = some q → me_s b B ri rj q.2.2 = q.2.2) : ∀ (f d k pc : Nat) (l : mj_L) (st : List Value) (h h' : mj_H) (r : mj_O × mj_H), me_h_f b B ri rj h h' → mj_x (ky sc hd) xt ct f d k pc l st h = some r → ∃ g', mj_x (ky sc' hd) xt' ct' f d k pc (me_l b B ri rj l) (me_s b B ri rj st) h' = some (me_o b B ri rj r.1, g') ∧ me_h_f b B ri rj r.2 g' := by
  intro f
  induction f with
  | zero => intro d k pc l st h h' r _ hx; cases hx
  | succ f ih =>
    intro d k pc l st h h' r hR hx
    have hS := me_st_f (b := b) (B := B) (ri := ri) (rj := rj) (sc := sc) (sc' := sc') (hd := hd) (xt := xt) (xt' := xt') (ct := ct) (ct' := ct') (k := k) (pc := pc) (l := l) (st := st) hX hsc hdf hR
    rw [mj_x] at hx ⊢
    split at hx
    · cases hx
    · rename_i q hs
      obtain ⟨T', e1, h1, e2, e3⟩ := hS _ hs
      subst e2
      rw [e1]
      exact ih _ _ _ _ _ _ _ _ e3 hx
    · rename_i q hs
      obtain ⟨T', e1, e2⟩ := hS _ hs
      have e2' : T' = .inr (.inl (q.1, me_s b B ri rj q.2.1, q.2.2.1, me_l b B ri rj q.2.2.2.1, me_s b B ri rj q.2.2.2.2)) := e2
      subst e2'
      rw [e1]
      cases d with
      | zero => cases hx
      | succ d' =>
        dsimp only at hx ⊢
        cases hc : mj_x (ky sc hd) xt ct f d' q.1 0 (lv_args 0 q.2.1) [] h with
        | none => rw [hc] at hx; cases hx
        | some z =>
          rw [hc] at hx
          obtain ⟨g1, e4, e5⟩ := ih _ _ _ _ _ _ _ _ hR hc
          rw [me_args_f]
          rw [show me_s b B ri rj [] = [] from rfl] at e4
          rw [e4]
          obtain ⟨o, hz⟩ := z
          cases o with
          | inl v =>
            dsimp only at hx e5 ⊢
            obtain ⟨g2, e6, e7⟩ := ih _ _ _ _ _ _ _ _ e5 hx
            refine ⟨g2, ?_, e7⟩
            have e8 : (v.map (me_v b B ri rj)).toList ++ me_s b B ri rj q.2.2.2.2 = me_s b B ri rj (v.toList ++ q.2.2.2.2) := by cases v <;> rfl
            show mj_x (ky sc' hd) xt' ct' f (d' + 1) k q.2.2.1 (me_l b B ri rj q.2.2.2.1) ((v.map (me_v b B ri rj)).toList ++ me_s b B ri rj q.2.2.2.2) g1 = _
            rw [e8]
            exact e6
          | inr a =>
            dsimp only at hx e5 ⊢
            show ∃ g', (match (ky sc' hd).nh k with | true => some (Sum.inr (me_sg b B a), g1) | false => match g1.1 (me_sg b B a) with | some (.inr (ci, _)) => (match (ky sc' hd).hd k pc ci with | some hpc => mj_x (ky sc' hd) xt' ct' f (d' + 1) k hpc (me_l b B ri rj q.2.2.2.1) [.ref (me_sg b B a)] g1 | none => none) | _ => none) = some (me_o b B ri rj r.1, g') ∧ me_h_f b B ri rj r.2 g'
            rw [show (ky sc' hd).nh k = (ky sc hd).nh k from rfl]
            cases hn : (ky sc hd).nh k with
            | true =>
              rw [hn] at hx
              cases hx
              exact ⟨g1, rfl, e5⟩
            | false =>
              rw [hn] at hx
              dsimp only at hx ⊢
              split at hx
              · rename_i ci fs he
                split at hx
                · rename_i hpc hh
                  obtain ⟨g2, e6, e7⟩ := ih _ _ _ _ _ _ _ _ e5 hx
                  refine ⟨g2, ?_, e7⟩
                  rw [(e5.1 a _ he).2]
                  show (match (ky sc' hd).hd k pc ci with | some hpc => mj_x (ky sc' hd) xt' ct' f (d' + 1) k hpc (me_l b B ri rj q.2.2.2.1) [.ref (me_sg b B a)] g1 | none => none) = _
                  rw [show (ky sc' hd).hd k pc ci = some hpc from hh]
                  exact e6
                · cases hx
              · cases hx
    · rename_i o hs
      cases hx
      obtain ⟨T', e1, h1, e2, e3⟩ := hS _ hs
      subst e2
      rw [e1]
      exact ⟨h1, rfl, e3⟩
end MEX
