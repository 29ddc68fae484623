/-- from a place of a method on to the next time it comes to PC -/
def ms_to (T : ms_T) (C : ms_C) (Y : mj_Y) (xt : mj_X) (ct : Nat → Value) (PC : Nat) : Nat → Nat → Nat → Nat → mj_L → List Value → mj_H → Option (mj_L × List Value × mj_H)
  | 0, _, _, _, _, _, _ => none
  | f + 1, d, k, pc, l, st, h => match ms_s T C Y xt ct k pc l st h with
    | some (.inl q) => if q.1 = PC then some (q.2.1, q.2.2.1, q.2.2.2) else ms_to T C Y xt ct PC f d k q.1 q.2.1 q.2.2.1 q.2.2.2
    | some (.inr (.inl q)) => match d with
      | 0 => none
      | d' + 1 => match ms_x T C Y xt ct f d' q.1 0 (lv_args 0 q.2.1) [] h with
        | some (.inl v, h') => if q.2.2.1 = PC then some (q.2.2.2.1, v.toList ++ q.2.2.2.2, h') else ms_to T C Y xt ct PC f (d' + 1) k q.2.2.1 q.2.2.2.1 (v.toList ++ q.2.2.2.2) h'
        | _ => none
    | _ => none
section MTS
variable {T : ms_T} {C : ms_C} {b B : Nat} {ri : Nat → Int32} {rj : Nat → Int64} {sc sc' : Nat → Nat → Option Nat} {hd : Nat → Nat → Nat → Option Nat} {xt xt' : mj_X} {ct ct' : Nat → Value}
theorem ms_to_ok (hT0 : ms_okT b B ri rj T) (hC0 : ms_okC b B ri rj C) (hX : ∀ a e, xt a = some e → a = 0 ∧ xt' b = some (e.1, me_s b B ri rj e.2)) (hsc : ∀ k idx n, sc k idx = some n → sc' k idx = some n ∧ ct' n = me_v b B ri rj (ct n)) (hdf : ∀ k idx q, ky_nw k idx = some q → me_s b B ri rj q.2.2 = q.2.2) {PC : Nat} : ∀ (f d k pc : Nat) (l : mj_L) (st : List Value) (h h' : mj_H) (r : mj_L × List Value × mj_H), me_h b B ri rj h h' → ms_to T C (ky sc hd) xt ct PC f d k pc l st h = some r → ∃ g', mj_to (ky sc' hd) xt' ct' PC f d k pc (me_l b B ri rj l) (me_s b B ri rj st) h' = some (me_l b B ri rj r.1, me_s b B ri rj r.2.1, g') ∧ me_h b B ri rj r.2.2 g' := by
  intro f
  induction f with
  | zero => intro d k pc l st h h' r _ hx; cases hx
  | succ f ih =>
    intro d k pc l st h h' r hR hx
    have hS := ms_st (b := b) (B := B) (ri := ri) (rj := rj) (T := T) (C := C) (sc := sc) (sc' := sc') (hd := hd) (xt := xt) (xt' := xt') (ct := ct) (ct' := ct') (k := k) (pc := pc) (l := l) (st := st) hT0 hC0 hX hsc hdf hR
    rw [ms_to] at hx
    rw [mj_to]
    split at hx
    · rename_i q hs
      obtain ⟨T', e1, h1, e2, e3⟩ := hS _ hs
      subst e2
      rw [e1]
      dsimp only
      split at hx
      · rename_i e
        cases hx
        rw [if_pos e]
        exact ⟨h1, rfl, e3⟩
      · rename_i e
        rw [if_neg e]
        exact ih _ _ _ _ _ _ _ _ e3 hx
    · rename_i q hs
      obtain ⟨T', e1, e2⟩ := hS _ hs
      have e2' : T' = .inr (.inl (q.1, me_s b B ri rj q.2.1, q.2.2.1, me_l b B ri rj q.2.2.2.1, me_s b B ri rj q.2.2.2.2)) := e2
      subst e2'
      rw [e1]
      cases d with
      | zero => cases hx
      | succ d' =>
        dsimp only at hx ⊢
        split at hx
        · rename_i v hz hc
          obtain ⟨g1, e4, e5⟩ := ms_x_ok hT0 hC0 hX hsc hdf _ _ _ _ _ _ _ _ _ hR hc
          rw [show me_s b B ri rj [] = [] from rfl] at e4
          rw [me_args, e4]
          have e8 : (v.map (me_v b B ri rj)).toList ++ me_s b B ri rj q.2.2.2.2 = me_s b B ri rj (v.toList ++ q.2.2.2.2) := by cases v <;> rfl
          show ∃ g', (if q.2.2.1 = PC then some (me_l b B ri rj q.2.2.2.1, (v.map (me_v b B ri rj)).toList ++ me_s b B ri rj q.2.2.2.2, g1) else mj_to (ky sc' hd) xt' ct' PC f (d' + 1) k q.2.2.1 (me_l b B ri rj q.2.2.2.1) ((v.map (me_v b B ri rj)).toList ++ me_s b B ri rj q.2.2.2.2) g1) = some (me_l b B ri rj r.1, me_s b B ri rj r.2.1, g') ∧ me_h b B ri rj r.2.2 g'
          rw [e8]
          split at hx
          · rename_i e
            cases hx
            rw [if_pos e]
            exact ⟨g1, rfl, e5⟩
          · rename_i e
            rw [if_neg e]
            exact ih _ _ _ _ _ _ _ _ e5 hx
        · cases hx
    · cases hx
end MTS

/-! READING INTO A SLOT OF FRESH OBJECTS -/
def kMl : List (Nat × mj_E) := kT.filter (fun e => decide (63 ≤ e.1))
def kNl : List (Nat × mj_E) := kMl.filter (fun e => decide (e.1 ≠ 65))
def hM : mj_H := (fun a => kMl.lookup a, 107, 47714)
def hN : mj_H := (fun a => kNl.lookup a, 107, 47714)
/-- a heap that holds all of a table -/
def p1_hold (t : List (Nat × mj_E)) (h : mj_H) : Bool := decide (h.2 = (107, 47714)) && t.all (fun e => kE_eq (h.1 e.1) e.2)
theorem p1_held {b base : Nat} {ri : Nat → Int32} {rj : Nat → Int64} {t : List (Nat × mj_E)} {h g : mj_H} (ht : ∀ e ∈ t, e ∈ kT) (hp : p1_hold t h = true) (hR : me_h b base ri rj h g) : me_h b base ri rj (fun a => t.lookup a, 107, 47714) g := by
  unfold p1_hold at hp
  simp only [Bool.and_eq_true, decide_eq_true_eq] at hp
  obtain ⟨c3, c4⟩ := hp
  refine ⟨fun a e he => ?_, (by show 1 ≤ 107; decide), ?_, ?_, hR.2.2.2.2.1, hR.2.2.2.2.2.1, fun a ty ys he => ?_⟩
  · have hm := mj_lkE (show t.lookup a = some e from he)
    have := kE_ok (List.all_eq_true.mp c4 _ hm)
    exact ⟨(kT_nf _ (ht _ hm)).1, (hR.1 a e this).2⟩
  · have := hR.2.2.1
    rw [show h.2.1 = 107 by rw [c3]] at this
    exact this
  · have := hR.2.2.2.1
    rw [show h.2.2 = 47714 by rw [c3]] at this
    exact this
  · have hm := mj_lkE (show t.lookup a = some (.inl (ty, ys)) from he)
    exact (kT_nf _ (ht _ hm)).2
theorem kMl_in : ∀ e ∈ kMl, e ∈ kT := fun e h => (List.mem_filter.mp h).1
theorem kNl_in : ∀ e ∈ kNl, e ∈ kT := fun e h => kMl_in e (List.mem_filter.mp h).1
/-- a piece of a method's run, from a table's heap to a table's heap -/
def p1_pc (d k pc PC : Nat) (l : mj_L) (st : List Value) (h : mj_H) (t : List (Nat × mj_E)) (l' : mj_L) (st' : List Value) : Bool := match mj_to kZ xtn ct0 PC 400 d k pc l st h with
  | some q => decide (q.1 = l') && (decide (q.2.1 = st') && p1_hold t q.2.2)
  | none => false
def p1_end (d k pc : Nat) (l : mj_L) (st : List Value) (h : mj_H) (t : List (Nat × mj_E)) (v : Option Value) : Bool := match mj_x kZ xtn ct0 400 d k pc l st h with
  | some (.inl w, g) => decide (w = v) && p1_hold t g
  | _ => false
section RDV
variable {b base : Nat} {ri : Nat → Int32} {rj : Nat → Int64} {xt : mj_X} {ct : Nat → Value}
/-- from there the method comes to its end, in every heap that holds the table h, and leaves one that holds t -/
def p1_Q (b base : Nat) (ri : Nat → Int32) (rj : Nat → Int64) (xt : mj_X) (ct : Nat → Value) (d k pc : Nat) (l : mj_L) (st : List Value) (h t : mj_H) (v : Option Value) : Prop := ∀ g, me_h b base ri rj h g → ∃ g', me_h b base ri rj t g' ∧ mj_Run kY xt ct d k pc (me_l b base ri rj l) (me_s b base ri rj st) g (.inl (v.map (me_v b base ri rj)), g')
theorem p1_step (h0 : ct 0 = .int 1) {d k pc PC : Nat} {l l' : mj_L} {st st' : List Value} {h : mj_H} {t : List (Nat × mj_E)} {w : mj_H} {v : Option Value} (ht : ∀ e ∈ t, e ∈ kT) (hp : p1_pc d k pc PC l st h t l' st' = true) (kk : p1_Q b base ri rj xt ct d k PC l' st' (fun a => t.lookup a, 107, 47714) w v) : p1_Q b base ri rj xt ct d k pc l st h w v := by
  intro g hg
  unfold p1_pc at hp
  split at hp
  · rename_i q hq
    simp only [Bool.and_eq_true, decide_eq_true_eq] at hp
    obtain ⟨c1, c2, c3⟩ := hp
    obtain ⟨g1, e1, e2⟩ := me_to (b := b) (B := base) (ri := ri) (rj := rj) (sc := sc0) (sc' := ky_sc) (hd := ky_hd) (xt := xtn) (xt' := xt) (ct := ct0) (ct' := ct) (fun a e he => by cases he) (p1_sc h0) (fun k idx q hq => p1_df hq) _ _ _ _ _ _ _ _ _ hg hq
    obtain ⟨g2, e3, e4⟩ := kk g1 (p1_held ht c3 e2)
    refine ⟨g2, e3, mr_to _ _ e1 ?_⟩
    rw [c1, c2]
    exact e4
  · cases hp
theorem p1_fin (h0 : ct 0 = .int 1) {d k pc : Nat} {l : mj_L} {st : List Value} {h : mj_H} {t : List (Nat × mj_E)} {v : Option Value} (ht : ∀ e ∈ t, e ∈ kT) (hp : p1_end d k pc l st h t v = true) : p1_Q b base ri rj xt ct d k pc l st h (fun a => t.lookup a, 107, 47714) v := by
  intro g hg
  unfold p1_end at hp
  split at hp
  · rename_i w gg hq
    simp only [Bool.and_eq_true, decide_eq_true_eq] at hp
    obtain ⟨rfl, c3⟩ := hp
    obtain ⟨g1, e1, e2⟩ := me_x (b := b) (B := base) (ri := ri) (rj := rj) (sc := sc0) (sc' := ky_sc) (hd := ky_hd) (xt := xtn) (xt' := xt) (ct := ct0) (ct' := ct) (fun a e he => by cases he) (p1_sc h0) (fun k idx q hq => p1_df hq) _ _ _ _ _ _ _ _ _ hg hq
    exact ⟨g1, p1_held ht c3 e2, _, e1⟩
  · cases hp
end RDV
/-- n times round, from a place to the same place -/
def p1_it (PC d k : Nat) : Nat → mj_L → List Value → mj_H → Option (mj_L × List Value × mj_H)
  | 0, l, st, h => some (l, st, h)
  | n + 1, l, st, h => match mj_to kZ xtn ct0 PC 400 d k PC l st h with
    | some q => p1_it PC d k n q.1 q.2.1 q.2.2
    | none => none
def p1_pn (n d k PC : Nat) (l : mj_L) (st : List Value) (h : mj_H) (t : List (Nat × mj_E)) (l' : mj_L) (st' : List Value) : Bool := match p1_it PC d k n l st h with
  | some q => decide (q.1 = l') && (decide (q.2.1 = st') && p1_hold t q.2.2)
  | none => false
section RDW
variable {b base : Nat} {ri : Nat → Int32} {rj : Nat → Int64} {xt : mj_X} {ct : Nat → Value}
theorem p1_it_ok (h0 : ct 0 = .int 1) {PC d k : Nat} : ∀ (n : Nat) (l : mj_L) (st : List Value) (h : mj_H) (q : mj_L × List Value × mj_H) (g : mj_H), me_h b base ri rj h g → p1_it PC d k n l st h = some q → ∃ g', me_h b base ri rj q.2.2 g' ∧ ∀ r, mj_Run kY xt ct d k PC (me_l b base ri rj q.1) (me_s b base ri rj q.2.1) g' r → mj_Run kY xt ct d k PC (me_l b base ri rj l) (me_s b base ri rj st) g r := by
  intro n
  induction n with
  | zero =>
    intro l st h q g hg hq
    cases hq
    exact ⟨g, hg, fun r hr => hr⟩
  | succ n ih =>
    intro l st h q g hg hq
    rw [p1_it] at hq
    split at hq
    · rename_i z hz
      obtain ⟨g1, e1, e2⟩ := me_to (b := b) (B := base) (ri := ri) (rj := rj) (sc := sc0) (sc' := ky_sc) (hd := ky_hd) (xt := xtn) (xt' := xt) (ct := ct0) (ct' := ct) (fun a e he => by cases he) (p1_sc h0) (fun k idx q hq => p1_df hq) _ _ _ _ _ _ _ _ _ hg hz
      obtain ⟨g2, e3, e4⟩ := ih _ _ _ _ _ e2 hq
      exact ⟨g2, e3, fun r hr => mr_to _ _ e1 (e4 r hr)⟩
    · cases hq
theorem p1_stepN (h0 : ct 0 = .int 1) {n d k PC : Nat} {l l' : mj_L} {st st' : List Value} {h : mj_H} {t : List (Nat × mj_E)} {w : mj_H} {v : Option Value} (ht : ∀ e ∈ t, e ∈ kT) (hp : p1_pn n d k PC l st h t l' st' = true) (kk : p1_Q b base ri rj xt ct d k PC l' st' (fun a => t.lookup a, 107, 47714) w v) : p1_Q b base ri rj xt ct d k PC l st h w v := by
  intro g hg
  unfold p1_pn at hp
  split at hp
  · rename_i q hq
    simp only [Bool.and_eq_true, decide_eq_true_eq] at hp
    obtain ⟨c1, c2, c3⟩ := hp
    obtain ⟨g1, e1, e2⟩ := p1_it_ok h0 _ _ _ _ _ _ hg hq
    obtain ⟨g2, e3, e4⟩ := kk g1 (p1_held ht c3 e1)
    refine ⟨g2, e3, e2 _ ?_⟩
    rw [c1, c2]
    exact e4
  · cases hp
end RDW
section RDV
variable {b base : Nat} {ri : Nat → Int32} {rj : Nat → Int64} {xt : mj_X} {ct : Nat → Value}
def p1_cl (k pc : Nat) (l : mj_L) (st : List Value) (h : mj_H) (k2 : Nat) (as rest : List Value) : Bool := match mj_s kZ xtn ct0 k pc l st h with
  | some (.inr (.inl q)) => decide (q.1 = k2) && (decide (q.2.1 = as) && (decide (q.2.2.1 = pc + 3) && (decide (q.2.2.2.1 = l) && decide (q.2.2.2.2 = rest))))
  | _ => false
theorem p1_call (h0 : ct 0 = .int 1) {d k pc k2 : Nat} {l : mj_L} {st as rest : List Value} {h t w : mj_H} {v v2 : Option Value} (hp : p1_cl k pc l st h k2 as rest = true) (hc : p1_Q b base ri rj xt ct d k2 0 (lv_args 0 as) [] h t v) (kk : p1_Q b base ri rj xt ct (d + 1) k (pc + 3) l (v.toList ++ rest) t w v2) : p1_Q b base ri rj xt ct (d + 1) k pc l st h w v2 := by
  intro g hg
  unfold p1_cl at hp
  split at hp
  · rename_i q hq
    simp only [Bool.and_eq_true, decide_eq_true_eq] at hp
    obtain ⟨c1, c2, c3, c4, c5⟩ := hp
    obtain ⟨T', e1, e2⟩ := me_st (b := b) (B := base) (ri := ri) (rj := rj) (sc := sc0) (sc' := ky_sc) (hd := ky_hd) (xt := xtn) (xt' := xt) (ct := ct0) (ct' := ct) (fun a e he => by cases he) (p1_sc h0) (fun k idx q hq => p1_df hq) hg _ hq
    have e2' : T' = .inr (.inl (q.1, me_s b base ri rj q.2.1, q.2.2.1, me_l b base ri rj q.2.2.2.1, me_s b base ri rj q.2.2.2.2)) := e2
    subst e2'
    rw [c1, c2, c3, c4, c5] at e1
    obtain ⟨g1, e3, e4⟩ := hc g hg
    obtain ⟨g2, e5, e6⟩ := kk g1 e3
    refine ⟨g2, e5, mj_Run_call e1 (d' := d) (v := v.map (me_v b base ri rj)) (h' := g1) ?_ (Nat.lt_succ_self _) ?_⟩
    · show mj_Run kY xt ct d k2 0 (lv_args 0 (me_s b base ri rj as)) [] g _
      rw [me_args]
      exact e4
    · have e8 : (v.map (me_v b base ri rj)).toList ++ me_s b base ri rj rest = me_s b base ri rj (v.toList ++ rest) := by cases v <;> rfl
      dsimp only
      rw [e8]
      exact e6
  · cases hp
end RDV
def p1_lA : mj_L := [(5, .int 0), (4, .int 0), (3, .ref 106), (2, .ref 63), (1, .ref 1), (0, .ref 0)]
def p1_chkA (T : ms_T) (C : ms_C) (S : List Value) (s : Int32) : Bool := match ms_to T C kZ (xt0 S) ct0 251 400 20 300 23 kLoc [] hT with
  | some q => decide (q.1 = p1_lA) && (decide (q.2.1 = [.int s, .ref 63]) && p1_hold kMl q.2.2)
  | none => false
def p1_chkB (T : ms_T) (C : ms_C) (S : List Value) : Bool := match ms_x T C kZ (xt0 S) ct0 400 20 300 254 p1_lA [.int 0] hN with
  | some (.inl (some (.int v)), h) => decide (v = 1) && (decide (h.2.1 ≤ 1000) && decide (h.2.2 ≤ 100000))
  | _ => false
set_option maxRecDepth 10000 in
theorem p1_useR {b base n : Nat} {xs : Nat → Int32} {xt : mj_X} {ct : Nat → Value} (hk : kX b n xs base xt ct) (ri : Nat → Int32) (rj : Nat → Int64) {T : ms_T} {C : ms_C} {S : List Value} {s : Int32} (hA : p1_chkA T C S s = true) (hB : p1_chkB T C S = true) (hcl : p1_cl 300 251 p1_lA [.int s, .ref 63] hM 209 [.ref 63, .int s] [] = true) (hrd : p1_Q b base ri rj xt ct 19 209 0 (lv_args 0 [.ref 63, .int s]) [] hM hN (some (.int 0))) (hS : me_s b base ri rj S = (List.range n).map (fun j => .int (xs j))) (hT0 : ms_okT b base ri rj T) (hC : ms_okC b base ri rj C) : p1_G b base xt ct := by
  obtain ⟨k1, k2, k3, -⟩ := hk
  have hX : ∀ a e, xt0 S a = some e → a = 0 ∧ xt b = some (e.1, me_s b base ri rj e.2) := fun a e he => by
    unfold xt0 at he
    split at he
    · rename_i ha
      cases he
      refine ⟨ha, ?_⟩
      rw [k2, ← hS]
    · cases he
  have hC0 := kCr_ok
  cases hcr : kCr with
  | none => rw [hcr] at hC0; cases hC0
  | some q =>
    rw [hcr] at hC0
    dsimp only at hC0
    simp only [Bool.and_eq_true, decide_eq_true_eq] at hC0
    obtain ⟨c1, c2, c3, c4⟩ := hC0
    have hm0 : me_h b base ri rj h00 (k_h0 base) := ⟨(fun a e h => by have h' : (none : Option mj_E) = some e := h; cases h'), Nat.le_refl _, (by show base = me_sg b base 1; unfold me_sg; simp), rfl, rfl, k1, (fun a ty xs h => by have h' : (none : Option mj_E) = some (.inl (ty, xs)) := h; cases h')⟩
    obtain ⟨g0, e1, e2⟩ := me_to (b := b) (B := base) (ri := ri) (rj := rj) (sc := sc0) (sc' := ky_sc) (hd := ky_hd) (xt := xtn) (xt' := xt) (ct := ct0) (ct' := ct) (fun a e he => by cases he) (p1_sc k3) (fun k idx q hq => p1_df hq) _ _ _ _ _ _ _ _ _ hm0 hcr
    have hT1 : me_h b base ri rj hT g0 := p1_held (t := kT) (fun e h => h) (by unfold p1_hold; rw [c4, c3]; rfl) e2
    unfold p1_chkA at hA
    split at hA
    case h_2 => cases hA
    rename_i qa hqa
    simp only [Bool.and_eq_true, decide_eq_true_eq] at hA
    obtain ⟨a1, a2, a3⟩ := hA
    obtain ⟨g1, f1, f2⟩ := ms_to_ok (b := b) (B := base) (ri := ri) (rj := rj) (sc := sc0) (sc' := ky_sc) (hd := ky_hd) (xt := xt0 S) (xt' := xt) (ct := ct0) (ct' := ct) hT0 hC hX (p1_sc k3) (fun k idx q hq => p1_df hq) _ _ _ _ _ _ _ _ _ hT1 hqa
    have hM1 : me_h b base ri rj hM g1 := p1_held kMl_in a3 f2
    unfold p1_chkB at hB
    split at hB
    case h_2 => cases hB
    rename_i v h hx
    simp only [Bool.and_eq_true, decide_eq_true_eq] at hB
    obtain ⟨rfl, h1, h2⟩ := hB
    obtain ⟨g2, f3, f4⟩ := hrd g1 hM1
    obtain ⟨g, e3, e4⟩ := ms_x_ok (b := b) (B := base) (ri := ri) (rj := rj) (sc := sc0) (sc' := ky_sc) (hd := ky_hd) (xt := xt0 S) (xt' := xt) (ct := ct0) (ct' := ct) hT0 hC hX (p1_sc k3) (fun k idx q hq => p1_df hq) _ _ _ _ _ _ _ _ _ f3 hx
    have e5 : g.2.1 = me_sg b base h.2.1 := e4.2.2.1
    have e6 : g.2.2 = h.2.2 := e4.2.2.2.1
    have e7 : me_sg b base h.2.1 ≤ base + 1000 := by
      have e8 : 1 ≤ h.2.1 := e4.2.1
      rw [me_sg1 e8]
      have : h.2.1 ≤ 1000 := h1
      omega
    unfold p1_cl at hcl
    split at hcl
    case h_2 => cases hcl
    rename_i qc hqc
    simp only [Bool.and_eq_true, decide_eq_true_eq] at hcl
    obtain ⟨d1, d2, d3, d4, d5⟩ := hcl
    obtain ⟨T', t1, t2⟩ := me_st (b := b) (B := base) (ri := ri) (rj := rj) (sc := sc0) (sc' := ky_sc) (hd := ky_hd) (xt := xtn) (xt' := xt) (ct := ct0) (ct' := ct) (fun a e he => by cases he) (p1_sc k3) (fun k idx q hq => p1_df hq) hM1 _ hqc
    have t2' : T' = .inr (.inl (qc.1, me_s b base ri rj qc.2.1, qc.2.2.1, me_l b base ri rj qc.2.2.2.1, me_s b base ri rj qc.2.2.2.2)) := t2
    subst t2'
    rw [d1, d2, d3, d4, d5] at t1
    have hrun : mj_Run kY xt ct 20 300 0 [(0, .ref b)] [] (k_h0 base) (.inl (some (.int 1)), g) := by
      refine mr_to _ _ e1 ?_
      rw [c1, c2]
      refine mr_to _ _ f1 ?_
      rw [a1, a2]
      refine mj_Run_call t1 (d' := 19) (v := some (.int 0)) (h' := g2) ?_ (by decide) ⟨_, e3⟩
      show mj_Run kY xt ct 19 209 0 (lv_args 0 (me_s b base ri rj [.ref 63, .int s])) [] g1 _
      rw [me_args]
      exact f4
    obtain ⟨f, hf⟩ := mj_Run_deep (d' := 1000) (by decide) hrun
    exact ⟨f, g, hf, by omega, by omega⟩
