/-! THE SAME RUN ELSEWHERE: addresses 1, 2 .. of a run from base 1 (the script lies at 0) become B, B + 1 .. (the script at b) -/
def me_sg (b B a : Nat) : Nat := if a = 0 then b else B + (a - 1)
def me_v (b B : Nat) (ri : Nat → Int32) (rj : Nat → Int64) (v : Value) : Value := match v with
  | .ref a => .ref (me_sg b B a)
  | .float n => .int (ri n.toNat)
  | .double n => .long (rj n.toNat)
  | v => v
def me_l (b B : Nat) (ri : Nat → Int32) (rj : Nat → Int64) (l : mj_L) : mj_L := l.map (fun q => (q.1, me_v b B ri rj q.2))
def me_s (b B : Nat) (ri : Nat → Int32) (rj : Nat → Int64) (st : List Value) : List Value := st.map (me_v b B ri rj)
def me_e (b B : Nat) (ri : Nat → Int32) (rj : Nat → Int64) (e : mj_E) : mj_E := match e with
  | .inl r => .inl (r.1, me_s b B ri rj r.2)
  | .inr o => .inr (o.1, me_s b B ri rj o.2)
def me_o (b B : Nat) (ri : Nat → Int32) (rj : Nat → Int64) (o : mj_O) : mj_O := match o with
  | .inl v => .inl (v.map (me_v b B ri rj))
  | .inr a => .inr (me_sg b B a)
section MEV
variable {b B : Nat} {ri : Nat → Int32} {rj : Nat → Int64}
theorem me_cat (v : Value) : (me_v b B ri rj v).category = v.category := by cases v <;> rfl
theorem me_ld (l : mj_L) (i : Nat) : mj_ld (me_l b B ri rj l) i = (mj_ld l i).map (me_v b B ri rj) := by
  unfold mj_ld me_l
  rw [List.find?_map]
  simp only [Function.comp_def, Option.map_map]
theorem me_st1 (l : mj_L) (i : Nat) (v : Value) : mj_st1 (me_l b B ri rj l) i (me_v b B ri rj v) = me_l b B ri rj (mj_st1 l i v) := by
  unfold mj_st1 me_l
  rw [List.map_cons, List.filter_map]
  simp only [Function.comp_def, me_cat]
theorem me_st2 (l : mj_L) (i : Nat) (v : Value) : mj_st2 (me_l b B ri rj l) i (me_v b B ri rj v) = me_l b B ri rj (mj_st2 l i v) := by
  unfold mj_st2 me_l
  rw [List.map_cons, List.filter_map]
  simp only [Function.comp_def, me_cat]
/-- a plain step's answer, moved -/
def me_q (b B : Nat) (ri : Nat → Int32) (rj : Nat → Int64) (q : Nat × mj_L × List Value) : Nat × mj_L × List Value := (q.1, me_l b B ri rj q.2.1, me_s b B ri rj q.2.2)
theorem me_pI {pc k : Nat} {l : mj_L} {st : List Value} {q : Nat × mj_L × List Value} (h : mj_pI pc l k st = some q) : mj_pI pc (me_l b B ri rj l) k (me_s b B ri rj st) = some (me_q b B ri rj q) := by
  unfold mj_pI at h ⊢
  rw [me_ld]
  split at h
  · rename_i x hx
    cases h
    rw [hx]
    rfl
  · cases h
theorem me_pJ {pc k : Nat} {l : mj_L} {st : List Value} {q : Nat × mj_L × List Value} (h : mj_pJ pc l k st = some q) : mj_pJ pc (me_l b B ri rj l) k (me_s b B ri rj st) = some (me_q b B ri rj q) := by
  unfold mj_pJ at h ⊢
  rw [me_ld]
  split at h
  · rename_i x hx
    cases h
    rw [hx]
    rfl
  · cases h
theorem me_pA {pc k : Nat} {l : mj_L} {st : List Value} {q : Nat × mj_L × List Value} (h : mj_pA pc l k st = some q) : mj_pA pc (me_l b B ri rj l) k (me_s b B ri rj st) = some (me_q b B ri rj q) := by
  unfold mj_pA at h ⊢
  rw [me_ld]
  split at h
  · rename_i x hx
    cases h
    rw [hx]
    rfl
  · rename_i hx
    cases h
    rw [hx]
    rfl
  · cases h
theorem me_sI {nL pc k : Nat} {l : mj_L} {st : List Value} {q : Nat × mj_L × List Value} (h : mj_sI nL pc l k st = some q) : mj_sI nL pc (me_l b B ri rj l) k (me_s b B ri rj st) = some (me_q b B ri rj q) := by
  unfold mj_sI at h
  split at h
  · rename_i x r
    split at h
    · rename_i hk
      cases h
      show (if k < nL then some (pc, mj_st1 (me_l b B ri rj l) k (.int x), me_s b B ri rj r) else none) = _
      rw [if_pos hk, show Value.int x = me_v b B ri rj (.int x) from rfl, me_st1]
      rfl
    · cases h
  · cases h
theorem me_sJ {nL pc k : Nat} {l : mj_L} {st : List Value} {q : Nat × mj_L × List Value} (h : mj_sJ nL pc l k st = some q) : mj_sJ nL pc (me_l b B ri rj l) k (me_s b B ri rj st) = some (me_q b B ri rj q) := by
  unfold mj_sJ at h
  split at h
  · rename_i x r
    split at h
    · rename_i hk
      cases h
      show (if k + 1 < nL then some (pc, mj_st2 (me_l b B ri rj l) k (.long x), me_s b B ri rj r) else none) = _
      rw [if_pos hk, show Value.long x = me_v b B ri rj (.long x) from rfl, me_st2]
      rfl
    · cases h
  · cases h
theorem me_sA {nL pc k : Nat} {l : mj_L} {st : List Value} {q : Nat × mj_L × List Value} (h : mj_sA nL pc l k st = some q) : mj_sA nL pc (me_l b B ri rj l) k (me_s b B ri rj st) = some (me_q b B ri rj q) := by
  unfold mj_sA at h
  split at h
  · rename_i x r
    split at h
    · rename_i hk
      cases h
      show (if k < nL then some (pc, mj_st1 (me_l b B ri rj l) k (me_v b B ri rj (.ref x)), me_s b B ri rj r) else none) = _
      rw [if_pos hk, me_st1]
      rfl
    · cases h
  · rename_i r
    split at h
    · rename_i hk
      cases h
      show (if k < nL then some (pc, mj_st1 (me_l b B ri rj l) k (me_v b B ri rj .null), me_s b B ri rj r) else none) = _
      rw [if_pos hk, me_st1]
      rfl
    · cases h
  · cases h
theorem me_oi {pc : Nat} {i : Instr} {l : mj_L} {st : List Value} {q : Nat × mj_L × List Value} (h : mj_oi pc i l st = some q) : mj_oi pc i (me_l b B ri rj l) (me_s b B ri rj st) = some (me_q b B ri rj q) := by
  unfold mj_oi at h
  split at h
  · rename_i y x r
    obtain ⟨z, hz, rfl⟩ := Option.map_eq_some_iff.mp h
    show (mj_ii i x y).map (fun z => (pc + 1, me_l b B ri rj l, Value.int z :: me_s b B ri rj r)) = _
    rw [hz]
    rfl
  · cases h
theorem me_oj {pc : Nat} {i : Instr} {l : mj_L} {st : List Value} {q : Nat × mj_L × List Value} (h : mj_oj pc i l st = some q) : mj_oj pc i (me_l b B ri rj l) (me_s b B ri rj st) = some (me_q b B ri rj q) := by
  unfold mj_oj at h
  split at h
  · rename_i y x r
    obtain ⟨z, hz, rfl⟩ := Option.map_eq_some_iff.mp h
    show (mj_jj i x y).map (fun z => (pc + 1, me_l b B ri rj l, Value.long z :: me_s b B ri rj r)) = _
    rw [hz]
    rfl
  · cases h
theorem me_mp {o : Option Nat} {l : mj_L} {r : List Value} {q : Nat × mj_L × List Value} (h : o.map (fun t => (t, l, r)) = some q) : o.map (fun t => (t, me_l b B ri rj l, me_s b B ri rj r)) = some (me_q b B ri rj q) := by
  obtain ⟨z, hz, rfl⟩ := Option.map_eq_some_iff.mp h
  rw [hz]
  rfl
theorem me_br {pc : Nat} {bb : Bool} {off : Int} {l : mj_L} {r : List Value} {q : Nat × mj_L × List Value} (h : mj_br pc bb off l r = some q) : mj_br pc bb off (me_l b B ri rj l) (me_s b B ri rj r) = some (me_q b B ri rj q) := by
  unfold mj_br at h ⊢
  obtain ⟨z, hz, rfl⟩ := Option.map_eq_some_iff.mp h
  rw [hz]
  rfl
set_option maxHeartbeats 4000000 in
theorem me_p {nL pc : Nat} {i : Instr} {l : mj_L} {st : List Value} {q : Nat × mj_L × List Value} (h : mj_p nL pc i l st = some q) : mj_p nL pc i (me_l b B ri rj l) (me_s b B ri rj st) = some (me_q b B ri rj q) := by
  unfold mj_p at h
  split at h
  all_goals first
    | (cases h; done)
    | (cases h; rfl)
    | exact me_pI h
    | exact me_pJ h
    | exact me_pA h
    | exact me_sI h
    | exact me_sJ h
    | exact me_sA h
    | exact me_oi h
    | exact me_oj h
    | exact me_mp h
    | skip
  · rename_i k n
    split at h
    · rename_i x hx
      split at h
      · rename_i hk
        cases h
        show (match mj_ld (me_l b B ri rj l) k with | some (.int x) => if k < nL then some (pc + 3, mj_st1 (me_l b B ri rj l) k (.int (x + Int32.ofInt n)), me_s b B ri rj st) else none | _ => none) = _
        rw [me_ld, hx]
        show (if k < nL then some (pc + 3, mj_st1 (me_l b B ri rj l) k (me_v b B ri rj (.int (x + Int32.ofInt n))), me_s b B ri rj st) else none) = _
        rw [if_pos hk, me_st1]
        rfl
      · cases h
    · cases h
  all_goals try (split at h <;> first | (cases h; done) | (cases h; rfl) | exact me_br h)
  all_goals try (split at h)
  all_goals try (split at h)
  all_goals first
    | (cases h; done)
    | (rename_i hk; cases h; simp only [mj_p, me_s, List.map_cons, me_cat]; rw [if_pos hk]; rfl)
    | skip
  · cases h; rfl
  · rename_i v w r hne hk
    cases h
    cases v <;> cases w <;> first | rfl | (exact absurd rfl (hne _ _)) | (simp [Value.category] at hk; done)
  · rename_i x w r hk
    cases h
    cases w <;> first | rfl | (simp [Value.category] at hk; done)
  · rename_i x w u r hk
    cases h
    cases w <;> cases u <;> first | rfl | (simp [Value.category] at hk; done)
  · rename_i hk
    refine Eq.trans (if_pos hk) (me_mp h)
  · rename_i hk
    obtain ⟨o, ho, h2⟩ := Option.bind_eq_some_iff.mp h
    refine Eq.trans (if_neg hk) ?_
    rw [ho]
    exact me_mp h2
  · rename_i hk
    refine Eq.trans (if_pos hk) (me_mp h)
/-- the two heaps -/
def me_h (b B : Nat) (ri : Nat → Int32) (rj : Nat → Int64) (h h' : mj_H) : Prop := (∀ a e, h.1 a = some e → 1 ≤ a ∧ h'.1 (me_sg b B a) = some (me_e b B ri rj e)) ∧ 1 ≤ h.2.1 ∧ h'.2.1 = me_sg b B h.2.1 ∧ h'.2.2 = h.2.2 ∧ h'.1 b = none ∧ b < B ∧ ∀ a ty xs, h.1 a = some (.inl (ty, xs)) → ty ≠ .float ∧ ty ≠ .double
theorem me_sg1 {a : Nat} (h : 1 ≤ a) : me_sg b B a = B + (a - 1) := by unfold me_sg; rw [if_neg (by omega)]
theorem me_h_put {h h' : mj_H} {a : Nat} {e : mj_E} (hR : me_h b B ri rj h h') (ha : 1 ≤ a) (hf : ∀ ty xs, e = .inl (ty, xs) → ty ≠ .float ∧ ty ≠ .double) : me_h b B ri rj (mj_put h a e) (mj_put h' (me_sg b B a) (me_e b B ri rj e)) := by
  obtain ⟨h1, h2, h3, h4, h5, h6, h7⟩ := hR
  refine ⟨fun q y hq => ?_, h2, h3, h4, ?_, h6, fun q ty xs hq => ?_⟩
  · have hq' : (if q = a then some e else h.1 q) = some y := hq
    show 1 ≤ q ∧ (if me_sg b B q = me_sg b B a then some (me_e b B ri rj e) else h'.1 (me_sg b B q)) = some (me_e b B ri rj y)
    by_cases e1 : q = a
    · rw [if_pos e1] at hq'
      cases hq'
      subst e1
      exact ⟨ha, if_pos rfl⟩
    · rw [if_neg e1] at hq'
      obtain ⟨g1, g2⟩ := h1 q y hq'
      refine ⟨g1, ?_⟩
      rw [if_neg (by rw [me_sg1 ha, me_sg1 g1]; omega)]
      exact g2
  · show (if b = me_sg b B a then _ else h'.1 b) = none
    rw [if_neg (by rw [me_sg1 ha]; omega)]
    exact h5
  · have hq' : (if q = a then some e else h.1 q) = some (.inl (ty, xs)) := hq
    split at hq'
    · exact hf ty xs (Option.some.inj hq')
    · exact h7 q ty xs hq'
theorem me_h_new {h h' : mj_H} {n : Nat} {e : mj_E} (hR : me_h b B ri rj h h') (hf : ∀ ty xs, e = .inl (ty, xs) → ty ≠ .float ∧ ty ≠ .double) : me_h b B ri rj (mj_new h n e) (mj_new h' n (me_e b B ri rj e)) := by
  obtain ⟨h1, h2, h3, h4, h5, h6, h7⟩ := hR
  refine ⟨fun q y hq => ?_, Nat.le_succ_of_le h2, ?_, ?_, ?_, h6, fun q ty xs hq => ?_⟩
  · have hq' : (if q = h.2.1 then some e else h.1 q) = some y := hq
    show 1 ≤ q ∧ (if me_sg b B q = h'.2.1 then some (me_e b B ri rj e) else h'.1 (me_sg b B q)) = some (me_e b B ri rj y)
    rw [h3]
    by_cases e1 : q = h.2.1
    · rw [if_pos e1] at hq'
      cases hq'
      subst e1
      exact ⟨h2, if_pos rfl⟩
    · rw [if_neg e1] at hq'
      obtain ⟨g1, g2⟩ := h1 q y hq'
      refine ⟨g1, ?_⟩
      rw [if_neg (by rw [me_sg1 h2, me_sg1 g1]; omega)]
      exact g2
  · show h'.2.1 + 1 = me_sg b B (h.2.1 + 1)
    rw [h3, me_sg1 h2, me_sg1 (by omega)]
    omega
  · show h'.2.2 + n = h.2.2 + n
    rw [h4]
  · show (if b = h'.2.1 then _ else h'.1 b) = none
    rw [if_neg (by rw [h3, me_sg1 h2]; omega)]
    exact h5
  · have hq' : (if q = h.2.1 then some e else h.1 q) = some (.inl (ty, xs)) := hq
    split at hq'
    · exact hf ty xs (Option.some.inj hq')
    · exact h7 q ty xs hq'
theorem me_h_mul {h h' : mj_H} {n k : Nat} (hR : me_h b B ri rj h h') : me_h b B ri rj (mj_mul h n k) (mj_mul h' n k) := by
  obtain ⟨h1, h2, h3, h4, h5, h6, h7⟩ := hR
  have s1 := me_sg1 (b := b) (B := B) h2
  refine ⟨fun q y hq => ?_, by show 1 ≤ h.2.1 + 1 + n; omega, ?_, ?_, ?_, h6, fun q ty xs hq => ?_⟩
  · have hq' : (if q = h.2.1 then some (.inl (.array .long, (List.range n).map (fun i => .ref (h.2.1 + 1 + i)))) else if h.2.1 < q ∧ q ≤ h.2.1 + n then some (.inl (.long, List.replicate k (.long 0))) else h.1 q) = some y := hq
    show 1 ≤ q ∧ (if me_sg b B q = h'.2.1 then some (.inl (.array .long, (List.range n).map (fun i => .ref (h'.2.1 + 1 + i)))) else if h'.2.1 < me_sg b B q ∧ me_sg b B q ≤ h'.2.1 + n then some (.inl (.long, List.replicate k (.long 0))) else h'.1 (me_sg b B q)) = some (me_e b B ri rj y)
    by_cases e1 : q = h.2.1
    · rw [if_pos e1] at hq'
      cases hq'
      subst e1
      refine ⟨h2, ?_⟩
      rw [if_pos h3.symm]
      simp only [me_e, me_s, List.map_map, Option.some.injEq, Sum.inl.injEq, Prod.mk.injEq, true_and]
      apply List.map_congr_left
      intro i _
      simp only [Function.comp_def, me_v]
      rw [me_sg1 (show 1 ≤ h.2.1 + 1 + i by omega), h3, s1]
      have e9 : B + (h.2.1 - 1) + 1 + i = B + (h.2.1 + 1 + i - 1) := by omega
      rw [e9]
    · rw [if_neg e1] at hq'
      by_cases e2 : h.2.1 < q ∧ q ≤ h.2.1 + n
      · rw [if_pos e2] at hq'
        cases hq'
        have s2 := me_sg1 (b := b) (B := B) (show 1 ≤ q by omega)
        refine ⟨by omega, ?_⟩
        rw [if_neg (by omega), if_pos (by omega)]
        simp [me_e, me_s, me_v]
      · rw [if_neg e2] at hq'
        obtain ⟨g1, g2⟩ := h1 q y hq'
        have s2 := me_sg1 (b := b) (B := B) g1
        refine ⟨g1, ?_⟩
        rw [if_neg (by omega), if_neg (by omega)]
        exact g2
  · show h'.2.1 + 1 + n = me_sg b B (h.2.1 + 1 + n)
    rw [h3, me_sg1 h2, me_sg1 (by omega)]
    omega
  · show h'.2.2 + n + n * k = h.2.2 + n + n * k
    rw [h4]
  · show (if b = h'.2.1 then _ else if h'.2.1 < b ∧ b ≤ h'.2.1 + n then _ else h'.1 b) = none
    rw [if_neg (by omega), if_neg (by omega)]
    exact h5
  · have hq' : (if q = h.2.1 then some (.inl (.array .long, (List.range n).map (fun i => .ref (h.2.1 + 1 + i)))) else if h.2.1 < q ∧ q ≤ h.2.1 + n then some (.inl (.long, List.replicate k (.long 0))) else h.1 q) = some (.inl (ty, xs)) := hq
    split at hq'
    · cases hq'; exact ⟨by decide, by decide⟩
    · split at hq'
      · cases hq'; exact ⟨by decide, by decide⟩
      · exact h7 q ty xs hq'
end MEV
