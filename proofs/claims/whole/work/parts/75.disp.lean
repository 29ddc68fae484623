/-! WHAT RECURS IS A PARAMETER: O holds, for the methods 83, 89, 90, 122, 138 and for write and lay of an expression, functions that are sound d deep -/
abbrev OR : Type := (Nat → Int32 → mj_H → Option ((Option Nat ⊕ Nat) × mj_H)) × (Nat → Int32 → Int32 → mj_H → Option ((Nat ⊕ Nat) × mj_H)) × (Nat → Int32 → mj_H → Option ((Nat ⊕ Nat) × mj_H)) × (Option Nat → Nat → mj_H → Option mj_H) × (Option Nat → Nat → Nat → Int32 → mj_H → Option (Int32 × mj_H)) × (Nat → Nat → mj_H → Option mj_H) × (Nat → Nat → Nat → Int32 → mj_H → Option (Int32 × mj_H))
/-- by an expression's class: the place of its factor; its write; its lay; its binding -/
def df (c : Nat) : Option Nat := ([(6, 1), (7, 2), (8, 5), (9, 1), (10, 3)] : List (Nat × Nat)).lookup c
def dw (c : Nat) : Option Nat := ([(6, 125), (7, 130), (8, 124), (9, 131), (10, 129)] : List (Nat × Nat)).lookup c
def dl (c : Nat) : Option Nat := ([(6, 151), (7, 153), (8, 142), (9, 155), (10, 152)] : List (Nat × Nat)).lookup c
def db (c : Nat) : Option Nat := ([(6, 127), (7, 127), (8, 127), (9, 127), (10, 126)] : List (Nat × Nat)).lookup c
theorem lk_c {l : List (Nat × Nat)} {c n : Nat} (h : l.lookup c = some n) : (c, n) ∈ l := by
  induction l with
  | nil => cases h
  | cons q r ih =>
    obtain ⟨x, y⟩ := q
    rw [List.lookup_cons] at h
    cases e1 : c == x with
    | true =>
      rw [e1] at h
      have e2 : c = x := by simpa using e1
      subst e2
      cases h
      exact List.mem_cons_self
    | false =>
      rw [e1] at h
      exact List.mem_cons_of_mem _ (ih h)
theorem lk_five {a1 a2 a3 a4 a5 c n : Nat} (h : ([(6, a1), (7, a2), (8, a3), (9, a4), (10, a5)] : List (Nat × Nat)).lookup c = some n) : c = 6 ∨ c = 7 ∨ c = 8 ∨ c = 9 ∨ c = 10 := by
  have := lk_c h
  simp only [List.mem_cons, Prod.mk.injEq, List.not_mem_nil, or_false] at this
  omega
theorem df_c {c n : Nat} (h : df c = some n) : c = 6 ∨ c = 7 ∨ c = 8 ∨ c = 9 ∨ c = 10 := lk_five h
theorem dw_c {c n : Nat} (h : dw c = some n) : c = 6 ∨ c = 7 ∨ c = 8 ∨ c = 9 ∨ c = 10 := lk_five h
theorem dl_c {c n : Nat} (h : dl c = some n) : c = 6 ∨ c = 7 ∨ c = 8 ∨ c = 9 ∨ c = 10 := lk_five h
theorem db_c {c n : Nat} (h : db c = some n) : c = 6 ∨ c = 7 ∨ c = 8 ∨ c = 9 ∨ c = 10 := lk_five h
def oOK (xt : mj_X) (ct : Nat → Value) (d : Nat) (O : OR) : Prop :=
  (∀ x0 x1 h q, O.1 x0 x1 h = some q → mj_Run kY xt ct d 83 0 (lv_args 0 [.ref x0, .int x1]) [] h (tT vO q.1, q.2)) ∧
  (∀ x0 x1 x2 h q, O.2.1 x0 x1 x2 h = some q → mj_Run kY xt ct d 89 0 (lv_args 0 [.ref x0, .int x1, .int x2]) [] h (tT vA q.1, q.2)) ∧
  (∀ x0 x1 h q, O.2.2.1 x0 x1 h = some q → mj_Run kY xt ct d 90 0 (lv_args 0 [.ref x0, .int x1]) [] h (tT vA q.1, q.2)) ∧
  (∀ x0 x1 h q, O.2.2.2.1 x0 x1 h = some q → mj_Run kY xt ct d 122 0 (lv_args 0 [rv x0, .ref x1]) [] h (.inl none, q)) ∧
  (∀ x0 x1 x2 x3 h q, O.2.2.2.2.1 x0 x1 x2 x3 h = some q → mj_Run kY xt ct d 138 0 (lv_args 0 [rv x0, .ref x1, .ref x2, .int x3]) [] h (.inl (vI q.1), q.2)) ∧
  (∀ x0 x1 h q, O.2.2.2.2.2.1 x0 x1 h = some q → ∃ c k2, gC h x0 = some c ∧ dw c = some k2 ∧ mj_Run kY xt ct d k2 0 (lv_args 0 [.ref x0, .ref x1]) [] h (.inl none, q)) ∧
  (∀ x0 x1 x2 x3 h q, O.2.2.2.2.2.2 x0 x1 x2 x3 h = some q → ∃ c k2, gC h x0 = some c ∧ dl c = some k2 ∧ mj_Run kY xt ct d k2 0 (lv_args 0 [.ref x0, .ref x1, .ref x2, .int x3]) [] h (.inl (vI q.1), q.2))
/-- the object is of that class -/
def gK (h : mj_H) (a c : Nat) : Option Unit := if gC h a = some c then some () else none
theorem gK_ok {h : mj_H} {a c : Nat} {u : Unit} (e : gK h a c = some u) : gC h a = some c := by
  unfold gK at e
  split at e
  · assumption
  · cases e
/-- the object is an expression -/
def gE (h : mj_H) (a : Nat) : Option Nat := (gC h a).bind fun c => if 6 ≤ c ∧ c ≤ 10 then some c else none
theorem gE_ok {h : mj_H} {a c : Nat} (e : gE h a = some c) : gC h a = some c ∧ (6 ≤ c ∧ c ≤ 10) := by
  obtain ⟨y, e1, e2⟩ := Option.bind_eq_some_iff.mp e
  split at e2
  · cases e2
    exact ⟨e1, by assumption⟩
  · cases e2
theorem b_nt {b : Bool} (h : (!b) = true) : b = false := by cases b <;> first | rfl | cases h
theorem b_nf {b : Bool} (h : (!b) = false) : b = true := by cases b <;> first | rfl | cases h
section DSP
variable {xt : mj_X} {ct : Nat → Value} {d k pc pc' : Nat} {l : mj_L} {st : List Value} {h h' : mj_H} {r : mj_O × mj_H}
/-- the same stack, written otherwise -/
theorem c_at {st2 : List Value} (he : st = st2) (hr : mj_Run kY xt ct d k pc l st2 h r) : mj_Run kY xt ct d k pc l st h r := by
  subst he
  exact hr
theorem c_nll (hc : mj_Y.code kY k pc = some .aconst_null ∧ pc' = pc + 1) (hr : mj_Run kY xt ct d k pc' l (rv none :: st) h r) : mj_Run kY xt ct d k pc l st h r := r_null hc hr
theorem c_gs0 {idx : Nat} (hct : ct 0 = .int 1) (hc : mj_Y.code kY k pc = some (.getstatic idx) ∧ mj_Y.sc kY k idx = some 0 ∧ pc' = pc + 3) (hr : mj_Run kY xt ct d k pc' l (.int 1 :: st) h r) : mj_Run kY xt ct d k pc l st h r := r_gets hc (by rw [hct]; exact hr)
theorem c_gsA {idx n a : Nat} (e : vtA (ct n) = some a) (hc : mj_Y.code kY k pc = some (.getstatic idx) ∧ mj_Y.sc kY k idx = some n ∧ pc' = pc + 3) (hr : mj_Run kY xt ct d k pc' l (.ref a :: st) h r) : mj_Run kY xt ct d k pc l st h r := by
  refine r_gets hc ?_
  have : ct n = .ref a := by
    generalize hv : ct n = v at e
    cases v <;> cases e
    rfl
  rw [this]
  exact hr
theorem c_gsO {idx n : Nat} {o : Option Nat} (e : vtO (ct n) = some o) (hc : mj_Y.code kY k pc = some (.getstatic idx) ∧ mj_Y.sc kY k idx = some n ∧ pc' = pc + 3) (hr : mj_Run kY xt ct d k pc' l (rv o :: st) h r) : mj_Run kY xt ct d k pc l st h r := by
  refine r_gets hc ?_
  have : ct n = rv o := by
    generalize hv : ct n = v at e
    cases v <;> cases e <;> rfl
  rw [this]
  exact hr
theorem c_sw {i : Instr} {x c : Int32} {t : Nat} (hc : mj_Y.code kY k pc = some i ∧ r_np i = true ∧ ∀ (l : mj_L) (st : List Value), mj_p (mj_Y.nL kY k) pc i l (.int c :: st) = some (t, l, st)) (hx : mj_c2 .eq x c = true) (hr : mj_Run kY xt ct d k t l st h r) : mj_Run kY xt ct d k pc l (.int x :: st) h r := by
  have e : x = c := of_decide_eq_true hx
  subst e
  exact r_sw hc hr
theorem c_dsp {tb : Nat → Option Nat} {n A B idx d2 a : Nat} {as st2 rest : List Value} {v : Option Value} {h2 : mj_H} (hc : mj_Y.code kY k pc = some (.invokevirtual idx) ∧ mj_Y.na kY k idx = some n ∧ pc' = pc + 3) (ht : ∀ c k2, tb c = some k2 → mj_Y.cv kY k idx c = some k2 ∧ A ≤ mj_Y.nL kY k2 ∧ mj_Y.nL kY k2 ≤ B) (hs : st.drop n = .ref a :: rest) (hq : n + 1 ≤ st.length ∧ mj_wt (st.drop (n + 1)) + B + 11 ≤ 64 ∧ (lg_sl (st.take (n + 1)).reverse).length ≤ A) (has : (st.take (n + 1)).reverse = as) (hst : v.toList ++ st.drop (n + 1) = st2) (he : ∃ c k2, gC h a = some c ∧ tb c = some k2 ∧ mj_Run kY xt ct d2 k2 0 (lv_args 0 as) [] h (.inl v, h2)) (hd : d2 < d) (hr : mj_Run kY xt ct d k pc' l st2 h2 r) : mj_Run kY xt ct d k pc l st h r := by
  obtain ⟨c, k2, e1, e2, e3⟩ := he
  obtain ⟨t1, t2, t3⟩ := ht c k2 e2
  exact c_cal (s_cv (as := as) (st' := st.drop (n + 1)) ⟨hc.1, hc.2.1, t1, rfl, hc.2.2⟩ hs e1 ⟨hq.1, by omega, by omega⟩ has rfl) e3 hd hst hr
end DSP
theorem sw_off {ps : List (Int × Int)} {dflt x : Int} (h : ∀ p ∈ ps, p.1 ≠ x) : Op.lookupswitch.offset ps dflt x = dflt := by
  induction ps with
  | nil => rfl
  | cons q r ih =>
    obtain ⟨a, o⟩ := q
    rw [Op.lookupswitch.offset_cons, if_neg (h (a, o) List.mem_cons_self)]
    exact ih fun p hp => h p (List.mem_cons_of_mem _ hp)
theorem sw_dfl {nL pc t : Nat} {dflt : Int} {ps : Array (Int × Int)} {x : Int32} {l : mj_L} {st : List Value} (h1 : ((ps.toList.zip (ps.toList.drop 1)).all (fun (a, next) => a.1 < next.1)) = true) (h2 : mj_tg pc dflt = some t) (h3 : ∀ p ∈ ps.toList, p.1 ≠ x.toInt) : mj_p nL pc (.lookupswitch dflt ps) l (.int x :: st) = some (t, l, st) := by
  show (if _ then _ else none) = _
  rw [if_pos h1, sw_off h3, h2]
  rfl
