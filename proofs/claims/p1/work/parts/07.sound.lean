/-! WHAT THE SMALL MACHINE ANSWERS, THE GREAT ONE DOES -/
abbrev mj_I : Type := MethodName × ByteArray × Nat × Option FieldType × List (Nat × Nat × Nat × Nat)
/-- a word that later states keep -/
def mj_kp (w : Cond) : Prop := ∀ (a a' : Array Value) (s U : State), s.WarmedH U.vm → w.before a s = true → w.before a' U = true
theorem mj_warmP {x : MethodName} {s U : State} (hW : s.WarmedH U.vm) (hZ : va_Nw (.privateMethod x) s) : va_Nw (.privateMethod x) U := va_tabs rfl (rfl : (s.setVm U.vm).vm = U.vm) (by rw [Cond.privateMethod_setVm hW.alike]; exact hZ)
def mj_kpb : Cond → Bool
  | .fieldLinkNest _ _ _ _ _ _ => true
  | .methodLinkNest _ _ _ _ => true
  | .declares _ => true
  | .castable _ _ => true
  | .privateMethod _ => true
  | .arrayOver (.object _) => true
  | .arrayOver (.array _) => true
  | w => goodWord w
theorem mj_kp_of {w : Cond} (h : mj_kpb w = true) : mj_kp w := by
  intro a a' s U hW hb
  have dflt : goodWord w = true → w.before a' U = true := fun hg => word_at hW (good_of_word hg) hb
  cases w
  case fieldLinkNest => exact va_Nw.use rfl (va_Nw.warmF hW (va_Nw.of rfl hb))
  case methodLinkNest => exact va_Nw.use rfl (va_Nw.warmM hW (va_Nw.of rfl hb))
  case declares => exact va_Nw.use rfl (va_Nw.warmD hW (va_Nw.of rfl hb))
  case castable => exact va_Nw.use rfl (va_Nw.warmC hW (va_Nw.of rfl hb))
  case privateMethod x => exact va_Nw.use (A := a') rfl (mj_warmP hW (va_Nw.of rfl hb))
  case arrayOver t =>
    cases t
    case object C => exact va_AO.use (va_AO.moved hW.alike (va_AO.of hb))
    case array t => exact over_moved hW.alike hb
    all_goals exact dflt h
  all_goals exact dflt h
/-- a method's reference in a pool, by a nest mate or not -/
def mj_ml (TB : List Cond) (own : String) (idx : Nat) (y : MethodName) : Prop := Cond.methodLink own idx y ∈ TB ∨ ∃ host, Cond.methodLinkNest own idx y host ∈ TB
def mj_np (d : String) : Option Nat := (parseMethodDescriptor d).map (fun x => x.parameters.length)
/-- a method's row: its code as Y has it, its words -/
def mj_OkM (Y : mj_Y) (TB : List Cond) (k : Nat) (I : mj_I) : Prop :=
  (∀ (pc : Nat) (i : Instr), Y.code k pc = some i → ∃ len, decode I.2.1 pc = .ok (i, len) ∧ (len = mj_len i ∨ (∃ a b c d, i = .tableswitch a b c d) ∨ ∃ a b, i = .lookupswitch a b)) ∧
  Y.nL k = I.2.2.1 ∧ Y.rt k = I.2.2.2.1 ∧ (Y.nh k = true → I.2.2.2.2 = []) ∧ mj_cw I.1 I.2.1 I.2.2.1 I.2.2.2.1 I.2.2.2.2 ∈ TB ∧ plainFor I.1 = true ∧ mj_noMH I.1.cls ∧ Cond.initialized I.1.cls ∈ TB
/-- a class's row -/
def mj_OkC (TB : List Cond) (q : vw_C) : Prop := (∀ w ∈ u_ws q.1 q.2.1 q.2.2, w ∈ TB) ∧ (∃ ty0 : Nat → FieldType, ∀ k, k < q.2.2 → parseFieldDescriptor (q.2.1 k).2.2.1 = some (ty0 k)) ∧ ∀ a, a < q.2.2 → ∀ b, b < q.2.2 → a ≠ b → (q.2.1 a).2.1 ≠ (q.2.1 b).2.1
/-- a field's row -/
def mj_OkF (TB : List Cond) (cl : List vw_C) (I : mj_I) (idx ci : Nat) (q : Nat × FieldType × Bool) : Prop :=
  ∃ (C : String) (T : u_T) (N : Nat) (ref : String), cl[ci]? = some (C, T, N) ∧ q.1 < N ∧ parseFieldDescriptor (T q.1).2.2.1 = some q.2.1 ∧
    (Cond.fieldLink I.1.cls idx ref (T q.1).2.1 (T q.1).2.2.1 ∈ TB ∨ ∃ host, Cond.fieldLinkNest I.1.cls idx ref (T q.1).2.1 (T q.1).2.2.1 host ∈ TB) ∧ (ref = (T q.1).1 ∨ Cond.sameField ref (T q.1).1 (T q.1).2.1 (T q.1).2.2.1 ∈ TB) ∧
    (q.2.2 = true → (T q.1).2.2.2 = false ∨ ((T q.1).2.2.2 = true ∧ I.1.name = "<init>" ∧ (T q.1).1 = I.1.cls ∧ Cond.fieldLink I.1.cls idx ref (T q.1).2.1 (T q.1).2.2.1 ∈ TB))
/-- a class that is made -/
def mj_OkN (TB : List Cond) (cl : List vw_C) (I : mj_I) (idx : Nat) (q : Nat × Nat × List Value) : Prop :=
  ∃ (C : String) (T : u_T) (N : Nat), cl[q.1]? = some (C, T, N) ∧ Cond.classLink I.1.cls idx C ∈ TB ∧ Cond.instantiable C q.2.1 ∈ TB ∧ Cond.initialized C ∈ TB ∧ q.2.2.length = N ∧ ∀ k, k < N → ∃ ty, parseFieldDescriptor (T k).2.2.1 = some ty ∧ q.2.2[k]? = some (defaultValue ty)
def mj_OkS (TB : List Cond) (I I2 : mj_I) (idx n : Nat) : Prop := mj_ml TB I.1.cls idx I2.1 ∧ Cond.static I2.1 ∈ TB ∧ mj_np I2.1.desc = some n
def mj_OkI (TB : List Cond) (I I2 : mj_I) (idx n : Nat) : Prop := Cond.instanceMethod I2.1 ∈ TB ∧ mj_np I2.1.desc = some n ∧ ((mj_ml TB I.1.cls idx I2.1 ∧ I2.1.name = "<init>" ∧ I2.2.2.2.1 = none ∧ I2.2.2.2.2 = []) ∨
  (Cond.methodLink I.1.cls idx I2.1 ∈ TB ∧ Cond.sameMethod I2.1.cls I2.1.cls I2.1.name I2.1.desc ∈ TB ∧ Cond.superclass I.1.cls I2.1.cls ∈ TB ∧ I2.1.name ≠ "<init>"))
def mj_OkV (TB : List Cond) (cl : List vw_C) (I I2 : mj_I) (idx n ci : Nat) : Prop :=
  ∃ (C : String) (T : u_T) (N : Nat), cl[ci]? = some (C, T, N) ∧ Cond.instanceMethod I2.1 ∈ TB ∧ ((mj_ml TB I.1.cls idx I2.1 ∧ Cond.selects C I2.1 I2.1 ∈ TB ∧ mj_np I2.1.desc = some n) ∨
    (Cond.methodLink I.1.cls idx I2.1 ∈ TB ∧ Cond.sameMethod I2.1.cls I2.1.cls I2.1.name I2.1.desc ∈ TB ∧ Cond.privateMethod I2.1 ∈ TB ∧ mj_np I2.1.desc = some n) ∨
    ∃ (x : MethodName) (owner : String), Cond.methodLink I.1.cls idx x ∈ TB ∧ Cond.sameMethod x.cls owner x.name x.desc ∈ TB ∧ (Cond.declares ⟨owner, x.name, x.desc⟩ ∈ TB ∨ (Cond.instanceMethod ⟨owner, x.name, x.desc⟩ ∈ TB ∧ ∃ b m r, Cond.code ⟨owner, x.name, x.desc⟩ b m r ∈ TB)) ∧ mj_noMH owner ∧ Cond.selects C x I2.1 ∈ TB ∧ mj_np x.desc = some n)
def mj_Ok (Y : mj_Y) (M : Nat → Option mj_I) (TB : List Cond) (cl : List vw_C) (tys : List FieldType) : Prop :=
  (∀ w ∈ TB, mj_kp w) ∧ (∀ k I, M k = some I → mj_OkM Y TB k I) ∧ (∀ (ci : Nat) (q : vw_C), cl[ci]? = some q → mj_OkC TB q) ∧
  (∀ k I idx ci q, M k = some I → Y.fl k idx ci = some q → mj_OkF TB cl I idx ci q) ∧
  (∀ k I idx q, M k = some I → Y.nw k idx = some q → mj_OkN TB cl I idx q) ∧
  (∀ k pc at0, Y.code k pc = some (.newarray at0) → Cond.arrayClass (newarray.typeOf at0) ∈ TB ∧ newarray.typeOf at0 ∈ tys) ∧
  (∀ k I idx C, M k = some I → Y.an k idx = some C → Cond.classLink I.1.cls idx C ∈ TB ∧ Cond.arrayOver (.object C) ∈ TB ∧ FieldType.object C ∈ tys) ∧
  (∀ k I idx v, M k = some I → Y.ck k idx = some (.int v) → Cond.constant I.1.cls idx v ∈ TB) ∧
  (∀ k I idx v, M k = some I → Y.ck k idx = some (.long v) → Cond.constantLong I.1.cls idx v ∈ TB) ∧
  (∀ k I idx q, M k = some I → Y.cs k idx = some q → ∃ I2, M q.1 = some I2 ∧ mj_OkS TB I I2 idx q.2) ∧
  (∀ k I idx q, M k = some I → Y.cp k idx = some q → ∃ I2, M q.1 = some I2 ∧ mj_OkI TB I I2 idx q.2) ∧
  (∀ k I idx n ci k2, M k = some I → Y.na k idx = some n → Y.cv k idx ci = some k2 → ∃ I2, M k2 = some I2 ∧ mj_OkV TB cl I I2 idx n ci)
theorem mj_go_inj {pc pc' : Nat} {l l' : mj_L} {st st' : List Value} {h h' : mj_H} (hh : mj_go pc l st h = some (.inl (pc', l', st', h'))) : pc' = pc ∧ l' = l ∧ st' = st ∧ h' = h := by
  simp only [mj_go, Option.some.injEq, Sum.inl.injEq, Prod.mk.injEq] at hh
  exact ⟨hh.1.symm, hh.2.1.symm, hh.2.2.1.symm, hh.2.2.2.symm⟩
def mj_ge (h h' : mj_H) : Prop := h.2.1 ≤ h'.2.1 ∧ h.2.2 ≤ h'.2.2
theorem mj_ge_rf (h : mj_H) : mj_ge h h := ⟨Nat.le_refl _, Nat.le_refl _⟩
theorem mj_ge_put (h : mj_H) (a : Nat) (x : mj_E) : mj_ge h (mj_put h a x) := ⟨Nat.le_refl _, Nat.le_refl _⟩
theorem mj_ge_new (h : mj_H) (n : Nat) (x : mj_E) : mj_ge h (mj_new h n x) := ⟨Nat.le_succ _, Nat.le_add_right _ _⟩
theorem mj_ge_mul (h : mj_H) (n k : Nat) : mj_ge h (mj_mul h n k) := by
  refine ⟨?_, ?_⟩ <;> (simp only [mj_mul]; omega)
set_option maxHeartbeats 4000000 in
theorem mj_s_ge {Y : mj_Y} {xt : mj_X} {ct : Nat → Value} {k pc : Nat} {l : mj_L} {st : List Value} {h : mj_H} {q : Nat × mj_L × List Value × mj_H} (hs : mj_s Y xt ct k pc l st h = some (.inl q)) : mj_ge h q.2.2.2 := by
  obtain ⟨pc', l', st', h'⟩ := q
  show mj_ge h h'
  unfold mj_s at hs
  split at hs
  · cases hs
  · split at hs
    all_goals try unfold mj_gf at hs
    all_goals try unfold mj_pf at hs
    all_goals try unfold mj_ald at hs
    all_goals try unfold mj_ast at hs
    all_goals try unfold mj_lst at hs
    all_goals try unfold mj_rst at hs
    all_goals try unfold mj_nwo at hs
    all_goals try unfold mj_nwa at hs
    all_goals try unfold mj_nwq at hs
    all_goals try unfold mj_cal at hs
    all_goals try unfold mj_acp at hs
    all_goals try unfold mj_mna at hs
    all_goals try unfold mj_cln at hs
    all_goals try unfold mj_ccs at hs
    all_goals repeat' (split at hs)
    all_goals first
      | (cases hs; done)
      | (obtain ⟨-, -, -, rfl⟩ := mj_go_inj hs; first | exact mj_ge_rf _ | exact mj_ge_put _ _ _ | exact mj_ge_new _ _ _ | exact mj_ge_mul _ _ _)
      | (obtain ⟨v, -, hv⟩ := Option.bind_eq_some_iff.mp hs; obtain ⟨-, -, -, rfl⟩ := mj_go_inj hv; exact mj_ge_rf _)
      | (simp at hs; done)
set_option maxHeartbeats 4000000 in
theorem mj_s_ge2 {Y : mj_Y} {xt : mj_X} {ct : Nat → Value} {k pc : Nat} {l : mj_L} {st : List Value} {h : mj_H} {q : mj_O × mj_H} (hs : mj_s Y xt ct k pc l st h = some (.inr (.inr q))) : mj_ge h q.2 := by
  unfold mj_s at hs
  split at hs
  · cases hs
  · split at hs
    all_goals try unfold mj_gf at hs
    all_goals try unfold mj_pf at hs
    all_goals try unfold mj_ald at hs
    all_goals try unfold mj_ast at hs
    all_goals try unfold mj_lst at hs
    all_goals try unfold mj_rst at hs
    all_goals try unfold mj_nwo at hs
    all_goals try unfold mj_nwa at hs
    all_goals try unfold mj_nwq at hs
    all_goals try unfold mj_cal at hs
    all_goals try unfold mj_acp at hs
    all_goals try unfold mj_mna at hs
    all_goals try unfold mj_cln at hs
    all_goals try unfold mj_ccs at hs
    all_goals repeat' (split at hs)
    all_goals first
      | (cases hs; first | exact mj_ge_rf _ | exact mj_ge_new _ _ _)
      | (simp [mj_go] at hs; done)
      | (obtain ⟨v, -, hv⟩ := Option.bind_eq_some_iff.mp hs; simp [mj_go] at hv; done)
theorem mj_ge_trans {a b c : mj_H} (h1 : mj_ge a b) (h2 : mj_ge b c) : mj_ge a c := ⟨Nat.le_trans h1.1 h2.1, Nat.le_trans h1.2 h2.2⟩
set_option maxHeartbeats 4000000 in
theorem mj_x_ge {Y : mj_Y} {xt : mj_X} {ct : Nat → Value} : ∀ (f d k pc : Nat) (l : mj_L) (st : List Value) (h : mj_H) (r : mj_O × mj_H), mj_x Y xt ct f d k pc l st h = some r → mj_ge h r.2 := by
  intro f
  induction f with
  | zero => intro d k pc l st h r hx; cases hx
  | succ f ih =>
    intro d k pc l st h r hx
    simp only [mj_x] at hx
    split at hx
    · cases hx
    · rename_i q hs
      exact mj_ge_trans (mj_s_ge hs) (ih _ _ _ _ _ _ _ hx)
    · rename_i q hs
      split at hx
      · cases hx
      · rename_i d'
        split at hx
        · cases hx
        · rename_i v h' hc
          exact mj_ge_trans (ih _ _ _ _ _ _ _ hc) (ih _ _ _ _ _ _ _ hx)
        · rename_i a h' hc
          split at hx
          · cases hx; exact ih _ _ _ _ _ _ _ hc
          · split at hx
            · split at hx
              · exact mj_ge_trans (ih _ _ _ _ _ _ _ hc) (ih _ _ _ _ _ _ _ hx)
              · cases hx
            · cases hx
    · rename_i q hs
      cases hx
      exact mj_s_ge2 hs
