/-! THE SMALL MACHINE (mj_): a pure machine over the same instructions; what it answers, the great one does (part 03). -/
/-- an entity of the heap: an array (its elements' type, its elements) or an object (its class's number, its fields) -/
abbrev mj_E : Type := (FieldType × List Value) ⊕ (Nat × List Value)
/-- what is known of each address; the next address; the slots used -/
abbrev mj_H : Type := (Nat → Option mj_E) × Nat × Nat
abbrev mj_L : Type := List (Nat × Value)
/-- how a method ends: it returns, or throws -/
abbrev mj_O : Type := Option Value ⊕ Nat
def mj_up (h : Nat → Option mj_E) (a : Nat) (e : mj_E) : Nat → Option mj_E := fun q => if q = a then some e else h q
def mj_put (h : mj_H) (a : Nat) (e : mj_E) : mj_H := (mj_up h.1 a e, h.2)
def mj_new (h : mj_H) (n : Nat) (e : mj_E) : mj_H := (mj_up h.1 h.2.1 e, h.2.1 + 1, h.2.2 + n)
def mj_ld (l : mj_L) (i : Nat) : Option Value := (l.find? (fun q => q.1 == i)).map (fun q => q.2)
def mj_st1 (l : mj_L) (i : Nat) (v : Value) : mj_L := (i, v) :: l.filter (fun q => !(q.1 == i) && !(q.1 + 1 == i && q.2.category == 2))
def mj_st2 (l : mj_L) (i : Nat) (v : Value) : mj_L := (i, v) :: l.filter (fun q => !(q.1 == i) && (!(q.1 == i + 1) && !(q.1 + 1 == i && q.2.category == 2)))
/-- a jump's target -/
def mj_tg (pc : Nat) (off : Int) : Option Nat := match (pc : Int) + off with
  | .ofNat t => some t
  | .negSucc _ => none
def mj_c1 (cnd : ClassFile.Cond) (x : Int32) : Bool := match cnd with
  | .eq => decide (x = 0)
  | .ne => decide (¬ x = 0)
  | .lt => decide (x < 0)
  | .ge => decide (0 ≤ x)
  | .gt => decide (0 < x)
  | .le => decide (x ≤ 0)
def mj_c2 (cnd : ClassFile.Cond) (x y : Int32) : Bool := match cnd with
  | .eq => decide (x = y)
  | .ne => decide (¬ x = y)
  | .lt => decide (x < y)
  | .ge => decide (y ≤ x)
  | .gt => decide (y < x)
  | .le => decide (x ≤ y)
/-- an operation on two ints -/
def mj_ii (i : Instr) (x y : Int32) : Option Int32 := match i with
  | .iadd => some (x + y)
  | .isub => some (x - y)
  | .imul => some (x * y)
  | .iand => some (x &&& y)
  | .ior => some (x ||| y)
  | .ixor => some (x ^^^ y)
  | .idiv => if y = 0 then none else some (x / y)
  | .irem => if y = 0 then none else some (x - x / y * y)
  | .ishl => some (x <<< (y &&& 31))
  | .ishr => some (x >>> (y &&& 31))
  | .iushr => some (x.toUInt32 >>> (y.toUInt32 &&& Int32.toUInt32 31)).toInt32
  | _ => none
def mj_jj (i : Instr) (x y : Int64) : Option Int64 := match i with
  | .ladd => some (x + y)
  | .lsub => some (x - y)
  | .lmul => some (x * y)
  | .land => some (x &&& y)
  | .lor => some (x ||| y)
  | .lxor => some (x ^^^ y)
  | .ldiv => if y = 0 then none else some (x / y)
  | .lrem => if y = 0 then none else some (x - x / y * y)
  | _ => none
def mj_pI (pc : Nat) (l : mj_L) (k : Nat) (st : List Value) : Option (Nat × mj_L × List Value) := match mj_ld l k with
  | some (.int x) => some (pc, l, .int x :: st)
  | _ => none
def mj_pJ (pc : Nat) (l : mj_L) (k : Nat) (st : List Value) : Option (Nat × mj_L × List Value) := match mj_ld l k with
  | some (.long x) => some (pc, l, .long x :: st)
  | _ => none
def mj_pA (pc : Nat) (l : mj_L) (k : Nat) (st : List Value) : Option (Nat × mj_L × List Value) := match mj_ld l k with
  | some (.ref x) => some (pc, l, .ref x :: st)
  | some .null => some (pc, l, .null :: st)
  | _ => none
def mj_sI (nL pc : Nat) (l : mj_L) (k : Nat) (st : List Value) : Option (Nat × mj_L × List Value) := match st with
  | .int x :: r => if k < nL then some (pc, mj_st1 l k (.int x), r) else none
  | _ => none
def mj_sJ (nL pc : Nat) (l : mj_L) (k : Nat) (st : List Value) : Option (Nat × mj_L × List Value) := match st with
  | .long x :: r => if k + 1 < nL then some (pc, mj_st2 l k (.long x), r) else none
  | _ => none
def mj_sA (nL pc : Nat) (l : mj_L) (k : Nat) (st : List Value) : Option (Nat × mj_L × List Value) := match st with
  | .ref x :: r => if k < nL then some (pc, mj_st1 l k (.ref x), r) else none
  | .null :: r => if k < nL then some (pc, mj_st1 l k .null, r) else none
  | _ => none
def mj_oi (pc : Nat) (i : Instr) (l : mj_L) (st : List Value) : Option (Nat × mj_L × List Value) := match st with
  | .int y :: .int x :: r => (mj_ii i x y).map (fun z => (pc + 1, l, .int z :: r))
  | _ => none
def mj_oj (pc : Nat) (i : Instr) (l : mj_L) (st : List Value) : Option (Nat × mj_L × List Value) := match st with
  | .long y :: .long x :: r => (mj_jj i x y).map (fun z => (pc + 1, l, .long z :: r))
  | _ => none
def mj_br (pc : Nat) (b : Bool) (off : Int) (l : mj_L) (r : List Value) : Option (Nat × mj_L × List Value) := (mj_tg pc off).map (fun t => (bif b then t else pc + 3, l, r))

def mj_p (nL pc : Nat) (i : Instr) (l : mj_L) (st : List Value) : Option (Nat × mj_L × List Value) := match i with
  | .aconst_null => some (pc + 1, l, .null :: st)
  | .iconst n => some (pc + 1, l, .int (Int32.ofInt n) :: st)
  | .bipush n => some (pc + 2, l, .int (Int8.ofInt n).toInt32 :: st)
  | .sipush n => some (pc + 3, l, .int (Int16.ofInt n).toInt32 :: st)
  | .lconst n => some (pc + 1, l, .long (Int64.ofNat (n : Nat)) :: st)
  | .iload_n k => mj_pI (pc + 1) l k st
  | .iload k => mj_pI (pc + 2) l k st
  | .lload_n k => mj_pJ (pc + 1) l k st
  | .lload k => mj_pJ (pc + 2) l k st
  | .aload_n k => mj_pA (pc + 1) l k st
  | .aload k => mj_pA (pc + 2) l k st
  | .istore_n k => mj_sI nL (pc + 1) l k st
  | .istore k => mj_sI nL (pc + 2) l k st
  | .lstore_n k => mj_sJ nL (pc + 1) l k st
  | .lstore k => mj_sJ nL (pc + 2) l k st
  | .astore_n k => mj_sA nL (pc + 1) l k st
  | .astore k => mj_sA nL (pc + 2) l k st
  | .iinc k n => match mj_ld l k with
    | some (.int x) => if k < nL then some (pc + 3, mj_st1 l k (.int (x + Int32.ofInt n)), st) else none
    | _ => none
  | .iadd => mj_oi pc .iadd l st
  | .isub => mj_oi pc .isub l st
  | .imul => mj_oi pc .imul l st
  | .iand => mj_oi pc .iand l st
  | .ior => mj_oi pc .ior l st
  | .ixor => mj_oi pc .ixor l st
  | .idiv => mj_oi pc .idiv l st
  | .irem => mj_oi pc .irem l st
  | .ishl => mj_oi pc .ishl l st
  | .ishr => mj_oi pc .ishr l st
  | .iushr => mj_oi pc .iushr l st
  | .ladd => mj_oj pc .ladd l st
  | .lsub => mj_oj pc .lsub l st
  | .lmul => mj_oj pc .lmul l st
  | .land => mj_oj pc .land l st
  | .lor => mj_oj pc .lor l st
  | .lxor => mj_oj pc .lxor l st
  | .ldiv => mj_oj pc .ldiv l st
  | .lrem => mj_oj pc .lrem l st
  | .lshl => match st with
    | .int y :: .long x :: r => some (pc + 1, l, .long (x <<< (y.toInt64 &&& 63)) :: r)
    | _ => none
  | .lshr => match st with
    | .int y :: .long x :: r => some (pc + 1, l, .long (x >>> (y.toInt64 &&& 63)) :: r)
    | _ => none
  | .lushr => match st with
    | .int y :: .long x :: r => some (pc + 1, l, .long (x.toUInt64 >>> (y.toInt64.toUInt64 &&& Int64.toUInt64 63)).toInt64 :: r)
    | _ => none
  | .ineg => match st with
    | .int x :: r => some (pc + 1, l, .int (-x) :: r)
    | _ => none
  | .lneg => match st with
    | .long x :: r => some (pc + 1, l, .long (-x) :: r)
    | _ => none
  | .i2l => match st with
    | .int x :: r => some (pc + 1, l, .long x.toInt64 :: r)
    | _ => none
  | .l2i => match st with
    | .long x :: r => some (pc + 1, l, .int x.toInt32 :: r)
    | _ => none
  | .i2b => match st with
    | .int x :: r => some (pc + 1, l, .int x.toInt8.toInt32 :: r)
    | _ => none
  | .i2c => match st with
    | .int x :: r => some (pc + 1, l, .int (x.toUInt32 % 65536).toInt32 :: r)
    | _ => none
  | .lcmp => match st with
    | .long y :: .long x :: r => some (pc + 1, l, .int (lg_cmp x y) :: r)
    | _ => none
  | .pop => match st with
    | v :: r => if v.category = 1 then some (pc + 1, l, r) else none
    | _ => none
  | .dup => match st with
    | v :: r => if v.category = 1 then some (pc + 1, l, v :: v :: r) else none
    | _ => none
  | .dup_x1 => match st with
    | v :: w :: r => if v.category = 1 ∧ w.category = 1 then some (pc + 1, l, v :: w :: v :: r) else none
    | _ => none
  | .dup_x2 => match st with
    | v :: w :: u :: r => if v.category = 1 ∧ w.category = 1 ∧ u.category = 1 then some (pc + 1, l, v :: w :: u :: v :: r) else none
    | _ => none
  | .dup2 => match st with
    | .long x :: r => some (pc + 1, l, .long x :: .long x :: r)
    | v :: w :: r => if v.category = 1 ∧ w.category = 1 then some (pc + 1, l, v :: w :: v :: w :: r) else none
    | _ => none
  | .dup2_x1 => match st with
    | .long x :: w :: r => if w.category = 1 then some (pc + 1, l, .long x :: w :: .long x :: r) else none
    | _ => none
  | .dup2_x2 => match st with
    | .long x :: w :: u :: r => if w.category = 1 ∧ u.category = 1 then some (pc + 1, l, .long x :: w :: u :: .long x :: r) else none
    | _ => none
  | .ifCond cnd off => match st with
    | .int x :: r => mj_br pc (mj_c1 cnd x) off l r
    | _ => none
  | .if_icmp cnd off => match st with
    | .int y :: .int x :: r => mj_br pc (mj_c2 cnd x y) off l r
    | _ => none
  | .ifnull off => match st with
    | .null :: r => mj_br pc true off l r
    | .ref _ :: r => mj_br pc false off l r
    | _ => none
  | .ifnonnull off => match st with
    | .null :: r => mj_br pc false off l r
    | .ref _ :: r => mj_br pc true off l r
    | _ => none
  | .goto off => (mj_tg pc off).map (fun t => (t, l, st))
  | .tableswitch dflt lo hi offs => match st with
    | .int x :: r => if x.toInt < lo ∨ hi < x.toInt then (mj_tg pc dflt).map (fun t => (t, l, r)) else (offs[(x.toInt - lo).toNat]?).bind (fun o => (mj_tg pc o).map (fun t => (t, l, r)))
    | _ => none
  | .lookupswitch dflt ps => match st with
    | .int x :: r => if (ps.toList.zip (ps.toList.drop 1)).all (fun (a, next) => a.1 < next.1) = true then (mj_tg pc (Op.lookupswitch.offset ps.toList dflt x.toInt)).map (fun t => (t, l, r)) else none
    | _ => none
  | _ => none
theorem mj_tg_ok {pc t : Nat} {off : Int} (h : mj_tg pc off = some t) : (pc : Int) + off = (t : Int) := by
  unfold mj_tg at h
  cases hh : (pc : Int) + off with
  | ofNat u => rw [hh] at h; cases h; rfl
  | negSucc u => rw [hh] at h; cases h
theorem mj_ld_ok {ls : Array Slot} {nL : Nat} {l : mj_L} {i : Nat} {v : Value} (h : lv_has ls nL l) (hv : mj_ld l i = some v) : ls[i]? = some (.val v) := by
  unfold mj_ld at hv
  cases hf : l.find? (fun q => q.1 == i) with
  | none => rw [hf] at hv; cases hv
  | some q =>
    rw [hf] at hv
    have h1 := List.mem_of_find?_eq_some hf
    have h2 : (q.1 == i) = true := List.find?_some (p := fun q : Nat × Value => q.1 == i) hf
    have h3 : q.1 = i := by simpa using h2
    cases hv
    rw [← h3]
    exact h.2.2 q h1
theorem mj_k_ok {l : mj_L} {i : Nat} {v : Value} (hv : mj_ld l i = some v) : ∃ k : Nat, l[k]? = some (i, v) := by
  unfold mj_ld at hv
  cases hf : l.find? (fun q => q.1 == i) with
  | none => rw [hf] at hv; cases hv
  | some q =>
    rw [hf] at hv
    have h2 : (q.1 == i) = true := List.find?_some (p := fun q : Nat × Value => q.1 == i) hf
    have h3 : q.1 = i := by simpa using h2
    cases hv
    obtain ⟨k, hk⟩ := List.getElem?_of_mem (List.mem_of_find?_eq_some hf)
    exact ⟨k, by rw [hk, ← h3]⟩
section MJP
variable {p : Program} {l : Launch} {e : Env} {R : Room} {s : State} {m : MethodId} {args : Array Value} {below : List Frame} {meth : Method} {c : Code} {H : Heap} {locs : List Loc} {cells slots : Nat} {Q : State → Prop}
variable {cc : ByteArray} {pc : Nat} {ls : Array Slot} {rest : List Value}
theorem mj_aloadN (hexec : p.tables.exec = Jvm.exec) (hb : c.code = cc) {i : Nat} (hdg : decode cc pc = .ok (.aload i, 2)) (hl : ls[i]? = some (.val .null))
    (k : W p l e R s m args below meth c H locs cells slots Q (F0 m (pc + 2) ls (.null :: rest))) : W p l e R s m args below meth c H locs cells slots Q (F0 m pc ls (rest)) := by
  intro T hT X
  obtain ⟨t, a, b⟩ := k T hT X
  refine ⟨t, ?_, b⟩
  jvm_step X.here [X.here.top, hexec, hb, hdg, hl, Value.isRef]
  exact a
theorem mj_aload_nN (hexec : p.tables.exec = Jvm.exec) (hb : c.code = cc) {k : Fin 4} (hdg : decode cc pc = .ok (.aload_n k, 1)) (hl : ls[(k : Nat)]? = some (.val .null))
    (k : W p l e R s m args below meth c H locs cells slots Q (F0 m (pc + 1) ls (.null :: rest))) : W p l e R s m args below meth c H locs cells slots Q (F0 m pc ls (rest)) := by
  intro T hT X
  obtain ⟨t, a, b⟩ := k T hT X
  refine ⟨t, ?_, b⟩
  jvm_step X.here [X.here.top, hexec, hb, hdg, hl, Value.isRef]
  exact a
theorem mj_astoreN (hexec : p.tables.exec = Jvm.exec) (hb : c.code = cc) {i nL : Nat} {lv : List (Nat × Value)} (hdg : decode cc pc = .ok (.astore i, 2)) (h : lv_has ls nL lv) (hn : i < nL)
    (kk : ∀ ls' : Array Slot, lv_has ls' nL (mj_st1 lv i .null) → W p l e R s m args below meth c H locs cells slots Q (F0 m (pc + 2) ls' rest)) : W p l e R s m args below meth c H locs cells slots Q (F0 m pc ls (.null :: rest)) := by
  obtain ⟨ls', e', h'⟩ := lv_store1 (v := .null) h hn rfl
  intro T hT X
  obtain ⟨t, a, b⟩ := kk ls' h' T hT X
  refine ⟨t, ?_, b⟩
  jvm_step X.here [X.here.top, ↓top_set X.here.top, hexec, hb, hdg, e', Value.isRef]
  exact a
theorem mj_astore_nN (hexec : p.tables.exec = Jvm.exec) (hb : c.code = cc) {k : Fin 4} {nL : Nat} {lv : List (Nat × Value)} (hdg : decode cc pc = .ok (.astore_n k, 1)) (h : lv_has ls nL lv) (hn : (k : Nat) < nL)
    (kk : ∀ ls' : Array Slot, lv_has ls' nL (mj_st1 lv k .null) → W p l e R s m args below meth c H locs cells slots Q (F0 m (pc + 1) ls' rest)) : W p l e R s m args below meth c H locs cells slots Q (F0 m pc ls (.null :: rest)) := by
  obtain ⟨ls', e', h'⟩ := lv_store1 (v := .null) h hn rfl
  intro T hT X
  obtain ⟨t, a, b⟩ := kk ls' h' T hT X
  refine ⟨t, ?_, b⟩
  jvm_step X.here [X.here.top, ↓top_set X.here.top, hexec, hb, hdg, e', Value.isRef]
  exact a
set_option maxHeartbeats 4000000 in
/-- a plain instruction of the small machine is one of the great one -/
theorem mj_p_ok (hexec : p.tables.exec = Jvm.exec) (hb : c.code = cc) {i : Instr} {len nL : Nat} {lv lv' : mj_L} {st st' : List Value} {pc' : Nat} (hd : decode cc pc = .ok (i, len)) (hlen : len = mj_len i ∨ (∃ a b c d, i = .tableswitch a b c d) ∨ ∃ a b, i = .lookupswitch a b)
    (hl : lv_has ls nL lv) (hp : mj_p nL pc i lv st = some (pc', lv', st')) (kk : ∀ ls' : Array Slot, lv_has ls' nL lv' → W p l e R s m args below meth c H locs cells slots Q (F0 m pc' ls' st')) : W p l e R s m args below meth c H locs cells slots Q (F0 m pc ls st) := by
  cases i
  case aconst_null =>
    have e1 : len = 1 := by rcases hlen with h | ⟨_, _, _, _, h⟩ | ⟨_, _, h⟩ <;> first | exact h | cases h
    subst e1
    cases hp
    exact lv_null hexec hb hd (kk ls hl)
  case iconst n =>
    have e1 : len = 1 := by rcases hlen with h | ⟨_, _, _, _, h⟩ | ⟨_, _, h⟩ <;> first | exact h | cases h
    subst e1
    cases hp
    exact lv_iconst hexec hb hd rfl (kk ls hl)
  case bipush n =>
    have e1 : len = 2 := by rcases hlen with h | ⟨_, _, _, _, h⟩ | ⟨_, _, h⟩ <;> first | exact h | cases h
    subst e1
    cases hp
    exact lv_bipush hexec hb hd rfl (kk ls hl)
  case sipush n =>
    have e1 : len = 3 := by rcases hlen with h | ⟨_, _, _, _, h⟩ | ⟨_, _, h⟩ <;> first | exact h | cases h
    subst e1
    cases hp
    exact lv_sipush hexec hb hd rfl (kk ls hl)
  case lconst n =>
    have e1 : len = 1 := by rcases hlen with h | ⟨_, _, _, _, h⟩ | ⟨_, _, h⟩ <;> first | exact h | cases h
    subst e1
    cases hp
    exact lv_lconst hexec hb hd rfl (kk ls hl)
  case iload_n k =>
    have e1 : len = 1 := by rcases hlen with h | ⟨_, _, _, _, h⟩ | ⟨_, _, h⟩ <;> first | exact h | cases h
    subst e1
    simp only [mj_p, mj_pI] at hp
    split at hp
    · rename_i x hx
      cases hp
      exact lv_iload_n hexec hb hd rfl (mj_ld_ok hl hx) (kk ls hl)
    · cases hp
  case iload k =>
    have e1 : len = 2 := by rcases hlen with h | ⟨_, _, _, _, h⟩ | ⟨_, _, h⟩ <;> first | exact h | cases h
    subst e1
    simp only [mj_p, mj_pI] at hp
    split at hp
    · rename_i x hx
      cases hp
      exact lv_iload hexec hb hd (mj_ld_ok hl hx) (kk ls hl)
    · cases hp
  case lload_n k =>
    have e1 : len = 1 := by rcases hlen with h | ⟨_, _, _, _, h⟩ | ⟨_, _, h⟩ <;> first | exact h | cases h
    subst e1
    simp only [mj_p, mj_pJ] at hp
    split at hp
    · rename_i x hx
      cases hp
      exact lv_lload_n hexec hb hd rfl (mj_ld_ok hl hx) (kk ls hl)
    · cases hp
  case lload k =>
    have e1 : len = 2 := by rcases hlen with h | ⟨_, _, _, _, h⟩ | ⟨_, _, h⟩ <;> first | exact h | cases h
    subst e1
    simp only [mj_p, mj_pJ] at hp
    split at hp
    · rename_i x hx
      cases hp
      exact lv_lload hexec hb hd (mj_ld_ok hl hx) (kk ls hl)
    · cases hp
  case aload_n k =>
    have e1 : len = 1 := by rcases hlen with h | ⟨_, _, _, _, h⟩ | ⟨_, _, h⟩ <;> first | exact h | cases h
    subst e1
    simp only [mj_p, mj_pA] at hp
    split at hp
    · rename_i x hx
      cases hp
      exact lv_aload_n hexec hb hd rfl (mj_ld_ok hl hx) (kk ls hl)
    · rename_i hx
      cases hp
      exact mj_aload_nN hexec hb hd (mj_ld_ok hl hx) (kk ls hl)
    · cases hp
  case aload k =>
    have e1 : len = 2 := by rcases hlen with h | ⟨_, _, _, _, h⟩ | ⟨_, _, h⟩ <;> first | exact h | cases h
    subst e1
    simp only [mj_p, mj_pA] at hp
    split at hp
    · rename_i x hx
      cases hp
      exact lv_aload hexec hb hd (mj_ld_ok hl hx) (kk ls hl)
    · rename_i hx
      cases hp
      exact mj_aloadN hexec hb hd (mj_ld_ok hl hx) (kk ls hl)
    · cases hp
  case istore_n k =>
    have e1 : len = 1 := by rcases hlen with h | ⟨_, _, _, _, h⟩ | ⟨_, _, h⟩ <;> first | exact h | cases h
    subst e1
    simp only [mj_p, mj_sI] at hp
    split at hp
    · split at hp
      · rename_i hk
        cases hp
        exact lv_istore_n hexec hb hd rfl hl hk rfl kk
      · cases hp
    · cases hp
  case istore k =>
    have e1 : len = 2 := by rcases hlen with h | ⟨_, _, _, _, h⟩ | ⟨_, _, h⟩ <;> first | exact h | cases h
    subst e1
    simp only [mj_p, mj_sI] at hp
    split at hp
    · split at hp
      · rename_i hk
        cases hp
        exact lv_istore hexec hb hd hl hk rfl kk
      · cases hp
    · cases hp
  case lstore_n k =>
    have e1 : len = 1 := by rcases hlen with h | ⟨_, _, _, _, h⟩ | ⟨_, _, h⟩ <;> first | exact h | cases h
    subst e1
    simp only [mj_p, mj_sJ] at hp
    split at hp
    · split at hp
      · rename_i hk
        cases hp
        exact lv_lstore_n hexec hb hd rfl hl hk rfl kk
      · cases hp
    · cases hp
  case lstore k =>
    have e1 : len = 2 := by rcases hlen with h | ⟨_, _, _, _, h⟩ | ⟨_, _, h⟩ <;> first | exact h | cases h
    subst e1
    simp only [mj_p, mj_sJ] at hp
    split at hp
    · split at hp
      · rename_i hk
        cases hp
        exact lv_lstore hexec hb hd hl hk rfl kk
      · cases hp
    · cases hp
  case astore_n k =>
    have e1 : len = 1 := by rcases hlen with h | ⟨_, _, _, _, h⟩ | ⟨_, _, h⟩ <;> first | exact h | cases h
    subst e1
    simp only [mj_p, mj_sA] at hp
    split at hp
    · split at hp
      · rename_i hk
        cases hp
        exact lv_astore_n hexec hb hd rfl hl hk rfl kk
      · cases hp
    · split at hp
      · rename_i hk
        cases hp
        exact mj_astore_nN hexec hb hd hl hk kk
      · cases hp
    · cases hp
  case astore k =>
    have e1 : len = 2 := by rcases hlen with h | ⟨_, _, _, _, h⟩ | ⟨_, _, h⟩ <;> first | exact h | cases h
    subst e1
    simp only [mj_p, mj_sA] at hp
    split at hp
    · split at hp
      · rename_i hk
        cases hp
        exact lv_astore hexec hb hd hl hk rfl kk
      · cases hp
    · split at hp
      · rename_i hk
        cases hp
        exact mj_astoreN hexec hb hd hl hk kk
      · cases hp
    · cases hp
  case iinc k n =>
    have e1 : len = 3 := by rcases hlen with h | ⟨_, _, _, _, h⟩ | ⟨_, _, h⟩ <;> first | exact h | cases h
    subst e1
    simp only [mj_p] at hp
    split at hp
    · rename_i x hx
      split at hp
      · rename_i hk
        cases hp
        obtain ⟨j, hj⟩ := mj_k_ok hx
        exact lv_iinc hexec hb hd hl hj rfl hk rfl kk
      · cases hp
    · cases hp
  case iadd =>
    have e1 : len = 1 := by rcases hlen with h | ⟨_, _, _, _, h⟩ | ⟨_, _, h⟩ <;> first | exact h | cases h
    subst e1
    simp only [mj_p, mj_oi] at hp
    split at hp
    · rename_i y x r
      simp only [mj_ii] at hp
      cases hp
      exact lv_iadd hexec hb hd (kk ls hl)
    · cases hp
  case isub =>
    have e1 : len = 1 := by rcases hlen with h | ⟨_, _, _, _, h⟩ | ⟨_, _, h⟩ <;> first | exact h | cases h
    subst e1
    simp only [mj_p, mj_oi] at hp
    split at hp
    · rename_i y x r
      simp only [mj_ii] at hp
      cases hp
      exact lv_isub hexec hb hd (kk ls hl)
    · cases hp
  case imul =>
    have e1 : len = 1 := by rcases hlen with h | ⟨_, _, _, _, h⟩ | ⟨_, _, h⟩ <;> first | exact h | cases h
    subst e1
    simp only [mj_p, mj_oi] at hp
    split at hp
    · rename_i y x r
      simp only [mj_ii] at hp
      cases hp
      exact lv_imul hexec hb hd (kk ls hl)
    · cases hp
  case iand =>
    have e1 : len = 1 := by rcases hlen with h | ⟨_, _, _, _, h⟩ | ⟨_, _, h⟩ <;> first | exact h | cases h
    subst e1
    simp only [mj_p, mj_oi] at hp
    split at hp
    · rename_i y x r
      simp only [mj_ii] at hp
      cases hp
      exact lv_iand hexec hb hd (kk ls hl)
    · cases hp
  case ior =>
    have e1 : len = 1 := by rcases hlen with h | ⟨_, _, _, _, h⟩ | ⟨_, _, h⟩ <;> first | exact h | cases h
    subst e1
    simp only [mj_p, mj_oi] at hp
    split at hp
    · rename_i y x r
      simp only [mj_ii] at hp
      cases hp
      exact lv_ior hexec hb hd (kk ls hl)
    · cases hp
  case ixor =>
    have e1 : len = 1 := by rcases hlen with h | ⟨_, _, _, _, h⟩ | ⟨_, _, h⟩ <;> first | exact h | cases h
    subst e1
    simp only [mj_p, mj_oi] at hp
    split at hp
    · rename_i y x r
      simp only [mj_ii] at hp
      cases hp
      exact lv_ixor hexec hb hd (kk ls hl)
    · cases hp
  case idiv =>
    have e1 : len = 1 := by rcases hlen with h | ⟨_, _, _, _, h⟩ | ⟨_, _, h⟩ <;> first | exact h | cases h
    subst e1
    simp only [mj_p, mj_oi] at hp
    split at hp
    · rename_i y x r
      simp only [mj_ii] at hp
      split at hp
      · cases hp
      · rename_i hy
        cases hp
        exact lv_idiv hexec hb hd hy (kk ls hl)
    · cases hp
  case irem =>
    have e1 : len = 1 := by rcases hlen with h | ⟨_, _, _, _, h⟩ | ⟨_, _, h⟩ <;> first | exact h | cases h
    subst e1
    simp only [mj_p, mj_oi] at hp
    split at hp
    · rename_i y x r
      simp only [mj_ii] at hp
      split at hp
      · cases hp
      · rename_i hy
        cases hp
        exact lv_irem hexec hb hd hy (kk ls hl)
    · cases hp
  case ishl =>
    have e1 : len = 1 := by rcases hlen with h | ⟨_, _, _, _, h⟩ | ⟨_, _, h⟩ <;> first | exact h | cases h
    subst e1
    simp only [mj_p, mj_oi] at hp
    split at hp
    · rename_i y x r
      simp only [mj_ii] at hp
      cases hp
      exact lv_ishl hexec hb hd (kk ls hl)
    · cases hp
  case ishr =>
    have e1 : len = 1 := by rcases hlen with h | ⟨_, _, _, _, h⟩ | ⟨_, _, h⟩ <;> first | exact h | cases h
    subst e1
    simp only [mj_p, mj_oi] at hp
    split at hp
    · rename_i y x r
      simp only [mj_ii] at hp
      cases hp
      exact lv_ishr hexec hb hd (kk ls hl)
    · cases hp
  case iushr =>
    have e1 : len = 1 := by rcases hlen with h | ⟨_, _, _, _, h⟩ | ⟨_, _, h⟩ <;> first | exact h | cases h
    subst e1
    simp only [mj_p, mj_oi] at hp
    split at hp
    · rename_i y x r
      simp only [mj_ii] at hp
      cases hp
      exact lv_iushr hexec hb hd rfl (kk ls hl)
    · cases hp
  case ladd =>
    have e1 : len = 1 := by rcases hlen with h | ⟨_, _, _, _, h⟩ | ⟨_, _, h⟩ <;> first | exact h | cases h
    subst e1
    simp only [mj_p, mj_oj] at hp
    split at hp
    · rename_i y x r
      simp only [mj_jj] at hp
      cases hp
      exact lv_ladd hexec hb hd (kk ls hl)
    · cases hp
  case lsub =>
    have e1 : len = 1 := by rcases hlen with h | ⟨_, _, _, _, h⟩ | ⟨_, _, h⟩ <;> first | exact h | cases h
    subst e1
    simp only [mj_p, mj_oj] at hp
    split at hp
    · rename_i y x r
      simp only [mj_jj] at hp
      cases hp
      exact lv_lsub hexec hb hd (kk ls hl)
    · cases hp
  case lmul =>
    have e1 : len = 1 := by rcases hlen with h | ⟨_, _, _, _, h⟩ | ⟨_, _, h⟩ <;> first | exact h | cases h
    subst e1
    simp only [mj_p, mj_oj] at hp
    split at hp
    · rename_i y x r
      simp only [mj_jj] at hp
      cases hp
      exact lv_lmul hexec hb hd (kk ls hl)
    · cases hp
  case land =>
    have e1 : len = 1 := by rcases hlen with h | ⟨_, _, _, _, h⟩ | ⟨_, _, h⟩ <;> first | exact h | cases h
    subst e1
    simp only [mj_p, mj_oj] at hp
    split at hp
    · rename_i y x r
      simp only [mj_jj] at hp
      cases hp
      exact lv_land hexec hb hd (kk ls hl)
    · cases hp
  case lor =>
    have e1 : len = 1 := by rcases hlen with h | ⟨_, _, _, _, h⟩ | ⟨_, _, h⟩ <;> first | exact h | cases h
    subst e1
    simp only [mj_p, mj_oj] at hp
    split at hp
    · rename_i y x r
      simp only [mj_jj] at hp
      cases hp
      exact lv_lor hexec hb hd (kk ls hl)
    · cases hp
  case lxor =>
    have e1 : len = 1 := by rcases hlen with h | ⟨_, _, _, _, h⟩ | ⟨_, _, h⟩ <;> first | exact h | cases h
    subst e1
    simp only [mj_p, mj_oj] at hp
    split at hp
    · rename_i y x r
      simp only [mj_jj] at hp
      cases hp
      exact lv_lxor hexec hb hd (kk ls hl)
    · cases hp
  case ldiv =>
    have e1 : len = 1 := by rcases hlen with h | ⟨_, _, _, _, h⟩ | ⟨_, _, h⟩ <;> first | exact h | cases h
    subst e1
    simp only [mj_p, mj_oj] at hp
    split at hp
    · rename_i y x r
      simp only [mj_jj] at hp
      split at hp
      · cases hp
      · rename_i hy
        cases hp
        exact lv_ldiv hexec hb hd hy (kk ls hl)
    · cases hp
  case lrem =>
    have e1 : len = 1 := by rcases hlen with h | ⟨_, _, _, _, h⟩ | ⟨_, _, h⟩ <;> first | exact h | cases h
    subst e1
    simp only [mj_p, mj_oj] at hp
    split at hp
    · rename_i y x r
      simp only [mj_jj] at hp
      split at hp
      · cases hp
      · rename_i hy
        cases hp
        exact lv_lrem hexec hb hd hy (kk ls hl)
    · cases hp
  case lshl =>
    have e1 : len = 1 := by rcases hlen with h | ⟨_, _, _, _, h⟩ | ⟨_, _, h⟩ <;> first | exact h | cases h
    subst e1
    simp only [mj_p] at hp
    split at hp
    · cases hp
      exact lv_lshl hexec hb hd rfl (kk ls hl)
    · cases hp
  case lshr =>
    have e1 : len = 1 := by rcases hlen with h | ⟨_, _, _, _, h⟩ | ⟨_, _, h⟩ <;> first | exact h | cases h
    subst e1
    simp only [mj_p] at hp
    split at hp
    · cases hp
      exact lv_lshr hexec hb hd rfl (kk ls hl)
    · cases hp
  case lushr =>
    have e1 : len = 1 := by rcases hlen with h | ⟨_, _, _, _, h⟩ | ⟨_, _, h⟩ <;> first | exact h | cases h
    subst e1
    simp only [mj_p] at hp
    split at hp
    · cases hp
      exact lv_lushr hexec hb hd rfl (kk ls hl)
    · cases hp
  case ineg =>
    have e1 : len = 1 := by rcases hlen with h | ⟨_, _, _, _, h⟩ | ⟨_, _, h⟩ <;> first | exact h | cases h
    subst e1
    simp only [mj_p] at hp
    split at hp
    · cases hp
      exact lv_ineg hexec hb hd (kk ls hl)
    · cases hp
  case lneg =>
    have e1 : len = 1 := by rcases hlen with h | ⟨_, _, _, _, h⟩ | ⟨_, _, h⟩ <;> first | exact h | cases h
    subst e1
    simp only [mj_p] at hp
    split at hp
    · cases hp
      exact lv_lneg hexec hb hd (kk ls hl)
    · cases hp
  case i2l =>
    have e1 : len = 1 := by rcases hlen with h | ⟨_, _, _, _, h⟩ | ⟨_, _, h⟩ <;> first | exact h | cases h
    subst e1
    simp only [mj_p] at hp
    split at hp
    · cases hp
      exact lv_i2l hexec hb hd rfl (kk ls hl)
    · cases hp
  case l2i =>
    have e1 : len = 1 := by rcases hlen with h | ⟨_, _, _, _, h⟩ | ⟨_, _, h⟩ <;> first | exact h | cases h
    subst e1
    simp only [mj_p] at hp
    split at hp
    · cases hp
      exact lv_l2i hexec hb hd rfl (kk ls hl)
    · cases hp
  case i2b =>
    have e1 : len = 1 := by rcases hlen with h | ⟨_, _, _, _, h⟩ | ⟨_, _, h⟩ <;> first | exact h | cases h
    subst e1
    simp only [mj_p] at hp
    split at hp
    · cases hp
      exact lv_i2b hexec hb hd rfl (kk ls hl)
    · cases hp
  case i2c =>
    have e1 : len = 1 := by rcases hlen with h | ⟨_, _, _, _, h⟩ | ⟨_, _, h⟩ <;> first | exact h | cases h
    subst e1
    simp only [mj_p] at hp
    split at hp
    · cases hp
      exact lv_i2c hexec hb hd rfl (kk ls hl)
    · cases hp
  case lcmp =>
    have e1 : len = 1 := by rcases hlen with h | ⟨_, _, _, _, h⟩ | ⟨_, _, h⟩ <;> first | exact h | cases h
    subst e1
    simp only [mj_p] at hp
    split at hp
    · cases hp
      exact W.lcmp hexec hb hd (kk ls hl)
    · cases hp
  case pop =>
    have e1 : len = 1 := by rcases hlen with h | ⟨_, _, _, _, h⟩ | ⟨_, _, h⟩ <;> first | exact h | cases h
    subst e1
    simp only [mj_p] at hp
    split at hp
    · split at hp
      · rename_i hc
        cases hp
        exact lv_pop hexec hb hd hc (kk ls hl)
      · cases hp
    · cases hp
  case dup =>
    have e1 : len = 1 := by rcases hlen with h | ⟨_, _, _, _, h⟩ | ⟨_, _, h⟩ <;> first | exact h | cases h
    subst e1
    simp only [mj_p] at hp
    split at hp
    · split at hp
      · rename_i hc
        cases hp
        exact lv_dup hexec hb hd hc (kk ls hl)
      · cases hp
    · cases hp
  case dup_x1 =>
    have e1 : len = 1 := by rcases hlen with h | ⟨_, _, _, _, h⟩ | ⟨_, _, h⟩ <;> first | exact h | cases h
    subst e1
    simp only [mj_p] at hp
    split at hp
    · split at hp
      · rename_i hc
        cases hp
        exact lv_dup_x1 hexec hb hd hc.1 hc.2 (kk ls hl)
      · cases hp
    · cases hp
  case dup_x2 =>
    have e1 : len = 1 := by rcases hlen with h | ⟨_, _, _, _, h⟩ | ⟨_, _, h⟩ <;> first | exact h | cases h
    subst e1
    simp only [mj_p] at hp
    split at hp
    · split at hp
      · rename_i hc
        cases hp
        exact lv_dup_x2 hexec hb hd hc.1 hc.2.1 hc.2.2 (kk ls hl)
      · cases hp
    · cases hp
  case dup2_x1 =>
    have e1 : len = 1 := by rcases hlen with h | ⟨_, _, _, _, h⟩ | ⟨_, _, h⟩ <;> first | exact h | cases h
    subst e1
    simp only [mj_p] at hp
    split at hp
    · split at hp
      · rename_i hc
        cases hp
        exact lv_dup2_x1_2 hexec hb hd rfl hc (kk ls hl)
      · cases hp
    · cases hp
  case dup2_x2 =>
    have e1 : len = 1 := by rcases hlen with h | ⟨_, _, _, _, h⟩ | ⟨_, _, h⟩ <;> first | exact h | cases h
    subst e1
    simp only [mj_p] at hp
    split at hp
    · split at hp
      · rename_i hc
        cases hp
        exact lv_dup2_x2_2 hexec hb hd rfl hc.1 hc.2 (kk ls hl)
      · cases hp
    · cases hp
  case dup2 =>
    have e1 : len = 1 := by rcases hlen with h | ⟨_, _, _, _, h⟩ | ⟨_, _, h⟩ <;> first | exact h | cases h
    subst e1
    simp only [mj_p] at hp
    split at hp
    · cases hp
      exact lv_dup2_2 hexec hb hd rfl (kk ls hl)
    · split at hp
      · rename_i hc
        cases hp
        exact lv_dup2_11 hexec hb hd hc.1 hc.2 (kk ls hl)
      · cases hp
    · cases hp
  case ifCond cnd off =>
    have e1 : len = 3 := by rcases hlen with h | ⟨_, _, _, _, h⟩ | ⟨_, _, h⟩ <;> first | exact h | cases h
    subst e1
    simp only [mj_p] at hp
    split at hp
    · simp only [mj_br] at hp
      cases ht : mj_tg pc off with
      | none => rw [ht] at hp; cases hp
      | some t =>
        rw [ht] at hp
        have ht := mj_tg_ok ht
        cases cnd <;> simp only [mj_c1, Option.map_some, Option.some.injEq, Prod.mk.injEq] at hp <;> obtain ⟨rfl, rfl, rfl⟩ := hp
        · exact lv_if_eq hexec hb hd ht (fun q => by simpa only [q, decide_true, cond_true] using kk ls hl) (fun q => by simpa only [q, decide_false, cond_false] using kk ls hl)
        · exact lv_if_ne hexec hb hd ht (fun q => by simpa [q] using kk ls hl) (fun q => by simpa [q] using kk ls hl)
        · exact lv_if_lt hexec hb hd ht (fun q => by simpa only [q, decide_true, cond_true] using kk ls hl) (fun q => by simpa only [q, decide_false, cond_false] using kk ls hl)
        · exact lv_if_ge hexec hb hd ht (fun q => by simpa only [q, decide_true, cond_true] using kk ls hl) (fun q => by simpa only [q, decide_false, cond_false] using kk ls hl)
        · exact lv_if_gt hexec hb hd ht (fun q => by simpa only [q, decide_true, cond_true] using kk ls hl) (fun q => by simpa only [q, decide_false, cond_false] using kk ls hl)
        · exact lv_if_le hexec hb hd ht (fun q => by simpa only [q, decide_true, cond_true] using kk ls hl) (fun q => by simpa only [q, decide_false, cond_false] using kk ls hl)
    · cases hp
  case if_icmp cnd off =>
    have e1 : len = 3 := by rcases hlen with h | ⟨_, _, _, _, h⟩ | ⟨_, _, h⟩ <;> first | exact h | cases h
    subst e1
    simp only [mj_p] at hp
    split at hp
    · simp only [mj_br] at hp
      cases ht : mj_tg pc off with
      | none => rw [ht] at hp; cases hp
      | some t =>
        rw [ht] at hp
        have ht := mj_tg_ok ht
        cases cnd <;> simp only [mj_c2, Option.map_some, Option.some.injEq, Prod.mk.injEq] at hp <;> obtain ⟨rfl, rfl, rfl⟩ := hp
        · exact lv_icmp_eq hexec hb hd ht (fun q => by simpa only [q, decide_true, cond_true] using kk ls hl) (fun q => by simpa only [q, decide_false, cond_false] using kk ls hl)
        · exact lv_icmp_ne hexec hb hd ht (fun q => by simpa [q] using kk ls hl) (fun q => by simpa [q] using kk ls hl)
        · exact lv_icmp_lt hexec hb hd ht (fun q => by simpa only [q, decide_true, cond_true] using kk ls hl) (fun q => by simpa only [q, decide_false, cond_false] using kk ls hl)
        · exact lv_icmp_ge hexec hb hd ht (fun q => by simpa only [q, decide_true, cond_true] using kk ls hl) (fun q => by simpa only [q, decide_false, cond_false] using kk ls hl)
        · exact lv_icmp_gt hexec hb hd ht (fun q => by simpa only [q, decide_true, cond_true] using kk ls hl) (fun q => by simpa only [q, decide_false, cond_false] using kk ls hl)
        · exact lv_icmp_le hexec hb hd ht (fun q => by simpa only [q, decide_true, cond_true] using kk ls hl) (fun q => by simpa only [q, decide_false, cond_false] using kk ls hl)
    · cases hp
  case ifnull off =>
    have e1 : len = 3 := by rcases hlen with h | ⟨_, _, _, _, h⟩ | ⟨_, _, h⟩ <;> first | exact h | cases h
    subst e1
    simp only [mj_p, mj_br] at hp
    cases ht : mj_tg pc off with
    | none => rw [ht] at hp; split at hp <;> cases hp
    | some t =>
      rw [ht] at hp
      have ht := mj_tg_ok ht
      split at hp
      · cases hp
        exact lv_ifnullN hexec hb hd ht (kk ls hl)
      · cases hp
        exact lv_ifnull hexec hb hd (kk ls hl)
      · cases hp
  case ifnonnull off =>
    have e1 : len = 3 := by rcases hlen with h | ⟨_, _, _, _, h⟩ | ⟨_, _, h⟩ <;> first | exact h | cases h
    subst e1
    simp only [mj_p, mj_br] at hp
    cases ht : mj_tg pc off with
    | none => rw [ht] at hp; split at hp <;> cases hp
    | some t =>
      rw [ht] at hp
      have ht := mj_tg_ok ht
      split at hp
      · cases hp
        exact lv_ifnonnullN hexec hb hd (kk ls hl)
      · cases hp
        exact lv_ifnonnull hexec hb hd ht (kk ls hl)
      · cases hp
  case goto off =>
    have e1 : len = 3 := by rcases hlen with h | ⟨_, _, _, _, h⟩ | ⟨_, _, h⟩ <;> first | exact h | cases h
    subst e1
    simp only [mj_p] at hp
    cases ht : mj_tg pc off with
    | none => rw [ht] at hp; cases hp
    | some t =>
      rw [ht] at hp
      cases hp
      exact lv_goto hexec hb hd (mj_tg_ok ht) (kk ls hl)
  case tableswitch dflt lo hi offs =>
    simp only [mj_p] at hp
    split at hp
    · rename_i x r
      split at hp
      · rename_i hx
        cases ht : mj_tg pc dflt with
        | none => rw [ht] at hp; cases hp
        | some t =>
          rw [ht] at hp
          cases hp
          exact lv_tableOut hexec hb hd hx (mj_tg_ok ht) (kk ls hl)
      · rename_i hx
        cases ho : offs[(x.toInt - lo).toNat]? with
        | none => rw [ho] at hp; cases hp
        | some o =>
          rw [ho, Option.bind_some] at hp
          cases ht : mj_tg pc o with
          | none => rw [ht] at hp; cases hp
          | some t =>
            rw [ht] at hp
            cases hp
            exact lv_tableIn hexec hb hd (fun q => hx (Or.inl q)) (fun q => hx (Or.inr q)) ho (mj_tg_ok ht) (kk ls hl)
    · cases hp
  case lookupswitch dflt ps =>
    simp only [mj_p] at hp
    split at hp
    · rename_i x r
      split at hp
      · rename_i hx
        cases ht : mj_tg pc (Op.lookupswitch.offset ps.toList dflt x.toInt) with
        | none => rw [ht] at hp; cases hp
        | some t =>
          rw [ht] at hp
          cases hp
          exact lv_lookup hexec hb hd hx rfl (mj_tg_ok ht) (kk ls hl)
      · cases hp
    · cases hp
  all_goals cases hp
end MJP
