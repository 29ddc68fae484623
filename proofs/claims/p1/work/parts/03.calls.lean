/-! CALLS: the callee's walk stands inside the caller's: it may return or throw. -/
def mj_oc : mj_O → Outcome
  | .inl v => .returned v
  | .inr a => .threw a
theorem mj_weaken {tb : Tables} {e : Env} {mid below : List Frame} {a b : State} (h : Steps tb e (mid ++ below) a b) : Steps tb e below a b := by
  obtain ⟨n, hn, w⟩ := h
  exact ⟨n, hn, fun k hk => (w k hk).weaken⟩
/-- an invocation's end: so it ends; nothing that was there has moved but places from the base on; at most k cells of n slots are new -/
def mj_MQ (below : List Frame) (base : Nat) (o : mj_O) (P : Heap → Prop) (s : State) (k n : Nat) : State → Prop := fun t =>
  ∃ L : List Loc, t.status = .running ∧ Ended t below (mj_oc o) ∧ s.WarmedH t.vm ∧ s.sameButNew ({ t with vm := s.vm } : State) L k n ∧ (∀ q ∈ L, base ≤ q.base) ∧ P t.heap
section MJC
variable {p : Program} {l : Launch} {e : Env} {R : Room} {s : State} {m : MethodId} {args : Array Value} {below : List Frame} {meth : Method} {c : Code} {H : Heap} {locs : List Loc} {cells slots : Nat} {Q : State → Prop} {T : State}
/-- the walk goes on with something thrown laid over the frame g -/
def mj_WT (p : Program) (l : Launch) (e : Env) (R : Room) (s : State) (m : MethodId) (args : Array Value) (below : List Frame) (meth : Method) (c : Code) (H : Heap) (locs : List Loc) (cells slots : Nat) (Q : State → Prop) (g : JFrame) (x : Addr) : Prop :=
  ∀ T : State, T.heap = H → Stand p l e R s m args below meth c T locs cells slots → ∃ t, Steps p.tables e below ((T.setTop g).pushFrame (.throwing x)) t ∧ Q t
theorem mj_W_mono {Q' : State → Prop} {g : JFrame} (h : ∀ t, Q t → Q' t) (k : W p l e R s m args below meth c H locs cells slots Q g) : W p l e R s m args below meth c H locs cells slots Q' g := by
  intro T hT X
  obtain ⟨t, a, b⟩ := k T hT X
  exact ⟨t, a, h t b⟩
/-- the callee's walk, out of which the caller comes back -/
theorem mj_into (X : Stand p l e R s m args below meth c T locs cells slots) (hT : T.heap = H) {g : JFrame} (hg : g.method = m) (hsize : g.locals.size = c.maxLocals) {ig : Instr} {len : Nat} (hdg : decode c.code g.pc = .ok (ig, len))
    {mk : MethodId} {methk : Method} {ck : Code} (a : Array Value) {R' : Room} (hmk : T.vm.method? mk = some methk) (hck : methk.code = some ck) (hlk : methk.locks = false) (hpk : T.plainMethod mk)
    (hframes : R'.frames + 1 ≤ R.frames) (hlocals : 2 * g.monitorRoom + (g.stack.map fun v => v.category).sum + (ck.maxLocals + 11) + R'.locals ≤ R.locals) (hcells : cells + R'.cells ≤ R.cells) (hslots : slots + R'.slots ≤ R.slots)
    {base : Nat} {o : mj_O} {P : Heap → Prop} {k n : Nat}
    (hW : W p l e R' (T.calling g mk a) mk a (.java g :: below) methk ck H [] 0 0 (mj_MQ (.java g :: below) base o P (T.calling g mk a) k n) (entryFrame mk a ck.maxLocals)) :
    ∃ (T' : State) (L : List Loc), Stand p l e R s m args below meth c T' (locs ++ L) (cells + k) (slots + n) ∧ (∀ q ∈ L, base ≤ q.base) ∧ P T'.heap ∧
      ∀ acts, match o with
        | .inl v => Steps p.tables e below (doInvoke e (T.setTop g) acts mk a).1 (T'.setTop { g with pc := g.pc + len, stack := v.toList ++ g.stack })
        | .inr x => Steps p.tables e below (doInvoke e (T.setTop g) acts mk a).1 ((T'.setTop g).pushFrame (.throwing x)) := by
  obtain ⟨Y₀, hin⟩ := X.into hg hsize hdg a (R' := R') hmk hck hlk hpk hframes hlocals hcells hslots
  obtain ⟨t, hst, L, -, hend, hWm, hsame, hL, hP⟩ := hW ((T.setTop g).pushFrame (.java (entryFrame mk a ck.maxLocals))) (show T.heap = H from hT) Y₀
  cases o with
  | inl v =>
    obtain ⟨T', X', -, -, ht⟩ := X.outOf hg hdg hend hWm hsame
    refine ⟨T', L, X', hL, ?_, fun acts => ?_⟩
    · rw [ht] at hP
      exact hP
    · show Steps p.tables e below _ (T'.setTop { g with pc := g.pc + len, stack := v.toList ++ g.stack })
      rw [← ht, hin acts]
      exact mj_weaken (mid := [.java g]) hst
  | inr x =>
    obtain ⟨T', X', -, -, ht⟩ := X.outOfThrown hg hend hWm hsame
    refine ⟨T', L, X', hL, ?_, fun acts => ?_⟩
    · rw [ht] at hP
      exact hP
    · show Steps p.tables e below _ ((T'.setTop g).pushFrame (.throwing x))
      rw [← ht, hin acts]
      exact mj_weaken (mid := [.java g]) hst
/-- what is known of a callee at its entry -/
def mj_Cal (y : MethodName) (bytes : ByteArray) (maxL : Nat) (ret : Option FieldType) (hh : List (Nat × Nat × Nat × Nat)) (s : State) (mk : MethodId) (methk : Method) (ck : Code) : Prop :=
  s.methodNamed? y = some mk ∧ s.vm.method? mk = some methk ∧ methk.code = some ck ∧ ck.code = bytes ∧ ck.maxLocals = maxL ∧ ck.exceptionTable.toList.map (fun h => (h.startPc, h.endPc, h.handlerPc, h.catchType)) = hh ∧ methk.sig.returnType = ret ∧ methk.locks = false ∧ parseMethodDescriptor y.desc = some methk.sig
/-- the word that lays a method's code -/
def mj_cw (y : MethodName) (bytes : ByteArray) (maxL : Nat) (ret : Option FieldType) (hh : List (Nat × Nat × Nat × Nat)) : Cond := match hh with
  | [] => .code y bytes maxL ret
  | _ => .codeWith y bytes maxL ret hh
theorem mj_cal_of {y : MethodName} {bytes : ByteArray} {maxL : Nat} {ret : Option FieldType} {hh : List (Nat × Nat × Nat × Nat)} {s : State} {args : Array Value} (h : (mj_cw y bytes maxL ret hh).before args s = true) : ∃ mk methk ck, mj_Cal y bytes maxL ret hh s mk methk ck := by
  cases hh with
  | nil =>
    obtain ⟨mk, hn⟩ := Cond.code_named (show (Cond.code y bytes maxL ret).before args s = true from h)
    obtain ⟨meth, c, h1, h2, h3, h4, h5, h6, h7, h8⟩ := Cond.code_spec hn (show (Cond.code y bytes maxL ret).before args s = true from h)
    refine ⟨mk, meth, c, hn, h1, h2, h3, h4, ?_, h5, h6, h8⟩
    have h0 : c.exceptionTable.size = 0 := by simpa [Array.isEmpty] using h7
    have h9 : c.exceptionTable.toList = [] := List.eq_nil_of_length_eq_zero (by simpa using h0)
    rw [h9]
    rfl
  | cons a b =>
    obtain ⟨mk, meth, c, hn, h1, h2, h3, h4, h5, h6, h7, h8⟩ := Cond.codeWith_spec (show (Cond.codeWith y bytes maxL ret (a :: b)).before args s = true from h)
    exact ⟨mk, meth, c, hn, h1, h2, h3, h4, h5, h6, h7, h8⟩
/-- THE CALL, whatever instruction makes it: hinv lays the callee's invocation over the frame; hcal is the callee's own walk -/
theorem mj_call {g : JFrame} (hg : g.method = m) (hsize : g.locals.size = c.maxLocals) {ig : Instr} {len : Nat} (hdg : decode c.code g.pc = .ok (ig, len)) {a : Array Value} {rest : List Value} {y : MethodName} {bytes : ByteArray} {maxL : Nat} {ret : Option FieldType} {hh : List (Nat × Nat × Nat × Nat)} {mk : MethodId} {methk : Method} {ck : Code} (hc : mj_Cal y bytes maxL ret hh s mk methk ck) (hy : plainFor y = true)
    (hinv : ∀ T : State, T.heap = H → Stand p l e R s m args below meth c T locs cells slots → ∃ vm', Stand p l e R s m args below meth c (T.setVm vm') locs cells slots ∧
      ∀ target, (∀ acts, Steps p.tables e below (doInvoke e ((T.setVm vm').setTop { g with stack := rest }) acts mk a).1 target) → Steps p.tables e below (T.setTop g) target)
    {R' : Room} (hframes : R'.frames + 1 ≤ R.frames) (hlocals : 2 * g.monitorRoom + (rest.map fun v => v.category).sum + (maxL + 11) + R'.locals ≤ R.locals) (hcells : cells + R'.cells ≤ R.cells) (hslots : slots + R'.slots ≤ R.slots)
    {base : Nat} {o : mj_O} {P : Heap → Prop} {k n : Nat}
    (hcal : ∀ s' : State, s'.heap = H → s.WarmedH s'.vm → mj_Cal y bytes maxL ret hh s' mk methk ck → W p l e R' s' mk a (.java { g with stack := rest } :: below) methk ck H [] 0 0 (mj_MQ (.java { g with stack := rest } :: below) base o P s' k n) (entryFrame mk a maxL))
    (kr : ∀ (v : Option Value) (H' : Heap) (L : List Loc), o = .inl v → (∀ q ∈ L, base ≤ q.base) → P H' → W p l e R s m args below meth c H' (locs ++ L) (cells + k) (slots + n) Q { g with pc := g.pc + len, stack := v.toList ++ rest })
    (kt : ∀ (x : Addr) (H' : Heap) (L : List Loc), o = .inr x → (∀ q ∈ L, base ≤ q.base) → P H' → mj_WT p l e R s m args below meth c H' (locs ++ L) (cells + k) (slots + n) Q { g with stack := rest } x) :
    W p l e R s m args below meth c H locs cells slots Q g := by
  intro T hT X
  obtain ⟨vm', X₁, st₁⟩ := hinv T hT X
  obtain ⟨c1, c2, c3, c4, c5, c6, c7, c8, c9⟩ := hc
  have hal : s.vm.Alike vm' := X₁.warmed.alike
  have hmk : (T.setVm vm').vm.method? mk = some methk := by show vm'.method? mk = some methk; rw [hal.method?]; exact c2
  have hn : (T.setVm vm').methodNamed? y = some mk := X₁.named c1
  have hpk : (T.setVm vm').plainMethod mk := State.plainMethod.of_named hy hn hmk
  have hcal' := hcal ((T.setVm vm').calling { g with stack := rest } mk a) hT X₁.warmed ⟨?_, hmk, c3, c4, c5, c6, c7, c8, c9⟩
  · rw [← c5] at hcal'
    obtain ⟨T', L, X', hL, hP, hst⟩ := mj_into (H := H) X₁ hT (g := { g with stack := rest }) hg hsize hdg a hmk c3 c8 hpk hframes (by rw [c5]; exact hlocals) hcells hslots hcal'
    cases o with
    | inl v =>
      obtain ⟨t, a1, b1⟩ := kr v T'.heap L rfl hL hP T' rfl X'
      exact ⟨t, st₁ _ (fun acts => (hst acts).trans a1), b1⟩
    | inr x =>
      obtain ⟨t, a1, b1⟩ := kt x T'.heap L rfl hL hP T' rfl X'
      exact ⟨t, st₁ _ (fun acts => (hst acts).trans a1), b1⟩
  · exact hn
abbrev mj_noMH (C : String) : Prop := C ≠ "java/lang/invoke/MethodHandle" ∧ C ≠ "java/lang/invoke/VarHandle"
/-- what an invoking instruction does: it lays the invocation of mk over the frame -/
def mj_Inv (p : Program) (l : Launch) (e : Env) (R : Room) (s : State) (m : MethodId) (args : Array Value) (below : List Frame) (meth : Method) (c : Code) (H : Heap) (locs : List Loc) (cells slots : Nat) (g : JFrame) (rest : List Value) (mk : MethodId) (a : Array Value) : Prop :=
  ∀ T : State, T.heap = H → Stand p l e R s m args below meth c T locs cells slots → ∃ vm', Stand p l e R s m args below meth c (T.setVm vm') locs cells slots ∧
      ∀ target, (∀ acts, Steps p.tables e below (doInvoke e ((T.setVm vm').setTop { g with stack := rest }) acts mk a).1 target) → Steps p.tables e below (T.setTop g) target
variable {own C owner host : String} {index : Nat} {x y : MethodName} {bytes : ByteArray} {maxL : Nat} {ret : Option FieldType} {hh : List (Nat × Nat × Nat × Nat)} {mk : MethodId} {methk : Method} {ck : Code} {g : JFrame} {As rest : List Value} {b : Addr} {cellB : Cell}
theorem mj_invS (hexec : p.tables.exec = Jvm.exec) (hown : s.vm.findClass own = some m.cls) (hlink : (Cond.methodLink own index y).before args s = true) (hstat : (Cond.static y).before args s = true) (hini : (Cond.initialized y.cls).before args s = true)
    (hc : mj_Cal y bytes maxL ret hh s mk methk ck) (hx : mj_noMH y.cls) (hg : g.method = m) (hlen : ∀ sig, parseMethodDescriptor y.desc = some sig → As.length = sig.parameters.length) (hstack : g.stack = As.reverse ++ rest) (hdg : decode c.code g.pc = .ok (.invokestatic index, 3)) :
    mj_Inv p l e R s m args below meth c H locs cells slots g rest mk As.toArray := by
  intro T hT X
  obtain ⟨c1, c2, -, -, -, -, -, -, c9⟩ := hc
  obtain ⟨kP, hkP, -⟩ := className_of_methodNamed c1
  have hinitP : kP.init = .initialized := Cond.initialized_spec (findClass_of_methodNamed c1) hkP hini
  exact X.invokestatic hexec hown hlink c1 c2 (Cond.static_spec c1 c2 hstat) hkP hinitP hx hg (hlen _ c9) hstack hdg
theorem mj_invSN (hexec : p.tables.exec = Jvm.exec) (hown : s.vm.findClass own = some m.cls) (hlink : (Cond.methodLinkNest own index y host).before args s = true) (hstat : (Cond.static y).before args s = true) (hini : (Cond.initialized y.cls).before args s = true)
    (hc : mj_Cal y bytes maxL ret hh s mk methk ck) (hx : mj_noMH y.cls) (hg : g.method = m) (hlen : ∀ sig, parseMethodDescriptor y.desc = some sig → As.length = sig.parameters.length) (hstack : g.stack = As.reverse ++ rest) (hdg : decode c.code g.pc = .ok (.invokestatic index, 3)) :
    mj_Inv p l e R s m args below meth c H locs cells slots g rest mk As.toArray := by
  intro T hT X
  obtain ⟨c1, c2, -, -, -, -, -, -, c9⟩ := hc
  obtain ⟨kP, hkP, -⟩ := className_of_methodNamed c1
  have hinitP : kP.init = .initialized := Cond.initialized_spec (findClass_of_methodNamed c1) hkP hini
  exact X.invokestaticNest hexec hown hlink c1 c2 (Cond.static_spec c1 c2 hstat) hkP hinitP hx hg (hlen _ c9) hstack hdg
theorem mj_invI (hexec : p.tables.exec = Jvm.exec) (hown : s.vm.findClass own = some m.cls) (hlink : (Cond.methodLink own index y).before args s = true) (hinst : (Cond.instanceMethod y).before args s = true) (hcode : (Cond.code y bytes maxL none).before args s = true)
    (hy1 : y.name = "<init>") (hn : s.methodNamed? y = some mk) (hx : mj_noMH y.cls) (hg : g.method = m) (hlen : ∀ sig, parseMethodDescriptor y.desc = some sig → As.length = sig.parameters.length) (hstack : g.stack = As.reverse ++ .ref b :: rest) (hdg : decode c.code g.pc = .ok (.invokespecial index, 3)) :
    mj_Inv p l e R s m args below meth c H locs cells slots g rest mk (Value.ref b :: As).toArray := by
  intro T hT X
  subst hg
  have hpl : e.platform.magicAccessors = ({} : Platform).magicAccessors := by rw [X.admits.platform]
  obtain ⟨mk', methM, cM, kP, vm₁, hnamed, -, -, -, -, -, -, -, hW₁, hstep₁⟩ := Steps.initColdArgs (e := e) X.here hexec X.warmed hpl hown hy1 hx hlink hinst hcode (f := g) rfl hlen hstack hdg
  cases hn.symm.trans hnamed
  exact ⟨vm₁, X.noted hW₁, hstep₁⟩
theorem mj_invIN (hexec : p.tables.exec = Jvm.exec) (hown : s.vm.findClass own = some m.cls) (hlink : (Cond.methodLinkNest own index y host).before args s = true) (hinst : (Cond.instanceMethod y).before args s = true) (hcode : (Cond.code y bytes maxL none).before args s = true)
    (hy1 : y.name = "<init>") (hn : s.methodNamed? y = some mk) (hx : mj_noMH y.cls) (hg : g.method = m) (hlen : ∀ sig, parseMethodDescriptor y.desc = some sig → As.length = sig.parameters.length) (hstack : g.stack = As.reverse ++ .ref b :: rest) (hdg : decode c.code g.pc = .ok (.invokespecial index, 3)) :
    mj_Inv p l e R s m args below meth c H locs cells slots g rest mk (Value.ref b :: As).toArray := by
  intro T hT X
  subst hg
  have hpl : e.platform.magicAccessors = ({} : Platform).magicAccessors := by rw [X.admits.platform]
  obtain ⟨mk', methM, cM, kP, vm₁, hnamed, -, -, -, -, -, -, -, hW₁, hstep₁⟩ := Steps.initColdArgsNest (e := e) X.here hexec X.warmed hpl hown hy1 hx hlink hinst hcode (f := g) rfl hlen hstack hdg
  cases hn.symm.trans hnamed
  exact ⟨vm₁, X.noted hW₁, hstep₁⟩
theorem mj_invV (hexec : p.tables.exec = Jvm.exec) (hown : s.vm.findClass own = some m.cls) (hlink : (Cond.methodLink own index y).before args s = true) (hinst : (Cond.instanceMethod y).before args s = true) (hsel : (Cond.selects C y y).before args s = true)
    (hc : mj_Cal y bytes maxL ret hh s mk methk ck) (hx : mj_noMH y.cls) (hcell : H[b]? = some cellB) (hobj : cellB.vm.isStatics = false) (hcls : s.vm.findClass C = some cellB.cls)
    (hg : g.method = m) (hlen : ∀ sig, parseMethodDescriptor y.desc = some sig → As.length = sig.parameters.length) (hstack : g.stack = As.reverse ++ .ref b :: rest) (hdg : decode c.code g.pc = .ok (.invokevirtual index, 3)) :
    mj_Inv p l e R s m args below meth c H locs cells slots g rest mk (Value.ref b :: As).toArray := by
  intro T hT X
  obtain ⟨c1, c2, -, -, -, -, -, -, c9⟩ := hc
  obtain ⟨mk', methM, hnamed, hmethM, hstM, habM⟩ := Cond.instanceMethod_spec hinst
  cases c1.symm.trans hnamed
  cases c2.symm.trans hmethM
  obtain ⟨c2', r2, m2, q1, q2, q3, q4, kP, hkP, hkPi⟩ := Cond.selects_spec hsel
  cases hcls.symm.trans q1
  cases (State.methodFound?_of_named hnamed hx).symm.trans q2
  cases hnamed.symm.trans q3
  have hselP : selectMethod e.platform s.vm cellB.cls mk = .method mk := by rw [Launch.admits_selectMethod X.admits]; exact q4
  exact X.invokevirtual hexec hown hlink hnamed hmethM hstM hkP hkPi hx (a := b) (cell := cellB) (by rw [hT]; exact hcell) (fun z h => by rw [h] at hobj; cases hobj) hselP hmethM habM hkP hkPi (g := g) hg (argsL := As) (rest := rest) (hlen _ c9) hstack hdg
theorem mj_invVN (hexec : p.tables.exec = Jvm.exec) (hown : s.vm.findClass own = some m.cls) (hlink : (Cond.methodLinkNest own index y host).before args s = true) (hinst : (Cond.instanceMethod y).before args s = true) (hsel : (Cond.selects C y y).before args s = true)
    (hc : mj_Cal y bytes maxL ret hh s mk methk ck) (hx : mj_noMH y.cls) (hcell : H[b]? = some cellB) (hobj : cellB.vm.isStatics = false) (hcls : s.vm.findClass C = some cellB.cls)
    (hg : g.method = m) (hlen : ∀ sig, parseMethodDescriptor y.desc = some sig → As.length = sig.parameters.length) (hstack : g.stack = As.reverse ++ .ref b :: rest) (hdg : decode c.code g.pc = .ok (.invokevirtual index, 3)) :
    mj_Inv p l e R s m args below meth c H locs cells slots g rest mk (Value.ref b :: As).toArray := by
  intro T hT X
  obtain ⟨c1, c2, -, -, -, -, -, -, c9⟩ := hc
  obtain ⟨mk', methM, hnamed, hmethM, hstM, habM⟩ := Cond.instanceMethod_spec hinst
  cases c1.symm.trans hnamed
  cases c2.symm.trans hmethM
  obtain ⟨c2', r2, m2, q1, q2, q3, q4, kP, hkP, hkPi⟩ := Cond.selects_spec hsel
  cases hcls.symm.trans q1
  cases (State.methodFound?_of_named hnamed hx).symm.trans q2
  cases hnamed.symm.trans q3
  have hselP : selectMethod e.platform s.vm cellB.cls mk = .method mk := by rw [Launch.admits_selectMethod X.admits]; exact q4
  exact X.invokevirtualNest hexec hown hlink hnamed hmethM hstM hkP hkPi hx (a := b) (cell := cellB) (by rw [hT]; exact hcell) (fun z h => by rw [h] at hobj; cases hobj) hselP hmethM habM hkP hkPi (g := g) hg (argsL := As) (rest := rest) (hlen _ c9) hstack hdg
theorem mj_invVU (hexec : p.tables.exec = Jvm.exec) (hown : s.vm.findClass own = some m.cls) (hlink : (Cond.methodLink own index x).before args s = true) (hsame : (Cond.sameMethod x.cls owner x.name x.desc).before args s = true) (hd0 : va_Decl s ⟨owner, x.name, x.desc⟩) (howner : mj_noMH owner)
    (hsel : (Cond.selects C x y).before args s = true) (hinst : (Cond.instanceMethod y).before args s = true) (hn : s.methodNamed? y = some mk) (hcell : H[b]? = some cellB) (hobj : cellB.vm.isStatics = false) (hcls : s.vm.findClass C = some cellB.cls)
    (hg : g.method = m) (hlen : ∀ sig, parseMethodDescriptor x.desc = some sig → As.length = sig.parameters.length) (hstack : g.stack = As.reverse ++ .ref b :: rest) (hdg : decode c.code g.pc = .ok (.invokevirtual index, 3)) :
    mj_Inv p l e R s m args below meth c H locs cells slots g rest mk (Value.ref b :: As).toArray := by
  intro T hT X
  obtain ⟨r0, r, hnx, hrm, hstR, hsigR⟩ := hd0
  obtain ⟨cn, ckk, r1, hcn, hck, hni, hf, hn1⟩ := Cond.sameMethod_found hsame
  cases hnx.symm.trans hn1
  obtain ⟨mk', methM, hnamed, hmethM, -, habM⟩ := Cond.instanceMethod_spec hinst
  cases hn.symm.trans hnamed
  obtain ⟨c2, r2, m2, q1, q2, q3, q4, kP, hkP, hkPi⟩ := Cond.selects_spec hsel
  cases hcls.symm.trans q1
  cases hf.symm.trans q2
  cases hnamed.symm.trans q3
  have hselP : selectMethod e.platform s.vm cellB.cls r0 = .method mk := by rw [Launch.admits_selectMethod X.admits]; exact q4
  exact X.invokevirtualUp hexec hown hlink hsame howner hnx hrm hstR (a := b) (cell := cellB) (by rw [hT]; exact hcell) (fun z h => by rw [h] at hobj; cases hobj) hselP hmethM habM hkP hkPi (g := g) hg (argsL := As) (rest := rest) (hlen _ hsigR) hstack hdg
/-- super.m(..) -/
theorem mj_invSU (hexec : p.tables.exec = Jvm.exec) (hown : s.vm.findClass own = some m.cls) (hlink : (Cond.methodLink own index y).before args s = true) (hsame : (Cond.sameMethod y.cls y.cls y.name y.desc).before args s = true) (hsup : (Cond.superclass own y.cls).before args s = true)
    (hinst : (Cond.instanceMethod y).before args s = true) (hno : y.name ≠ "<init>") (hc : mj_Cal y bytes maxL ret hh s mk methk ck) {kB : Class} (hcell : H[b]? = some cellB) (hobj : cellB.vm.isStatics = false) (hkB : s.vm.classes[cellB.cls]? = some kB)
    (hg : g.method = m) (hlen : ∀ sig, parseMethodDescriptor y.desc = some sig → As.length = sig.parameters.length) (hstack : g.stack = As.reverse ++ .ref b :: rest) (hdg : decode c.code g.pc = .ok (.invokespecial index, 3)) :
    mj_Inv p l e R s m args below meth c H locs cells slots g rest mk (Value.ref b :: As).toArray := by
  intro T hT X
  obtain ⟨c1, c2, -, -, -, -, -, -, c9⟩ := hc
  obtain ⟨mk', methM, hnamed, hmethM, hstM, habM⟩ := Cond.instanceMethod_spec hinst
  cases c1.symm.trans hnamed
  cases c2.symm.trans hmethM
  obtain ⟨ps, dk, kp, hps, hdk, hkp, hsuper, -, -, hnid⟩ := Cond.superclass_spec hown hsup
  have hn : s.methodNamed? ⟨y.cls, y.name, y.desc⟩ = some mk := hnamed
  have hpm : ps = mk.cls := Option.some.inj (hps.symm.trans (findClass_of_methodNamed hnamed))
  have hsub : s.vm.isSubclass ps mk.cls = true := by rw [hpm]; simp [Vm.isSubclass, Vm.isSubclassAux]
  obtain ⟨vm₁, X₁, st⟩ := X.invokespecialUp hexec hown hlink hsame hn hmethM hstM habM hno hdk hnid hps hsuper hsub (a := b) (cell := cellB) (by rw [hT]; exact hcell) (fun z h => by rw [h] at hobj; cases hobj) hkB (g := g) hg (argsL := As) (rest := rest) (hlen _ c9) hstack hdg
  exact ⟨vm₁, X₁, fun target h => st target (h [])⟩
/-- a private method of a class above the object's -/
theorem mj_invVP (hexec : p.tables.exec = Jvm.exec) (hown : s.vm.findClass own = some m.cls) (hlink : (Cond.methodLink own index y).before args s = true) (hsame : (Cond.sameMethod y.cls y.cls y.name y.desc).before args s = true) (hinst : (Cond.instanceMethod y).before args s = true) (hpriv : (Cond.privateMethod y).before args s = true)
    (hc : mj_Cal y bytes maxL ret hh s mk methk ck) (hx : mj_noMH y.cls) (hcell : H[b]? = some cellB) (hobj : cellB.vm.isStatics = false)
    (hg : g.method = m) (hlen : ∀ sig, parseMethodDescriptor y.desc = some sig → As.length = sig.parameters.length) (hstack : g.stack = As.reverse ++ .ref b :: rest) (hdg : decode c.code g.pc = .ok (.invokevirtual index, 3)) :
    mj_Inv p l e R s m args below meth c H locs cells slots g rest mk (Value.ref b :: As).toArray := by
  intro T hT X
  obtain ⟨c1, c2, -, -, -, -, -, -, c9⟩ := hc
  obtain ⟨mk', methM, hnamed, hmethM, hstM, habM⟩ := Cond.instanceMethod_spec hinst
  cases c1.symm.trans hnamed
  cases c2.symm.trans hmethM
  obtain ⟨cn, ckk, r1, hcn, hck, hni, hf, hn1⟩ := Cond.sameMethod_found hsame
  have hpm : cn = mk.cls := Option.some.inj (hcn.symm.trans (findClass_of_methodNamed hnamed))
  subst hpm
  have hp : methk.isPrivate = true := Cond.privateMethod_at hpriv mk methk hnamed hmethM
  exact X.invokevirtual hexec hown hlink hnamed hmethM hstM hck hni hx (a := b) (cell := cellB) (by rw [hT]; exact hcell) (fun z h => by rw [h] at hobj; cases hobj) (selectMethod_private hmethM hp) hmethM habM hck hni (g := g) hg (argsL := As) (rest := rest) (hlen _ c9) hstack hdg
/-- nothing catches it: the method ends by it -/
theorem mj_leaves {base : Nat} {P : Heap → Prop} {z : Addr} (hlocks : meth.locks = false) (hg : g.method = m) (hlk : g.locked = none) (hen : g.entered = []) (hout : ∀ q ∈ c.exceptionTable.toList, covers q g.pc = false) (hL : ∀ q ∈ locs, base ≤ q.base) (hP : P H) :
    mj_WT p l e R s m args below meth c H locs cells slots (mj_MQ below base (.inr z) P s cells slots) g z := by
  intro T hT X
  obtain ⟨h1, h2, h3, h4, h5⟩ := X.leaveThrown z hg hlk hen hout hlocks
  exact ⟨_, h1, locs, h2, h3, h4, h5, hL, by show P T.heap; rw [hT]; exact hP⟩
/-- athrow, in a method that catches nothing there -/
theorem mj_athrow {cc : ByteArray} {pc : Nat} {ls : Array Slot} {z : Addr} (hexec : p.tables.exec = Jvm.exec) (hb : c.code = cc) (hdg : decode cc pc = .ok (.athrow, 1)) (k : mj_WT p l e R s m args below meth c H locs cells slots Q (F0 m pc ls rest) z) : W p l e R s m args below meth c H locs cells slots Q (F0 m pc ls (.ref z :: rest)) := by
  intro T hT X
  obtain ⟨t, a, b⟩ := k T hT X
  refine ⟨t, ?_, b⟩
  jvm_step X.here [X.here.top, hexec, hb, hdg, athrow.wp_sem]
  exact a
/-- a handler of the method's own -/
theorem mj_caught {z : Addr} {hpc : Nat} (hg : g.method = m) (hfind : ∀ T : State, T.heap = H → Stand p l e R s m args below meth c T locs cells slots → Finds e ((T.setTop g).pushFrame (.throwing z)) g z (.found hpc)) (k : W p l e R s m args below meth c H locs cells slots Q { g with pc := hpc, stack := [.ref z] }) :
    mj_WT p l e R s m args below meth c H locs cells slots Q g z := by
  intro T hT X
  obtain ⟨t, a, b⟩ := k T hT X
  exact ⟨t, Steps.caught (by rw [hg]; exact X.here) (hfind T hT X) a, b⟩
end MJC
