/-! STATICS, THROWS OF THE CLASS, HANDLERS OF THE LAW -/
/-- a static that nobody writes, below the base -/
def mj_Zs (C n d : String) (v : Value) (base : Nat) (HB : Heap) (U : State) : Prop := ∃ (c : ClassId) (k : Class) (i : Nat) (f : Field) (a : Nat) (cell : Cell), U.vm.findClass C = some c ∧ U.fieldFound? C n d = some (c, k, i, f) ∧ f.isStatic = true ∧ k.init = .initialized ∧ k.statics = some a ∧ HB[a]? = some cell ∧ cell.vm.isStatics = true ∧ cell.cls = c ∧ f.slot < cell.slots.size ∧ k.staticTypes[f.slot]? = some f.type ∧ cell.slots[f.slot]? = some v ∧ a < base
theorem mj_Zs_moved {C n d : String} {v : Value} {base : Nat} {HB : Heap} {u U : State} (hvm : u.vm.Alike U.vm) (h : mj_Zs C n d v base HB u) : mj_Zs C n d v base HB U := by
  obtain ⟨c, k, i, f, a, cell, h0, h1, h2, h3, h4, h5, h6, h7, h8, h9, h10⟩ := h
  obtain ⟨k', hi', he⟩ := State.fieldFound?_setVm hvm h1
  exact ⟨c, k', i, f, a, cell, by rw [hvm.findClass]; exact h0, hi', h2, by rw [he]; exact h3, by rw [he]; exact h4, h5, h6, h7, h8, by rw [he]; exact h9, h10⟩
theorem mj_Zs_of {args : Array Value} {s : State} {C n d : String} {v : Value} (hl : (Cond.laysStatic C n d).before args s = true) (hini : (Cond.initialized C).before args s = true) (hv : (Term.static C n d).eval args s none [] s = some v) : mj_Zs C n d v s.heap.size s.heap s := by
  obtain ⟨c, k, i, f, a, cell, hc, hi, hst, ha, hcell, hs, hcls, hlt, hty⟩ := Cond.laysStatic_spec hl
  obtain ⟨hst', a', cell', ha', hcell', -, hslot⟩ := Term.static_spec hi hv
  cases ha.symm.trans ha'
  cases hcell.symm.trans hcell'
  exact ⟨c, k, i, f, a, cell, hc, hi, hst, Cond.initialized_spec hc (State.fieldFound?_spec hi).1 hini, ha, hcell, hs, hcls, hlt, hty, hslot, (Array.getElem?_eq_some_iff.mp hcell).1⟩
theorem mj_Zs_lays {args : Array Value} {C n d : String} {v : Value} {base : Nat} {HB : Heap} {U : State} (h : mj_Zs C n d v base HB U) (hU : ∀ q : Nat, q < base → U.heap[q]? = HB[q]?) : (Cond.laysStatic C n d).before args U = true := by
  obtain ⟨c, k, i, f, a, cell, h0, h1, h2, h3, h4, h5, h6, h7, h8, h9, h10, h11⟩ := h
  have h5' : U.heap[a]? = some cell := by rw [hU a h11]; exact h5
  simp only [Cond.before, Cond.holds, Cond.value, h0, h1, h4, Option.bind_some, h5', Option.map_some, h2, h6, h7, h9]
  simp [h8]
theorem mj_Zs_ref {args : Array Value} {C n d : String} {v : Value} {base : Nat} {HB : Heap} {U : State} (h : mj_Zs C n d v base HB U) (hv : v = .null ∨ ∃ t, v = .ref t) (hU : ∀ q : Nat, q < base → U.heap[q]? = HB[q]?) : (Cond.isRef (.static C n d)).before args U = true := by
  obtain ⟨c, k, i, f, a, cell, h0, h1, h2, h3, h4, h5, h6, h7, h8, h9, h10, h11⟩ := h
  have h5' : U.heap[a]? = some cell := by rw [hU a h11]; exact h5
  have he : (Term.static C n d).eval args U none [] U = some v := by
    simp only [Term.eval, State.fieldNamed?, h1, Option.bind_eq_bind, Option.bind_some, h2, beq_self_eq_true, if_true, Option.pure_def, h4, h5', h6]
    exact h10
  rcases hv with rfl | ⟨t, rfl⟩ <;> simp [Cond.before, Cond.holds, Cond.value, he]
/-- a class is no subclass of another -/
def mj_NC (A B : String) (s : State) : Prop := ∃ ca cb, s.vm.findClass A = some ca ∧ s.vm.findClass B = some cb ∧ s.vm.assignable ca cb = false
theorem mj_NC_moved {A B : String} {u U : State} (hvm : u.vm.Alike U.vm) (h : mj_NC A B u) : mj_NC A B U := by
  obtain ⟨ca, cb, h1, h2, h3⟩ := h
  exact ⟨ca, cb, by rw [hvm.findClass]; exact h1, by rw [hvm.findClass]; exact h2, by rw [hvm.assignable]; exact h3⟩
theorem mj_NC_of {A B : String} {args : Array Value} {s : State} (h : (Cond.not (Cond.castable A B)).before args s = true) : mj_NC A B s := by
  simp only [Cond.before, Cond.holds, Cond.value] at h
  cases h1 : s.vm.findClass A with
  | none => simp [h1] at h
  | some ca =>
    cases h2 : s.vm.findClass B with
    | none => simp [h1, h2] at h
    | some cb =>
      refine ⟨ca, cb, h1, h2, ?_⟩
      simpa [h1, h2] using h
section MJX
variable {p : Program} {l : Launch} {e : Env} {R : Room} {s : State} {m : MethodId} {args : Array Value} {below : List Frame} {meth : Method} {c : Code} {H : Heap} {locs : List Loc} {cells slots : Nat} {Q : State → Prop}
variable {cc : ByteArray} {pc : Nat} {ls : Array Slot} {rest : List Value} {D : va_G} {cl : List vw_C} {dA : FieldType → ClassId} {tys : List FieldType} {base : Nat} {HB : Heap} {h : mj_H} {own : String}
theorem mj_gets (hexec : p.tables.exec = Jvm.exec) (hb : c.code = cc) {C n d : String} {v : Value} {index : Nat} (hZ : mj_Zs C n d v base HB s) (hR : mj_Rel D cl dA tys base HB h H) (hown : s.vm.findClass own = some m.cls) (hlink : (Cond.fieldLink own index C n d).before args s = true) (hdg : decode cc pc = .ok (.getstatic index, 3))
    (kk : W p l e R s m args below meth c H locs cells slots Q (F0 m (pc + 3) ls (v :: rest))) : W p l e R s m args below meth c H locs cells slots Q (F0 m pc ls rest) := by
  obtain ⟨cf, k, i, f, a, cell, h0, h1, h2, h3, h4, h5, h6, h7, h8, h9, h10, h11⟩ := hZ
  exact W.gets hexec hb hown hlink h1 h2 h3 h4 (by rw [hR.2.2.1 a h11]; exact h5) (fun e => by rw [e] at h6; cases h6) h10 rfl hdg kk
set_option maxHeartbeats 2000000 in
/-- an exception of the class's own is made and thrown -/
theorem mj_throw (hexec : p.tables.exec = Jvm.exec) (hb : c.code = cc) (hfl : l.flags = pinnedFlags ++ [noTraceFlag]) {X tx : String} {names : List String} {ic idx il qs ci : Nat} {T0 : u_T}
    (hown : s.vm.findClass own = some m.cls) (hfitX : Bundle.fit X = true) (hnames : ∀ n ∈ names, Bundle.fit n = true) (hnl : names.length = 2) (hat : ∀ a ∈ Bundle.ownAtoms own ic X names, a.before args s = true) (hclink : (Cond.classLink own idx X).before args s = true) (hini : (Cond.initialized X).before args s = true) (hZ : vk_R own il tx qs s)
    (hR : mj_Rel D cl dA tys base HB h H) (hK : va_K D cl [] s) (hcl : cl[ci]? = some (X, T0, 0)) (hL : ∀ q ∈ locs, base ≤ q.base) (hml : ls.size = c.maxLocals) (hfr : 12 ≤ R.frames) (hlo : 200 ≤ R.locals) (hw : mj_wt rest ≤ 20) (hcells : cells + 1 ≤ R.cells) (hslots : slots + 6 ≤ R.slots)
    (d0 : decode cc pc = .ok (.new idx, 3)) (d3 : decode cc (pc + 3) = .ok (.dup, 1)) (d4 : decode cc (pc + 4) = .ok (.ldc il, 2)) (d6 : decode cc (pc + 6) = .ok (.invokespecial ic, 3)) (d9 : decode cc (pc + 9) = .ok (.athrow, 1))
    (kk : ∀ (H' : Heap) (L : List Loc), mj_Rel D cl dA tys base HB (mj_new h 6 (.inr (ci, []))) H' → (∀ z ∈ L, base ≤ z.base) → mj_WT p l e R s m args below meth c H' (locs ++ L) (cells + 1) (slots + 6) Q (F0 m (pc + 9) ls rest) h.2.1) : W p l e R s m args below meth c H locs cells slots Q (F0 m pc ls rest) := by
  intro T hT X0
  obtain ⟨vm', cX, kX, hfX, hkX, -, -, X1, st⟩ := X0.newCold hexec hown hclink (hat (.instantiable X 6) (by simp [Bundle.ownAtoms])) hini (g := F0 m pc ls rest) rfl (by rw [hb]; exact d0) hcells hslots
  have hlocs : ∀ x ∈ locs, ∀ cell, s.heap[x.base]? = some cell → cell.vm.isStatics = false := by
    intro x hx cell hcell
    obtain ⟨c', h1, h2, -⟩ := X0.same.2.2.2.2.2 _ _ hcell
    have h1' : H[x.base]? = some c' := by rw [← hT]; exact h1
    have hlt : x.base < h.2.1 := by rw [← hR.1]; exact (Array.getElem?_eq_some_iff.mp h1').1
    obtain ⟨y, hy⟩ := hR.2.2.2.2 x.base (hL x hx) hlt
    obtain ⟨cell2, g1, g2⟩ := mj_at_vm (hR.2.2.2.1 _ _ hy).2
    have e1 : c' = cell2 := Option.some.inj (h1'.symm.trans g1)
    have e2 : c'.vm = cell.vm := by rw [h2]
    rw [← e2, e1, g2]
    rfl
  have hsz : s.heap.size ≤ H.size := by rw [← hT]; exact X0.same.2.1
  have hcX : cX = D.1 ci := Option.some.inj (hfX.symm.trans (hK.1 ci _ hcl).2.1)
  have K : W p l e R s m args below meth c (H.push (freshCell cX kX)) locs (cells + 1) (slots + 6) Q (F0 m (pc + 3) ls (.ref H.size :: rest)) := by
    refine lv_dup hexec hb d3 rfl ?_
    refine va_ldcS hexec hb hown hZ d4 ?_
    refine mj_ctor hexec hb (Launch.traces_off hfl X0.admits) hown hfitX hnames hat hlocs hfX hkX (a := H.size) (by simp) hsz rfl hml d6 (by omega) (by
      have h1 : ((Value.ref H.size :: rest).map fun v => v.category).sum = 1 + mj_wt rest := rfl
      rw [h1, hnl]; omega) fun cell L e1 e2 e3 => ?_
    refine mj_athrow hexec hb d9 ?_
    have := kk ((H.push (freshCell cX kX)).setIfInBounds H.size cell) L (mj_Rel_new hR (by simp) (fun q hq => by rw [Array.getElem?_setIfInBounds, if_neg (Nat.ne_of_gt hq), Array.getElem?_push, if_neg (Nat.ne_of_lt hq)]) ⟨_, hcl, rfl, cell, by simp, by rw [e1, hcX], e2, fun k hk => absurd hk (Nat.not_lt_zero _)⟩) (fun z hz => by rw [e3 z hz, hR.1]; exact hR.2.1)
    rw [← hR.1] at this
    exact this
  obtain ⟨t, a1, b1⟩ := K ((T.setVm vm').pushCell (freshCell cX kX)) (by rw [← hT]; rfl) X1
  exact ⟨t, st t (by rw [hT]; exact a1), b1⟩
/-- what a method's handler takes -/
theorem mj_hand {A : String} {T0 : u_T} {N ci z : Nat} {fs : List Value} {hh : List (Nat × Nat × Nat × Nat)} (hR : mj_Rel D cl dA tys base HB h H) (hK : va_K D cl [] s) (hz : h.1 z = some (.inr (ci, fs))) (hcl : cl[ci]? = some (A, T0, N)) (hown : s.vm.findClass own = some m.cls)
    (htab : c.exceptionTable.toList.map (fun h => (h.startPc, h.endPc, h.handlerPc, h.catchType)) = hh) (pre : List (Nat × Nat × Nat × Nat)) (x : Nat × Nat × Nat × Nat) (post : List (Nat × Nat × Nat × Nat)) (hsplit : hh = pre ++ x :: post)
    (hpass : ∀ y ∈ pre, (y.1 ≤ pc ∧ pc < y.2.1) ∧ y.2.2.2 ≠ 0 ∧ ∃ B, (Cond.classLink own y.2.2.2 B).before args s = true ∧ mj_NC A B s) (hx : x.1 ≤ pc ∧ pc < x.2.1) (h0 : x.2.2.2 ≠ 0) (hxl : (Cond.classLink own x.2.2.2 A).before args s = true)
    (k : W p l e R s m args below meth c H locs cells slots Q (F0 m x.2.2.1 ls [.ref z])) : mj_WT p l e R s m args below meth c H locs cells slots Q (F0 m pc ls rest) z := by
  intro T hT X
  have hpl : e.platform.magicAccessors = ({} : Platform).magicAccessors := by rw [X.admits.platform]
  rw [hsplit] at htab
  obtain ⟨p1, p2, e1, e2, e3⟩ := List.map_eq_append_iff.mp htab
  obtain ⟨x1, p3, e4, e5, e6⟩ := List.map_eq_cons_iff.mp e3
  subst e4
  obtain ⟨-, r, r1, -, cell, r3, r4, r5, -⟩ := hR.2.2.2.1 z _ hz
  obtain ⟨-, hfc, kC, hkC, -⟩ := hK.1 ci _ hcl
  obtain ⟨cA, f1, f2⟩ := Cond.classLink_spec hown hxl e.platform hpl
  have eA : cA = D.1 ci := Option.some.inj (f1.symm.trans hfc)
  subst eA
  have hcell : cell.cls = D.1 ci := r4
  have ex1 : x1.startPc = x.1 ∧ x1.endPc = x.2.1 ∧ x1.handlerPc = x.2.2.1 ∧ x1.catchType = x.2.2.2 := by rw [← e5]; exact ⟨rfl, rfl, rfl, rfl⟩
  refine mj_WT_catch (g := F0 m pc ls rest) rfl r3 (by rw [r5]; rfl) (by rw [hcell]; exact ⟨kC, hkC⟩) p1 x1 p3 e1 (fun y hy => ?_) (by simp only [covers, Bool.and_eq_true, decide_eq_true_eq]; rw [ex1.1, ex1.2.1]; exact hx) (by rw [ex1.2.2.2]; exact h0) (cc := D.1 ci) (by rw [ex1.2.2.2]; exact f2) (by rw [hcell]; exact va_asg _ _) (by rw [ex1.2.2.1]; exact k) T hT X
  obtain ⟨g1, g2, B, g3, ca, cb, g4, g5, g6⟩ := hpass (y.startPc, y.endPc, y.handlerPc, y.catchType) (by rw [← e2]; exact List.mem_map.mpr ⟨y, hy, rfl⟩)
  obtain ⟨cB, f3, f4⟩ := Cond.classLink_spec hown g3 e.platform hpl
  have eB : cB = cb := Option.some.inj (f3.symm.trans g5)
  have eC : ca = D.1 ci := Option.some.inj (g4.symm.trans hfc)
  subst eB
  subst eC
  exact ⟨by simp only [covers, Bool.and_eq_true, decide_eq_true_eq]; exact g1, g2, cB, f4, by rw [hcell]; exact g6⟩
end MJX
