/-! ARRAYS OF ARRAYS, CLONES, CASTS OF ARRAYS -/
theorem mj_Rel_mul {D : va_G} {cl : List vw_C} {dA : FieldType → ClassId} {tys : List FieldType} {base : Nat} {HB : Heap} {h : mj_H} {H H' : Heap} {n k : Nat} (hR : mj_Rel D cl dA tys base HB h H) (hz : H'.size = H.size + 1 + n) (hq : ∀ q : Nat, q < H.size → H'[q]? = H[q]?)
    (t1 : FieldType.array .long ∈ tys) (t2 : FieldType.long ∈ tys) (hx : H'[H.size]? = some { cls := dA (.array .long), slots := ((List.range n).map (fun i => Value.ref (H.size + 1 + i))).toArray, vm := .none }) (hy : ∀ i, i < n → H'[H.size + 1 + i]? = some { cls := dA .long, slots := (List.replicate k (Value.long 0)).toArray, vm := .none }) : mj_Rel D cl dA tys base HB (mj_mul h n k) H' := by
  obtain ⟨h1, h2, h3, h4, h5⟩ := hR
  refine ⟨by rw [hz, h1]; rfl, by show base ≤ h.2.1 + 1 + n; omega, fun q hb => ?_, fun b y hy0 => ?_, fun b hb1 hb2 => ?_⟩
  · rw [hq q (by omega)]
    exact h3 q hb
  · have hy' : (if b = h.2.1 then some (.inl (.array .long, (List.range n).map (fun i => .ref (h.2.1 + 1 + i)))) else if h.2.1 < b ∧ b ≤ h.2.1 + n then some (.inl (.long, List.replicate k (.long 0))) else h.1 b) = some y := hy0
    by_cases e1 : b = h.2.1
    · rw [if_pos e1] at hy'
      cases hy'
      subst e1
      rw [← h1]
      exact ⟨by omega, t1, hx⟩
    · rw [if_neg e1] at hy'
      by_cases e2 : h.2.1 < b ∧ b ≤ h.2.1 + n
      · rw [if_pos e2] at hy'
        cases hy'
        have := hy (b - (h.2.1 + 1)) (by omega)
        rw [show H.size + 1 + (b - (h.2.1 + 1)) = b by omega] at this
        exact ⟨by omega, t2, this⟩
      · rw [if_neg e2] at hy'
        obtain ⟨g1, g2⟩ := h4 b y hy'
        exact ⟨g1, mj_at_kept g2 (hq b (mj_at_lt g2))⟩
  · show ∃ y, (if b = h.2.1 then some (.inl (.array .long, (List.range n).map (fun i => .ref (h.2.1 + 1 + i)))) else if h.2.1 < b ∧ b ≤ h.2.1 + n then some (.inl (.long, List.replicate k (.long 0))) else h.1 b) = some y
    by_cases e1 : b = h.2.1
    · exact ⟨_, if_pos e1⟩
    · rw [if_neg e1]
      by_cases e2 : h.2.1 < b ∧ b ≤ h.2.1 + n
      · exact ⟨_, if_pos e2⟩
      · rw [if_neg e2]
        have hb3 : b < h.2.1 + 1 + n := hb2
        exact h5 b hb1 (by omega)
theorem mj_outer (c : ClassId) (N h0 : Nat) : ∀ i : Nat, i ≤ N → Jvm.Free.Multi.outerC c N h0 i = { cls := c, slots := ((List.range N).map (fun j => if j < i then Value.ref (h0 + 1 + j) else .null)).toArray, vm := .none }
  | 0, _ => by
    show ({ cls := c, slots := Array.replicate N .null, vm := .none } : Cell) = _
    congr 1
    apply Array.ext_getElem?
    intro j
    by_cases hj : j < N
    · simp [hj]
    · simp [hj]
  | i + 1, hi => by
    show (Jvm.Free.Multi.outerC c N h0 i).setSlot i (.ref (h0 + 1 + i)) = _
    rw [mj_outer c N h0 i (by omega), mj_setSlot]
    congr 2
    apply List.ext_getElem?
    intro j
    rw [List.getElem?_set]
    by_cases e : i = j
    · subst e
      simp [show i < N by omega]
    · rw [if_neg e]
      by_cases hj : j < N
      · simp [hj]
        by_cases h : j < i
        · simp [h, Nat.lt_succ_of_lt h]
        · simp [h, show ¬ j < i + 1 by omega]
      · simp [hj]
section MJU
variable {p : Program} {l : Launch} {e : Env} {R : Room} {s : State} {m : MethodId} {args : Array Value} {below : List Frame} {meth : Method} {c : Code} {H : Heap} {locs : List Loc} {cells slots : Nat} {Q : State → Prop}
variable {cc : ByteArray} {pc : Nat} {ls : Array Slot} {rest : List Value} {D : va_G} {cl : List vw_C} {dA : FieldType → ClassId} {xt : Nat → Option (FieldType × List Value)} {tys : List FieldType} {base : Nat} {HB : Heap} {h : mj_H} {a b : Nat} {own : String} {index : Nat}
theorem mj_multi (hexec : p.tables.exec = Jvm.exec) (hb : c.code = cc) (hown : s.vm.findClass own = some m.cls) (hclink : (Cond.classLink own index "[[J").before args s = true) (hover : (Cond.arrayOver (.array .long)).before args s = true) (harr : (Cond.arrayClass .long).before args s = true)
    (hR : mj_Rel D cl dA tys base HB h H) (hA : mj_Arrs dA xt tys base HB s) (t1 : FieldType.array .long ∈ tys) (t2 : FieldType.long ∈ tys) {n k : Int32} (hn : ¬ n < 0) (hk : ¬ k < 0) (hb1 : n.toNatClampNeg * 4 ≤ 536870912) (hb2 : k.toNatClampNeg * 8 ≤ 536870912)
    (hcells : cells + (1 + n.toNatClampNeg) ≤ R.cells) (hslots : slots + (n.toNatClampNeg + n.toNatClampNeg * k.toNatClampNeg) ≤ R.slots) (hdg : decode cc pc = .ok (.multianewarray index 2, 4))
    (kk : ∀ H' : Heap, mj_Rel D cl dA tys base HB (mj_mul h n.toNatClampNeg k.toNatClampNeg) H' → W p l e R s m args below meth c H' locs (cells + 1 + n.toNatClampNeg) (slots + n.toNatClampNeg + n.toNatClampNeg * k.toNatClampNeg) Q (F0 m (pc + 4) ls (.ref h.2.1 :: rest))) : W p l e R s m args below meth c H locs cells slots Q (F0 m pc ls (.int k :: .int n :: rest)) := by
  intro T hT Xs
  have hJ : ("[" ++ (FieldType.array .long).toString) = "[[J" := by decide +kernel
  have hJ2 : (FieldType.array .long).toString = "[" ++ FieldType.long.toString := by decide +kernel
  obtain ⟨vm₁, cA, comp, -, fA, fC, -, -, X', step⟩ := Xs.multianewarray2F hexec (ty := .long) hown (by rw [hJ]; exact hclink) hover harr (g := F0 m pc ls (.int k :: .int n :: rest)) rfl (by rw [hb]; exact hdg) rfl hn hk hb1 hb2 (by omega) rfl rfl hcells hslots
  have ea : cA = dA (.array .long) := Option.some.inj (fA.symm.trans (hA.1 _ t1).1)
  have ec : comp = dA .long := Option.some.inj (fC.symm.trans (by rw [hJ2]; exact (hA.1 _ t2).1))
  subst ea
  subst ec
  generalize hF : Jvm.Free.Multi.fill (T.setVm vm₁) (dA (.array .long)) (dA .long) n.toNatClampNeg k.toNatClampNeg (defaultValue .long) n.toNatClampNeg = F at X' step
  have hTh : (T.setVm vm₁).heap = H := hT
  obtain ⟨f1, f2, -, -⟩ := Jvm.Free.Multi.fill_facts (T.setVm vm₁) (dA (.array .long)) (dA .long) n.toNatClampNeg k.toNatClampNeg (defaultValue .long) n.toNatClampNeg
  rw [hF, hTh] at f1 f2
  have hold : ∀ x : Nat, x < H.size → F.heap[x]? = H[x]? := fun x hx => by
    have := Jvm.Free.Multi.fill_old (T.setVm vm₁) (dA (.array .long)) (dA .long) n.toNatClampNeg k.toNatClampNeg (defaultValue .long) (a := x) (by rw [hTh]; exact hx) n.toNatClampNeg
    rw [hF, hTh] at this
    exact this
  have hrow : ∀ j : Nat, j < n.toNatClampNeg → F.heap[H.size + 1 + j]? = some { cls := dA .long, slots := (List.replicate k.toNatClampNeg (Value.long 0)).toArray, vm := .none } := fun j hj => by
    have := Jvm.Free.Multi.fill_inner (T.setVm vm₁) (dA (.array .long)) (dA .long) n.toNatClampNeg k.toNatClampNeg (defaultValue .long) n.toNatClampNeg j hj
    rw [hF, hTh] at this
    rw [this]
    show some ({ cls := dA .long, slots := Array.replicate k.toNatClampNeg (Value.long 0), vm := .none } : Cell) = _
    rw [List.toArray_replicate]
  rw [mj_outer _ _ _ _ (Nat.le_refl _)] at f2
  have e2 : (List.range n.toNatClampNeg).map (fun j => if j < n.toNatClampNeg then Value.ref (H.size + 1 + j) else .null) = (List.range n.toNatClampNeg).map (fun i => Value.ref (H.size + 1 + i)) := List.map_congr_left fun j hj => by rw [if_pos (List.mem_range.mp hj)]
  rw [e2] at f2
  obtain ⟨t, a1, b1⟩ := kk F.heap (mj_Rel_mul hR f1 hold t1 t2 f2 hrow) F rfl X'
  refine ⟨t, step t ?_, b1⟩
  rw [show T.heap.size = h.2.1 by rw [hT]; exact hR.1]
  exact a1
theorem mj_clone {ad : String} (hexec : p.tables.exec = Jvm.exec) (hb : c.code = cc) (hml : ls.size = c.maxLocals) (hown : s.vm.findClass own = some m.cls) (hlink : (Cond.methodLink own index ⟨ad, "clone", "()Ljava/lang/Object;"⟩).before args s = true) (hsame : (Cond.sameMethod ad "java/lang/Object" "clone" "()Ljava/lang/Object;").before args s = true)
    (hnat : (Cond.native ⟨"java/lang/Object", "clone", "()Ljava/lang/Object;"⟩).before args s = true) (hinst : (Cond.instanceMethod ⟨"java/lang/Object", "clone", "()Ljava/lang/Object;"⟩).before args s = true) (hsel : (Cond.selects ad ⟨ad, "clone", "()Ljava/lang/Object;"⟩ ⟨"java/lang/Object", "clone", "()Ljava/lang/Object;"⟩).before args s = true) (hcl : (Cond.castable ad "java/lang/Cloneable").before args s = true)
    (hR : mj_Rel D cl dA tys base HB h H) (hA : mj_Arrs dA xt tys base HB s) {ty : FieldType} {xs : List Value} (ha : h.1 a = some (.inl (ty, xs))) (had : "[" ++ ty.toString = ad) (hf : xs.all (fun v => fits ty v) = true)
    (hframes : 1 ≤ R.frames) (hlocals : (rest.map fun v => v.category).sum + 14 ≤ R.locals) (hcells : cells + 1 ≤ R.cells) (hslots : slots + xs.length ≤ R.slots) (hdg : decode cc pc = .ok (.invokevirtual index, 3))
    (kk : ∀ H' : Heap, mj_Rel D cl dA tys base HB (mj_new h xs.length (.inl (ty, xs))) H' → W p l e R s m args below meth c H' locs (cells + 1) (slots + xs.length) Q (F0 m (pc + 3) ls (.ref h.2.1 :: rest))) : W p l e R s m args below meth c H locs cells slots Q (F0 m pc ls (.ref a :: rest)) := by
  intro T hT X
  obtain ⟨hba, hty, hat⟩ := hR.2.2.2.1 a _ ha
  obtain ⟨hfa, k0, comp, hk0, hkk0⟩ := hA.1 ty hty
  obtain ⟨c0, t0', f1, f2, f3⟩ := Cond.castable_spec hcl
  have ec : c0 = dA ty := Option.some.inj (f1.symm.trans (by rw [← had]; exact hfa))
  subst ec
  obtain ⟨k', hk', he⟩ := X.warmed.alike.2.2 _ _ hk0
  obtain ⟨vm', X', st⟩ := X.cloneArray hexec hown hlink hsame hnat hinst hsel (a := a) (cell := { cls := dA ty, slots := xs.toArray, vm := .none }) (by rw [hT]; exact hat) (fun k h => by cases h) (fun h => by cases h) (by rw [← had]; exact hfa) f2 f3
    (fun i v hv => by
      have hkk : k'.kind = .array comp ty := by rw [he]; exact hkk0
      have hk'' : T.vm.classes[dA ty]? = some k' := hk'
      have hfv : fits ty v = true := List.all_eq_true.mp hf v (List.mem_of_getElem? (i := i) (by simpa using hv))
      simpa [State.fitsSlot, State.slotType?, hk'', hkk] using hfv)
    (g := F0 m pc ls (.ref a :: rest)) rfl hml rfl (by rw [hb]; exact hdg) hframes (by show 2 * 0 + _ + 14 ≤ _; omega) hcells (by simpa using hslots) (hloader := Vm.clonesLoader_of_array hk0 hkk0)
  have esz : xs.toArray.size = xs.length := by simp
  dsimp only at X' st
  rw [esz] at X'
  obtain ⟨t, b1, b2⟩ := kk (H.push { cls := dA ty, slots := xs.toArray }) (mj_Rel_new hR (by simp) (fun q hq => by rw [Array.getElem?_push, if_neg (Nat.ne_of_lt hq)]) ⟨hty, by simp⟩) ((T.setVm vm').pushCell { cls := dA ty, slots := xs.toArray }) (by rw [← hT]; rfl) X'
  refine ⟨t, st t ?_, b2⟩
  rw [show T.heap.size = h.2.1 by rw [hT]; exact hR.1]
  exact b1
theorem mj_castA {nm : String} (hexec : p.tables.exec = Jvm.exec) (hb : c.code = cc) (hown : s.vm.findClass own = some m.cls) (hlink : (Cond.classLink own index nm).before args s = true) (hR : mj_Rel D cl dA tys base HB h H) (hA : mj_Arrs dA xt tys base HB s) {ty : FieldType} {xs : List Value} (ha : h.1 a = some (.inl (ty, xs))) (hnm : "[" ++ ty.toString = nm)
    (hdg : decode cc pc = .ok (.checkcast index, 3)) (kk : W p l e R s m args below meth c H locs cells slots Q (F0 m (pc + 3) ls (.ref a :: rest))) : W p l e R s m args below meth c H locs cells slots Q (F0 m pc ls (.ref a :: rest)) := by
  intro T hT X
  obtain ⟨hba, hty, hat⟩ := hR.2.2.2.1 a _ ha
  obtain ⟨hfa, k0, comp, hk0, hkk0⟩ := hA.1 ty hty
  obtain ⟨vm', X', st⟩ := X.checkcastYes hexec hown hlink (by rw [hT]; exact hat) rfl (by rw [← hnm]; exact hfa) (va_asg _ _) (g := F0 m pc ls (.ref a :: rest)) rfl rfl (by rw [hb]; exact hdg)
  obtain ⟨t, a1, b1⟩ := kk (T.setVm vm') hT X'
  exact ⟨t, st t a1, b1⟩
end MJU
