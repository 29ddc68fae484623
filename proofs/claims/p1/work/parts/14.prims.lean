/-! CALLS THAT ARE ONE STEP -/
theorem mj_arrV (cA : ClassId) (xs : List Value) : ({ cls := cA, slots := xs.toArray, vm := .none } : Cell) = arrV cA xs.length (fun j => xs.getD j .null) := by
  unfold arrV
  congr 1
  apply Array.ext_getElem?
  intro i
  by_cases h : i < xs.length
  · simp [h]
  · simp [h]
theorem mj_cpy_arr (cA cB : ClassId) (xs ys : List Value) {sp dp n : Int32} (h : sp.toNatClampNeg + n.toNatClampNeg ≤ xs.length) : copied { cls := cA, slots := xs.toArray, vm := .none } { cls := cB, slots := ys.toArray, vm := .none } sp dp n = { cls := cB, slots := (mj_cpy xs ys sp.toNatClampNeg dp.toNatClampNeg n.toNatClampNeg).toArray, vm := .none } := by
  rw [mj_arrV cA xs, mj_arrV cB ys]
  have e1 := va_copied (fun v : Value => v) cA cB (n1 := ys.length) (dp := dp.toNatClampNeg) (fun j => xs.getD j .null) (fun j => ys.getD j .null) h
  refine Eq.trans e1 ?_
  rw [mj_arrV]
  have hl : (mj_cpy xs ys sp.toNatClampNeg dp.toNatClampNeg n.toNatClampNeg).length = ys.length := by simp [mj_cpy]
  rw [hl]
  unfold arrV
  congr 1
  apply Array.ext_getElem?
  intro i
  by_cases hi : i < ys.length
  · simp [hi, mj_cpy, va_cpy]
  · simp [hi]
theorem mj_nn {z : Int32} (hz : ¬ z < 0) : z.toInt = (z.toNatClampNeg : Int) := by
  have hz0 : (0 : Int) ≤ z.toInt := by
    have := Int32.not_lt.mp hz
    simpa using Int32.le_iff_toInt_le.mp this
  show z.toInt = ((z.toInt.toNat : Nat) : Int)
  omega
theorem mj_takes {U : State} {comp : ClassId} {ty : FieldType} {v : Value} (hp : refKind ty = false) (hf : fits ty v = true) : U.takes comp v := by
  cases v with
  | ref a => cases ty <;> first | (cases hp; done) | (simp [fits] at hf; done)
  | _ => exact trivial
section MJQ
variable {p : Program} {l : Launch} {e : Env} {R : Room} {s : State} {m : MethodId} {args : Array Value} {below : List Frame} {meth : Method} {c : Code} {H : Heap} {locs : List Loc} {cells slots : Nat} {Q : State → Prop}
variable {cc : ByteArray} {pc : Nat} {ls : Array Slot} {rest : List Value} {D : va_G} {cl : List vw_C} {dA : FieldType → ClassId} {xt : Nat → Option (FieldType × List Value)} {tys : List FieldType} {base : Nat} {HB : Heap} {h : mj_H} {a b : Nat} {own : String} {index : Nat}
theorem mj_copy (hexec : p.tables.exec = Jvm.exec) (hb : c.code = cc) (hml : ls.size = c.maxLocals) (hown : s.vm.findClass own = some m.cls) (hlink : (Cond.methodLink own index arraycopyName).before args s = true) (hnat : (Cond.native arraycopyName).before args s = true) (hstat : (Cond.static arraycopyName).before args s = true) (hini : (Cond.initialized "java/lang/System").before args s = true)
    (hR : mj_Rel D cl dA tys base HB h H) (hA : mj_Arrs dA xt tys base HB s) {ty : FieldType} {xs ys : List Value} (ha : h.1 a = some (.inl (ty, xs))) (hbb : h.1 b = some (.inl (ty, ys))) (hprim : refKind ty = false) {sp dp n : Int32} (h1 : ¬ sp < 0) (h2 : ¬ dp < 0) (h3 : ¬ n < 0) (h4 : sp.toNatClampNeg + n.toNatClampNeg ≤ xs.length) (h5 : dp.toNatClampNeg + n.toNatClampNeg ≤ ys.length) (hf : xs.all (fun v => fits ty v) = true)
    (hframes : 1 ≤ R.frames) (hlocals : (rest.map fun v => v.category).sum + (nativeFrameWords "java/lang/System" "arraycopy" 5 + 11) ≤ R.locals) (hdg : decode cc pc = .ok (.invokestatic index, 3))
    (kk : ∀ (H' : Heap) (L : List Loc), mj_Rel D cl dA tys base HB (mj_put h b (.inl (ty, mj_cpy xs ys sp.toNatClampNeg dp.toNatClampNeg n.toNatClampNeg))) H' → (∀ z ∈ L, base ≤ z.base) → W p l e R s m args below meth c H' (locs ++ L) cells slots Q (F0 m (pc + 3) ls rest)) :
    W p l e R s m args below meth c H locs cells slots Q (F0 m pc ls (.int n :: .int dp :: .ref b :: .int sp :: .ref a :: rest)) := by
  intro T hT X
  obtain ⟨hba, hty, hat⟩ := hR.2.2.2.1 a _ ha
  obtain ⟨hbb1, -, hbt⟩ := hR.2.2.2.1 b _ hbb
  obtain ⟨-, k0, comp, hk0, hkk0⟩ := hA.1 ty hty
  obtain ⟨vm', X', step⟩ := X.arraycopy hexec hown hlink hnat hstat hini (src := a) (dst := b) (srcPos := sp) (destPos := dp) (n := n) (by rw [hT]; exact hat) (by rw [hT]; exact hbt)
    (fun _ h => by cases h) (fun _ h => by cases h) (fun h => by cases h) (fun h => by cases h) hk0 hk0 hkk0 hkk0 (by simp [hprim]) h1 h2 h3
    (by rw [mj_nn h1, mj_nn h3]; simp; omega) (by rw [mj_nn h2, mj_nn h3]; simp; omega)
    (fun vm₁ _ i hi => by
      have hlt : sp.toNatClampNeg + i < xs.length := by omega
      have e1 : (xs.toArray.getD (sp.toNatClampNeg + i) .null) = xs[sp.toNatClampNeg + i] := by simp [Array.getD, hlt]
      have hfit : fits ty xs[sp.toNatClampNeg + i] = true := List.all_eq_true.mp hf _ (List.getElem_mem hlt)
      show fits ty (xs.toArray.getD (sp.toNatClampNeg + i) .null) = true ∧ _
      rw [e1]
      exact ⟨hfit, mj_takes hprim hfit⟩)
    (g := F0 m pc ls (.int n :: .int dp :: .ref b :: .int sp :: .ref a :: rest)) rfl hml (rest := rest) rfl (by rw [hb]; exact hdg) hframes (by show 2 * 0 + _ + _ ≤ _; omega)
  rw [mj_cpy_arr _ _ _ _ h4] at X' step
  have hl : b < H.size := (Array.getElem?_eq_some_iff.mp hbt).1
  obtain ⟨t, a1, b1⟩ := kk (H.setIfInBounds b { cls := dA ty, slots := (mj_cpy xs ys sp.toNatClampNeg dp.toNatClampNeg n.toNatClampNeg).toArray, vm := .none }) _
    (mj_Rel_put hR hbb1 (by simp) (fun q hq => by simp [Array.getElem?_setIfInBounds, Ne.symm hq]) ⟨hty, by simp [Array.getElem?_setIfInBounds, hl]⟩) (fun z hz => by
      obtain ⟨y, -, hy⟩ := List.mem_map.mp hz
      rw [← hy]
      exact hbb1) _ (by rw [← hT]; rfl) X'
  exact ⟨t, step t a1, b1⟩
theorem mj_aast (hexec : p.tables.exec = Jvm.exec) (hb : c.code = cc) (hR : mj_Rel D cl dA tys base HB h H) (hA : mj_Arrs dA xt tys base HB s) (hK : va_K D cl [] s) {C : String} {T0 : u_T} {N ci : Nat} {xs fs : List Value} {v : Nat} (ha : h.1 a = some (.inl (.object C, xs))) (hv : h.1 v = some (.inr (ci, fs))) (hc : cl[ci]? = some (C, T0, N))
    (hcomp : ∀ (k : Class) (comp : ClassId), s.vm.classes[dA (.object C)]? = some k → k.kind = .array comp (.object C) → s.vm.findClass C = some comp) {j : Int32} (hj : ¬ j < 0) (hjl : j.toNatClampNeg < xs.length) (hdg : decode cc pc = .ok (.aastore, 1))
    (kk : ∀ (H' : Heap) (z : Loc), mj_Rel D cl dA tys base HB (mj_put h a (.inl (.object C, xs.set j.toNatClampNeg (.ref v)))) H' → base ≤ z.base → W p l e R s m args below meth c H' (locs ++ [z]) cells slots Q (F0 m (pc + 1) ls rest)) :
    W p l e R s m args below meth c H locs cells slots Q (F0 m pc ls (.ref v :: .int j :: .ref a :: rest)) := by
  obtain ⟨hba, hty, hat⟩ := hR.2.2.2.1 a _ ha
  obtain ⟨-, r, r1, -, cell, r3, r4, r5, -⟩ := hR.2.2.2.1 v _ hv
  obtain ⟨-, k0, comp, hk0, hkk0⟩ := hA.1 _ hty
  obtain ⟨-, hfc, kC, hkC, -⟩ := hK.1 ci _ hc
  have hcm := hcomp k0 comp hk0 hkk0
  have hce : comp = D.1 ci := Option.some.inj (hcm.symm.trans hfc)
  refine W.aast hexec hb (kcomp := kC) hat (fun _ h => by cases h) (fun h => by cases h) hk0 hkk0 rfl (by rw [hce]; exact hkC) ⟨hj, by simpa using hjl⟩ r3 (fun _ h => by rw [r5] at h; cases h) (by rw [r4]; exact hkC) (by show s.vm.assignableAux (255 + 1) _ _ = true; rw [Vm.assignableAux, Bool.or_eq_true, beq_iff_eq]; exact Or.inl (by rw [r4, hce])) rfl rfl hdg fun H' e1 e2 e3 => ?_
  rw [mj_setSlot] at e1
  exact kk H' _ (mj_Rel_put hR hba e2 e3 ⟨hty, e1⟩) hba
end MJQ
