/-! FIELDS and what is made -/
section MJG
variable {p : Program} {l : Launch} {e : Env} {R : Room} {s : State} {m : MethodId} {args : Array Value} {below : List Frame} {meth : Method} {c : Code} {H : Heap} {locs : List Loc} {cells slots : Nat} {Q : State → Prop}
variable {cc : ByteArray} {pc : Nat} {ls : Array Slot} {rest : List Value} {D : va_G} {cl : List vw_C} {dA : FieldType → ClassId} {xt : Nat → Option (FieldType × List Value)} {tys : List FieldType} {base : Nat} {HB : Heap} {h : mj_H} {a : Nat}
variable {TB : List Cond} {own ref C : String} {T : u_T} {N ci pos index : Nat} {fs : List Value} {v : Value}
/-- the words by which a field's entry in the pool is known -/
def mj_fw (own : String) (index : Nat) (ref : String) (x : String × String × String × Bool) (args : Array Value) (s : State) : Prop :=
  ((Cond.fieldLink own index ref x.2.1 x.2.2.1).before args s = true ∨ ∃ host, (Cond.fieldLinkNest own index ref x.2.1 x.2.2.1 host).before args s = true) ∧ (ref = x.1 ∨ (Cond.sameField ref x.1 x.2.1 x.2.2.1).before args s = true)
theorem mj_fw_same {x : String × String × String × Bool} (hf : mj_fw own index ref x args s) : ∀ z, s.fieldFound? x.1 x.2.1 x.2.2.1 = some z → s.fieldFound? ref x.2.1 x.2.2.1 = some z := by
  intro z hz
  rcases hf.2 with h1 | h1
  · rw [h1]; exact hz
  · exact u_same h1 z hz
theorem mj_getf (hexec : p.tables.exec = Jvm.exec) (hb : c.code = cc) (hts : ∀ w ∈ TB, w.before args s = true) (hin : ∀ w ∈ u_ws C T N, w ∈ TB) (hown : s.vm.findClass own = some m.cls) (hK : va_K D cl [] s) (hR : mj_Rel D cl dA tys base HB h H) (he : h.1 a = some (.inr (ci, fs))) (hc : cl[ci]? = some (C, T, N)) (hk : pos < N) (hf : mj_fw own index ref (T pos) args s) (hv : fs[pos]? = some v) (hdg : decode cc pc = .ok (.getfield index, 3))
    (kk : W p l e R s m args below meth c H locs cells slots Q (F0 m (pc + 3) ls (v :: rest))) : W p l e R s m args below meth c H locs cells slots Q (F0 m pc ls (.ref a :: rest)) := by
  obtain ⟨-, r, h1, -, h3⟩ := hR.2.2.2.1 a _ he
  have hP : va_P D cl [(a, .inr (ci, fs))] H := by
    intro k q hq
    cases k with
    | zero => cases hq; exact ⟨r, h1, h3⟩
    | succ k => simp at hq
  rcases hf.1 with h4 | ⟨host, h4⟩
  · exact va_get hexec hb hts hin hown hK hP 0 rfl hc pos hk h4 (mj_fw_same hf) hv hdg kk
  · exact va_getN hexec hb hts hin hown hK hP 0 rfl hc pos hk h4 (mj_fw_same hf) hv hdg kk
theorem mj_putf (hexec : p.tables.exec = Jvm.exec) (hb : c.code = cc) (hts : ∀ w ∈ TB, w.before args s = true) (hin : ∀ w ∈ u_ws C T N, w ∈ TB) (ty0 : Nat → FieldType) (hty : ∀ k, k < N → parseFieldDescriptor (T k).2.2.1 = some (ty0 k)) (hnm : ∀ a, a < N → ∀ b, b < N → a ≠ b → (T a).2.1 ≠ (T b).2.1) (hown : s.vm.findClass own = some m.cls) (hK : va_K D cl [] s) (hR : mj_Rel D cl dA tys base HB h H) (he : h.1 a = some (.inr (ci, fs))) (hc : cl[ci]? = some (C, T, N)) (hk : pos < N) (hf : mj_fw own index ref (T pos) args s)
    (hfin : (T pos).2.2.2 = false ∨ ((T pos).2.2.2 = true ∧ meth.name = "<init>" ∧ (T pos).1 = own ∧ (Cond.fieldLink own index ref (T pos).2.1 (T pos).2.2.1).before args s = true)) (hn : narrow (ty0 pos) v = v) (hfit : fits (ty0 pos) v = true) (hdg : decode cc pc = .ok (.putfield index, 3))
    (kk : ∀ (H' : Heap) (q : Loc), mj_Rel D cl dA tys base HB (mj_put h a (.inr (ci, fs.set pos v))) H' → base ≤ q.base → W p l e R s m args below meth c H' (locs ++ [q]) cells slots Q (F0 m (pc + 3) ls rest)) : W p l e R s m args below meth c H locs cells slots Q (F0 m pc ls (v :: .ref a :: rest)) := by
  have hap := va_apart (own := own) hts hin ty0 hty hnm hK hc
  obtain ⟨hba, r, h1, hlen, cell, q1, q2, q3, q4⟩ := hR.2.2.2.1 a _ he
  have hr : r = (C, T, N) := Option.some.inj (h1.symm.trans hc)
  subst hr
  have hl : pos < fs.length := by rw [hlen]; exact hk
  obtain ⟨hS, hfc, kC, hkC, hkind⟩ := hK.1 ci _ hc
  obtain ⟨cf, kf, fi, f, hi, hsl⟩ := hS pos hk
  have hst := (u_facts hfc hkC (u_lays hts hin hk) hi).1
  have hd := hty pos hk
  have hend : ∀ H' : Heap, H'[a]? = some (cell.setSlot f.slot v) → H'.size = H.size → (∀ q, q ≠ a → H'[q]? = H[q]?) → mj_Rel D cl dA tys base HB (mj_put h a (.inr (ci, fs.set pos v))) H' := by
    intro H' e1 e2 e3
    rw [hsl] at e1
    exact mj_Rel_put hR hba e2 e3 ⟨_, hc, by simpa using hlen, t_OB.to (V := updV (vp_V fs) pos v) ⟨_, e1, q2, q3, t_set q4 hap hk v⟩ (fun j _ => vp_updV_set hl v j)⟩
  have hsz : f.slot < cell.slots.size := by rw [hsl]; exact k2_hasslot (q4 pos hk)
  rcases hfin with hfin | ⟨hfin, hname, hdecl, hlk⟩
  · have hlay := hts _ (hin _ (u_in_lay hk))
    unfold u_lay at hlay
    rw [if_neg (by rw [hfin]; decide)] at hlay
    have h6 := u_store hfc hkC hkind hlay hi hd hn hfit
    rcases hf.1 with h4 | ⟨host, h4⟩
    · exact W.putK hexec hb (f := f) ⟨hown, h4, ⟨_, _, _, mj_fw_same hf _ hi⟩, hst⟩ (by rw [q2]; exact h6) q1 q3 hsz rfl rfl hdg fun H' e1 e2 e3 => kk H' _ (hend H' e1 e2 e3) hba
    · exact va_WputK hexec hb (f := f) hown h4 (mj_fw_same hf _ hi) hst (by rw [q2]; exact h6) q1 q3 hsz rfl rfl hdg fun H' e1 e2 e3 => kk H' _ (hend H' e1 e2 e3) hba
  · have hlay := hts _ (hin _ (u_in_lay hk))
    unfold u_lay at hlay
    rw [if_pos hfin] at hlay
    have hcf : m.cls = cf := by
      obtain ⟨_, _, c', _, _, _, -, -, hf', -, -, -, hown2, -⟩ := Cond.laysFinal_spec hlay
      have e1 : c' = cf := by have := hi.symm.trans hf'; simp at this; exact this.1.symm
      rw [hdecl] at hown2
      rw [← e1]; exact Option.some.inj (hown.symm.trans hown2)
    have h6 := u_fits hfc hkC hkind (Or.inr hlay) hi hd hn hfit
    exact W.putFinK hexec hb hown hlk (mj_fw_same hf _ hi) hst hcf hname (by rw [q2]; exact h6) q1 q3 hsz rfl rfl hdg fun H' e1 e2 e3 => kk H' _ (hend H' e1 e2 e3) hba
theorem mj_newo (hexec : p.tables.exec = Jvm.exec) (hb : c.code = cc) (hts : ∀ w ∈ TB, w.before args s = true) (hin : ∀ w ∈ u_ws C T N, w ∈ TB) (ty0 : Nat → FieldType) (hty : ∀ k, k < N → parseFieldDescriptor (T k).2.2.1 = some (ty0 k)) (hown : s.vm.findClass own = some m.cls) (hK : va_K D cl [] s) (hR : mj_Rel D cl dA tys base HB h H) (hc : cl[ci]? = some (C, T, N)) {n : Nat}
    (h1 : (Cond.classLink own index C).before args s = true) (h2 : (Cond.instantiable C n).before args s = true) (h3 : (Cond.initialized C).before args s = true) (hlen : fs.length = N) (hdef : ∀ k, k < N → fs[k]? = some (defaultValue (ty0 k))) (hcells : cells + 1 ≤ R.cells) (hslots : slots + n ≤ R.slots) (hdg : decode cc pc = .ok (.new index, 3))
    (kk : ∀ H' : Heap, mj_Rel D cl dA tys base HB (mj_new h n (.inr (ci, fs))) H' → W p l e R s m args below meth c H' locs (cells + 1) (slots + n) Q (F0 m (pc + 3) ls (.ref h.2.1 :: rest))) : W p l e R s m args below meth c H locs cells slots Q (F0 m pc ls rest) := by
  have hKn := hK.1 ci _ hc
  refine W.newcK hexec hb hown h1 h2 h3 rfl hdg hcells hslots hKn.2.1 rfl fun H' kC e0 e1 e2 e3 => ?_
  have := kk H' (mj_Rel_new hR e2 e3 ⟨_, hc, hlen, t_OB.to (u_born (ty := ty0) hts hin hKn e0 e1 hty) (fun k hk => by simp [vp_V, hdef k hk])⟩)
  rw [← hR.1] at this
  exact this
theorem mj_newa (hexec : p.tables.exec = Jvm.exec) (hb : c.code = cc) (hR : mj_Rel D cl dA tys base HB h H) {atype : ArrayType} (harr : (Cond.arrayClass (newarray.typeOf atype)).before args s = true) (hA : mj_Ar dA s (newarray.typeOf atype)) (hmem : newarray.typeOf atype ∈ tys) {n : Int32} (hn : ¬ n < 0) (hbytes : n.toNatClampNeg * 8 ≤ 536870912) (hcells : cells + 1 ≤ R.cells) (hslots : slots + n.toNatClampNeg ≤ R.slots) (hdg : decode cc pc = .ok (.newarray atype, 2))
    (kk : ∀ H' : Heap, mj_Rel D cl dA tys base HB (mj_new h n.toNatClampNeg (.inl (newarray.typeOf atype, List.replicate n.toNatClampNeg (defaultValue (newarray.typeOf atype))))) H' → W p l e R s m args below meth c H' locs (cells + 1) (slots + n.toNatClampNeg) Q (F0 m (pc + 2) ls (.ref h.2.1 :: rest))) : W p l e R s m args below meth c H locs cells slots Q (F0 m pc ls (.int n :: rest)) := by
  have hbb : n.toNatClampNeg * componentBytes (newarray.typeOf atype) ≤ 536870912 := Nat.le_trans (Nat.mul_le_mul_left _ (by cases atype <;> decide)) hbytes
  refine W.newa hexec hb harr rfl hdg rfl hn hbb hcells hslots fun cA kA comp e1 e2 e3 => ?_
  have hcA : cA = dA (newarray.typeOf atype) := Option.some.inj (e1.symm.trans hA.1)
  have := kk (H.push { cls := cA, slots := Array.replicate n.toNatClampNeg (defaultValue (newarray.typeOf atype)), vm := .none }) (mj_Rel_new hR (by simp) (fun q hq => by rw [Array.getElem?_push_lt hq]; simp [hq]) ⟨hmem, by
    show (H.push _)[H.size]? = _
    rw [Array.getElem?_push_size, hcA]
    simp⟩)
  rw [← hR.1] at this
  exact this
theorem mj_newq (hexec : p.tables.exec = Jvm.exec) (hb : c.code = cc) (hown : s.vm.findClass own = some m.cls) (hR : mj_Rel D cl dA tys base HB h H) (h1 : (Cond.classLink own index C).before args s = true) (h2 : (Cond.arrayOver (.object C)).before args s = true) (hA : mj_Ar dA s (.object C)) (hmem : FieldType.object C ∈ tys) {n : Int32} (hn : ¬ n < 0) (hbytes : n.toNatClampNeg * 8 ≤ 536870912) (hcells : cells + 1 ≤ R.cells) (hslots : slots + n.toNatClampNeg ≤ R.slots) (hdg : decode cc pc = .ok (.anewarray index, 3))
    (kk : ∀ H' : Heap, mj_Rel D cl dA tys base HB (mj_new h n.toNatClampNeg (.inl (.object C, List.replicate n.toNatClampNeg .null))) H' → W p l e R s m args below meth c H' locs (cells + 1) (slots + n.toNatClampNeg) Q (F0 m (pc + 3) ls (.ref h.2.1 :: rest))) : W p l e R s m args below meth c H locs cells slots Q (F0 m pc ls (.int n :: rest)) := by
  refine W.anew hexec hb hown h1 h2 rfl hdg rfl hn (by omega) hcells hslots fun cA kA comp e1 e2 e3 e4 => ?_
  have hcA : cA = dA (.object C) := Option.some.inj (e1.symm.trans hA.1)
  have := kk (H.push { cls := cA, slots := Array.replicate n.toNatClampNeg .null, vm := .none }) (mj_Rel_new hR (by simp) (fun q hq => by rw [Array.getElem?_push_lt hq]; simp [hq]) ⟨hmem, by
    show (H.push _)[H.size]? = _
    rw [Array.getElem?_push_size, hcA]
    simp⟩)
  rw [← hR.1] at this
  exact this
end MJG
