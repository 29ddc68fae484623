/-! THE HEAP of the small machine and the great one's -/
def mj_at (D : va_G) (cl : List vw_C) (dA : FieldType → ClassId) (tys : List FieldType) (a : Nat) (x : mj_E) (H : Heap) : Prop := match x with
  | .inl r => r.1 ∈ tys ∧ H[a]? = some { cls := dA r.1, slots := r.2.toArray, vm := .none }
  | .inr o => ∃ r : vw_C, cl[o.1]? = some r ∧ o.2.length = r.2.2 ∧ t_OB a (D.1 o.1) r.2.2 (D.2 o.1) H (vp_V o.2)
/-- from the base on the heap is the small machine's; below it, it is HB's -/
def mj_Rel (D : va_G) (cl : List vw_C) (dA : FieldType → ClassId) (tys : List FieldType) (base : Nat) (HB : Heap) (h : mj_H) (H : Heap) : Prop :=
  H.size = h.2.1 ∧ base ≤ h.2.1 ∧ (∀ q : Nat, q < base → H[q]? = HB[q]?) ∧ (∀ (a : Nat) (x : mj_E), h.1 a = some x → base ≤ a ∧ mj_at D cl dA tys a x H) ∧ ∀ a : Nat, base ≤ a → a < h.2.1 → ∃ x, h.1 a = some x
theorem mj_at_kept {D : va_G} {cl : List vw_C} {dA : FieldType → ClassId} {tys : List FieldType} {a : Nat} {x : mj_E} {H H' : Heap} (h : mj_at D cl dA tys a x H) (hq : H'[a]? = H[a]?) : mj_at D cl dA tys a x H' := by
  cases x with
  | inl r => exact ⟨h.1, by rw [hq]; exact h.2⟩
  | inr o =>
    obtain ⟨r, h1, h2, h3⟩ := h
    exact ⟨r, h1, h2, h3.kept hq⟩
theorem mj_at_lt {D : va_G} {cl : List vw_C} {dA : FieldType → ClassId} {tys : List FieldType} {a : Nat} {x : mj_E} {H : Heap} (h : mj_at D cl dA tys a x H) : a < H.size := by
  cases x with
  | inl r => exact (Array.getElem?_eq_some_iff.mp h.2).1
  | inr o =>
    obtain ⟨r, h1, h2, cell, h3, -⟩ := h
    exact (Array.getElem?_eq_some_iff.mp h3).1
theorem mj_Rel_put {D : va_G} {cl : List vw_C} {dA : FieldType → ClassId} {tys : List FieldType} {base : Nat} {HB : Heap} {h : mj_H} {H H' : Heap} {a : Nat} {x : mj_E} (hR : mj_Rel D cl dA tys base HB h H) (ha : base ≤ a) (hz : H'.size = H.size) (hq : ∀ q : Nat, q ≠ a → H'[q]? = H[q]?) (hx : mj_at D cl dA tys a x H') : mj_Rel D cl dA tys base HB (mj_put h a x) H' := by
  obtain ⟨h1, h2, h3, h4, h5⟩ := hR
  refine ⟨hz.trans h1, h2, fun q hb => ?_, fun b y hy => ?_, fun b hb1 hb2 => ?_⟩
  · rw [hq q (by omega)]
    exact h3 q hb
  · have hy' : (if b = a then some x else h.1 b) = some y := hy
    by_cases e1 : b = a
    · rw [if_pos e1] at hy'
      cases hy'
      subst e1
      exact ⟨ha, hx⟩
    · rw [if_neg e1] at hy'
      obtain ⟨g1, g2⟩ := h4 b y hy'
      exact ⟨g1, mj_at_kept g2 (hq b e1)⟩
  · show ∃ y, (if b = a then some x else h.1 b) = some y
    by_cases e1 : b = a
    · exact ⟨x, if_pos e1⟩
    · rw [if_neg e1]
      exact h5 b hb1 hb2
theorem mj_Rel_new {D : va_G} {cl : List vw_C} {dA : FieldType → ClassId} {tys : List FieldType} {base : Nat} {HB : Heap} {h : mj_H} {H H' : Heap} {n : Nat} {x : mj_E} (hR : mj_Rel D cl dA tys base HB h H) (hz : H'.size = H.size + 1) (hq : ∀ q : Nat, q < H.size → H'[q]? = H[q]?) (hx : mj_at D cl dA tys H.size x H') : mj_Rel D cl dA tys base HB (mj_new h n x) H' := by
  obtain ⟨h1, h2, h3, h4, h5⟩ := hR
  refine ⟨by rw [hz, h1]; rfl, Nat.le_succ_of_le h2, fun q hb => ?_, fun b y hy => ?_, fun b hb1 hb2 => ?_⟩
  · rw [hq q (by omega)]
    exact h3 q hb
  · have hy' : (if b = h.2.1 then some x else h.1 b) = some y := hy
    by_cases e1 : b = h.2.1
    · rw [if_pos e1] at hy'
      cases hy'
      subst e1
      rw [← h1]
      exact ⟨by omega, hx⟩
    · rw [if_neg e1] at hy'
      obtain ⟨g1, g2⟩ := h4 b y hy'
      exact ⟨g1, mj_at_kept g2 (hq b (mj_at_lt g2))⟩
  · show ∃ y, (if b = h.2.1 then some x else h.1 b) = some y
    by_cases e1 : b = h.2.1
    · exact ⟨x, if_pos e1⟩
    · rw [if_neg e1]
      have hb3 : b < h.2.1 + 1 := hb2
      exact h5 b hb1 (by omega)
theorem mj_isArr {s : State} {cA : ClassId} {ty : FieldType} {k : Class} {comp : ClassId} (h1 : s.vm.classes[cA]? = some k) (h2 : k.kind = .array comp ty) (sl : Array Value) : s.isArrayOf { cls := cA, slots := sl, vm := .none } ty :=
  ⟨(fun _ h => by cases h), k, h1, comp, h2⟩
theorem mj_toArr_get (xs : List Value) (j : Nat) : xs.toArray[j]? = xs[j]? := by simp
theorem mj_setSlot (cA : ClassId) (xs : List Value) (j : Nat) (v : Value) : ({ cls := cA, slots := xs.toArray, vm := .none } : Cell).setSlot j v = { cls := cA, slots := (xs.set j v).toArray, vm := .none } := by
  simp [Cell.setSlot]
/-- an array's class -/
def mj_Ar (dA : FieldType → ClassId) (s : State) (ty : FieldType) : Prop := s.vm.findClass ("[" ++ ty.toString) = some (dA ty) ∧ ∃ (k : Class) (comp : ClassId), s.vm.classes[dA ty]? = some k ∧ k.kind = .array comp ty
theorem mj_Ar_moved {dA : FieldType → ClassId} {s U : State} {ty : FieldType} (hvm : s.vm.Alike U.vm) (h : mj_Ar dA s ty) : mj_Ar dA U ty := by
  obtain ⟨h1, k, comp, h2, h3⟩ := h
  obtain ⟨k', hk', he⟩ := hvm.2.2 _ _ h2
  exact ⟨by rw [hvm.findClass]; exact h1, k', comp, hk', by rw [he]; exact h3⟩
/-- the arrays: those of the heap, and those below the base, which nobody writes -/
def mj_arr (xt : Nat → Option (FieldType × List Value)) (h : mj_H) (a : Nat) : Option (FieldType × List Value) := match h.1 a with
  | some (.inl r) => some r
  | some (.inr _) => none
  | none => xt a
/-- what is known of the arrays at a state: the classes of all that lie in the heap; those below the base -/
def mj_Arrs (dA : FieldType → ClassId) (xt : Nat → Option (FieldType × List Value)) (tys : List FieldType) (base : Nat) (HB : Heap) (s : State) : Prop :=
  (∀ ty ∈ tys, mj_Ar dA s ty) ∧ ∀ (a : Nat) (ty : FieldType) (xs : List Value), xt a = some (ty, xs) → a < base ∧ ∃ cell : Cell, HB[a]? = some cell ∧ s.isArrayOf cell ty ∧ cell.vm ≠ .unknown ∧ cell.slots = xs.toArray
theorem mj_Arrs_moved {dA : FieldType → ClassId} {xt : Nat → Option (FieldType × List Value)} {tys : List FieldType} {base : Nat} {HB : Heap} {s U : State} (hvm : s.vm.Alike U.vm) (h : mj_Arrs dA xt tys base HB s) : mj_Arrs dA xt tys base HB U :=
  ⟨fun ty ht => mj_Ar_moved hvm (h.1 ty ht), fun a ty xs hx => by
    obtain ⟨h1, cell, h2, h3, h4⟩ := h.2 a ty xs hx
    exact ⟨h1, cell, h2, State.isArrayOf_alike hvm h3, h4⟩⟩
section MJH
variable {p : Program} {l : Launch} {e : Env} {R : Room} {s : State} {m : MethodId} {args : Array Value} {below : List Frame} {meth : Method} {c : Code} {H : Heap} {locs : List Loc} {cells slots : Nat} {Q : State → Prop}
variable {cc : ByteArray} {pc : Nat} {ls : Array Slot} {rest : List Value} {D : va_G} {cl : List vw_C} {dA : FieldType → ClassId} {xt : Nat → Option (FieldType × List Value)} {tys : List FieldType} {base : Nat} {HB : Heap} {h : mj_H} {a : Nat}
theorem mj_arr_ok (hR : mj_Rel D cl dA tys base HB h H) (hA : mj_Arrs dA xt tys base HB s) {ty : FieldType} {xs : List Value} (hx : mj_arr xt h a = some (ty, xs)) : ∃ cell : Cell, H[a]? = some cell ∧ s.isArrayOf cell ty ∧ cell.vm ≠ .unknown ∧ cell.slots = xs.toArray := by
  unfold mj_arr at hx
  split at hx
  · rename_i r hr
    cases hx
    obtain ⟨-, k, comp, h2, h3⟩ := hA.1 ty (hR.2.2.2.1 a _ hr).2.1
    exact ⟨_, (hR.2.2.2.1 a _ hr).2.2, mj_isArr h2 h3 _, (fun h => by cases h), rfl⟩
  · cases hx
  · obtain ⟨h1, cell, h2, h3⟩ := hA.2 a ty xs hx
    exact ⟨cell, by rw [hR.2.2.1 a h1]; exact h2, h3⟩
theorem mj_in {j : Int32} {cell : Cell} {xs : List Value} {v : Value} (hs : cell.slots = xs.toArray) (hj : ¬ j < 0) (hv : xs[j.toNatClampNeg]? = some v) : ¬ (j < 0 ∨ cell.slots.size ≤ j.toNatClampNeg) ∧ cell.slots[j.toNatClampNeg]? = some v := by
  have hlt : j.toNatClampNeg < xs.length := (List.getElem?_eq_some_iff.mp hv).1
  rw [hs]
  refine ⟨fun q => ?_, by simpa using hv⟩
  rcases q with q | q
  · exact hj q
  · simp at q; omega
theorem mj_in2 {j : Int32} {cell : Cell} {xs : List Value} (hs : cell.slots = xs.toArray) (hj : ¬ j < 0) (hv : j.toNatClampNeg < xs.length) : ¬ (j < 0 ∨ cell.slots.size ≤ j.toNatClampNeg) := by
  rw [hs]
  intro q
  rcases q with q | q
  · exact hj q
  · simp at q; omega
theorem mj_iald (hexec : p.tables.exec = Jvm.exec) (hb : c.code = cc) (hR : mj_Rel D cl dA tys base HB h H) (hA : mj_Arrs dA xt tys base HB s) {xs : List Value} (he : mj_arr xt h a = some (.int, xs)) {j : Int32} {v : Value} (hj : ¬ j < 0) (hv : xs[j.toNatClampNeg]? = some v) (hdg : decode cc pc = .ok (.iaload, 1))
    (kk : W p l e R s m args below meth c H locs cells slots Q (F0 m (pc + 1) ls (v :: rest))) : W p l e R s m args below meth c H locs cells slots Q (F0 m pc ls (.int j :: .ref a :: rest)) := by
  obtain ⟨cell, h1, h2, h3, h4⟩ := mj_arr_ok hR hA he
  obtain ⟨g1, g2⟩ := mj_in h4 hj hv
  exact W.iald hexec hb h1 h2 h3 g1 g2 rfl rfl hdg kk
theorem mj_lald (hexec : p.tables.exec = Jvm.exec) (hb : c.code = cc) (hR : mj_Rel D cl dA tys base HB h H) (hA : mj_Arrs dA xt tys base HB s) {xs : List Value} (he : mj_arr xt h a = some (.long, xs)) {j : Int32} {v : Value} (hj : ¬ j < 0) (hv : xs[j.toNatClampNeg]? = some v) (hdg : decode cc pc = .ok (.laload, 1))
    (kk : W p l e R s m args below meth c H locs cells slots Q (F0 m (pc + 1) ls (v :: rest))) : W p l e R s m args below meth c H locs cells slots Q (F0 m pc ls (.int j :: .ref a :: rest)) := by
  obtain ⟨cell, h1, h2, h3, h4⟩ := mj_arr_ok hR hA he
  obtain ⟨g1, g2⟩ := mj_in h4 hj hv
  exact W.lald hexec hb h1 h2 h3 g1 g2 rfl rfl hdg kk
theorem mj_bald (hexec : p.tables.exec = Jvm.exec) (hb : c.code = cc) (hR : mj_Rel D cl dA tys base HB h H) (hA : mj_Arrs dA xt tys base HB s) {xs : List Value} (he : mj_arr xt h a = some (.byte, xs)) {j : Int32} {v : Value} (hj : ¬ j < 0) (hv : xs[j.toNatClampNeg]? = some v) (hdg : decode cc pc = .ok (.baload, 1))
    (kk : W p l e R s m args below meth c H locs cells slots Q (F0 m (pc + 1) ls (v :: rest))) : W p l e R s m args below meth c H locs cells slots Q (F0 m pc ls (.int j :: .ref a :: rest)) := by
  obtain ⟨cell, h1, h2, h3, h4⟩ := mj_arr_ok hR hA he
  obtain ⟨g1, g2⟩ := mj_in h4 hj hv
  exact W.bald hexec hb h1 h2 h3 g1 g2 rfl rfl hdg kk
theorem mj_zald (hexec : p.tables.exec = Jvm.exec) (hb : c.code = cc) (hR : mj_Rel D cl dA tys base HB h H) (hA : mj_Arrs dA xt tys base HB s) {xs : List Value} (he : mj_arr xt h a = some (.boolean, xs)) {j : Int32} {v : Value} (hj : ¬ j < 0) (hv : xs[j.toNatClampNeg]? = some v) (hdg : decode cc pc = .ok (.baload, 1))
    (kk : W p l e R s m args below meth c H locs cells slots Q (F0 m (pc + 1) ls (v :: rest))) : W p l e R s m args below meth c H locs cells slots Q (F0 m pc ls (.int j :: .ref a :: rest)) := by
  obtain ⟨cell, h1, h2, h3, h4⟩ := mj_arr_ok hR hA he
  obtain ⟨g1, g2⟩ := mj_in h4 hj hv
  exact W.zald hexec hb h1 h2 h3 g1 g2 rfl rfl hdg kk
theorem mj_cald (hexec : p.tables.exec = Jvm.exec) (hb : c.code = cc) (hR : mj_Rel D cl dA tys base HB h H) (hA : mj_Arrs dA xt tys base HB s) {xs : List Value} (he : mj_arr xt h a = some (.char, xs)) {j : Int32} {v : Value} (hj : ¬ j < 0) (hv : xs[j.toNatClampNeg]? = some v) (hdg : decode cc pc = .ok (.caload, 1))
    (kk : W p l e R s m args below meth c H locs cells slots Q (F0 m (pc + 1) ls (v :: rest))) : W p l e R s m args below meth c H locs cells slots Q (F0 m pc ls (.int j :: .ref a :: rest)) := by
  obtain ⟨cell, h1, h2, h3, h4⟩ := mj_arr_ok hR hA he
  obtain ⟨g1, g2⟩ := mj_in h4 hj hv
  exact W.cald hexec hb h1 h2 h3 g1 g2 rfl rfl hdg kk
theorem mj_aald (hexec : p.tables.exec = Jvm.exec) (hb : c.code = cc) (hR : mj_Rel D cl dA tys base HB h H) (hA : mj_Arrs dA xt tys base HB s) {ty : FieldType} (hty : ty.isReference = true) {xs : List Value} (he : mj_arr xt h a = some (ty, xs)) {j : Int32} {v : Value} (hj : ¬ j < 0) (hv : xs[j.toNatClampNeg]? = some v) (hdg : decode cc pc = .ok (.aaload, 1))
    (kk : W p l e R s m args below meth c H locs cells slots Q (F0 m (pc + 1) ls (v :: rest))) : W p l e R s m args below meth c H locs cells slots Q (F0 m pc ls (.int j :: .ref a :: rest)) := by
  obtain ⟨cell, h1, h2, h3, h4⟩ := mj_arr_ok hR hA he
  obtain ⟨g1, g2⟩ := mj_in h4 hj hv
  exact W.aald hexec hb h1 h2 hty h3 g1 g2 rfl rfl hdg kk
theorem mj_alen (hexec : p.tables.exec = Jvm.exec) (hb : c.code = cc) (hR : mj_Rel D cl dA tys base HB h H) (hA : mj_Arrs dA xt tys base HB s) {ty : FieldType} {xs : List Value} (he : mj_arr xt h a = some (ty, xs)) (hdg : decode cc pc = .ok (.arraylength, 1))
    (kk : W p l e R s m args below meth c H locs cells slots Q (F0 m (pc + 1) ls (.int (Int32.ofNat xs.length) :: rest))) : W p l e R s m args below meth c H locs cells slots Q (F0 m pc ls (.ref a :: rest)) := by
  obtain ⟨cell, h1, h2, h3, h4⟩ := mj_arr_ok hR hA he
  exact W.alen hexec hb h1 h2 (n := Int32.ofNat xs.length) (by rw [h4]; simp) rfl rfl hdg kk
theorem mj_iast (hexec : p.tables.exec = Jvm.exec) (hb : c.code = cc) (hR : mj_Rel D cl dA tys base HB h H) (hA : mj_Arrs dA xt tys base HB s) {xs : List Value} (he : h.1 a = some (.inl (.int, xs))) {j : Int32} {x : Int32} (hj : ¬ j < 0) (hv : j.toNatClampNeg < xs.length) (hdg : decode cc pc = .ok (.iastore, 1))
    (kk : ∀ (H' : Heap) (q : Loc), mj_Rel D cl dA tys base HB (mj_put h a (.inl (.int, xs.set j.toNatClampNeg (.int x)))) H' → base ≤ q.base → W p l e R s m args below meth c H' (locs ++ [q]) cells slots Q (F0 m (pc + 1) ls rest)) : W p l e R s m args below meth c H locs cells slots Q (F0 m pc ls (.int x :: .int j :: .ref a :: rest)) := by
  obtain ⟨hba, hty, hat⟩ := hR.2.2.2.1 a _ he
  obtain ⟨-, k, comp, h2, h3⟩ := hA.1 .int hty
  refine W.iast hexec hb hat (mj_isArr h2 h3 _) (fun h => by cases h) (mj_in2 rfl hj hv) rfl rfl hdg fun H' e1 e2 e3 => ?_
  rw [mj_setSlot] at e1
  exact kk H' _ (mj_Rel_put hR hba e2 e3 ⟨hty, e1⟩) hba
theorem mj_last (hexec : p.tables.exec = Jvm.exec) (hb : c.code = cc) (hR : mj_Rel D cl dA tys base HB h H) (hA : mj_Arrs dA xt tys base HB s) {xs : List Value} (he : h.1 a = some (.inl (.long, xs))) {j : Int32} {x : Int64} (hj : ¬ j < 0) (hv : j.toNatClampNeg < xs.length) (hdg : decode cc pc = .ok (.lastore, 1))
    (kk : ∀ (H' : Heap) (q : Loc), mj_Rel D cl dA tys base HB (mj_put h a (.inl (.long, xs.set j.toNatClampNeg (.long x)))) H' → base ≤ q.base → W p l e R s m args below meth c H' (locs ++ [q]) cells slots Q (F0 m (pc + 1) ls rest)) : W p l e R s m args below meth c H locs cells slots Q (F0 m pc ls (.long x :: .int j :: .ref a :: rest)) := by
  obtain ⟨hba, hty, hat⟩ := hR.2.2.2.1 a _ he
  obtain ⟨-, k, comp, h2, h3⟩ := hA.1 .long hty
  refine W.last hexec hb hat (mj_isArr h2 h3 _) (fun h => by cases h) (mj_in2 rfl hj hv) rfl rfl hdg fun H' e1 e2 e3 => ?_
  rw [mj_setSlot] at e1
  exact kk H' _ (mj_Rel_put hR hba e2 e3 ⟨hty, e1⟩) hba
theorem mj_bast (hexec : p.tables.exec = Jvm.exec) (hb : c.code = cc) (hR : mj_Rel D cl dA tys base HB h H) (hA : mj_Arrs dA xt tys base HB s) {xs : List Value} (he : h.1 a = some (.inl (.byte, xs))) {j : Int32} {x : Int32} (hj : ¬ j < 0) (hv : j.toNatClampNeg < xs.length) (hdg : decode cc pc = .ok (.bastore, 1))
    (kk : ∀ (H' : Heap) (q : Loc), mj_Rel D cl dA tys base HB (mj_put h a (.inl (.byte, xs.set j.toNatClampNeg (narrow .byte (.int x))))) H' → base ≤ q.base → W p l e R s m args below meth c H' (locs ++ [q]) cells slots Q (F0 m (pc + 1) ls rest)) : W p l e R s m args below meth c H locs cells slots Q (F0 m pc ls (.int x :: .int j :: .ref a :: rest)) := by
  obtain ⟨hba, hty, hat⟩ := hR.2.2.2.1 a _ he
  obtain ⟨-, k, comp, h2, h3⟩ := hA.1 .byte hty
  refine W.bast hexec hb hat (mj_isArr h2 h3 _) (fun h => by cases h) (mj_in2 rfl hj hv) rfl rfl hdg fun H' e1 e2 e3 => ?_
  rw [mj_setSlot] at e1
  exact kk H' _ (mj_Rel_put hR hba e2 e3 ⟨hty, e1⟩) hba
theorem mj_zast (hexec : p.tables.exec = Jvm.exec) (hb : c.code = cc) (hR : mj_Rel D cl dA tys base HB h H) (hA : mj_Arrs dA xt tys base HB s) {xs : List Value} (he : h.1 a = some (.inl (.boolean, xs))) {j : Int32} {x : Int32} (hj : ¬ j < 0) (hv : j.toNatClampNeg < xs.length) (hdg : decode cc pc = .ok (.bastore, 1))
    (kk : ∀ (H' : Heap) (q : Loc), mj_Rel D cl dA tys base HB (mj_put h a (.inl (.boolean, xs.set j.toNatClampNeg (narrow .boolean (.int x))))) H' → base ≤ q.base → W p l e R s m args below meth c H' (locs ++ [q]) cells slots Q (F0 m (pc + 1) ls rest)) : W p l e R s m args below meth c H locs cells slots Q (F0 m pc ls (.int x :: .int j :: .ref a :: rest)) := by
  obtain ⟨hba, hty, hat⟩ := hR.2.2.2.1 a _ he
  obtain ⟨-, k, comp, h2, h3⟩ := hA.1 .boolean hty
  refine W.zast hexec hb hat (mj_isArr h2 h3 _) (fun h => by cases h) (mj_in2 rfl hj hv) rfl rfl hdg fun H' e1 e2 e3 => ?_
  rw [mj_setSlot] at e1
  exact kk H' _ (mj_Rel_put hR hba e2 e3 ⟨hty, e1⟩) hba
theorem mj_cast (hexec : p.tables.exec = Jvm.exec) (hb : c.code = cc) (hR : mj_Rel D cl dA tys base HB h H) (hA : mj_Arrs dA xt tys base HB s) {xs : List Value} (he : h.1 a = some (.inl (.char, xs))) {j : Int32} {x : Int32} (hj : ¬ j < 0) (hv : j.toNatClampNeg < xs.length) (hdg : decode cc pc = .ok (.castore, 1))
    (kk : ∀ (H' : Heap) (q : Loc), mj_Rel D cl dA tys base HB (mj_put h a (.inl (.char, xs.set j.toNatClampNeg (narrow .char (.int x))))) H' → base ≤ q.base → W p l e R s m args below meth c H' (locs ++ [q]) cells slots Q (F0 m (pc + 1) ls rest)) : W p l e R s m args below meth c H locs cells slots Q (F0 m pc ls (.int x :: .int j :: .ref a :: rest)) := by
  obtain ⟨hba, hty, hat⟩ := hR.2.2.2.1 a _ he
  obtain ⟨-, k, comp, h2, h3⟩ := hA.1 .char hty
  refine W.cast hexec hb hat (mj_isArr h2 h3 _) (fun h => by cases h) (mj_in2 rfl hj hv) rfl rfl hdg fun H' e1 e2 e3 => ?_
  rw [mj_setSlot] at e1
  exact kk H' _ (mj_Rel_put hR hba e2 e3 ⟨hty, e1⟩) hba
end MJH
