/-! THE START: out of one pure run of the law, the claim -/
/-- what the pure machine is given: the script, the statics -/
def kX (b L : Nat) (xs : Nat → Int32) (base : Nat) (xt : mj_X) (ct : Nat → Value) : Prop := b < base ∧ xt b = some (.int, (List.range L).map (fun j => .int (xs j))) ∧ ct 0 = .int 1 ∧ (∀ n, 1 ≤ n → n < 6 → ct n = .null ∨ ∃ t, ct n = .ref t) ∧
  (∃ t ys, ct 2 = .ref t ∧ t < base ∧ xt t = some (.byte, ys) ∧ ∀ j, j < 100 → ys[j]? = some (.int (Int32.ofNat (48 + j % 10)))) ∧ ∃ t ys, ct 3 = .ref t ∧ t < base ∧ xt t = some (.byte, ys) ∧ ∀ j, j < 100 → ys[j]? = some (.int (Int32.ofNat (48 + j / 10)))
def k_h0 (base : Nat) : mj_H := (fun _ => none, base, 0)
theorem k_isRef {args : Array Value} {s : State} {t : Term} (h : (Cond.isRef t).before args s = true) : ∃ v, t.eval args s none [] s = some v ∧ (v = .null ∨ ∃ a, v = .ref a) := by
  cases hv : t.eval args s none [] s with
  | none => simp [Cond.before, Cond.holds, Cond.value, hv] at h
  | some w =>
    simp only [Cond.before, Cond.holds, Cond.value, hv] at h
    cases w with
    | null => exact ⟨_, rfl, Or.inl rfl⟩
    | ref t => exact ⟨_, rfl, Or.inr ⟨t, rfl⟩⟩
    | _ => simp at h
theorem k_arTy {s : State} {cell : Cell} {t1 t2 : FieldType} (h1 : s.isArrayOf cell t1) (h2 : s.isArrayOf cell t2) : t1 = t2 := by
  obtain ⟨-, k, hk, c1, e1⟩ := h1
  obtain ⟨-, k', hk', c2, e2⟩ := h2
  cases Option.some.inj (hk.symm.trans hk')
  have := e1.symm.trans e2
  injection this
set_option maxHeartbeats 1000000 in
theorem kG_start {s : State} {b L : Nat} {xs : Nat → Int32} (hcode : (Cond.code x code maxLocals ret).before #[Value.ref b] s = true) (hts : ∀ w ∈ lw_tbl, w.before #[Value.ref b] s = true) (hX : va_X b L xs s s.heap) (hgv : (Jvm.Cond.and given_1 narrow_1).before #[Value.ref b] s = true) :
    ∃ (D : va_G) (dA : FieldType → ClassId) (xt : mj_X) (ct : Nat → Value), kG D dA xt ct s.heap.size s.heap s ∧ kX b L xs s.heap.size xt ct := by
  have hn : ∀ w ∈ kn_f, w.before #[Value.ref b] s = true := flat_of_before _ hgv
  have hkt0 : ∀ w ∈ kt, w.before #[Value.ref b] s = true := by
    intro w hw
    rcases List.mem_cons.mp hw with rfl | hw
    · exact hcode
    · exact hts w (List.mem_filter.mp hw).1
  have hkt : ∀ w ∈ kt, ∀ a, w.before a s = true := fun w hw a => kt_kp w hw _ a s s (State.WarmedH.refl s) (hkt0 w hw)
  have HD : ∀ ci : Nat, ∃ d : ClassId × (Nat → Nat), ∀ q, kc_cl[ci]? = some q → u_Kn s q.1 q.2.1 q.2.2 d.1 d.2 := by
    intro ci
    cases hq : kc_cl[ci]? with
    | none => exact ⟨(0, fun _ => 0), fun q h => by cases h⟩
    | some q =>
      obtain ⟨n, hi⟩ := kc_inst q (List.mem_of_getElem? hq)
      obtain ⟨cC, iS, hK⟩ := u_known (args := #[Value.ref b]) hkt0 (kc_ok ci q hq).1 (hts _ hi)
      exact ⟨(cC, iS), fun q' h => by cases h; exact hK⟩
  obtain ⟨fD, hfD⟩ := Classical.axiomOfChoice HD
  obtain ⟨t2, e2, T2⟩ := va_Tof (args := #[Value.ref b]) (s := s) (tm := .static "java/lang/Integer" "DigitOnes" "[B") (ty := .byte) (N := 100) (f := fun j => .int (Int32.ofNat (48 + j % 10))) (A := fun a => s.heap.size ≤ a) (by decide) (hn _ kn_a2) (va_eqt (hn _ kn_l2)) (fun j hj => va_eqt (hn _ (kn_e2 j hj))) (fun a ha => Nat.not_le.mpr ha)
  obtain ⟨t3, e3, T3⟩ := va_Tof (args := #[Value.ref b]) (s := s) (tm := .static "java/lang/Integer" "DigitTens" "[B") (ty := .byte) (N := 100) (f := fun j => .int (Int32.ofNat (48 + j / 10))) (A := fun a => s.heap.size ≤ a) (by decide) (hn _ kn_a3) (va_eqt (hn _ kn_l3)) (fun j hj => va_eqt (hn _ (kn_e3 j hj))) (fun a ha => Nat.not_le.mpr ha)
  obtain ⟨v1, e1, r1⟩ := k_isRef (hn _ kn_r1)
  obtain ⟨v4, e4, r4⟩ := k_isRef (hn _ kn_r4)
  obtain ⟨v5, e5, r5⟩ := k_isRef (hn _ kn_r5)
  have e0 := va_eqt (hn _ kn_c0)
  obtain ⟨scr, x1, x2, x3, x4, x5⟩ := hX
  obtain ⟨c2, y1, y2, y3, y4, y5, y6, y7⟩ := T2
  obtain ⟨c3, z1, z2, z3, z4, z5, z6, z7⟩ := T3
  have n2 : t2 ≠ b := fun h => by
    subst h
    cases Option.some.inj (x1.symm.trans y1)
    cases k_arTy x2 y2
  have n3 : t3 ≠ b := fun h => by
    subst h
    cases Option.some.inj (x1.symm.trans z1)
    cases k_arTy x2 z2
  have hlist : scr.slots = ((List.range L).map (fun j => Value.int (xs j))).toArray := by
    apply Array.ext_getElem?
    intro i
    by_cases hi : i < L
    · rw [x5 i hi]; simp [hi]
    · rw [Array.getElem?_eq_none (by omega)]; simp [hi]
  refine ⟨(fun ci => (fD ci).1, fun ci => (fD ci).2), fun ty => (s.vm.findClass ("[" ++ ty.toString)).getD 0, fun a => if a = b then some (.int, (List.range L).map (fun j => .int (xs j))) else if a = t2 then some (.byte, c2.slots.toList) else if a = t3 then some (.byte, c3.slots.toList) else none,
    fun n => if n = 0 then .int 1 else if n = 1 then v1 else if n = 2 then .ref t2 else if n = 3 then .ref t3 else if n = 4 then v4 else if n = 5 then v5 else .null, ⟨⟨hkt, ⟨fun ci q hq => hfD ci q hq, fun k q h => by cases h⟩, ⟨fun ty hty => ?_, fun a ty ys ha => ?_⟩⟩, fun q _ => rfl, fun n z hz => ?_, fun a ha c hc hac => mj_NC_of (hn _ (kn_nc a ha c hc hac)), fun e he => ?_⟩, ?_⟩
  · simp only [kty, List.mem_cons, List.not_mem_nil, or_false] at hty
    have arr : ∀ t, (Cond.arrayClass t).before #[Value.ref b] s = true → mj_Ar (fun ty => (s.vm.findClass ("[" ++ ty.toString)).getD 0) s t := fun t h => by
      obtain ⟨c, k, comp, g1, g2, g3⟩ := Cond.arrayClass_spec h
      refine ⟨by dsimp only; rw [g1]; rfl, k, comp, ?_, g3⟩
      show s.vm.classes[(s.vm.findClass ("[" ++ t.toString)).getD 0]? = some k
      rw [g1]
      exact g2
    have obj : ∀ C, (Cond.arrayOver (.object C)).before #[Value.ref b] s = true → mj_Ar (fun ty => (s.vm.findClass ("[" ++ ty.toString)).getD 0) s (.object C) := fun C h => by
      obtain ⟨comp, c, k, g1, g2, g3, g4, g5⟩ := Cond.arrayOver_spec h
      refine ⟨by dsimp only; rw [g5]; rfl, k, comp, ?_, g4⟩
      show s.vm.classes[(s.vm.findClass ("[" ++ (FieldType.object C).toString)).getD 0]? = some k
      rw [g5]
      exact g3
    rcases hty with rfl | rfl | rfl | rfl | rfl | rfl | rfl | rfl
    · exact arr _ (hkt _ ky_wI _)
    · exact arr _ (hkt _ ky_wJ _)
    · exact arr _ (hkt _ ky_wB _)
    · exact arr _ (hkt _ ky_wC _)
    · exact arr _ (hkt _ ky_wZ _)
    · exact obj _ (hkt _ (ka_W _ (by decide +kernel)) _)
    · exact obj _ (hkt _ (ka_W _ (by decide +kernel)) _)
    · obtain ⟨comp, c, k, g1, g2, g3, g4, g5⟩ := arrayOverA_spec (hkt _ (k_glW (.arrayOver (.array .long)) (by simp [k_gl])) #[Value.ref b])
      refine ⟨by dsimp only; rw [g5]; rfl, k, comp, ?_, g4⟩
      show s.vm.classes[(s.vm.findClass ("[" ++ (FieldType.array .long).toString)).getD 0]? = some k
      rw [g5]
      exact g3
  · have ha' : (if a = b then some (FieldType.int, (List.range L).map (fun j => Value.int (xs j))) else if a = t2 then some (.byte, c2.slots.toList) else if a = t3 then some (.byte, c3.slots.toList) else none) = some (ty, ys) := ha
    split at ha'
    · rename_i h1
      cases ha'
      subst h1
      exact ⟨(Array.getElem?_eq_some_iff.mp x1).1, scr, x1, x2, x3, hlist⟩
    · split at ha'
      · rename_i h1
        cases ha'
        subst h1
        exact ⟨(Array.getElem?_eq_some_iff.mp y1).1, c2, y1, y2, y3, by simp⟩
      · split at ha'
        · rename_i h1
          cases ha'
          subst h1
          exact ⟨(Array.getElem?_eq_some_iff.mp z1).1, c3, z1, z2, z3, by simp⟩
        · cases ha'
  · have hlt : n < 6 := (List.getElem?_eq_some_iff.mp hz).1
    rcases (show n = 0 ∨ n = 1 ∨ n = 2 ∨ n = 3 ∨ n = 4 ∨ n = 5 by omega) with rfl | rfl | rfl | rfl | rfl | rfl
    · cases hz; exact mj_Zs_of (hts _ kst_l0) (hts _ kst_i0) e0
    · cases hz; exact mj_Zs_of (hts _ kst_l1) (hts _ kst_i1) e1
    · cases hz; exact mj_Zs_of (hts _ kst_l2) (hts _ kst_i2) e2
    · cases hz; exact mj_Zs_of (hts _ kst_l3) (hts _ kst_i3) e3
    · cases hz; exact mj_Zs_of (hts _ kst_l4) (hts _ kst_i4) e4
    · cases hz; exact mj_Zs_of (hts _ kst_l5) (hts _ kst_i5) e5
  · obtain ⟨a, _, _, _, ha, -⟩ := Cond.exactly_spec (hn _ (kxs_exa e he))
    exact ⟨a, vk_R.of (A := #[Value.ref b]) (hts _ (kxs_str e he)) ha⟩
  · refine ⟨(Array.getElem?_eq_some_iff.mp x1).1, if_pos rfl, rfl, fun n h1 h2 => ?_, ⟨t2, c2.slots.toList, rfl, (Array.getElem?_eq_some_iff.mp y1).1, ?_, fun j hj => ?_⟩, t3, c3.slots.toList, rfl, (Array.getElem?_eq_some_iff.mp z1).1, ?_, fun j hj => ?_⟩
    · rcases (show n = 1 ∨ n = 2 ∨ n = 3 ∨ n = 4 ∨ n = 5 by omega) with rfl | rfl | rfl | rfl | rfl
      · exact r1
      · exact Or.inr ⟨t2, rfl⟩
      · exact Or.inr ⟨t3, rfl⟩
      · exact r4
      · exact r5
    · show (if t2 = b then _ else if t2 = t2 then _ else _) = _
      rw [if_neg n2, if_pos rfl]
    · rw [Array.getElem?_toList]; exact y6 j hj
    · show (if t3 = b then some (FieldType.int, (List.range L).map (fun j => Value.int (xs j))) else if t3 = t2 then some (.byte, c2.slots.toList) else if t3 = t3 then some (.byte, c3.slots.toList) else none) = _
      rw [if_neg n3]
      by_cases h : t3 = t2
      · subst h
        cases Option.some.inj (y1.symm.trans z1)
        rw [if_pos rfl]
      · rw [if_neg h, if_pos rfl]
    · rw [Array.getElem?_toList]; exact z6 j hj
def k_R : String := "DiceOddsLaw"
/-- the end of the law's run -/
def k_Z (below : List Frame) (s : State) : State → Prop := fun t => ∃ o, t.status = .running ∧ Ended t below o ∧ o = .returned (some (.int 1)) ∧ Framed s o t [] 600002 7302232
theorem k_same {s t : State} {L : List Loc} {k n k' n' : Nat} (hL : ∀ q ∈ L, s.heap.size ≤ q.base) (hk : k ≤ k') (hn : n ≤ n') (h : s.sameButNew t L k n) : s.sameButNew t [] k' n' := by
  obtain ⟨h1, h2, h3, h4, h5, h6⟩ := h
  refine ⟨h1, h2, Nat.le_trans h3 (by omega), h4, Nat.le_trans h5 hn, fun a c hc => ?_⟩
  obtain ⟨c', g1, g2, g3, g4⟩ := h6 a c hc
  refine ⟨c', g1, g2, g3, fun i _ => g4 i fun hm => ?_⟩
  have := hL _ hm
  have := (Array.getElem?_eq_some_iff.mp hc).1
  dsimp only at *
  omega
/-- the whole run, out of the pure one -/
theorem k_start {p : Program} {e : Env} {s : State} {m : MethodId} {below : List Frame} {meth : Method} {c : Code} (l : Launch) {b L : Nat} {xs : Nat → Int32} (hfl : l.flags = pinnedFlags ++ [noTraceFlag]) (hx : p.tables.exec = Jvm.exec) (hc : mj_Cal x code maxLocals ret [] s m meth c) (hcode : (Cond.code x code maxLocals ret).before #[Value.ref b] s = true) (hts : ∀ w ∈ lw_tbl, w.before #[Value.ref b] s = true) (hX : va_X b L xs s s.heap) (hgv : (Jvm.Cond.and given_1 narrow_1).before #[Value.ref b] s = true)
    (pure : ∀ (xt : mj_X) (ct : Nat → Value), kX b L xs s.heap.size xt ct → ∃ (f : Nat) (h : mj_H), mj_x kY xt ct f 1000 300 0 [(0, .ref b)] [] (k_h0 s.heap.size) = some (.inl (some (.int 1)), h) ∧ h.2.1 ≤ s.heap.size + 600002 ∧ h.2.2 ≤ 7302232) :
    W p l e room_1 s m #[Value.ref b] below meth c s.heap [] 0 0 (k_Z below s) (entryFrame m ([Value.ref b] : List Value).toArray 8) := by
  obtain ⟨D, dA, xt, ct, hG, hKX⟩ := kG_start hcode hts hX hgv
  obtain ⟨f, h, hrun, hce, hsl⟩ := pure xt ct hKX
  have hM : ky_M 300 = some (x, code, maxLocals, ret, []) := rfl
  have hRel : mj_Rel D kc_cl dA kty s.heap.size s.heap (k_h0 s.heap.size) s.heap := ⟨rfl, Nat.le_refl _, fun q _ => rfl, (fun a y h => by have h' : (none : Option mj_E) = some y := h; cases h'), (fun a h1 h2 => absurd h2 (Nat.not_lt.mpr h1))⟩
  have hs := mj_sound (p := p) (l := l) (e := e) kY_ok hx (G := kG D dA xt ct s.heap.size s.heap) (fun s U h1 h2 h3 => kG_moved h1 h2 h3) (fun s h1 => ⟨h1.1, kG_pr hx hfl hKX.2.2.2.1 h1⟩) f 1000 300 0 [(0, .ref b)] [] (k_h0 s.heap.size) _ _ hM hrun room_1 s m #[Value.ref b] below meth c s.heap [] 0 0
    (([Slot.val (.ref b)] ++ List.replicate 7 Slot.unset).toArray) hc hG hRel (lv_entry [Value.ref b] (n := 8) (Nat.le_of_ble_eq_true rfl)) (fun q h => by cases h) (by decide) (by decide) (by show 0 + (h.2.1 - s.heap.size) ≤ 600002; omega) (by show 0 + (h.2.2 - 0) ≤ 7302232; omega)
  have he : entryFrame m ([Value.ref b] : List Value).toArray 8 = F0 m 0 (([Slot.val (.ref b)] ++ List.replicate 7 Slot.unset).toArray) [] := rfl
  rw [he]
  refine mj_W_mono (fun t ht => ?_) hs
  obtain ⟨Lc, h1, h2, h3, h4, h5, h6⟩ := ht
  exact ⟨_, h1, h2, rfl, ⟨_, rfl⟩, h3, k_same h5 (by show 0 + (h.2.1 - s.heap.size) ≤ _; omega) (by show 0 + (h.2.2 - 0) ≤ _; omega) h4⟩
