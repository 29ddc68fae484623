/-- what is known at a state, of which the small machine makes use -/
def mj_Env (TB : List Cond) (cl : List vw_C) (tys : List FieldType) (D : va_G) (dA : FieldType → ClassId) (xt : mj_X) (base : Nat) (HB : Heap) (s : State) : Prop :=
  (∀ w ∈ TB, ∀ a, w.before a s = true) ∧ va_K D cl [] s ∧ mj_Arrs dA xt tys base HB s
theorem mj_Env_moved {TB : List Cond} {cl : List vw_C} {tys : List FieldType} {D : va_G} {dA : FieldType → ClassId} {xt : mj_X} {base : Nat} {HB : Heap} {s U : State} (hk : ∀ w ∈ TB, mj_kp w) (hW : s.WarmedH U.vm) (h : mj_Env TB cl tys D dA xt base HB s) : mj_Env TB cl tys D dA xt base HB U :=
  ⟨fun w hw a => hk w hw a a s U hW (h.1 w hw a), va_K.moved hW.alike h.2.1, mj_Arrs_moved hW.alike h.2.2⟩
section MJS
variable {p : Program} {l : Launch} {e : Env} {R : Room} {s : State} {m : MethodId} {args : Array Value} {below : List Frame} {meth : Method} {c : Code} {H : Heap} {locs : List Loc} {cells slots : Nat} {Q : State → Prop}
variable {Y : mj_Y} {M : Nat → Option mj_I} {TB : List Cond} {cl : List vw_C} {tys : List FieldType} {D : va_G} {dA : FieldType → ClassId} {xt : mj_X} {ct : Nat → Value} {base : Nat} {HB : Heap}
variable {k pc : Nat} {I : mj_I} {lv : mj_L} {st : List Value} {h : mj_H} {ls : Array Slot}
theorem mj_own {y : MethodName} {b : ByteArray} {n : Nat} {r : Option FieldType} {hh : List (Nat × Nat × Nat × Nat)} (hc : mj_Cal y b n r hh s m meth c) : s.vm.findClass y.cls = some m.cls := findClass_of_methodNamed hc.1
theorem mj_fw_of (hE : mj_Env TB cl tys D dA xt base HB s) {own : String} {idx : Nat} {ref : String} {x : String × String × String × Bool}
    (h1 : Cond.fieldLink own idx ref x.2.1 x.2.2.1 ∈ TB ∨ ∃ host, Cond.fieldLinkNest own idx ref x.2.1 x.2.2.1 host ∈ TB) (h2 : ref = x.1 ∨ Cond.sameField ref x.1 x.2.1 x.2.2.1 ∈ TB) : mj_fw own idx ref x args s := by
  refine ⟨?_, ?_⟩
  · rcases h1 with h | ⟨host, h⟩
    · exact Or.inl (hE.1 _ h _)
    · exact Or.inr ⟨host, hE.1 _ h _⟩
  · rcases h2 with h | h
    · exact Or.inl h
    · exact Or.inr (hE.1 _ h _)
theorem mj_st_getf (hO : mj_Ok Y M TB cl tys) (hI : M k = some I) (hx : p.tables.exec = Jvm.exec) (hc : mj_Cal I.1 I.2.1 I.2.2.1 I.2.2.2.1 I.2.2.2.2 s m meth c) (hE : mj_Env TB cl tys D dA xt base HB s) (hR : mj_Rel D cl dA tys base HB h H) {idx : Nat} (hd : decode I.2.1 pc = .ok (.getfield idx, 3))
    {q : Nat × mj_L × List Value × mj_H} (hs : mj_gf Y k pc idx lv st h = some (.inl q)) (kk : q.2.2.2 = h → q.2.1 = lv → W p l e R s m args below meth c H locs cells slots Q (F0 m q.1 ls q.2.2.1)) : W p l e R s m args below meth c H locs cells slots Q (F0 m pc ls st) := by
  obtain ⟨pc', lv', st', h'⟩ := q
  unfold mj_gf at hs
  split at hs
  · rename_i a r
    split at hs
    · rename_i ci fs he
      split at hs
      · rename_i q hq
        obtain ⟨v, hv, hg⟩ := Option.bind_eq_some_iff.mp hs
        obtain ⟨rfl, rfl, rfl, rfl⟩ := mj_go_inj hg
        obtain ⟨C, T, N, ref, g1, g2, g3, g4, g5, -⟩ := hO.2.2.2.1 k I idx ci q hI hq
        exact mj_getf hx hc.2.2.2.1 (fun w hw => hE.1 w hw _) (hO.2.2.1 ci _ g1).1 (mj_own hc) hE.2.1 hR he g1 g2 (mj_fw_of hE g4 g5) hv hd (kk rfl rfl)
      · cases hs
    · cases hs
  · cases hs
theorem mj_st_putf (hO : mj_Ok Y M TB cl tys) (hI : M k = some I) (hx : p.tables.exec = Jvm.exec) (hc : mj_Cal I.1 I.2.1 I.2.2.1 I.2.2.2.1 I.2.2.2.2 s m meth c) (hE : mj_Env TB cl tys D dA xt base HB s) (hR : mj_Rel D cl dA tys base HB h H) {idx : Nat} (hd : decode I.2.1 pc = .ok (.putfield idx, 3))
    {q : Nat × mj_L × List Value × mj_H} (hs : mj_pf Y k pc idx lv st h = some (.inl q)) (kk : ∀ (H' : Heap) (z : Loc), q.2.1 = lv → q.2.2.2.2 = h.2 → mj_Rel D cl dA tys base HB q.2.2.2 H' → base ≤ z.base → W p l e R s m args below meth c H' (locs ++ [z]) cells slots Q (F0 m q.1 ls q.2.2.1)) : W p l e R s m args below meth c H locs cells slots Q (F0 m pc ls st) := by
  obtain ⟨pc', lv', st', h'⟩ := q
  unfold mj_pf at hs
  split at hs
  · rename_i v a r
    split at hs
    · rename_i ci fs he
      split at hs
      · rename_i q hq
        split at hs
        · rename_i hok
          obtain ⟨rfl, rfl, rfl, rfl⟩ := mj_go_inj hs
          obtain ⟨C, T, N, ref, g1, g2, g3, g4, g5, g6⟩ := hO.2.2.2.1 k I idx ci q hI hq
          obtain ⟨o1, ⟨ty0, o2⟩, o3⟩ := hO.2.2.1 ci _ g1
          have ht : ty0 q.1 = q.2.1 := Option.some.inj ((o2 q.1 g2).symm.trans g3)
          refine mj_putf hx hc.2.2.2.1 (fun w hw => hE.1 w hw _) o1 ty0 o2 o3 (mj_own hc) hE.2.1 hR he g1 g2 (mj_fw_of hE g4 g5) ?_ (by rw [ht]; exact hok.2.1) (by rw [ht]; exact hok.2.2) hd fun H' z h1 h2 => kk H' z rfl rfl h1 h2
          rcases g6 hok.1 with g | ⟨g, gn, go, gl⟩
          · exact Or.inl g
          · exact Or.inr ⟨g, by rw [(name_of_methodNamed hc.1 hc.2.1).1]; exact gn, go, hE.1 _ gl _⟩
        · cases hs
      · cases hs
    · cases hs
  · cases hs
theorem mj_st_nwo (hO : mj_Ok Y M TB cl tys) (hI : M k = some I) (hx : p.tables.exec = Jvm.exec) (hc : mj_Cal I.1 I.2.1 I.2.2.1 I.2.2.2.1 I.2.2.2.2 s m meth c) (hE : mj_Env TB cl tys D dA xt base HB s) (hR : mj_Rel D cl dA tys base HB h H) {idx : Nat} (hd : decode I.2.1 pc = .ok (.new idx, 3))
    {q : Nat × mj_L × List Value × mj_H} (hs : mj_nwo Y k pc idx lv st h = some (.inl q)) (hcells : cells + (q.2.2.2.2.1 - h.2.1) ≤ R.cells) (hslots : slots + (q.2.2.2.2.2 - h.2.2) ≤ R.slots)
    (kk : ∀ H' : Heap, q.2.1 = lv → mj_Rel D cl dA tys base HB q.2.2.2 H' → W p l e R s m args below meth c H' locs (cells + (q.2.2.2.2.1 - h.2.1)) (slots + (q.2.2.2.2.2 - h.2.2)) Q (F0 m q.1 ls q.2.2.1)) : W p l e R s m args below meth c H locs cells slots Q (F0 m pc ls st) := by
  obtain ⟨pc', lv', st', h'⟩ := q
  unfold mj_nwo at hs
  split at hs
  · rename_i q hq
    obtain ⟨rfl, rfl, rfl, rfl⟩ := mj_go_inj hs
    obtain ⟨C, T, N, g1, g2, g3, g4, g5, g6⟩ := hO.2.2.2.2.1 k I idx q hI hq
    obtain ⟨o1, ⟨ty0, o2⟩, o3⟩ := hO.2.2.1 _ _ g1
    have e1 : (mj_new h q.2.1 (.inr (q.1, q.2.2))).2.1 - h.2.1 = 1 := by simp [mj_new]
    have e2 : (mj_new h q.2.1 (.inr (q.1, q.2.2))).2.2 - h.2.2 = q.2.1 := by simp [mj_new]
    dsimp only at hcells hslots kk
    rw [e1] at hcells
    rw [e2] at hslots
    rw [e1, e2] at kk
    refine mj_newo hx hc.2.2.2.1 (fun w hw => hE.1 w hw _) o1 ty0 o2 (mj_own hc) hE.2.1 hR g1 (hE.1 _ g2 _) (hE.1 _ g3 _) (hE.1 _ g4 _) g5 (fun j hj => ?_) hcells hslots hd fun H' h1 => kk H' rfl h1
    obtain ⟨ty, t1, t2⟩ := g6 j hj
    rw [t2, Option.some.inj ((o2 j hj).symm.trans t1)]
  · cases hs
theorem mj_st_nwa (hO : mj_Ok Y M TB cl tys) (hx : p.tables.exec = Jvm.exec) (hc : mj_Cal I.1 I.2.1 I.2.2.1 I.2.2.2.1 I.2.2.2.2 s m meth c) (hE : mj_Env TB cl tys D dA xt base HB s) (hR : mj_Rel D cl dA tys base HB h H) {at0 : ArrayType} (hco : Y.code k pc = some (.newarray at0)) (hd : decode I.2.1 pc = .ok (.newarray at0, 2))
    {q : Nat × mj_L × List Value × mj_H} (hs : mj_nwa at0 pc lv st h = some (.inl q)) (hcells : cells + (q.2.2.2.2.1 - h.2.1) ≤ R.cells) (hslots : slots + (q.2.2.2.2.2 - h.2.2) ≤ R.slots)
    (kk : ∀ H' : Heap, q.2.1 = lv → mj_Rel D cl dA tys base HB q.2.2.2 H' → W p l e R s m args below meth c H' locs (cells + (q.2.2.2.2.1 - h.2.1)) (slots + (q.2.2.2.2.2 - h.2.2)) Q (F0 m q.1 ls q.2.2.1)) : W p l e R s m args below meth c H locs cells slots Q (F0 m pc ls st) := by
  obtain ⟨pc', lv', st', h'⟩ := q
  unfold mj_nwa at hs
  split at hs
  · rename_i n r
    split at hs
    · rename_i hok
      obtain ⟨rfl, rfl, rfl, rfl⟩ := mj_go_inj hs
      obtain ⟨g1, g2⟩ := hO.2.2.2.2.2.1 k pc at0 hco
      have e1 : ∀ x, (mj_new h n.toNatClampNeg x).2.1 - h.2.1 = 1 := fun x => by simp [mj_new]
      have e2 : ∀ x, (mj_new h n.toNatClampNeg x).2.2 - h.2.2 = n.toNatClampNeg := fun x => by simp [mj_new]
      dsimp only at hcells hslots kk
      rw [e1] at hcells
      rw [e2] at hslots
      rw [e1, e2] at kk
      exact mj_newa hx hc.2.2.2.1 hR (hE.1 _ g1 _) (hE.2.2.1 _ g2) g2 hok.1 hok.2 hcells hslots hd fun H' h1 => kk H' rfl h1
    · cases hs
  · cases hs
theorem mj_st_nwq (hO : mj_Ok Y M TB cl tys) (hI : M k = some I) (hx : p.tables.exec = Jvm.exec) (hc : mj_Cal I.1 I.2.1 I.2.2.1 I.2.2.2.1 I.2.2.2.2 s m meth c) (hE : mj_Env TB cl tys D dA xt base HB s) (hR : mj_Rel D cl dA tys base HB h H) {idx : Nat} (hd : decode I.2.1 pc = .ok (.anewarray idx, 3))
    {q : Nat × mj_L × List Value × mj_H} (hs : mj_nwq Y k pc idx lv st h = some (.inl q)) (hcells : cells + (q.2.2.2.2.1 - h.2.1) ≤ R.cells) (hslots : slots + (q.2.2.2.2.2 - h.2.2) ≤ R.slots)
    (kk : ∀ H' : Heap, q.2.1 = lv → mj_Rel D cl dA tys base HB q.2.2.2 H' → W p l e R s m args below meth c H' locs (cells + (q.2.2.2.2.1 - h.2.1)) (slots + (q.2.2.2.2.2 - h.2.2)) Q (F0 m q.1 ls q.2.2.1)) : W p l e R s m args below meth c H locs cells slots Q (F0 m pc ls st) := by
  obtain ⟨pc', lv', st', h'⟩ := q
  unfold mj_nwq at hs
  split at hs
  · rename_i n r C hC
    split at hs
    · rename_i hok
      obtain ⟨rfl, rfl, rfl, rfl⟩ := mj_go_inj hs
      obtain ⟨g1, g2, g3⟩ := hO.2.2.2.2.2.2.1 k I idx C hI hC
      have e1 : ∀ x, (mj_new h n.toNatClampNeg x).2.1 - h.2.1 = 1 := fun x => by simp [mj_new]
      have e2 : ∀ x, (mj_new h n.toNatClampNeg x).2.2 - h.2.2 = n.toNatClampNeg := fun x => by simp [mj_new]
      dsimp only at hcells hslots kk
      rw [e1] at hcells
      rw [e2] at hslots
      rw [e1, e2] at kk
      exact mj_newq hx hc.2.2.2.1 (mj_own hc) hR (hE.1 _ g1 _) (hE.1 _ g2 _) (hE.2.2.1 _ g3) g3 hok.1 hok.2 hcells hslots hd fun H' h1 => kk H' rfl h1
    · cases hs
  · cases hs
end MJS
