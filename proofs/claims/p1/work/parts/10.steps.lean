/-- what the calls that are one step here ask of the tables, and the constant references: said of a state -/
def mj_Pr (Y : mj_Y) (M : Nat → Option mj_I) (p : Program) (l : Launch) (e : Env) (cl : List vw_C) (tys : List FieldType) (D : va_G) (dA : FieldType → ClassId) (ct : Nat → Value) (base : Nat) (HB : Heap) (s : State) : Prop :=
  ∀ (k : Nat) (I : mj_I) (R : Room) (m : MethodId) (args : Array Value) (below : List Frame) (meth : Method) (c : Code) (H : Heap) (locs : List Loc) (cells slots : Nat) (Q : State → Prop) (pc : Nat) (ls : Array Slot) (h : mj_H), M k = some I → mj_Cal I.1 I.2.1 I.2.2.1 I.2.2.2.1 I.2.2.2.2 s m meth c → mj_Rel D cl dA tys base HB h H → 12 ≤ R.frames → 200 ≤ R.locals → ls.size = I.2.2.1 →
    (∀ (idx : Nat) (st : List Value) (lv : mj_L) (q : Nat × mj_L × List Value × mj_H), decode I.2.1 pc = .ok (.invokestatic idx, 3) → Y.pr k idx = some 0 → mj_acp pc lv st h = some (.inl q) → (∀ (H' : Heap) (L : List Loc), q.2.1 = lv → q.2.2.2.2 = h.2 → mj_Rel D cl dA tys base HB q.2.2.2 H' → (∀ z ∈ L, base ≤ z.base) → W p l e R s m args below meth c H' (locs ++ L) cells slots Q (F0 m q.1 ls q.2.2.1)) → W p l e R s m args below meth c H locs cells slots Q (F0 m pc ls st)) ∧
    (∀ (idx : Nat) (a : Nat) (r : List Value), decode I.2.1 pc = .ok (.invokespecial idx, 3) → Y.pr k idx = some 1 → mj_wt r ≤ 20 → W p l e R s m args below meth c H locs cells slots Q (F0 m (pc + 3) ls r) → W p l e R s m args below meth c H locs cells slots Q (F0 m pc ls (.ref a :: r))) ∧
    (∀ (idx ci : Nat) (r : List Value), decode I.2.1 pc = .ok (.new idx, 3) → Y.code k pc = some (.new idx) → (∀ q ∈ locs, base ≤ q.base) → Y.ex k idx = some ci → Y.nh k = true → mj_wt r ≤ 20 → cells + 1 ≤ R.cells → slots + 6 ≤ R.slots → (∀ (H' : Heap) (L : List Loc), mj_Rel D cl dA tys base HB (mj_new h 6 (.inr (ci, []))) H' → (∀ z ∈ L, base ≤ z.base) → mj_WT p l e R s m args below meth c H' (locs ++ L) (cells + 1) (slots + 6) Q (F0 m (pc + 9) ls r) h.2.1) → W p l e R s m args below meth c H locs cells slots Q (F0 m pc ls r)) ∧
    (∀ (idx n : Nat) (r : List Value), decode I.2.1 pc = .ok (.ldc idx, 2) → Y.sc k (idx + 65536) = some n → W p l e R s m args below meth c H locs cells slots Q (F0 m (pc + 2) ls (ct n :: r)) → W p l e R s m args below meth c H locs cells slots Q (F0 m pc ls r)) ∧
    (∀ (idx n : Nat) (r : List Value), decode I.2.1 pc = .ok (.getstatic idx, 3) → Y.sc k idx = some n → W p l e R s m args below meth c H locs cells slots Q (F0 m (pc + 3) ls (ct n :: r)) → W p l e R s m args below meth c H locs cells slots Q (F0 m pc ls r)) ∧
    (∀ (st : List Value) (lv : mj_L) (q : Nat × mj_L × List Value × mj_H), decode I.2.1 pc = .ok (.aastore, 1) → mj_rst Y pc lv st h = some (.inl q) → (∀ (H' : Heap) (z : Loc), q.2.1 = lv → q.2.2.2.2 = h.2 → mj_Rel D cl dA tys base HB q.2.2.2 H' → base ≤ z.base → W p l e R s m args below meth c H' (locs ++ [z]) cells slots Q (F0 m q.1 ls q.2.2.1)) → W p l e R s m args below meth c H locs cells slots Q (F0 m pc ls st)) ∧
    (∀ (x : Addr) (ci hpc : Nat) (fs : List Value) (r : List Value), Y.nh k = false → h.1 x = some (.inr (ci, fs)) → Y.hd k pc ci = some hpc → W p l e R s m args below meth c H locs cells slots Q (F0 m hpc ls [.ref x]) → mj_WT p l e R s m args below meth c H locs cells slots Q (F0 m pc ls r) x) ∧
    (∀ (idx : Nat) (st : List Value) (lv : mj_L) (q : Nat × mj_L × List Value × mj_H), decode I.2.1 pc = .ok (.multianewarray idx 2, 4) → Y.pr k idx = some 6 → mj_mna pc lv st h = some (.inl q) → cells + (q.2.2.2.2.1 - h.2.1) ≤ R.cells → slots + (q.2.2.2.2.2 - h.2.2) ≤ R.slots → (∀ H' : Heap, q.2.1 = lv → mj_Rel D cl dA tys base HB q.2.2.2 H' → W p l e R s m args below meth c H' locs (cells + (q.2.2.2.2.1 - h.2.1)) (slots + (q.2.2.2.2.2 - h.2.2)) Q (F0 m q.1 ls q.2.2.1)) → W p l e R s m args below meth c H locs cells slots Q (F0 m pc ls st)) ∧
    (∀ (idx n : Nat) (st : List Value) (lv : mj_L) (q : Nat × mj_L × List Value × mj_H), decode I.2.1 pc = .ok (.invokevirtual idx, 3) → Y.pr k idx = some n → mj_cln n pc lv st h = some (.inl q) → cells + (q.2.2.2.2.1 - h.2.1) ≤ R.cells → slots + (q.2.2.2.2.2 - h.2.2) ≤ R.slots → (∀ H' : Heap, q.2.1 = lv → mj_Rel D cl dA tys base HB q.2.2.2 H' → W p l e R s m args below meth c H' locs (cells + (q.2.2.2.2.1 - h.2.1)) (slots + (q.2.2.2.2.2 - h.2.2)) Q (F0 m q.1 ls q.2.2.1)) → W p l e R s m args below meth c H locs cells slots Q (F0 m pc ls st)) ∧
    (∀ (idx n a : Nat) (ty : FieldType) (xs r : List Value), decode I.2.1 pc = .ok (.checkcast idx, 3) → Y.pr k idx = some n → mj_ctt n = some ty → h.1 a = some (.inl (ty, xs)) → W p l e R s m args below meth c H locs cells slots Q (F0 m (pc + 3) ls (.ref a :: r)) → W p l e R s m args below meth c H locs cells slots Q (F0 m pc ls (.ref a :: r)))
section MJT
variable {p : Program} {l : Launch} {e : Env} {R : Room} {s : State} {m : MethodId} {args : Array Value} {below : List Frame} {meth : Method} {c : Code} {H : Heap} {locs : List Loc} {cells slots : Nat} {Q : State → Prop}
variable {Y : mj_Y} {M : Nat → Option mj_I} {TB : List Cond} {cl : List vw_C} {tys : List FieldType} {D : va_G} {dA : FieldType → ClassId} {xt : mj_X} {ct : Nat → Value} {base : Nat} {HB : Heap}
variable {k pc : Nat} {I : mj_I} {lv : mj_L} {st : List Value} {h : mj_H} {ls : Array Slot}
theorem mj_la1 {L : List Loc} (hL : ∀ q ∈ locs, base ≤ q.base) (h1 : ∀ q ∈ L, base ≤ q.base) : ∀ q ∈ locs ++ L, base ≤ q.base := by
  intro q hq
  rcases List.mem_append.mp hq with h | h
  · exact hL q h
  · exact h1 q h
theorem mj_la2 {z : Loc} (hL : ∀ q ∈ locs, base ≤ q.base) (h1 : base ≤ z.base) : ∀ q ∈ locs ++ [z], base ≤ q.base := mj_la1 hL (fun q hq => by rw [List.mem_singleton.mp hq]; exact h1)
set_option maxHeartbeats 4000000 in
/-- ONE STEP, no call -/
theorem mj_step (hO : mj_Ok Y M TB cl tys) (hI : M k = some I) (hx : p.tables.exec = Jvm.exec) (hc : mj_Cal I.1 I.2.1 I.2.2.1 I.2.2.2.1 I.2.2.2.2 s m meth c) (hE : mj_Env TB cl tys D dA xt base HB s) (hP : mj_Pr Y M p l e cl tys D dA ct base HB s) (hR : mj_Rel D cl dA tys base HB h H) (hl : lv_has ls (Y.nL k) lv) (hL : ∀ q ∈ locs, base ≤ q.base)
    (hfr : 12 ≤ R.frames) (hlo : 200 ≤ R.locals) {q : Nat × mj_L × List Value × mj_H} (hs : mj_s Y xt ct k pc lv st h = some (.inl q)) (hcells : cells + (q.2.2.2.2.1 - h.2.1) ≤ R.cells) (hslots : slots + (q.2.2.2.2.2 - h.2.2) ≤ R.slots)
    (kk : ∀ (H' : Heap) (ls' : Array Slot) (locs' : List Loc), mj_Rel D cl dA tys base HB q.2.2.2 H' → lv_has ls' (Y.nL k) q.2.1 → (∀ z ∈ locs', base ≤ z.base) → W p l e R s m args below meth c H' locs' (cells + (q.2.2.2.2.1 - h.2.1)) (slots + (q.2.2.2.2.2 - h.2.2)) Q (F0 m q.1 ls' q.2.2.1)) : W p l e R s m args below meth c H locs cells slots Q (F0 m pc ls st) := by
  have hb := hc.2.2.2.1
  have hM := hO.2.1 k I hI
  have hls : ls.size = I.2.2.1 := by rw [hl.1]; exact hM.2.1
  have hP' := hP k I R m args below meth c H locs cells slots Q pc ls h hI hc hR hfr hlo hls
  have z1 : ∀ n : Nat, n - n = 0 := Nat.sub_self
  have kR : q.2.2.2 = h → q.2.1 = lv → W p l e R s m args below meth c H locs cells slots Q (F0 m q.1 ls q.2.2.1) := by
    intro e1 e2
    have := kk H ls locs (by rw [e1]; exact hR) (by rw [e2]; exact hl) hL
    rw [e1, z1, z1] at this
    exact this
  have kW : ∀ (H' : Heap) (L : List Loc), q.2.1 = lv → q.2.2.2.2 = h.2 → mj_Rel D cl dA tys base HB q.2.2.2 H' → (∀ z ∈ L, base ≤ z.base) → W p l e R s m args below meth c H' (locs ++ L) cells slots Q (F0 m q.1 ls q.2.2.1) := by
    intro H' L e2 e1 h1 h2
    have := kk H' ls (locs ++ L) h1 (by rw [e2]; exact hl) (mj_la1 hL h2)
    rw [e1, z1, z1] at this
    exact this
  have kW1 : ∀ (H' : Heap) (z : Loc), q.2.1 = lv → q.2.2.2.2 = h.2 → mj_Rel D cl dA tys base HB q.2.2.2 H' → base ≤ z.base → W p l e R s m args below meth c H' (locs ++ [z]) cells slots Q (F0 m q.1 ls q.2.2.1) :=
    fun H' z e2 e1 h1 h2 => kW H' [z] e2 e1 h1 (fun y hy => by rw [List.mem_singleton.mp hy]; exact h2)
  have kN : ∀ H' : Heap, q.2.1 = lv → mj_Rel D cl dA tys base HB q.2.2.2 H' → W p l e R s m args below meth c H' locs (cells + (q.2.2.2.2.1 - h.2.1)) (slots + (q.2.2.2.2.2 - h.2.2)) Q (F0 m q.1 ls q.2.2.1) :=
    fun H' e2 h1 => kk H' ls locs h1 (by rw [e2]; exact hl) hL
  unfold mj_s at hs
  split at hs
  · cases hs
  rename_i i hi
  obtain ⟨len, hd, hlen⟩ := hM.1 pc i hi
  have hln : ∀ j : Instr, i = j → (∀ a b c d, j ≠ .tableswitch a b c d) → (∀ a b, j ≠ .lookupswitch a b) → len = mj_len j := by
    intro j hj n1 n2
    subst hj
    rcases hlen with h1 | ⟨a, b, c, d, h1⟩ | ⟨a, b, h1⟩
    · exact h1
    · exact absurd h1 (n1 a b c d)
    · exact absurd h1 (n2 a b)
  split at hs
  · have e1 := hln _ rfl (fun _ _ _ _ q => by cases q) (fun _ _ q => by cases q)
    subst e1
    exact mj_st_getf hO hI hx hc hE hR hd hs kR
  · have e1 := hln _ rfl (fun _ _ _ _ q => by cases q) (fun _ _ q => by cases q)
    subst e1
    exact mj_st_putf hO hI hx hc hE hR hd hs kW1
  · have e1 := hln _ rfl (fun _ _ _ _ q => by cases q) (fun _ _ q => by cases q)
    subst e1
    refine mj_st_ald hx hb hE hR hs (fun a j ty xs v r ho he hj hv kk => ?_) kR
    have ho := of_decide_eq_true ho
    subst ho
    exact mj_iald hx hb hR hE.2.2 he hj hv hd kk
  · have e1 := hln _ rfl (fun _ _ _ _ q => by cases q) (fun _ _ q => by cases q)
    subst e1
    refine mj_st_ald hx hb hE hR hs (fun a j ty xs v r ho he hj hv kk => ?_) kR
    have ho := of_decide_eq_true ho
    subst ho
    exact mj_lald hx hb hR hE.2.2 he hj hv hd kk
  · have e1 := hln _ rfl (fun _ _ _ _ q => by cases q) (fun _ _ q => by cases q)
    subst e1
    refine mj_st_ald hx hb hE hR hs (fun a j ty xs v r ho he hj hv kk => ?_) kR
    rcases of_decide_eq_true ho with ho | ho
    · subst ho
      exact mj_bald hx hb hR hE.2.2 he hj hv hd kk
    · subst ho
      exact mj_zald hx hb hR hE.2.2 he hj hv hd kk
  · have e1 := hln _ rfl (fun _ _ _ _ q => by cases q) (fun _ _ q => by cases q)
    subst e1
    refine mj_st_ald hx hb hE hR hs (fun a j ty xs v r ho he hj hv kk => ?_) kR
    have ho := of_decide_eq_true ho
    subst ho
    exact mj_cald hx hb hR hE.2.2 he hj hv hd kk
  · have e1 := hln _ rfl (fun _ _ _ _ q => by cases q) (fun _ _ q => by cases q)
    subst e1
    exact mj_st_ald hx hb hE hR hs (fun a j ty xs v r ho he hj hv kk => mj_aald hx hb hR hE.2.2 ho he hj hv hd kk) kR
  · have e1 := hln _ rfl (fun _ _ _ _ q => by cases q) (fun _ _ q => by cases q)
    subst e1
    refine mj_st_ast hs (fun a j x ty xs r ho he hj hv kk => ?_) kW1
    have ho := of_decide_eq_true ho
    subst ho
    exact mj_iast hx hb hR hE.2.2 he hj hv hd kk
  · have e1 := hln _ rfl (fun _ _ _ _ q => by cases q) (fun _ _ q => by cases q)
    subst e1
    refine mj_st_ast hs (fun a j x ty xs r ho he hj hv kk => ?_) kW1
    rcases of_decide_eq_true ho with ho | ho
    · subst ho
      exact mj_bast hx hb hR hE.2.2 he hj hv hd kk
    · subst ho
      exact mj_zast hx hb hR hE.2.2 he hj hv hd kk
  · have e1 := hln _ rfl (fun _ _ _ _ q => by cases q) (fun _ _ q => by cases q)
    subst e1
    refine mj_st_ast hs (fun a j x ty xs r ho he hj hv kk => ?_) kW1
    have ho := of_decide_eq_true ho
    subst ho
    exact mj_cast hx hb hR hE.2.2 he hj hv hd kk
  · have e1 := hln _ rfl (fun _ _ _ _ q => by cases q) (fun _ _ q => by cases q)
    subst e1
    exact mj_st_lst hx hb hE hR hd hs kW1
  · have e1 := hln _ rfl (fun _ _ _ _ q => by cases q) (fun _ _ q => by cases q)
    subst e1
    exact hP'.2.2.2.2.2.1 st lv q hd hs kW1
  · have e1 := hln _ rfl (fun _ _ _ _ q => by cases q) (fun _ _ q => by cases q)
    subst e1
    obtain ⟨pc', lv', st', h'⟩ := q
    split at hs
    · split at hs
      · rename_i a r ty xs he
        obtain ⟨rfl, rfl, rfl, rfl⟩ := mj_go_inj hs
        exact mj_alen hx hb hR hE.2.2 he hd (kR rfl rfl)
      · cases hs
    · cases hs
  · have e1 := hln _ rfl (fun _ _ _ _ q => by cases q) (fun _ _ q => by cases q)
    subst e1
    split at hs
    · split at hs <;> simp at hs
    · exact mj_st_nwo hO hI hx hc hE hR hd hs hcells hslots kN
  · have e1 := hln _ rfl (fun _ _ _ _ q => by cases q) (fun _ _ q => by cases q)
    subst e1
    exact mj_st_nwa hO hx hc hE hR hi hd hs hcells hslots kN
  · have e1 := hln _ rfl (fun _ _ _ _ q => by cases q) (fun _ _ q => by cases q)
    subst e1
    exact mj_st_nwq hO hI hx hc hE hR hd hs hcells hslots kN
  · have e1 := hln _ rfl (fun _ _ _ _ q => by cases q) (fun _ _ q => by cases q)
    subst e1
    obtain ⟨pc', lv', st', h'⟩ := q
    rename_i idx
    split at hs
    · rename_i v hv
      obtain ⟨rfl, rfl, rfl, rfl⟩ := mj_go_inj hs
      exact lv_ldc hx hb (mj_own hc) (hE.1 _ (hO.2.2.2.2.2.2.2.1 k I idx v hI hv) _) hd (kR rfl rfl)
    · split at hs
      · rename_i n hn
        obtain ⟨rfl, rfl, rfl, rfl⟩ := mj_go_inj hs
        exact hP'.2.2.2.1 idx n _ hd hn (kR rfl rfl)
      · cases hs
  · have e1 := hln _ rfl (fun _ _ _ _ q => by cases q) (fun _ _ q => by cases q)
    subst e1
    obtain ⟨pc', lv', st', h'⟩ := q
    rename_i idx
    split at hs
    · rename_i v hv
      obtain ⟨rfl, rfl, rfl, rfl⟩ := mj_go_inj hs
      exact lv_ldc2 hx hb (mj_own hc) (hE.1 _ (hO.2.2.2.2.2.2.2.2.1 k I idx v hI hv) _) hd (kR rfl rfl)
    · cases hs
  · have e1 := hln _ rfl (fun _ _ _ _ q => by cases q) (fun _ _ q => by cases q)
    subst e1
    obtain ⟨pc', lv', st', h'⟩ := q
    rename_i idx
    split at hs
    · rename_i n hn
      obtain ⟨rfl, rfl, rfl, rfl⟩ := mj_go_inj hs
      exact hP'.2.2.2.2.1 idx n _ hd hn (kR rfl rfl)
    · cases hs
  · have e1 := hln _ rfl (fun _ _ _ _ q => by cases q) (fun _ _ q => by cases q)
    subst e1
    rename_i idx
    split at hs
    · rename_i hpr
      exact hP'.1 idx st lv q hd hpr hs kW
    · cases hs
    · split at hs
      · unfold mj_cal at hs
        split at hs <;> simp at hs
      · cases hs
  · have e1 := hln _ rfl (fun _ _ _ _ q => by cases q) (fun _ _ q => by cases q)
    subst e1
    rename_i idx
    split at hs
    · rename_i hpr
      obtain ⟨pc', lv', st', h'⟩ := q
      split at hs
      · split at hs
        · rename_i a r hw
          obtain ⟨rfl, rfl, rfl, rfl⟩ := mj_go_inj hs
          exact hP'.2.1 idx a _ hd hpr hw (kR rfl rfl)
        · cases hs
      · cases hs
    · cases hs
    · split at hs
      · split at hs
        · split at hs
          · unfold mj_cal at hs
            split at hs <;> simp at hs
          · cases hs
        · cases hs
      · cases hs
  · have e1 := hln _ rfl (fun _ _ _ _ q => by cases q) (fun _ _ q => by cases q)
    subst e1
    rename_i idx
    split at hs
    · split at hs
      · split at hs
        · split at hs
          · unfold mj_cal at hs
            split at hs <;> simp at hs
          · cases hs
        · cases hs
      · cases hs
    · split at hs
      · rename_i hpr
        exact hP'.2.2.2.2.2.2.2.2.1 idx _ st lv q hd hpr hs hcells hslots kN
      · cases hs
  · split at hs
    · split at hs <;> simp at hs
    · cases hs
  · split at hs
    · simp at hs
    · cases hs
  · split at hs
    · split at hs <;> simp at hs
    · split at hs <;> simp at hs
    · cases hs
  · split at hs
    · simp at hs
    · cases hs
  · split at hs
    · split at hs <;> simp at hs
    · cases hs
  · have e1 := hln _ rfl (fun _ _ _ _ q => by cases q) (fun _ _ q => by cases q)
    subst e1
    rename_i idx dims
    split at hs
    · rename_i hpr
      obtain ⟨hpr, rfl⟩ := hpr
      exact hP'.2.2.2.2.2.2.2.1 idx st lv q hd hpr hs hcells hslots kN
    · cases hs
  · have e1 := hln _ rfl (fun _ _ _ _ q => by cases q) (fun _ _ q => by cases q)
    subst e1
    rename_i idx
    unfold mj_ccs at hs
    split at hs
    · split at hs
      · split at hs
        · rename_i hpr _ hct
          obtain ⟨pc', lv', st', h'⟩ := q
          obtain ⟨rfl, rfl, rfl, rfl⟩ := mj_go_inj hs
          exact hP'.2.2.2.2.2.2.2.2.2 idx _ _ _ _ _ hd (by assumption) hct (by assumption) (kR rfl rfl)
        · cases hs
      · cases hs
    · cases hs
  · obtain ⟨⟨a1, a2, a3⟩, hv, hg⟩ := Option.bind_eq_some_iff.mp hs
    obtain ⟨pc', lv', st', h'⟩ := q
    obtain ⟨rfl, rfl, rfl, rfl⟩ := mj_go_inj hg
    refine mj_p_ok hx hb hd hlen hl hv fun ls' hl' => ?_
    have := kk H ls' locs hR hl' hL
    dsimp only at this
    rw [z1, z1] at this
    exact this
end MJT
