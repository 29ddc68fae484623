section MJM
variable {p : Program} {l : Launch} {e : Env} {R : Room} {s : State} {m : MethodId} {args : Array Value} {below : List Frame} {meth : Method} {c : Code} {H : Heap} {locs : List Loc} {cells slots : Nat} {Q : State → Prop}
variable {Y : mj_Y} {M : Nat → Option mj_I} {TB : List Cond} {cl : List vw_C} {tys : List FieldType} {D : va_G} {dA : FieldType → ClassId} {xt : mj_X} {ct : Nat → Value} {base : Nat} {HB : Heap}
variable {k pc : Nat} {I : mj_I} {lv : mj_L} {st : List Value} {h : mj_H} {ls : Array Slot}
theorem mj_st_ald (hx : p.tables.exec = Jvm.exec) (hb : c.code = I.2.1) (hE : mj_Env TB cl tys D dA xt base HB s) (hR : mj_Rel D cl dA tys base HB h H) {ok : FieldType → Bool}
    {q : Nat × mj_L × List Value × mj_H} (hs : mj_ald xt ok pc lv st h = some (.inl q))
    (row : ∀ (a : Nat) (j : Int32) (ty : FieldType) (xs : List Value) (v : Value) (r : List Value), ok ty = true → mj_arr xt h a = some (ty, xs) → ¬ j < 0 → xs[j.toNatClampNeg]? = some v → W p l e R s m args below meth c H locs cells slots Q (F0 m (pc + 1) ls (v :: r)) → W p l e R s m args below meth c H locs cells slots Q (F0 m pc ls (.int j :: .ref a :: r)))
    (kk : q.2.2.2 = h → q.2.1 = lv → W p l e R s m args below meth c H locs cells slots Q (F0 m q.1 ls q.2.2.1)) : W p l e R s m args below meth c H locs cells slots Q (F0 m pc ls st) := by
  obtain ⟨pc', lv', st', h'⟩ := q
  unfold mj_ald at hs
  split at hs
  · rename_i j a r
    split at hs
    · rename_i ty xs he
      split at hs
      · rename_i hok
        obtain ⟨v, hv, hg⟩ := Option.bind_eq_some_iff.mp hs
        obtain ⟨rfl, rfl, rfl, rfl⟩ := mj_go_inj hg
        exact row a j ty xs v r hok.1 he hok.2 hv (kk rfl rfl)
      · cases hs
    · cases hs
  · cases hs
theorem mj_st_ast {ok : FieldType → Bool} {q : Nat × mj_L × List Value × mj_H} (hs : mj_ast ok pc lv st h = some (.inl q))
    (row : ∀ (a : Nat) (j x : Int32) (ty : FieldType) (xs : List Value) (r : List Value), ok ty = true → h.1 a = some (.inl (ty, xs)) → ¬ j < 0 → j.toNatClampNeg < xs.length →
      (∀ (H' : Heap) (z : Loc), mj_Rel D cl dA tys base HB (mj_put h a (.inl (ty, xs.set j.toNatClampNeg (narrow ty (.int x))))) H' → base ≤ z.base → W p l e R s m args below meth c H' (locs ++ [z]) cells slots Q (F0 m (pc + 1) ls r)) → W p l e R s m args below meth c H locs cells slots Q (F0 m pc ls (.int x :: .int j :: .ref a :: r)))
    (kk : ∀ (H' : Heap) (z : Loc), q.2.1 = lv → q.2.2.2.2 = h.2 → mj_Rel D cl dA tys base HB q.2.2.2 H' → base ≤ z.base → W p l e R s m args below meth c H' (locs ++ [z]) cells slots Q (F0 m q.1 ls q.2.2.1)) : W p l e R s m args below meth c H locs cells slots Q (F0 m pc ls st) := by
  obtain ⟨pc', lv', st', h'⟩ := q
  unfold mj_ast at hs
  split at hs
  · rename_i x j a r
    split at hs
    · rename_i ty xs he
      split at hs
      · rename_i hok
        obtain ⟨rfl, rfl, rfl, rfl⟩ := mj_go_inj hs
        exact row a j x ty xs _ hok.1 he hok.2.1 hok.2.2 fun H' z h1 h2 => kk H' z rfl rfl h1 h2
      · cases hs
    · cases hs
  · cases hs
theorem mj_st_lst (hx : p.tables.exec = Jvm.exec) (hb : c.code = I.2.1) (hE : mj_Env TB cl tys D dA xt base HB s) (hR : mj_Rel D cl dA tys base HB h H) (hd : decode I.2.1 pc = .ok (.lastore, 1)) {q : Nat × mj_L × List Value × mj_H} (hs : mj_lst pc lv st h = some (.inl q))
    (kk : ∀ (H' : Heap) (z : Loc), q.2.1 = lv → q.2.2.2.2 = h.2 → mj_Rel D cl dA tys base HB q.2.2.2 H' → base ≤ z.base → W p l e R s m args below meth c H' (locs ++ [z]) cells slots Q (F0 m q.1 ls q.2.2.1)) : W p l e R s m args below meth c H locs cells slots Q (F0 m pc ls st) := by
  obtain ⟨pc', lv', st', h'⟩ := q
  unfold mj_lst at hs
  split at hs
  · rename_i x j a r
    split at hs
    · rename_i xs he
      split at hs
      · rename_i hok
        obtain ⟨rfl, rfl, rfl, rfl⟩ := mj_go_inj hs
        exact mj_last hx hb hR hE.2.2 he hok.1 hok.2 hd fun H' z h1 h2 => kk H' z rfl rfl h1 h2
      · cases hs
    · cases hs
  · cases hs
/-- the ends of a method -/
theorem mj_ends (hx : p.tables.exec = Jvm.exec) (hO : mj_Ok Y M TB cl tys) (hI : M k = some I) (hc : mj_Cal I.1 I.2.1 I.2.2.1 I.2.2.2.1 I.2.2.2.2 s m meth c) (hR : mj_Rel D cl dA tys base HB h H) (hL : ∀ q ∈ locs, base ≤ q.base) {o : mj_O × mj_H} (hs : mj_s Y xt ct k pc lv st h = some (.inr (.inr o)))
    (hex : ∀ (idx ci : Nat), decode I.2.1 pc = .ok (.new idx, 3) → Y.code k pc = some (.new idx) → Y.ex k idx = some ci → Y.nh k = true → mj_wt st ≤ 20 → o = (.inr h.2.1, mj_new h 6 (.inr (ci, []))) → W p l e R s m args below meth c H locs cells slots (mj_MQ below base o.1 (mj_Rel D cl dA tys base HB o.2) s (cells + (o.2.2.1 - h.2.1)) (slots + (o.2.2.2 - h.2.2))) (F0 m pc ls st)) :
    W p l e R s m args below meth c H locs cells slots (mj_MQ below base o.1 (mj_Rel D cl dA tys base HB o.2) s (cells + (o.2.2.1 - h.2.1)) (slots + (o.2.2.2 - h.2.2))) (F0 m pc ls st) := by
  obtain ⟨c1, c2, c3, hb, c5, c6, c7, hlk, c9⟩ := hc
  have hM := hO.2.1 k I hI
  have hmq : ∀ (v : Option Value) (t : State), MQ below (fun _ _ o t => o = .returned v ∧ mj_Rel D cl dA tys base HB h t.heap) args s cells slots (fun q => base ≤ q) t → mj_MQ below base (.inl v) (mj_Rel D cl dA tys base HB h) s cells slots t := by
    intro v t ht
    obtain ⟨o, h1, h2, ⟨h3, h4⟩, L, ⟨h5, h6, h7⟩, h8⟩ := ht
    subst h3
    exact ⟨L, h1, h2, h6, h7, h8, h4⟩
  unfold mj_s at hs
  split at hs
  · cases hs
  · rename_i i hi
    obtain ⟨len, hd, hlen⟩ := hM.1 pc i hi
    have hrt := hM.2.2.1
    split at hs
    all_goals try unfold mj_gf at hs
    all_goals try unfold mj_pf at hs
    all_goals try unfold mj_ald at hs
    all_goals try unfold mj_ast at hs
    all_goals try unfold mj_lst at hs
    all_goals try unfold mj_rst at hs
    all_goals try unfold mj_nwo at hs
    all_goals try unfold mj_nwa at hs
    all_goals try unfold mj_nwq at hs
    all_goals try unfold mj_cal at hs
    all_goals try unfold mj_acp at hs
    all_goals try unfold mj_mna at hs
    all_goals try unfold mj_cln at hs
    all_goals try unfold mj_ccs at hs
    all_goals repeat' (split at hs)
    all_goals first
      | (cases hs; done)
      | (simp [mj_go] at hs; done)
      | (obtain ⟨v, -, hv⟩ := Option.bind_eq_some_iff.mp hs; simp [mj_go] at hv; done)
      | skip
    · have e1 : len = 3 := by rcases hlen with h | ⟨_, _, _, _, h⟩ | ⟨_, _, h⟩ <;> first | exact h | cases h
      subst e1
      rename_i idx _ ci hci hok
      simp only [Option.some.injEq, Sum.inr.injEq] at hs
      exact hex idx ci hd hi hci hok.1 hok.2 hs.symm
    all_goals (have e1 : len = 1 := by rcases hlen with h | ⟨_, _, _, _, h⟩ | ⟨_, _, h⟩ <;> first | exact h | cases h)
    all_goals subst e1
    all_goals try (simp only [Option.some.injEq, Sum.inr.injEq] at hs)
    all_goals subst hs
    all_goals dsimp only
    all_goals rw [Nat.sub_self, Nat.sub_self, Nat.add_zero, Nat.add_zero]
    · rename_i v ty hty hn
      exact mj_W_mono (hmq (some (.int v))) (W.zret hx hb (c7.trans (hrt.symm.trans hty)) hn (fun t ht _ => ⟨rfl, by rw [ht]; exact hR⟩) hL hd hlk)
    · rename_i v hty
      exact mj_W_mono (hmq (some (.long v))) (W.lret hx hb (c7.trans (hrt.symm.trans hty)) (fun t ht _ => ⟨rfl, by rw [ht]; exact hR⟩) hL hd hlk)
    · rename_i v ty hty hn
      exact mj_W_mono (hmq (some (.ref v))) (W.aret hx hb (c7.trans (hrt.symm.trans hty)) (by cases ty <;> first | exact Or.inl ⟨_, rfl⟩ | exact Or.inr ⟨_, rfl⟩ | cases hn) (Or.inr ⟨_, rfl⟩) (fun t ht _ => ⟨rfl, by rw [ht]; exact hR⟩) hL hd hlk)
    · rename_i ty hty hn
      exact mj_W_mono (hmq (some .null)) (W.aret hx hb (c7.trans (hrt.symm.trans hty)) (by cases ty <;> first | exact Or.inl ⟨_, rfl⟩ | exact Or.inr ⟨_, rfl⟩ | cases hn) (Or.inl rfl) (fun t ht _ => ⟨rfl, by rw [ht]; exact hR⟩) hL hd hlk)
    · rename_i hty
      exact mj_W_mono (hmq none) (W.vret hx hb (c7.trans (hrt.symm.trans hty)) (fun t ht _ => ⟨rfl, by rw [ht]; exact hR⟩) hL hd hlk)
    · rename_i a r hn
      refine mj_athrow hx hb hd (mj_leaves hlk rfl rfl rfl ?_ hL hR)
      intro q hq
      rw [hM.2.2.2.1 hn] at c6
      have : c.exceptionTable.toList = [] := List.map_eq_nil_iff.mp c6
      rw [this] at hq
      cases hq
end MJM
