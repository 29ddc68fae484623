/-! THE START -/
section STA
variable {Y : mj_Y} {xt : mj_X} {ct : Nat → Value}
/-- a piece of a run, with more depth behind it -/
theorem mr_toD {d D k PC : Nat} {r : mj_O × mj_H} (hD : d ≤ D) (f : Nat) {pc : Nat} {l : mj_L} {st : List Value} {h : mj_H} (q : mj_L × List Value × mj_H) (hs : mj_to Y xt ct PC f d k pc l st h = some q) (kk : mj_Run Y xt ct D k PC q.1 q.2.1 q.2.2 r) : mj_Run Y xt ct D k pc l st h r := by
  induction f generalizing pc l st h with
  | zero => cases hs
  | succ f ih =>
    rw [mj_to] at hs
    split at hs
    · rename_i q0 h0
      split at hs
      · rename_i e
        cases hs
        refine mj_Run_go h0 ?_
        rw [e]
        exact kk
      · exact mj_Run_go h0 (ih hs)
    · rename_i q0 h0
      cases d with
      | zero => cases hs
      | succ d' =>
        dsimp only at hs
        split at hs
        · rename_i v h' hc
          split at hs
          · rename_i e
            cases hs
            refine mj_Run_call h0 ⟨f, hc⟩ (show d' < D by omega) ?_
            rw [e]
            exact kk
          · exact mj_Run_call h0 ⟨f, hc⟩ (show d' < D by omega) (ih hs)
        · cases hs
    · cases hs
end STA
/-- the fresh heap, moved: G is one such -/
def frs (b z : Nat) (G : mj_H) : Prop := me_h_f b (z + 1) (fun _ => 0) (fun _ => 0) (kHp, 107, 47714) G
section FRS
variable {b z : Nat} {G : mj_H}
theorem frs_I (h : frs b z G) {a n : Nat} {ty : FieldType} (ha : 1 ≤ a) (e : lngI (kHp a) ty n = true) : G.1 (z + a) = some (.inl (ty, (List.range n).map (fun _ => .int 0))) := by
  have := (h.1 a _ (lngI_ok e)).2
  rw [me_sg1 ha, show z + 1 + (a - 1) = z + a by omega] at this
  rw [this, ← rep_rg]
  show some (Sum.inl (ty, (List.replicate n (Value.int 0)).map _)) = _
  rw [List.map_replicate]
  rfl
theorem frs_L (h : frs b z G) {a n : Nat} (ha : 1 ≤ a) (e : lngL (kHp a) n = true) : G.1 (z + a) = some (.inl (.long, (List.range n).map (fun _ => .long 0))) := by
  have := (h.1 a _ (lngL_ok e)).2
  rw [me_sg1 ha, show z + 1 + (a - 1) = z + a by omega] at this
  rw [this, ← rep_rg]
  show some (Sum.inl (FieldType.long, (List.replicate n (Value.long 0)).map _)) = _
  rw [List.map_replicate]
  rfl
theorem kHp_T {a : Nat} {e : mj_E} (h : kT.lookup a = some e) : kHp a = some e := by
  have hC0 := kCr_ok
  unfold kHp
  cases hcr : kCr with
  | none => rw [hcr] at hC0; cases hC0
  | some q =>
    rw [hcr] at hC0
    dsimp only at hC0 ⊢
    simp only [Bool.and_eq_true, decide_eq_true_eq] at hC0
    exact kE_ok (List.all_eq_true.mp hC0.2.2.2 _ (mj_lkE h))
theorem frs_T (h : frs b z G) {a : Nat} {e : mj_E} (ha : 1 ≤ a) (e0 : kT.lookup a = some e) : G.1 (z + a) = some (me_e b (z + 1) (fun _ => 0) (fun _ => 0) e) := by
  have := (h.1 a _ (kHp_T e0)).2
  rw [me_sg1 ha, show z + 1 + (a - 1) = z + a by omega] at this
  exact this
/-- the reference in the beginning -/
def S00 : mS := (fun j => if j = 3 then -1000 else 0, fun _ _ => 0, fun _ _ => 0)
def raK (z : Nat) (j : Nat) : Nat := z + kr j
theorem kr_rng : ∀ j, j < 62 → 2 ≤ mK j → 64 ≤ kr j ∧ kr j < 106 := by decide +kernel
theorem kr_inj : ∀ i, i < 62 → ∀ j, j < 62 → 2 ≤ mK i → 2 ≤ mK j → kr i = kr j → i = j := by decide +kernel
theorem raZ_0 : raZ z (raK z) := fun j h1 h2 => by
  have := kr_rng j h1 h2
  unfold raK
  omega
theorem sep_0 : m_sep (z + 63) (raK z) := ⟨fun j h1 h2 => by
  have := kr_rng j h1 h2
  unfold raK
  omega, fun i j hi hj h1 h2 e => kr_inj i hi j hj h1 h2 (by unfold raK at e; omega)⟩
theorem mK_c : ∀ j, j < 62 → 2 ≤ mK j → mK j = 2 ∨ mK j = 3 ∨ mK j = 4 := by decide +kernel
theorem md_0 (h : frs b z G) : md (z + 63) (raK z) S00 G := by
  refine ⟨?_, fun j h1 h2 => ?_⟩
  · have := frs_T h (a := 63) (by omega) rfl
    rw [this]
    rfl
  · have r := kr_rng j h1 h2
    have ck := List.all_eq_true.mp kRow_ok j (List.mem_range.mpr h1)
    unfold kRow at ck
    unfold m_cell raK
    rcases mK_c j h1 h2 with e | e | e
    · rw [e] at ck ⊢
      exact frs_I h (by omega) ck
    · rw [e] at ck ⊢
      exact frs_L h (by omega) ck
    · rw [e] at ck ⊢
      exact frs_I h (by omega) ck
end FRS
