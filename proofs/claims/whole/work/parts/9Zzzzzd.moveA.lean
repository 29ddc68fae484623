section MEV_f
variable {b B : Nat} {ri : Nat → Int32} {rj : Nat → Int64}
def me_h_f (b B : Nat) (ri : Nat → Int32) (rj : Nat → Int64) (h h' : mj_H) : Prop := (∀ a e, h.1 a = some e → 1 ≤ a ∧ h'.1 (me_sg b B a) = some (me_e b B ri rj e)) ∧ 1 ≤ h.2.1 ∧ h'.2.1 = me_sg b B h.2.1 ∧ h'.2.2 = h.2.2 ∧ (∀ q, q < B → h'.1 q = none) ∧ b < B ∧ ∀ a ty xs, h.1 a = some (.inl (ty, xs)) → ty ≠ .float ∧ ty ≠ .double
theorem me_h_put_f {h h' : mj_H} {a : Nat} {e : mj_E} (hR : me_h_f b B ri rj h h') (ha : 1 ≤ a) (hf : ∀ ty xs, e = .inl (ty, xs) → ty ≠ .float ∧ ty ≠ .double) : me_h_f b B ri rj (mj_put h a e) (mj_put h' (me_sg b B a) (me_e b B ri rj e)) := by
  obtain ⟨h1, h2, h3, h4, h5, h6, h7⟩ := hR
  refine ⟨fun q y hq => ?_, h2, h3, h4, ?_, h6, fun q ty xs hq => ?_⟩
  · have hq' : (if q = a then some e else h.1 q) = some y := hq
    show 1 ≤ q ∧ (if me_sg b B q = me_sg b B a then some (me_e b B ri rj e) else h'.1 (me_sg b B q)) = some (me_e b B ri rj y)
    by_cases e1 : q = a
    · rw [if_pos e1] at hq'
      cases hq'
      subst e1
      exact ⟨ha, if_pos rfl⟩
    · rw [if_neg e1] at hq'
      obtain ⟨g1, g2⟩ := h1 q y hq'
      refine ⟨g1, ?_⟩
      rw [if_neg (by rw [me_sg1 ha, me_sg1 g1]; omega)]
      exact g2
  · intro q hq
    show (if q = me_sg b B a then _ else h'.1 q) = none
    rw [if_neg (by rw [me_sg1 ha]; omega)]
    exact h5 q hq
  · have hq' : (if q = a then some e else h.1 q) = some (.inl (ty, xs)) := hq
    split at hq'
    · exact hf ty xs (Option.some.inj hq')
    · exact h7 q ty xs hq'
theorem me_h_new_f {h h' : mj_H} {n : Nat} {e : mj_E} (hR : me_h_f b B ri rj h h') (hf : ∀ ty xs, e = .inl (ty, xs) → ty ≠ .float ∧ ty ≠ .double) : me_h_f b B ri rj (mj_new h n e) (mj_new h' n (me_e b B ri rj e)) := by
  obtain ⟨h1, h2, h3, h4, h5, h6, h7⟩ := hR
  refine ⟨fun q y hq => ?_, Nat.le_succ_of_le h2, ?_, ?_, ?_, h6, fun q ty xs hq => ?_⟩
  · have hq' : (if q = h.2.1 then some e else h.1 q) = some y := hq
    show 1 ≤ q ∧ (if me_sg b B q = h'.2.1 then some (me_e b B ri rj e) else h'.1 (me_sg b B q)) = some (me_e b B ri rj y)
    rw [h3]
    by_cases e1 : q = h.2.1
    · rw [if_pos e1] at hq'
      cases hq'
      subst e1
      exact ⟨h2, if_pos rfl⟩
    · rw [if_neg e1] at hq'
      obtain ⟨g1, g2⟩ := h1 q y hq'
      refine ⟨g1, ?_⟩
      rw [if_neg (by rw [me_sg1 h2, me_sg1 g1]; omega)]
      exact g2
  · show h'.2.1 + 1 = me_sg b B (h.2.1 + 1)
    rw [h3, me_sg1 h2, me_sg1 (by omega)]
    omega
  · show h'.2.2 + n = h.2.2 + n
    rw [h4]
  · intro q hq
    show (if q = h'.2.1 then _ else h'.1 q) = none
    rw [if_neg (by rw [h3, me_sg1 h2]; omega)]
    exact h5 q hq
  · have hq' : (if q = h.2.1 then some e else h.1 q) = some (.inl (ty, xs)) := hq
    split at hq'
    · exact hf ty xs (Option.some.inj hq')
    · exact h7 q ty xs hq'
theorem me_h_mul_f {h h' : mj_H} {n k : Nat} (hR : me_h_f b B ri rj h h') : me_h_f b B ri rj (mj_mul h n k) (mj_mul h' n k) := by
  obtain ⟨h1, h2, h3, h4, h5, h6, h7⟩ := hR
  have s1 := me_sg1 (b := b) (B := B) h2
  refine ⟨fun q y hq => ?_, by show 1 ≤ h.2.1 + 1 + n; omega, ?_, ?_, ?_, h6, fun q ty xs hq => ?_⟩
  · have hq' : (if q = h.2.1 then some (.inl (.array .long, (List.range n).map (fun i => .ref (h.2.1 + 1 + i)))) else if h.2.1 < q ∧ q ≤ h.2.1 + n then some (.inl (.long, List.replicate k (.long 0))) else h.1 q) = some y := hq
    show 1 ≤ q ∧ (if me_sg b B q = h'.2.1 then some (.inl (.array .long, (List.range n).map (fun i => .ref (h'.2.1 + 1 + i)))) else if h'.2.1 < me_sg b B q ∧ me_sg b B q ≤ h'.2.1 + n then some (.inl (.long, List.replicate k (.long 0))) else h'.1 (me_sg b B q)) = some (me_e b B ri rj y)
    by_cases e1 : q = h.2.1
    · rw [if_pos e1] at hq'
      cases hq'
      subst e1
      refine ⟨h2, ?_⟩
      rw [if_pos h3.symm]
      simp only [me_e, me_s, List.map_map, Option.some.injEq, Sum.inl.injEq, Prod.mk.injEq, true_and]
      apply List.map_congr_left
      intro i _
      simp only [Function.comp_def, me_v]
      rw [me_sg1 (show 1 ≤ h.2.1 + 1 + i by omega), h3, s1]
      have e9 : B + (h.2.1 - 1) + 1 + i = B + (h.2.1 + 1 + i - 1) := by omega
      rw [e9]
    · rw [if_neg e1] at hq'
      by_cases e2 : h.2.1 < q ∧ q ≤ h.2.1 + n
      · rw [if_pos e2] at hq'
        cases hq'
        have s2 := me_sg1 (b := b) (B := B) (show 1 ≤ q by omega)
        refine ⟨by omega, ?_⟩
        rw [if_neg (by omega), if_pos (by omega)]
        simp [me_e, me_s, me_v]
      · rw [if_neg e2] at hq'
        obtain ⟨g1, g2⟩ := h1 q y hq'
        have s2 := me_sg1 (b := b) (B := B) g1
        refine ⟨g1, ?_⟩
        rw [if_neg (by omega), if_neg (by omega)]
        exact g2
  · show h'.2.1 + 1 + n = me_sg b B (h.2.1 + 1 + n)
    rw [h3, me_sg1 h2, me_sg1 (by omega)]
    omega
  · show h'.2.2 + n + n * k = h.2.2 + n + n * k
    rw [h4]
  · intro q hq
    show (if q = h'.2.1 then _ else if h'.2.1 < q ∧ q ≤ h'.2.1 + n then _ else h'.1 q) = none
    rw [if_neg (by omega), if_neg (by omega)]
    exact h5 q hq
  · have hq' : (if q = h.2.1 then some (.inl (.array .long, (List.range n).map (fun i => .ref (h.2.1 + 1 + i)))) else if h.2.1 < q ∧ q ≤ h.2.1 + n then some (.inl (.long, List.replicate k (.long 0))) else h.1 q) = some (.inl (ty, xs)) := hq
    split at hq'
    · cases hq'; exact ⟨by decide, by decide⟩
    · split at hq'
      · cases hq'; exact ⟨by decide, by decide⟩
      · exact h7 q ty xs hq'
end MEV_f
