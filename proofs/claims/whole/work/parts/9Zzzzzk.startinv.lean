/-! THE START MEETS WHAT HOLDS BETWEEN TWO CALLS -/
section STI
variable {b z : Nat} {G : mj_H}
theorem so_kT : ∀ j, j < 10 → lngI (kHp (so j + 1)) .int 390 = true ∧ lngL (kHp (so j + 2)) 64 = true ∧ 1 ≤ so j := by decide +kernel
theorem so_kO : ∀ j, j < 10 → kT.lookup (so j) = some (.inr (2, [.ref (so j + 1), .ref (so j + 2), .int 0])) := by decide +kernel
theorem bn_kT : ∀ p, p < 7 → lngL (kHp (15 + p)) 121 = true := by decide +kernel
theorem sl_kT : ∀ j, j < 3 → lngI (kHp (55 + 3 * j)) .int 64 = true ∧ lngL (kHp (56 + 3 * j)) 64 = true := by decide +kernel
theorem sl_kO : ∀ j, j < 3 → kT.lookup (54 + 3 * j) = some (.inr (4, [.ref (55 + 3 * j), .ref (56 + 3 * j), .int 0, .null, .int 0, .long 0])) := by decide +kernel
theorem sg_z {a : Nat} (ha : 1 ≤ a) : me_sg b (z + 1) a = z + a := by
  rw [me_sg1 ha]
  omega
theorem frs_inv (h : frs b z G) : invC z (z + 107) 47714 G S00 := by
  have n1 : G.2.1 = z + 107 := by
    have e : G.2.1 = me_sg b (z + 1) 107 := h.2.2.1
    rw [e]
    exact sg_z (by omega)
  have n2 : G.2.2 = 47714 := h.2.2.2.1
  have low : ∀ q, q ≤ z → G.1 q = none := fun q hq => h.2.2.2.2.1 q (by omega)
  have c1 : cx z G := (frs_T h (a := 1) (by omega) rfl).trans rfl
  have c4 : cslots z G := (frs_T h (a := 4) (by omega) rfl).trans rfl
  have c106 : cout z G := ⟨0, (frs_T h (a := 106) (by omega) rfl).trans rfl⟩
  have c2 : G.1 (z + 2) = some (.inr (0, [.ref (z + 3), .int 0, .int 0, .int 0])) := (frs_T h (a := 2) (by omega) rfl).trans rfl
  have c3 : G.1 (z + 3) = some (.inl (.byte, List.replicate 16 (.int 0))) := (frs_T h (a := 3) (by omega) rfl).trans rfl
  have c5 : G.1 (z + 5) = some (.inr (1, [.ref (z + 6), .ref (z + 7), .int 0, .int 0, .int 0, .int 0, .int (-1000)])) := (frs_T h (a := 5) (by omega) rfl).trans rfl
  have c6 : G.1 (z + 6) = some (.inl (.char, (List.range 160).map (fun _ => .int 0))) := frs_I h (a := 6) (by omega) (by decide +kernel)
  have c7 : G.1 (z + 7) = some (.inl (.int, [.int 0, .int 0, .int 0, .int 0, .int 0, .int 0, .int 0, .int 0])) := (frs_T h (a := 7) (by omega) rfl).trans rfl
  have c8 : bO z G 0 0 0 := (frs_T h (a := 8) (by omega) rfl).trans rfl
  have c14 := (frs_T h (a := 14) (by omega) rfl)
  have kb := kBen_ok
  simp only [Bool.and_eq_true] at kb
  obtain ⟨k9, k10, k11, k12, k13⟩ := kb
  have ben : bR z G (fun _ => 0) (fun _ => 0) (fun _ => 0) (fun _ => 0) (fun _ => 0) := ⟨frs_I h (by omega) k9, frs_L h (by omega) k10, frs_I h (by omega) k11, frs_L h (by omega) k12, frs_I h (by omega) k13⟩
  have tl : tly z G := ⟨c14.trans rfl, fun p hp => ⟨fun _ => 0, by
    have := frs_L h (a := 15 + p) (by omega) (bn_kT p hp)
    rw [show z + (15 + p) = z + 15 + p by omega] at this
    exact this⟩⟩
  have st : stsH z G id (fun _ => []) := by
    refine ⟨fun j hj => ⟨hj, Nat.zero_le _, ?_, fun _ => 0, fun _ => 0, ⟨?_, ?_⟩, fun i x hx => by cases hx⟩, fun i j _ _ e => e⟩
    · have := frs_T h (so_kT j hj).2.2 (so_kO j hj)
      unfold sO
      rw [this]
      show some (Sum.inr (2, [Value.ref (me_sg b (z + 1) (so j + 1)), Value.ref (me_sg b (z + 1) (so j + 2)), Value.int 0])) = _
      rw [sg_z (by omega), sg_z (by omega)]
      rfl
    · exact frs_I h (by omega) (so_kT j hj).1
    · exact frs_L h (by omega) (so_kT j hj).2.1
  have yn : ynH z G := ⟨(frs_T h (a := 28) (by omega) rfl).trans rfl, (frs_T h (a := 29) (by omega) rfl).trans rfl⟩
  have rn : rnI z [] G 0 id (fun _ => []) := ⟨⟨fun a n m how keep pick k w fv a1 a2 => absurd a2 (by omega), fun a a1 a2 => absurd a2 (by omega), tl, by omega⟩, ⟨[], c8, _, _, _, _, ben, rfl, fun i p hp => by cases hp⟩, st, yn⟩
  refine ⟨[], z + 3, List.replicate 16 (.int 0), [], 0, id, fun _ => [], fun _ => [], c1, c4, c106, ⟨⟨⟨0, c2⟩, c3, by omega, Nat.zero_le _, by decide, by decide, rfl⟩, ⟨Or.inl rfl, by omega, by omega⟩, by decide, by decide, low⟩, ⟨rfl, Nat.zero_le _, (fun j c hj => by cases hj), fun c hc => by cases hc⟩, ⟨⟨0, 0, 0, 0, c5⟩, ⟨_, c6, by rw [List.length_map, List.length_range]⟩, _, c7, rfl⟩, ⟨_, c7, rfl, by decide⟩, (fun q hq => by cases hq), rn, rfl, fun q hq => ⟨rfl, Nat.zero_le _, fun i x hx => by cases hx⟩, fun j hj => ?_, ?_, ?_⟩
  · refine ⟨0, none, 0, 0, fun _ => 0, fun _ => 0, ⟨?_, ?_, ?_, Nat.zero_le _⟩, Or.inl ⟨rfl, rfl⟩, Or.inl ⟨rfl, rfl⟩⟩
    · have := frs_T h (by omega) (sl_kO j hj)
      rw [show z + 54 + 3 * j = z + (54 + 3 * j) by omega, this]
      show some (Sum.inr (4, [Value.ref (me_sg b (z + 1) (55 + 3 * j)), Value.ref (me_sg b (z + 1) (56 + 3 * j)), Value.int 0, Value.null, Value.int 0, Value.long 0])) = _
      rw [sg_z (by omega), sg_z (by omega), show z + (55 + 3 * j) = z + 55 + 3 * j by omega, show z + (56 + 3 * j) = z + 56 + 3 * j by omega]
      rfl
    · have := frs_I h (by omega) (sl_kT j hj).1
      rw [show z + (55 + 3 * j) = z + 55 + 3 * j by omega] at this
      exact this
    · have := frs_L h (by omega) (sl_kT j hj).2
      rw [show z + (56 + 3 * j) = z + 56 + 3 * j by omega] at this
      exact this
  · have : pot G [] = 0 := rfl
    rw [this, n1]
    omega
  · have : pot G [] = 0 := rfl
    rw [this, n2]
    omega
end STI
