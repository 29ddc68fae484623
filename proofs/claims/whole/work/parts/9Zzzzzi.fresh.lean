/-! THE FRESH OBJECTS' ROWS, THE LONG ONES TOO -/
def rplI : List Value → Nat → Bool
  | [], n => n == 0
  | .int x :: r, n => bif n == 0 then false else bif x == 0 then rplI r (n - 1) else false
  | _ :: _, _ => false
def rplL : List Value → Nat → Bool
  | [], n => n == 0
  | .long x :: r, n => bif n == 0 then false else bif x == 0 then rplL r (n - 1) else false
  | _ :: _, _ => false
theorem rplI_ok : ∀ (l : List Value) (n : Nat), rplI l n = true → l = List.replicate n (.int 0) := by
  intro l
  induction l with
  | nil =>
    intro n h
    have : n = 0 := eq_of_beq h
    rw [this]; rfl
  | cons v r ih =>
    intro n h
    cases v with
    | int x =>
      rw [rplI] at h
      cases hn : (n == 0) with
      | true => rw [hn] at h; cases h
      | false =>
        rw [hn] at h
        cases hx : (x == 0) with
        | false => rw [hx] at h; cases h
        | true =>
          rw [hx] at h
          have e1 : x = 0 := eq_of_beq hx
          have e2 := ih (n - 1) h
          have e3 : n ≠ 0 := fun e => by rw [e] at hn; cases hn
          obtain ⟨m, rfl⟩ : ∃ m, n = m + 1 := ⟨n - 1, by omega⟩
          rw [e1, List.replicate_succ]
          rw [show m + 1 - 1 = m from rfl] at e2
          rw [e2]
    | _ => cases h
theorem rplL_ok : ∀ (l : List Value) (n : Nat), rplL l n = true → l = List.replicate n (.long 0) := by
  intro l
  induction l with
  | nil =>
    intro n h
    have : n = 0 := eq_of_beq h
    rw [this]; rfl
  | cons v r ih =>
    intro n h
    cases v with
    | long x =>
      rw [rplL] at h
      cases hn : (n == 0) with
      | true => rw [hn] at h; cases h
      | false =>
        rw [hn] at h
        cases hx : (x == 0) with
        | false => rw [hx] at h; cases h
        | true =>
          rw [hx] at h
          have e1 : x = 0 := eq_of_beq hx
          have e2 := ih (n - 1) h
          have e3 : n ≠ 0 := fun e => by rw [e] at hn; cases hn
          obtain ⟨m, rfl⟩ : ∃ m, n = m + 1 := ⟨n - 1, by omega⟩
          rw [e1, List.replicate_succ]
          rw [show m + 1 - 1 = m from rfl] at e2
          rw [e2]
    | _ => cases h
def lngI (e : Option mj_E) (ty : FieldType) (n : Nat) : Bool := match e with
  | some (.inl (t, xs)) => decide (t = ty) && rplI xs n
  | _ => false
def lngL (e : Option mj_E) (n : Nat) : Bool := match e with
  | some (.inl (t, xs)) => decide (t = .long) && rplL xs n
  | _ => false
theorem lngI_ok {e : Option mj_E} {ty : FieldType} {n : Nat} (h : lngI e ty n = true) : e = some (.inl (ty, List.replicate n (.int 0))) := by
  unfold lngI at h
  split at h
  · rename_i t xs
    simp only [Bool.and_eq_true, decide_eq_true_eq] at h
    rw [h.1, rplI_ok xs n h.2]
  · cases h
theorem lngL_ok {e : Option mj_E} {n : Nat} (h : lngL e n = true) : e = some (.inl (.long, List.replicate n (.long 0))) := by
  unfold lngL at h
  split at h
  · rename_i t xs
    simp only [Bool.and_eq_true, decide_eq_true_eq] at h
    rw [h.1, rplL_ok xs n h.2]
  · cases h
/-- where the reference's rows lie -/
def krL : List Nat := [0, 64, 0, 0, 65, 66, 67, 68, 69, 70, 71, 72, 73, 74, 75, 76, 77, 78, 79, 80, 81, 82, 0, 0, 0, 0, 0, 83, 84, 0, 0, 0, 85, 0, 86, 87, 0, 88, 89, 90, 0, 91, 92, 93, 0, 0, 94, 95, 96, 97, 0, 0, 0, 98, 99, 100, 0, 101, 102, 103, 104, 105]
def kr (j : Nat) : Nat := krL.getD j 0
def kRow (h : Nat → Option mj_E) (j : Nat) : Bool := bif mK j == 3 then lngL (h (kr j)) (mN j) else bif mK j == 2 then lngI (h (kr j)) .int (mN j) else bif mK j == 4 then lngI (h (kr j)) .boolean (mN j) else true
def kHp : Nat → Option mj_E := match kCr with
  | some q => q.2.2.1
  | none => fun _ => none
theorem kRow_ok : (List.range 62).all (kRow kHp) = true := by decide +kernel
theorem kBen_ok : (lngI (kHp 9) .int 4598 && (lngL (kHp 10) 4598 && (lngI (kHp 11) .int 41 && (lngL (kHp 12) 1999 && lngI (kHp 13) .int 1999)))) = true := by decide +kernel
