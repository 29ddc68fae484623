/-! SPREADS: values with their ways, as lists; what counts is the sum over them of any function -/
abbrev Sp : Type := List (Int32 × Nat)
def sS : Sp → (Int32 → Nat) → Nat
  | [], _ => 0
  | p :: r, f => p.2 * f p.1 + sS r f
def eqv (l m : Sp) : Prop := ∀ f, sS l f = sS m f
theorem eqv_refl {l : Sp} : eqv l l := fun _ => rfl
theorem sS_app {f : Int32 → Nat} : ∀ l m : Sp, sS (l ++ m) f = sS l f + sS m f := by
  intro l m
  induction l with
  | nil => rw [List.nil_append]; show _ = 0 + _; rw [Nat.zero_add]
  | cons p r ih => rw [List.cons_append]; show _ + _ = _ + _ + _; rw [ih]; omega
theorem sS_congr {f g : Int32 → Nat} : ∀ l : Sp, (∀ p ∈ l, f p.1 = g p.1) → sS l f = sS l g := by
  intro l
  induction l with
  | nil => intro _; rfl
  | cons p r ih =>
    intro h
    show _ + _ = _ + _
    rw [h p List.mem_cons_self, ih (fun q hq => h q (List.mem_cons_of_mem _ hq))]
theorem sS_zero {f : Int32 → Nat} : ∀ l : Sp, (∀ p ∈ l, f p.1 = 0) → sS l f = 0 := by
  intro l
  induction l with
  | nil => intro _; rfl
  | cons p r ih =>
    intro h
    show _ + _ = _
    rw [h p List.mem_cons_self, ih (fun q hq => h q (List.mem_cons_of_mem _ hq)), Nat.mul_zero]
def posS (l : Sp) : Prop := ∀ p ∈ l, 1 ≤ p.2
theorem sS_no {f : Int32 → Nat} : ∀ l : Sp, posS l → sS l f = 0 → ∀ p ∈ l, f p.1 = 0 := by
  intro l
  induction l with
  | nil => intro _ _ p hp; cases hp
  | cons q r ih =>
    intro h e p hp
    have e' : q.2 * f q.1 + sS r f = 0 := e
    have h1 := h q List.mem_cons_self
    rcases List.mem_cons.mp hp with rfl | hp
    · have : p.2 * f p.1 = 0 := by omega
      rcases Nat.mul_eq_zero.mp this with w | w
      · omega
      · exact w
    · exact ih (fun q hq => h q (List.mem_cons_of_mem _ hq)) (by omega) p hp
theorem sS_add {f g : Int32 → Nat} : ∀ l : Sp, sS l (fun a => f a + g a) = sS l f + sS l g := by
  intro l
  induction l with
  | nil => rfl
  | cons p r ih => show _ + _ = (_ + _) + (_ + _); rw [ih, Nat.mul_add]; omega
theorem sS_mul {f : Int32 → Nat} (c : Nat) : ∀ l : Sp, sS l (fun a => f a * c) = sS l f * c := by
  intro l
  induction l with
  | nil => show 0 = 0 * c; rw [Nat.zero_mul]
  | cons p r ih => show _ + _ = (_ + _) * c; rw [ih, Nat.add_mul, Nat.mul_assoc]
theorem sS_sm {g : Int32 → Nat → Nat} (n : Nat) : ∀ l : Sp, sm n (fun i => sS l (fun a => g a i)) = sS l (fun a => sm n (g a)) := by
  intro l
  induction l with
  | nil => exact sm_zero n (fun _ _ => rfl)
  | cons p r ih =>
    show sm n (fun i => p.2 * g p.1 i + sS r (fun a => g a i)) = _ + _
    rw [sm_add, ih, sm_mul]
def tot (l : Sp) : Nat := sS l (fun _ => 1)
theorem tot_cons {p : Int32 × Nat} {r : Sp} : tot (p :: r) = p.2 + tot r := by show p.2 * 1 + _ = _; rw [Nat.mul_one]; rfl
theorem tot_len : ∀ l : Sp, posS l → l.length ≤ tot l := by
  intro l
  induction l with
  | nil => intro _; exact Nat.le_refl _
  | cons p r ih =>
    intro h
    have := h p List.mem_cons_self
    have := ih (fun q hq => h q (List.mem_cons_of_mem _ hq))
    rw [tot_cons, List.length_cons]
    omega
theorem sS_le {f : Int32 → Nat} (M : Nat) : ∀ l : Sp, (∀ p ∈ l, f p.1 ≤ M) → sS l f ≤ tot l * M := by
  intro l
  induction l with
  | nil => intro _; exact Nat.zero_le _
  | cons p r ih =>
    intro h
    have h1 := Nat.mul_le_mul_left p.2 (h p List.mem_cons_self)
    have h2 := ih (fun q hq => h q (List.mem_cons_of_mem _ hq))
    rw [tot_cons, Nat.add_mul]
    show _ + _ ≤ _
    omega
/-! WHAT AN OPERATION GIVES -/
def fdv (a b : Int32) : Int32 := if 0 ≤ (a ^^^ b).toInt then a / b else if a / b * b = a then a / b else a / b - 1
def fmd (a b : Int32) : Int32 := if 0 ≤ (a ^^^ b).toInt then a - a / b * b else if a - a / b * b = 0 then a - a / b * b else a - a / b * b + b
def opV (c a b : Int32) : Int32 := if c = 37 then (if b = 0 then 1000 else fmd a b) else if c = 42 then a * b else if c = 43 then a + b else if c = 45 then a - b else if c = 47 then (if b = 0 then 1000 else fdv a b) else if c = 60 then (if a.toInt < b.toInt then 1 else 0) else if c = 62 then (if b.toInt < a.toInt then 1 else 0) else if a = b then 1 else 0
abbrev inR (v : Int32) : Prop := -999 ≤ v.toInt ∧ v.toInt ≤ 999
/-- the value at a place of the row of all values -/
def vAt (i : Nat) : Int32 := Int32.ofInt ((i : Int) - 999)
def pW (c : Int32) (l m : Sp) (f : Int32 → Nat) : Nat := sS l (fun a => sS m (fun b => f (opV c a b)))
def badW (c : Int32) (l m : Sp) : Nat := pW c l m (fun v => if inR v then 0 else 1)
def wAt (c : Int32) (l m : Sp) (i : Nat) : Nat := pW c l m (fun v => if v = vAt i then 1 else 0)
/-- a row of ways, as a spread -/
def rowS (w : Nat → Nat) : Nat → Sp
  | 0 => []
  | n + 1 => rowS w n ++ (if w n = 0 then [] else [(vAt n, w n)])
/-- all pairs of two spreads, none if one of them is outside -/
def cmb (c : Int32) (l m : Sp) : Option Sp := if badW c l m = 0 then some (rowS (wAt c l m) 1999) else none
theorem pW_congr {c : Int32} {l l' m m' : Sp} (h : eqv l l') (h' : eqv m m') (f : Int32 → Nat) : pW c l m f = pW c l' m' f := by
  unfold pW
  rw [h]
  exact sS_congr l' (fun p _ => h' _)
theorem cmb_congr {c : Int32} {l l' m m' : Sp} (h : eqv l l') (h' : eqv m m') : cmb c l m = cmb c l' m' := by
  unfold cmb badW
  rw [pW_congr h h']
  have : wAt c l m = wAt c l' m' := by funext i; exact pW_congr h h' _
  rw [this]
theorem rowS_sS {w : Nat → Nat} {f : Int32 → Nat} : ∀ n, sS (rowS w n) f = sm n (fun i => w i * f (vAt i)) := by
  intro n
  induction n with
  | zero => rfl
  | succ n ih =>
    rw [rowS, sS_app, ih]
    show _ = _ + w n * f (vAt n)
    by_cases e : w n = 0
    · rw [if_pos e, e, Nat.zero_mul]; rfl
    · rw [if_neg e]; rfl
theorem rowS_mem {w : Nat → Nat} : ∀ (n : Nat) (p : Int32 × Nat), p ∈ rowS w n → ∃ i, i < n ∧ p = (vAt i, w i) ∧ w i ≠ 0 := by
  intro n
  induction n with
  | zero => intro p h; cases h
  | succ n ih =>
    intro p h
    rw [rowS] at h
    rcases List.mem_append.mp h with h | h
    · obtain ⟨i, a, b⟩ := ih p h
      exact ⟨i, by omega, b⟩
    · by_cases e : w n = 0
      · rw [if_pos e] at h; cases h
      · rw [if_neg e] at h
        exact ⟨n, by omega, List.mem_singleton.mp h, e⟩
theorem rowS_len {w : Nat → Nat} : ∀ n, (rowS w n).length ≤ n := by
  intro n
  induction n with
  | zero => exact Nat.le_refl _
  | succ n ih =>
    rw [rowS, List.length_append]
    by_cases e : w n = 0
    · rw [if_pos e, List.length_nil]; omega
    · rw [if_neg e, List.length_singleton]; omega
theorem vAt_i {i : Nat} (h : i < 1999) : (vAt i).toInt = (i : Int) - 999 := by
  unfold vAt
  exact Int32.toInt_ofInt_of_le (by omega) (by omega)
theorem vAt_of {v : Int32} (h : inR v) : v = vAt (v.toInt + 999).toNat ∧ (v.toInt + 999).toNat < 1999 := by
  obtain ⟨h1, h2⟩ := h
  refine ⟨?_, by omega⟩
  apply Int32.toInt_inj.mp
  rw [vAt_i (by omega)]
  omega
theorem vAt_inj {i j : Nat} (hi : i < 1999) (hj : j < 1999) (h : vAt i = vAt j) : i = j := by
  have := congrArg Int32.toInt h
  rw [vAt_i hi, vAt_i hj] at this
  omega
/-- what a good spread is, with its factor -/
def gdS (l : Sp) (f : Nat) : Prop := posS l ∧ (∀ p ∈ l, inR p.1) ∧ l.length ≤ 1999 ∧ tot l = f
theorem gdS_f {l : Sp} {f : Nat} (h : gdS l f) : l.length ≤ f := by
  rw [← h.2.2.2]
  exact tot_len l h.1
theorem badW_no {c : Int32} {l m : Sp} (hl : posS l) (hm : posS m) (h : badW c l m = 0) : ∀ p ∈ l, ∀ q ∈ m, inR (opV c p.1 q.1) := by
  intro p hp q hq
  have h1 := sS_no l hl h p hp
  have h2 := sS_no m hm h1 q hq
  by_cases e : inR (opV c p.1 q.1)
  · exact e
  · have h3 : (if inR (opV c p.1 q.1) then 0 else 1) = 0 := h2
    rw [if_neg e] at h3
    cases h3
theorem badW_ne {c : Int32} {l m : Sp} (hl : posS l) (hm : posS m) {p q : Int32 × Nat} (hp : p ∈ l) (hq : q ∈ m) (h : ¬ inR (opV c p.1 q.1)) : badW c l m ≠ 0 := fun e => h (badW_no hl hm e p hp q hq)
theorem badW_ok {c : Int32} {l m : Sp} (h : ∀ p ∈ l, ∀ q ∈ m, inR (opV c p.1 q.1)) : badW c l m = 0 := sS_zero l (fun p hp => sS_zero m (fun q hq => if_pos (h p hp q hq)))
theorem pW_tot {c : Int32} {l m : Sp} : pW c l m (fun _ => 1) = tot l * tot m := by
  unfold pW
  have : (fun _ : Int32 => sS m (fun _ => 1)) = fun _ => 1 * tot m := by funext _; rw [Nat.one_mul]; rfl
  rw [this, sS_mul]
  rfl
theorem pW_add {c : Int32} {l m : Sp} {f g : Int32 → Nat} : pW c l m (fun v => f v + g v) = pW c l m f + pW c l m g := by
  unfold pW
  rw [← sS_add]
  exact sS_congr l (fun p _ => sS_add m)
/-- the sum over what an operation gives -/
theorem cmb_sum {c : Int32} {l m : Sp} (hl : posS l) (hm : posS m) (h : badW c l m = 0) (f : Int32 → Nat) : sS (rowS (wAt c l m) 1999) f = pW c l m f := by
  rw [rowS_sS]
  have e : ∀ i, i < 1999 → wAt c l m i * f (vAt i) = sS l (fun a => sS m (fun b => (if opV c a b = vAt i then 1 else 0) * f (vAt i))) := by
    intro i _
    unfold wAt pW
    rw [← sS_mul]
    exact sS_congr l (fun p _ => (sS_mul (f (vAt i)) m).symm)
  rw [sm_congr 1999 e, sS_sm (g := fun a i => sS m (fun b => (if opV c a b = vAt i then 1 else 0) * f (vAt i)))]
  refine sS_congr l (fun p hp => ?_)
  show sm 1999 (fun i => sS m (fun b => (if opV c p.1 b = vAt i then 1 else 0) * f (vAt i))) = _
  rw [sS_sm (g := fun b i => (if opV c p.1 b = vAt i then 1 else 0) * f (vAt i))]
  refine sS_congr m (fun q hq => ?_)
  obtain ⟨v1, v2⟩ := vAt_of (badW_no hl hm h p hp q hq)
  show sm 1999 (fun i => (if opV c p.1 q.1 = vAt i then 1 else 0) * f (vAt i)) = _
  rw [sm_one ((opV c p.1 q.1).toInt + 999).toNat 1999 v2 (fun i hi hne => by
    rw [if_neg (fun w => hne (vAt_inj hi v2 (w.symm.trans v1))), Nat.zero_mul]), if_pos v1, Nat.one_mul, ← v1]
theorem cmb_gd {c : Int32} {l m r : Sp} {f g : Nat} (hl : gdS l f) (hm : gdS m g) (h : cmb c l m = some r) : gdS r (f * g) ∧ badW c l m = 0 ∧ ∀ φ, sS r φ = pW c l m φ := by
  unfold cmb at h
  by_cases e : badW c l m = 0
  · rw [if_pos e] at h
    have s := cmb_sum hl.1 hm.1 e
    have mem := rowS_mem (w := wAt c l m) 1999
    have len := rowS_len (w := wAt c l m) 1999
    rw [Option.some.inj h] at s mem len
    refine ⟨⟨fun p hp => ?_, fun p hp => ?_, len, ?_⟩, e, s⟩
    · obtain ⟨i, -, h2, h3⟩ := mem p hp
      rw [h2]
      show 1 ≤ wAt c l m i
      omega
    · obtain ⟨i, h1, h2, h3⟩ := mem p hp
      rw [h2]
      show inR (vAt i)
      unfold inR
      rw [vAt_i h1]
      omega
    · unfold tot
      rw [s, pW_tot, hl.2.2.2, hm.2.2.2]
  · rw [if_neg e] at h
    cases h
/-! THE ROW OF ALL SPREADS IS NEVER FULL -/
def szS : List Sp → Nat
  | [] => 0
  | l :: r => l.length + szS r
def ppS : List Sp → Nat
  | [] => 1
  | l :: r => tot l * ppS r
theorem room_step {P n s : Nat} (hP : 1 ≤ P) (hn : 1 ≤ n ∧ n ≤ 1999) (h : s + 1 ≤ P ∧ 1999 * s ≤ P + 3992003 ∧ 3996001 * s ≤ P + 15964023995) : s + (n - 1) + 1 ≤ n * P ∧ 1999 * (s + (n - 1)) ≤ n * P + 3992003 ∧ 3996001 * (s + (n - 1)) ≤ n * P + 15964023995 := by
  obtain ⟨d, rfl⟩ : ∃ d, n = d + 1 := ⟨n - 1, by omega⟩
  obtain ⟨h1, h2, h3⟩ := h
  have e : (d + 1) * P = d * P + P := Nat.succ_mul d P
  have m1 : d ≤ d * P := Nat.le_mul_of_pos_right d hP
  rw [e]
  rw [Nat.add_sub_cancel]
  refine ⟨by omega, ?_, ?_⟩
  · by_cases c : P ≤ 1999
    · obtain ⟨u, hu⟩ : ∃ u, P + u = 1999 := ⟨1999 - P, by omega⟩
      obtain ⟨v, hv⟩ : ∃ v, d + 1 + v = 1999 := ⟨1998 - d, by omega⟩
      have x1 : d * P + d * u = d * 1999 := by rw [← Nat.mul_add, hu]
      have x2 : (d + 1 + v) * u = 1999 * u := by rw [hv]
      rw [Nat.add_mul, Nat.succ_mul] at x2
      omega
    · have := Nat.mul_le_mul_left d (show 1999 ≤ P by omega)
      omega
  · by_cases c : P ≤ 3996001
    · obtain ⟨u, hu⟩ : ∃ u, P + u = 3996001 := ⟨3996001 - P, by omega⟩
      obtain ⟨v, hv⟩ : ∃ v, d + 1 + v = 1999 := ⟨1998 - d, by omega⟩
      have x1 : d * P + d * u = d * 3996001 := by rw [← Nat.mul_add, hu]
      have x2 : (d + 1 + v) * u = 1999 * u := by rw [hv]
      rw [Nat.add_mul, Nat.succ_mul] at x2
      omega
    · have := Nat.mul_le_mul_left d (show 3996001 ≤ P by omega)
      omega
theorem ppS_pos : ∀ sp : List Sp, (∀ l ∈ sp, 1 ≤ tot l) → 1 ≤ ppS sp := by
  intro sp
  induction sp with
  | nil => intro _; exact Nat.le_refl _
  | cons l r ih =>
    intro h
    exact Nat.mul_pos (h l List.mem_cons_self) (ih (fun q hq => h q (List.mem_cons_of_mem _ hq)))
def gdA (sp : List Sp) : Prop := ∀ l ∈ sp, gdS l (tot l) ∧ 1 ≤ tot l
theorem room_sp : ∀ sp : List Sp, gdA sp → ∃ s, szS sp ≤ s + sp.length ∧ (s + 1 ≤ ppS sp ∧ 1999 * s ≤ ppS sp + 3992003 ∧ 3996001 * s ≤ ppS sp + 15964023995) := by
  intro sp
  induction sp with
  | nil => intro _; exact ⟨0, Nat.le_refl _, by decide, by show _ ≤ 1 + _; omega, by show _ ≤ 1 + _; omega⟩
  | cons l r ih =>
    intro h
    obtain ⟨s, i1, i2⟩ := ih (fun q hq => h q (List.mem_cons_of_mem _ hq))
    obtain ⟨g, h1⟩ := h l List.mem_cons_self
    have lf := gdS_f g
    have hne : 1 ≤ l.length := by
      cases l with
      | nil => exact absurd h1 (by show ¬ 1 ≤ 0; omega)
      | cons a b => rw [List.length_cons]; omega
    have hp := ppS_pos r (fun q hq => (h q (List.mem_cons_of_mem _ hq)).2)
    obtain ⟨k1, k2, k3⟩ := room_step hp ⟨hne, g.2.2.1⟩ i2
    have mono : l.length * ppS r ≤ tot l * ppS r := Nat.mul_le_mul_right _ lf
    refine ⟨s + (l.length - 1), ?_, ?_, ?_, ?_⟩
    · show l.length + szS r ≤ _
      rw [List.length_cons]
      omega
    · show _ ≤ tot l * ppS r
      omega
    · show _ ≤ tot l * ppS r + _
      omega
    · show _ ≤ tot l * ppS r + _
      omega
theorem room_ok {sp : List Sp} (h : gdA sp) (hp : ppS sp ≤ 2147483648) (hl : sp.length ≤ 40) : szS sp ≤ 4572 := by
  obtain ⟨s, h1, -, -, h2⟩ := room_sp sp h
  omega
