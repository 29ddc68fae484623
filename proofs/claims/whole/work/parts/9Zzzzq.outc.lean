/-! OUTCOMES: values in order, with their ways -/
def insO (v : Int32) (w : Nat) : Sp → Sp
  | [] => [(v, w)]
  | p :: r => if p.1.toInt < v.toInt then p :: insO v w r else if p.1 = v then (p.1, p.2 + w) :: r else (v, w) :: p :: r
def srt : Sp → Prop
  | [] => True
  | p :: r => (∀ q ∈ r, p.1.toInt < q.1.toInt) ∧ srt r
def idx (v : Int32) : Sp → Nat
  | [] => 0
  | p :: r => if p.1.toInt < v.toInt then idx v r + 1 else 0
theorem insO_sS {v : Int32} {w : Nat} {f : Int32 → Nat} : ∀ l : Sp, sS (insO v w l) f = sS l f + w * f v := by
  intro l
  induction l with
  | nil => show w * f v + 0 = 0 + w * f v; omega
  | cons p r ih =>
    rw [insO]
    by_cases e : p.1.toInt < v.toInt
    · rw [if_pos e]
      show _ + _ = _ + _ + _
      rw [ih]
      omega
    · rw [if_neg e]
      by_cases e2 : p.1 = v
      · rw [if_pos e2]
        show (p.2 + w) * f p.1 + _ = p.2 * f p.1 + _ + _
        rw [Nat.add_mul, e2]
        omega
      · rw [if_neg e2]
        show w * f v + (p.2 * f p.1 + sS r f) = (p.2 * f p.1 + sS r f) + w * f v
        omega
theorem insO_mem {v : Int32} {w : Nat} : ∀ (l : Sp) (p : Int32 × Nat), p ∈ insO v w l → p ∈ l ∨ (p.1 = v ∧ w ≤ p.2) := by
  intro l
  induction l with
  | nil =>
    intro p hp
    rw [show p = (v, w) from List.mem_singleton.mp hp]
    exact Or.inr ⟨rfl, Nat.le_refl _⟩
  | cons q r ih =>
    intro p hp
    rw [insO] at hp
    by_cases e : q.1.toInt < v.toInt
    · rw [if_pos e] at hp
      rcases List.mem_cons.mp hp with hp | hp
      · rw [hp]; exact Or.inl List.mem_cons_self
      · exact (ih p hp).imp (List.mem_cons_of_mem _) id
    · rw [if_neg e] at hp
      by_cases e2 : q.1 = v
      · rw [if_pos e2] at hp
        rcases List.mem_cons.mp hp with hp | hp
        · rw [hp]; exact Or.inr ⟨e2, Nat.le_add_left _ _⟩
        · exact Or.inl (List.mem_cons_of_mem _ hp)
      · rw [if_neg e2] at hp
        rcases List.mem_cons.mp hp with hp | hp
        · rw [hp]; exact Or.inr ⟨rfl, Nat.le_refl _⟩
        · exact Or.inl hp
theorem insO_srt {v : Int32} {w : Nat} : ∀ l : Sp, srt l → srt (insO v w l) := by
  intro l
  induction l with
  | nil => intro _; exact ⟨fun q hq => (by cases hq), trivial⟩
  | cons p r ih =>
    intro h
    obtain ⟨h1, h2⟩ := h
    rw [insO]
    by_cases e : p.1.toInt < v.toInt
    · rw [if_pos e]
      refine ⟨fun q hq => ?_, ih h2⟩
      rcases insO_mem r q hq with k | k
      · exact h1 q k
      · rw [k.1]; exact e
    · rw [if_neg e]
      by_cases e2 : p.1 = v
      · rw [if_pos e2]; exact ⟨h1, h2⟩
      · rw [if_neg e2]
        have lt : v.toInt < p.1.toInt := by
          have : p.1.toInt ≠ v.toInt := fun q => e2 (Int32.toInt_inj.mp q)
          omega
        refine ⟨fun q hq => ?_, h1, h2⟩
        rcases List.mem_cons.mp hq with k | k
        · rw [k]; exact lt
        · have := h1 q k
          show v.toInt < _
          omega
theorem insO_len {v : Int32} {w : Nat} : ∀ l : Sp, (insO v w l).length ≤ l.length + 1 := by
  intro l
  induction l with
  | nil => exact Nat.le_refl _
  | cons p r ih =>
    rw [insO]
    split
    · rw [List.length_cons, List.length_cons]; omega
    · split
      · rw [List.length_cons, List.length_cons]; omega
      · rw [List.length_cons, List.length_cons]; exact Nat.le_refl _
theorem idx_le {v : Int32} : ∀ l : Sp, idx v l ≤ l.length := by
  intro l
  induction l with
  | nil => exact Nat.le_refl _
  | cons p r ih =>
    rw [idx]
    split
    · rw [List.length_cons]; omega
    · exact Nat.zero_le _
theorem idx_lo {v : Int32} : ∀ (l : Sp) (i : Nat) (p : Int32 × Nat), i < idx v l → l[i]? = some p → p.1.toInt < v.toInt := by
  intro l
  induction l with
  | nil => intro i p hi; exact absurd hi (by show ¬ i < 0; omega)
  | cons q r ih =>
    intro i p hi hp
    rw [idx] at hi
    by_cases e : q.1.toInt < v.toInt
    · rw [if_pos e] at hi
      cases i with
      | zero => rw [← Option.some.inj hp]; exact e
      | succ i => exact ih i p (by omega) hp
    · rw [if_neg e] at hi; omega
theorem idx_hi {v : Int32} : ∀ (l : Sp) (i : Nat) (p : Int32 × Nat), srt l → idx v l ≤ i → l[i]? = some p → v.toInt ≤ p.1.toInt := by
  intro l
  induction l with
  | nil => intro i p _ _ hp; cases hp
  | cons q r ih =>
    intro i p hs hi hp
    rw [idx] at hi
    by_cases e : q.1.toInt < v.toInt
    · rw [if_pos e] at hi
      cases i with
      | zero => omega
      | succ i => exact ih i p hs.2 (by omega) hp
    · cases i with
      | zero => rw [← Option.some.inj hp]; omega
      | succ i =>
        have := hs.1 p (List.mem_of_getElem? (show r[i]? = some p from hp))
        omega
theorem insO_at {v : Int32} {w : Nat} : ∀ (l : Sp) (w0 : Nat), l[idx v l]? = some (v, w0) → insO v w l = l.set (idx v l) (v, w0 + w) := by
  intro l
  induction l with
  | nil => intro w0 h; cases h
  | cons p r ih =>
    intro w0 h
    rw [insO]
    rw [idx] at h ⊢
    by_cases e : p.1.toInt < v.toInt
    · rw [if_pos e] at h ⊢
      rw [if_pos e, ih w0 h]
      rfl
    · rw [if_neg e] at h ⊢
      have hp : p = (v, w0) := Option.some.inj h
      rw [if_neg e, hp, if_pos rfl]
      rfl
theorem insO_new {v : Int32} {w : Nat} : ∀ l : Sp, (∀ w0, l[idx v l]? ≠ some (v, w0)) → insO v w l = l.take (idx v l) ++ (v, w) :: l.drop (idx v l) := by
  intro l
  induction l with
  | nil => intro _; rfl
  | cons p r ih =>
    intro h
    rw [insO]
    rw [idx] at h ⊢
    by_cases e : p.1.toInt < v.toInt
    · rw [if_pos e] at h ⊢
      rw [if_pos e, ih (fun w0 => h w0)]
      rfl
    · rw [if_neg e] at h ⊢
      rw [if_neg e, if_neg (fun q => h p.2 (by rw [← q]; rfl))]
      rfl
/-- in order, with ways: their sums tell them -/
theorem srt_eq : ∀ l m : Sp, srt l → srt m → posS l → posS m → eqv l m → l = m := by
  have ind : ∀ (v : Int32) (l : Sp), (∀ q ∈ l, v.toInt < q.1.toInt) → sS l (fun x => if x = v then 1 else 0) = 0 := by
    intro v l h
    refine sS_zero l (fun q hq => if_neg (fun e => ?_))
    have := h q hq
    rw [e] at this
    omega
  have lt_ : ∀ (p q : Int32 × Nat) (r s : Sp), srt (p :: r) → srt (q :: s) → posS (p :: r) → eqv (p :: r) (q :: s) → ¬ p.1.toInt < q.1.toInt := by
    intro p q r s h1 h2 h3 he c
    have e := he (fun x => if x = p.1 then 1 else 0)
    have e1 : sS (p :: r) (fun x => if x = p.1 then 1 else 0) = p.2 * 1 + 0 := by
      show p.2 * (if p.1 = p.1 then 1 else 0) + sS r _ = _
      rw [if_pos rfl, ind p.1 r h1.1]
    have e2 : sS (q :: s) (fun x => if x = p.1 then 1 else 0) = 0 := by
      refine ind p.1 (q :: s) (fun y hy => ?_)
      rcases List.mem_cons.mp hy with k | k
      · rw [k]; exact c
      · have := h2.1 y k
        omega
    have := h3 p List.mem_cons_self
    omega
  intro l
  induction l with
  | nil =>
    intro m _ _ _ h4 he
    cases m with
    | nil => rfl
    | cons q s =>
      have e := he (fun _ => 1)
      have : sS (q :: s) (fun _ => 1) = q.2 * 1 + sS s (fun _ => 1) := rfl
      have := h4 q List.mem_cons_self
      have : sS ([] : Sp) (fun _ => 1) = 0 := rfl
      omega
  | cons p r ih =>
    intro m h1 h2 h3 h4 he
    cases m with
    | nil =>
      have e := he (fun _ => 1)
      have : sS (p :: r) (fun _ => 1) = p.2 * 1 + sS r (fun _ => 1) := rfl
      have := h3 p List.mem_cons_self
      have : sS ([] : Sp) (fun _ => 1) = 0 := rfl
      omega
    | cons q s =>
      have a := lt_ p q r s h1 h2 h3 he
      have b := lt_ q p s r h2 h1 h4 (fun f => (he f).symm)
      have ev : p.1 = q.1 := Int32.toInt_inj.mp (by omega)
      have ew : p.2 = q.2 := by
        have e := he (fun x => if x = p.1 then 1 else 0)
        have e1 : sS (p :: r) (fun x => if x = p.1 then 1 else 0) = p.2 * 1 + 0 := by
          show p.2 * (if p.1 = p.1 then 1 else 0) + sS r _ = _
          rw [if_pos rfl, ind p.1 r h1.1]
        have e2 : sS (q :: s) (fun x => if x = p.1 then 1 else 0) = q.2 * 1 + 0 := by
          show q.2 * (if q.1 = p.1 then 1 else 0) + sS s _ = _
          rw [if_pos ev.symm, ind p.1 s (fun y hy => by rw [ev]; exact h2.1 y hy)]
        omega
      have epq : p = q := by
        cases p
        cases q
        cases ev
        cases ew
        rfl
      have : r = s := ih s h1.2 h2.2 (fun y hy => h3 y (List.mem_cons_of_mem _ hy)) (fun y hy => h4 y (List.mem_cons_of_mem _ hy)) (fun f => by
        have e : p.2 * f p.1 + sS r f = q.2 * f q.1 + sS s f := he f
        rw [epq] at e
        omega)
      rw [epq, this]
/-- what comes of states -/
def insOs : Ss → Sp → Sp
  | [], l => l
  | x :: r, l => insOs r (insO (stf x.1 0) x.2 l)
theorem insOs_sS {f : Int32 → Nat} : ∀ (L : Ss) (l : Sp), sS (insOs L l) f = sS l f + sF L (fun k => f (stf k 0)) := by
  intro L
  induction L with
  | nil => intro l; rfl
  | cons x r ih =>
    intro l
    show sS (insOs r (insO (stf x.1 0) x.2 l)) f = sS l f + (x.2 * f (stf x.1 0) + sF r (fun k => f (stf k 0)))
    rw [ih, insO_sS]
    omega
theorem insOs_ok : ∀ (L : Ss) (l : Sp), (∀ x ∈ L, gdk x) → srt l → posS l → (∀ p ∈ l, inR p.1) → srt (insOs L l) ∧ posS (insOs L l) ∧ (∀ p ∈ insOs L l, inR p.1) ∧ (insOs L l).length ≤ l.length + L.length := by
  intro L
  induction L with
  | nil => intro l _ h1 h2 h3; exact ⟨h1, h2, h3, Nat.le_refl _⟩
  | cons x r ih =>
    intro l hL h1 h2 h3
    have hx := hL x List.mem_cons_self
    obtain ⟨i1, i2, i3, i4⟩ := ih (insO (stf x.1 0) x.2 l) (fun y hy => hL y (List.mem_cons_of_mem _ hy)) (insO_srt l h1) (fun p hp => by
      rcases insO_mem l p hp with q | q
      · exact h2 p q
      · have := hx.1; omega) (fun p hp => by
      rcases insO_mem l p hp with q | q
      · exact h3 p q
      · rw [q.1]; exact stf_in hx 0 (by omega))
    have := insO_len (v := stf x.1 0) (w := x.2) l
    refine ⟨i1, i2, i3, ?_⟩
    show (insOs r (insO (stf x.1 0) x.2 l)).length ≤ l.length + (r.length + 1)
    omega
/-- the ways of each first value -/
def wO (L : Ss) (i : Nat) : Nat := sF L (fun k => if stf k 0 = vAt i then 1 else 0)
theorem rowO_sS : ∀ (L : Ss), (∀ x ∈ L, gdk x) → ∀ f : Int32 → Nat, sS (rowS (wO L) 1999) f = sF L (fun k => f (stf k 0)) := by
  intro L hL f
  rw [rowS_sS]
  induction L with
  | nil => exact sm_zero 1999 (fun i _ => by show 0 * _ = 0; rw [Nat.zero_mul])
  | cons x r ih =>
    have hx := stf_in (hL x List.mem_cons_self) 0 (by omega)
    obtain ⟨v1, v2⟩ := vAt_of hx
    have e : (fun i => wO (x :: r) i * f (vAt i)) = fun i => x.2 * ((if stf x.1 0 = vAt i then 1 else 0) * f (vAt i)) + wO r i * f (vAt i) := by
      funext i
      show (x.2 * (if stf x.1 0 = vAt i then 1 else 0) + wO r i) * f (vAt i) = _
      rw [Nat.add_mul, Nat.mul_assoc]
    rw [e, sm_add, sm_mul, ih (fun y hy => hL y (List.mem_cons_of_mem _ hy))]
    show _ = x.2 * f (stf x.1 0) + sF r _
    rw [sm_one ((stf x.1 0).toInt + 999).toNat 1999 v2 (fun i hi hne => by
      rw [if_neg (fun w => hne (vAt_inj hi v2 (w.symm.trans v1))), Nat.zero_mul]), if_pos v1, Nat.one_mul, ← v1]
theorem rowS_srt {w : Nat → Nat} : ∀ n, n ≤ 1999 → srt (rowS w n) := by
  have snoc : ∀ (l : Sp) (p : Int32 × Nat), srt l → (∀ q ∈ l, q.1.toInt < p.1.toInt) → srt (l ++ [p]) := by
    intro l
    induction l with
    | nil => intro p _ _; exact ⟨fun q hq => (by cases hq), trivial⟩
    | cons a r ih =>
      intro p h1 h2
      refine ⟨fun q hq => ?_, ih p h1.2 (fun q hq => h2 q (List.mem_cons_of_mem _ hq))⟩
      rcases List.mem_append.mp hq with k | k
      · exact h1.1 q k
      · rw [List.mem_singleton.mp k]; exact h2 a List.mem_cons_self
  intro n
  induction n with
  | zero => intro _; trivial
  | succ n ih =>
    intro hn
    rw [rowS]
    by_cases e : w n = 0
    · rw [if_pos e, List.append_nil]; exact ih (by omega)
    · rw [if_neg e]
      refine snoc _ _ (ih (by omega)) (fun q hq => ?_)
      obtain ⟨i, i1, i2, -⟩ := rowS_mem n q hq
      rw [i2]
      show (vAt i).toInt < (vAt n).toInt
      rw [vAt_i (by omega), vAt_i (by omega)]
      omega
/-- both ways to the outcomes -/
theorem outc_eq {Lc Lr : Ss} (h : eqs Lc Lr) (gc : gds Lc) (gr : gds Lr) : insOs Lc [] = rowS (wO Lr) 1999 := by
  obtain ⟨i1, i2, i3, i4⟩ := insOs_ok Lc [] gc.2 trivial (fun p hp => by cases hp) (fun p hp => by cases hp)
  obtain ⟨n, hn⟩ : ∃ n : Nat, n = 1999 := ⟨1999, rfl⟩
  have r3 := rowO_sS Lr gr.2
  rw [← hn] at r3 ⊢
  have r1 := rowS_srt (w := wO Lr) n (by omega)
  have r2 := rowS_mem (w := wO Lr) n
  generalize rowS (wO Lr) n = R at r1 r2 r3 ⊢
  refine srt_eq _ _ i1 r1 i2 (fun p hp => ?_) (fun f => ?_)
  · obtain ⟨i, -, e2, e3⟩ := r2 p hp
    rw [e2]
    show 1 ≤ wO Lr i
    omega
  · rw [insOs_sS, r3, ← h]
    exact Nat.zero_add _
/-! DIVIDED BY WHAT IS COMMON -/
def gcF : Sp → Nat → Nat
  | [], g => g
  | p :: r, g => gcF r (Nat.gcd g p.2)
theorem gcF_dvd : ∀ (l : Sp) (g : Nat), gcF l g ∣ g ∧ ∀ p ∈ l, gcF l g ∣ p.2 := by
  intro l
  induction l with
  | nil => intro g; exact ⟨Nat.dvd_refl _, fun p hp => by cases hp⟩
  | cons p r ih =>
    intro g
    obtain ⟨i1, i2⟩ := ih (Nat.gcd g p.2)
    refine ⟨Nat.dvd_trans i1 (Nat.gcd_dvd_left _ _), fun q hq => ?_⟩
    rcases List.mem_cons.mp hq with k | k
    · rw [k]; exact Nat.dvd_trans i1 (Nat.gcd_dvd_right _ _)
    · exact i2 q k
/-- the outcomes, divided -/
def dvO (l : Sp) : Sp := l.map (fun p => (p.1, p.2 / gcF l 0))
theorem dvO_len {l : Sp} : (dvO l).length = l.length := List.length_map ..
theorem dvO_ok {l : Sp} (hp : posS l) : posS (dvO l) ∧ tot (dvO l) ≤ tot l := by
  have key : ∀ (g : Nat) (m : Sp), (∀ p ∈ m, g ∣ p.2) → posS m → posS (m.map (fun p => (p.1, p.2 / g))) ∧ tot (m.map (fun p => (p.1, p.2 / g))) ≤ tot m := by
    intro g m
    induction m with
    | nil => intro _ _; exact ⟨fun p hp => (by cases hp), Nat.le_refl _⟩
    | cons q r ih =>
      intro h1 h2
      obtain ⟨i1, i2⟩ := ih (fun p hp => h1 p (List.mem_cons_of_mem _ hp)) (fun p hp => h2 p (List.mem_cons_of_mem _ hp))
      have q1 := h2 q List.mem_cons_self
      have d := dv_ok (h1 q List.mem_cons_self) q1
      refine ⟨fun p hp => ?_, ?_⟩
      · rcases List.mem_cons.mp hp with k | k
        · rw [k]; exact d.1
        · exact i1 p k
      · rw [List.map_cons, tot_cons, tot_cons]
        have : q.2 / g ≤ q.2 := Nat.div_le_self _ _
        show q.2 / g + _ ≤ _
        omega
  exact key (gcF l 0) l (gcF_dvd l 0).2 hp
