/-! WHAT IS COLLECTED: values found, each once, with their ways -/
theorem nd_le : ∀ (n : Nat) (l : List Nat), l.Nodup → (∀ i ∈ l, i < n) → l.length ≤ n := by
  intro n
  induction n with
  | zero =>
    intro l _ h
    cases l with
    | nil => exact Nat.le_refl _
    | cons a b => exact absurd (h a List.mem_cons_self) (by omega)
  | succ n ih =>
    intro l hn h
    by_cases c : n ∈ l
    · have := ih (l.erase n) (hn.erase n) (fun i hi => by
        have := hn.mem_erase_iff.mp hi
        have := h i this.2
        omega)
      rw [List.length_erase_of_mem c] at this
      omega
    · have := ih l hn (fun i hi => by
        have := h i hi
        have : i ≠ n := fun e => c (e ▸ hi)
        omega)
      omega
def ix (v : Int32) : Nat := (v.toInt + 999).toNat
theorem ix_lt {v : Int32} (h : inR v) : ix v < 1999 := (vAt_of h).2
theorem ix_at {v : Int32} (h : inR v) : vAt (ix v) = v := (vAt_of h).1.symm
theorem ix_inj {v u : Int32} (hv : inR v) (hu : inR u) (h : ix v = ix u) : v = u := by rw [← ix_at hv, h, ix_at hu]
theorem fd_len {fd : List Int32} (hn : fd.Nodup) (hr : ∀ v ∈ fd, inR v) : fd.length ≤ 1999 := by
  have := nd_le 1999 (fd.map ix) (by
    induction fd with
    | nil => exact List.nodup_nil
    | cons v r ih =>
      rw [List.map_cons]
      have h1 := List.nodup_cons.mp hn
      refine List.nodup_cons.mpr ⟨fun h => ?_, ih h1.2 (fun u hu => hr u (List.mem_cons_of_mem _ hu))⟩
      obtain ⟨u, hu, e⟩ := List.mem_map.mp h
      exact h1.1 (ix_inj (hr u (List.mem_cons_of_mem _ hu)) (hr v List.mem_cons_self) e ▸ hu)) (fun i hi => by
      obtain ⟨u, hu, e⟩ := List.mem_map.mp hi
      rw [← e]
      exact ix_lt (hr u hu))
  rw [List.length_map] at this
  exact this
/-- values found and their ways, as a spread -/
def fdS (fd : List Int32) (g : Nat → Nat) : Sp := fd.map (fun v => (v, g (ix v)))
theorem fdS_cons {u : Int32} {r : List Int32} {g : Nat → Nat} {f : Int32 → Nat} : sS (fdS (u :: r) g) f = g (ix u) * f u + sS (fdS r g) f := rfl
theorem fdS_no {fd : List Int32} {g g' : Nat → Nat} {f : Int32 → Nat} (h : ∀ v ∈ fd, g (ix v) = g' (ix v)) : sS (fdS fd g) f = sS (fdS fd g') f := by
  unfold fdS
  congr 1
  exact List.map_congr_left (fun v hv => by rw [h v hv])
theorem fdS_up {g : Nat → Nat} {f : Int32 → Nat} {v : Int32} {w : Nat} (hv : inR v) : ∀ fd : List Int32, fd.Nodup → (∀ u ∈ fd, inR u) → v ∈ fd → sS (fdS fd (fun i => if i = ix v then g i + w else g i)) f = sS (fdS fd g) f + w * f v := by
  intro fd
  induction fd with
  | nil => intro _ _ h; cases h
  | cons u r ih =>
    intro hn hr h
    have h1 := List.nodup_cons.mp hn
    have hr' : ∀ u ∈ r, inR u := fun x hx => hr x (List.mem_cons_of_mem _ hx)
    by_cases c : u = v
    · subst c
      have e := fdS_no (fd := r) (f := f) (g := fun i => if i = ix u then g i + w else g i) (g' := g) (fun x hx => if_neg (fun q => h1.1 (ix_inj (hr' x hx) hv q ▸ hx)))
      rw [fdS_cons, fdS_cons]
      rw [e, if_pos rfl, Nat.add_mul]
      omega
    · have hm : v ∈ r := (List.mem_cons.mp h).resolve_left (fun q => c q.symm)
      rw [fdS_cons, fdS_cons]
      rw [ih h1.2 hr' hm, if_neg (fun q => c (ix_inj (hr u List.mem_cons_self) hv q))]
      omega
def clt (fd : List Int32) (g : Nat → Nat) (Q : (Int32 → Nat) → Nat) : Prop := fd.Nodup ∧ (∀ v ∈ fd, inR v) ∧ (∀ i, i < 1999 → (g i ≠ 0 ↔ vAt i ∈ fd)) ∧ ∀ f, sS (fdS fd g) f = Q f
theorem clt_nil : clt [] (fun _ => 0) (fun _ => 0) := ⟨List.nodup_nil, fun v h => (by cases h), fun i _ => ⟨fun h => absurd rfl h, fun h => (by cases h)⟩, fun _ => rfl⟩
theorem clt_step {fd : List Int32} {g : Nat → Nat} {Q : (Int32 → Nat) → Nat} (h : clt fd g Q) {v : Int32} {w : Nat} (hv : inR v) (hw : 1 ≤ w) : clt (if g (ix v) = 0 then fd ++ [v] else fd) (fun i => if i = ix v then g i + w else g i) (fun f => Q f + w * f v) := by
  obtain ⟨h1, h2, h3, h4⟩ := h
  have k := h3 (ix v) (ix_lt hv)
  rw [ix_at hv] at k
  by_cases c : g (ix v) = 0
  · rw [if_pos c]
    have hn : v ∉ fd := fun q => (k.mpr q) c
    refine ⟨?_, ?_, fun i hi => ?_, fun f => ?_⟩
    · refine List.nodup_append.mpr ⟨h1, List.nodup_cons.mpr ⟨List.not_mem_nil, List.nodup_nil⟩, fun a ha b hb e => ?_⟩
      rw [List.mem_singleton.mp hb] at e
      exact hn (e ▸ ha)
    · intro u hu
      rcases List.mem_append.mp hu with q | q
      · exact h2 u q
      · rw [List.mem_singleton.mp q]; exact hv
    · by_cases e : i = ix v
      · dsimp only
        rw [if_pos e, e, ix_at hv]
        exact ⟨fun _ => List.mem_append.mpr (Or.inr (List.mem_singleton.mpr rfl)), fun _ => by omega⟩
      · dsimp only
        rw [if_neg e]
        refine ⟨fun q => List.mem_append.mpr (Or.inl ((h3 i hi).mp q)), fun q => (h3 i hi).mpr ((List.mem_append.mp q).resolve_right (fun s => e ?_))⟩
        have := List.mem_singleton.mp s
        exact vAt_inj hi (ix_lt hv) (by rw [this, ix_at hv])
    · have e : fdS (fd ++ [v]) (fun i => if i = ix v then g i + w else g i) = fdS fd (fun i => if i = ix v then g i + w else g i) ++ [(v, w)] := by
        unfold fdS
        rw [List.map_append]
        congr 1
        show [(v, if ix v = ix v then g (ix v) + w else g (ix v))] = _
        rw [if_pos rfl, c, Nat.zero_add]
      dsimp only
      rw [e, sS_app, ← h4, fdS_no (g' := g) (fun u hu => if_neg (fun q => hn (ix_inj (h2 u hu) hv q ▸ hu)))]
      show _ + (w * f v + 0) = _
      omega
  · rw [if_neg c]
    have hm : v ∈ fd := k.mp c
    refine ⟨h1, h2, fun i hi => ?_, fun f => by rw [fdS_up hv fd h1 h2 hm, h4]⟩
    by_cases e : i = ix v
    · dsimp only
      rw [if_pos e, e, ix_at hv]
      exact ⟨fun _ => hm, fun _ => by omega⟩
    · dsimp only
      rw [if_neg e]
      exact h3 i hi
theorem clt_bd {fd : List Int32} {g : Nat → Nat} {Q : (Int32 → Nat) → Nat} (h : clt fd g Q) {i : Nat} (hi : i < 1999) : g i ≤ Q (fun _ => 1) := by
  obtain ⟨h1, h2, h3, h4⟩ := h
  by_cases c : g i = 0
  · omega
  · have hm := (h3 i hi).mp c
    rw [← h4]
    have key : ∀ fd : List Int32, (∀ v ∈ fd, inR v) → vAt i ∈ fd → g i ≤ sS (fdS fd g) (fun _ => 1) := by
      intro fd
      induction fd with
      | nil => intro _ h; cases h
      | cons u r ih =>
        intro hr h
        show g i ≤ g (ix u) * 1 + sS (fdS r g) _
        rw [Nat.mul_one]
        rcases List.mem_cons.mp h with e | e
        · have : ix u = i := by
            rw [← e]
            unfold ix
            rw [vAt_i hi]
            omega
          rw [this]
          omega
        · have := ih (fun v hv => hr v (List.mem_cons_of_mem _ hv)) e
          omega
    exact key fd h2 hm
theorem clt_pos {fd : List Int32} {g : Nat → Nat} {Q : (Int32 → Nat) → Nat} (h : clt fd g Q) : gdS (fdS fd g) (Q (fun _ => 1)) := by
  obtain ⟨h1, h2, h3, h4⟩ := h
  refine ⟨fun p hp => ?_, fun p hp => ?_, ?_, h4 _⟩
  · obtain ⟨v, hv, e⟩ := List.mem_map.mp hp
    rw [← e]
    have := (h3 (ix v) (ix_lt (h2 v hv))).mpr (by rw [ix_at (h2 v hv)]; exact hv)
    show 1 ≤ g (ix v)
    omega
  · obtain ⟨v, hv, e⟩ := List.mem_map.mp hp
    rw [← e]
    exact h2 v hv
  · unfold fdS
    rw [List.length_map]
    exact fd_len h1 h2
/-! PARTS OF EXPRESSIONS, plain -/
def un (g : Int32) : Int32 := if g = 0 then 60 else if g = 1 then 62 else if g = 2 then 61 else if g = 3 then 43 else if g = 4 then 45 else if g = 5 then 42 else if g = 6 then 47 else 37
def ngS (l : Sp) : Sp := l.map (fun p => (-p.1, p.2))
def dcS (w : Nat → Nat) : Nat → Sp
  | 0 => []
  | n + 1 => dcS w n ++ (if w n = 0 then [] else [(Int32.ofNat n, w n)])
theorem dcS_sS {w : Nat → Nat} {f : Int32 → Nat} : ∀ n, sS (dcS w n) f = sm n (fun i => w i * f (Int32.ofNat i)) := by
  intro n
  induction n with
  | zero => rfl
  | succ n ih =>
    rw [dcS, sS_app, ih]
    show _ = _ + w n * f (Int32.ofNat n)
    by_cases e : w n = 0
    · rw [if_pos e, e, Nat.zero_mul]; rfl
    · rw [if_neg e]; rfl
theorem dcS_mem {w : Nat → Nat} : ∀ (n : Nat) (p : Int32 × Nat), p ∈ dcS w n → ∃ i, i < n ∧ p = (Int32.ofNat i, w i) ∧ w i ≠ 0 := by
  intro n
  induction n with
  | zero => intro p h; cases h
  | succ n ih =>
    intro p h
    rw [dcS] at h
    rcases List.mem_append.mp h with h | h
    · obtain ⟨i, a, b⟩ := ih p h
      exact ⟨i, by omega, b⟩
    · by_cases e : w n = 0
      · rw [if_pos e] at h; cases h
      · rw [if_neg e] at h
        exact ⟨n, by omega, List.mem_singleton.mp h, e⟩
theorem dcS_len {w : Nat → Nat} : ∀ n, (dcS w n).length ≤ n := by
  intro n
  induction n with
  | zero => exact Nat.le_refl _
  | succ n ih =>
    rw [dcS, List.length_append]
    by_cases e : w n = 0
    · rw [if_pos e, List.length_nil]; omega
    · rw [if_neg e, List.length_singleton]; omega
theorem dcS_cut {w : Nat → Nat} {k : Nat} (h : ∀ s, k ≤ s → w s = 0) : ∀ n, k ≤ n → dcS w n = dcS w k := by
  intro n
  induction n with
  | zero => intro hk; rw [show k = 0 by omega]
  | succ n ih =>
    intro hk
    by_cases e : k = n + 1
    · rw [e]
    · rw [dcS, if_pos (h n (by omega)), List.append_nil, ih (by omega)]
theorem ngS_sS {f : Int32 → Nat} : ∀ l : Sp, sS (ngS l) f = sS l (fun v => f (-v)) := by
  intro l
  induction l with
  | nil => rfl
  | cons p r ih => show _ + _ = _ + _; rw [← ih]; rfl
theorem ngS_eqv {l m : Sp} (h : eqv l m) : eqv (ngS l) (ngS m) := fun f => by rw [ngS_sS, ngS_sS, h]
theorem inR_neg {v : Int32} (h : inR v) : inR (-v) := by
  obtain ⟨h1, h2⟩ := h
  have e : (-v).toInt = -v.toInt := by
    rw [Int32.toInt_neg]
    exact Int.bmod_eq_of_le (by omega) (by omega)
  unfold inR
  rw [e]
  omega
theorem ngS_gd {l : Sp} {f : Nat} (h : gdS l f) : gdS (ngS l) f := by
  obtain ⟨h1, h2, h3, h4⟩ := h
  refine ⟨fun p hp => ?_, fun p hp => ?_, by unfold ngS; rw [List.length_map]; exact h3, by unfold tot; rw [ngS_sS]; exact h4⟩
  · obtain ⟨v, hv, e⟩ := List.mem_map.mp hp
    rw [← e]
    exact h1 v hv
  · obtain ⟨v, hv, e⟩ := List.mem_map.mp hp
    rw [← e]
    exact inR_neg (h2 v hv)
def onS (fl : List Int32) : Sp := fl.map (fun x => (x, 1))
theorem onS_tot : ∀ fl : List Int32, tot (onS fl) = fl.length := by
  intro fl
  induction fl with
  | nil => rfl
  | cons x r ih => show tot ((x, 1) :: onS r) = _; rw [tot_cons, ih, List.length_cons]; omega
theorem onS_gd {fl : List Int32} (h8 : fl.length ≤ 8) (hr : ∀ x ∈ fl, inR x) : gdS (onS fl) fl.length := by
  refine ⟨fun p hp => ?_, fun p hp => ?_, by unfold onS; rw [List.length_map]; omega, onS_tot fl⟩
  · obtain ⟨v, hv, e⟩ := List.mem_map.mp hp
    rw [← e]
    exact Nat.le_refl _
  · obtain ⟨v, hv, e⟩ := List.mem_map.mp hp
    rw [← e]
    exact hr v hv
