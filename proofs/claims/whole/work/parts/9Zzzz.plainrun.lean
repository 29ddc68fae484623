/-! A PROGRAM RUN, plain -/
theorem sF_add {f g : Vs → Nat} : ∀ l : Ss, sF l (fun a => f a + g a) = sF l f + sF l g := by
  intro l
  induction l with
  | nil => rfl
  | cons p r ih => show _ + _ = (_ + _) + (_ + _); rw [ih, Nat.mul_add]; omega
def stf (k : Vs) : Nat → Int32 := fun i => k.getD i 0
theorem stf_in {p : Vs × Nat} (h : gdk p) : ∀ i, i < 6 → inR (stf p.1 i) := by
  intro i hi
  obtain ⟨-, h2, h3⟩ := h
  have hl : i < p.1.length := by omega
  have e : stf p.1 i = p.1[i] := by
    unfold stf
    rw [List.getD_eq_getElem?_getD, List.getElem?_eq_getElem hl]
    rfl
  rw [e]
  exact h3 _ (List.getElem_mem hl)
def yesW (s : Sp) : Nat := sS s (fun v => if v = 0 then 0 else 1)
def noW (s : Sp) : Nat := sS s (fun v => if v = 0 then 1 else 0)
theorem yes_no (s : Sp) : yesW s + noW s = tot s := by
  unfold yesW noW tot
  rw [← sS_add]
  refine sS_congr s (fun p _ => ?_)
  by_cases e : p.1 = 0
  · rw [if_pos e, if_pos e]
  · rw [if_neg e, if_neg e]
/-- what a statement gives for all states, one behind another; none if it is OVER for one of them -/
def allS (ev : Vs → Option Sp) (g : Vs × Nat → Sp → Ss) : Ss → Option Ss
  | [] => some []
  | p :: r => (ev p.1).bind fun s => (allS ev g r).map fun t => g p s ++ t
def gAs (n : Nat) (p : Vs × Nat) (s : Sp) : Ss := s.map (fun q => (p.1.set n q.1, p.2 * q.2))
def gYs (p : Vs × Nat) (s : Sp) : Ss := if yesW s = 0 then [] else [(p.1, p.2 * yesW s)]
def gNo (p : Vs × Nat) (s : Sp) : Ss := if noW s = 0 then [] else [(p.1, p.2 * noW s)]
/-- how g counts -/
def cnt (g : Vs × Nat → Sp → Ss) (G : Vs → Int32 → (Vs → Nat) → Nat) : Prop := ∀ p s f, sF (g p s) f = p.2 * sS s (fun v => G p.1 v f)
theorem cnt_As {n : Nat} : cnt (gAs n) (fun k v f => f (k.set n v)) := by
  intro p s f
  unfold gAs
  induction s with
  | nil => show 0 = p.2 * 0; omega
  | cons q r ih =>
    show p.2 * q.2 * f (p.1.set n q.1) + sF (r.map _) f = p.2 * (q.2 * f (p.1.set n q.1) + sS r _)
    rw [ih, Nat.mul_add, Nat.mul_assoc]
theorem cnt_Ys : cnt gYs (fun k v f => (if v = 0 then 0 else 1) * f k) := by
  intro p s f
  rw [sS_mul (f := fun v => if v = 0 then 0 else 1) (f p.1) s]
  show sF (gYs p s) f = p.2 * (yesW s * f p.1)
  unfold gYs
  by_cases e : yesW s = 0
  · rw [if_pos e, e, Nat.zero_mul]; rfl
  · rw [if_neg e]
    show p.2 * yesW s * f p.1 + 0 = _
    rw [Nat.mul_assoc]; rfl
theorem cnt_No : cnt gNo (fun k v f => (if v = 0 then 1 else 0) * f k) := by
  intro p s f
  rw [sS_mul (f := fun v => if v = 0 then 1 else 0) (f p.1) s]
  show sF (gNo p s) f = p.2 * (noW s * f p.1)
  unfold gNo
  by_cases e : noW s = 0
  · rw [if_pos e, e, Nat.zero_mul]; rfl
  · rw [if_neg e]
    show p.2 * noW s * f p.1 + 0 = _
    rw [Nat.mul_assoc]; rfl
section ALL
variable {ev : Vs → Option Sp} {g : Vs × Nat → Sp → Ss} {G : Vs → Int32 → (Vs → Nat) → Nat}
theorem allS_none : ∀ L : Ss, allS ev g L = none ↔ ∃ p ∈ L, ev p.1 = none := by
  intro L
  induction L with
  | nil => exact ⟨fun h => (by cases h), fun ⟨p, h, _⟩ => (by cases h)⟩
  | cons p r ih =>
    rw [allS]
    cases e : ev p.1 with
    | none => exact ⟨fun _ => ⟨p, List.mem_cons_self, e⟩, fun _ => rfl⟩
    | some s =>
      show (allS ev g r).map _ = none ↔ _
      rw [Option.map_eq_none_iff, ih]
      constructor
      · rintro ⟨q, h1, h2⟩
        exact ⟨q, List.mem_cons_of_mem _ h1, h2⟩
      · rintro ⟨q, h1, h2⟩
        rcases List.mem_cons.mp h1 with rfl | h1
        · rw [e] at h2; cases h2
        · exact ⟨q, h1, h2⟩
theorem allS_sF (hc : cnt g G) : ∀ (L X : Ss), allS ev g L = some X → ∀ f, sF X f = sF L (fun k => sS ((ev k).getD []) (fun v => G k v f)) := by
  intro L
  induction L with
  | nil => intro X h f; cases h; rfl
  | cons p r ih =>
    intro X h f
    rw [allS] at h
    obtain ⟨s, e1, h⟩ := Option.bind_eq_some_iff.mp h
    obtain ⟨t, e2, h⟩ := Option.map_eq_some_iff.mp h
    rw [← h, sF_app, hc, ih t e2]
    show _ = p.2 * sS ((ev p.1).getD []) _ + _
    rw [e1]
    rfl
theorem allS_eqs (hc : cnt g G) {L L' X X' : Ss} (h : eqs L L') (e : allS ev g L = some X) (e' : allS ev g L' = some X') : eqs X X' := fun f => by
  rw [allS_sF hc L X e, allS_sF hc L' X' e', h]
/-- the same with other spreads that count the same -/
def altS (ev : Vs → Option Sp) (g : Vs × Nat → Sp → Ss) : Ss → Ss → Prop
  | [], X => X = []
  | p :: r, X => ∃ s s' t f, ev p.1 = some s ∧ eqv s' s ∧ gdS s' f ∧ X = g p s' ++ t ∧ altS ev g r t
theorem altS_ok (hc : cnt g G) : ∀ (L X : Ss), altS ev g L X → ∃ Y, allS ev g L = some Y ∧ eqs X Y := by
  intro L
  induction L with
  | nil => intro X h; exact ⟨[], rfl, by rw [show X = [] from h]; exact eqs_refl⟩
  | cons p r ih =>
    intro X h
    obtain ⟨s, s', t, f0, e1, e2, -, e3, e4⟩ := h
    obtain ⟨Y, y1, y2⟩ := ih t e4
    refine ⟨g p s ++ Y, by rw [allS, e1, y1]; rfl, fun f => ?_⟩
    rw [e3, sF_app, sF_app, hc, hc, e2, y2]
theorem alt_eqs (hc : cnt g G) {L L' X : Ss} (h : eqs L L') (gl : gds L') (ha : altS ev g L X) : ∃ Y, allS ev g L' = some Y ∧ eqs X Y := by
  obtain ⟨Y, y1, y2⟩ := altS_ok hc L X ha
  cases e : allS ev g L' with
  | none =>
    obtain ⟨p, p1, p2⟩ := (allS_none L').mp e
    obtain ⟨q, q1, q2⟩ := eqs_mem (eqs_symm h) (fun p hp => (gl.2 p hp).1) p p1
    rw [(allS_none L).mpr ⟨q, q1, by rw [q2]; exact p2⟩] at y1
    cases y1
  | some Y' => exact ⟨Y', rfl, eqs_trans y2 (allS_eqs hc h y1 e)⟩
theorem all_none_eqs {L L' : Ss} (h : eqs L L') (gl : gds L) (p : Vs × Nat) (hp : p ∈ L) (he : ev p.1 = none) : allS ev g L' = none := by
  obtain ⟨q, q1, q2⟩ := eqs_mem h (fun p hp => (gl.2 p hp).1) p hp
  exact (allS_none L').mpr ⟨q, q1, by rw [q2]; exact he⟩
theorem allS_gd {f : Nat} (he : ∀ p, gdk p → ∀ s, ev p.1 = some s → gdS s f) (hg : ∀ p s, gdk p → gdS s f → ∀ x ∈ g p s, gdk x) : ∀ (L X : Ss), (∀ p ∈ L, gdk p) → allS ev g L = some X → ∀ x ∈ X, gdk x := by
  intro L
  induction L with
  | nil => intro X _ h x hx; cases h; cases hx
  | cons p r ih =>
    intro X hL h x hx
    rw [allS] at h
    obtain ⟨s, e1, h⟩ := Option.bind_eq_some_iff.mp h
    obtain ⟨t, e2, h⟩ := Option.map_eq_some_iff.mp h
    rw [← h] at hx
    have hp := hL p List.mem_cons_self
    rcases List.mem_append.mp hx with q | q
    · exact hg p s hp (he p hp s e1) x q
    · exact ih t (fun y hy => hL y (List.mem_cons_of_mem _ hy)) e2 x q
theorem altS_gd (hg : ∀ p s f, gdk p → gdS s f → ∀ x ∈ g p s, gdk x) : ∀ (L X : Ss), (∀ p ∈ L, gdk p) → altS ev g L X → ∀ x ∈ X, gdk x := by
  intro L
  induction L with
  | nil => intro X _ h x hx; rw [show X = [] from h] at hx; cases hx
  | cons p r ih =>
    intro X hL h x hx
    obtain ⟨s, s', t, f0, e1, e2, e5, e3, e4⟩ := h
    rw [e3] at hx
    have hp := hL p List.mem_cons_self
    rcases List.mem_append.mp hx with q | q
    · exact hg p s' f0 hp e5 x q
    · exact ih t (fun y hy => hL y (List.mem_cons_of_mem _ hy)) e4 x q
theorem allS_keys (hk : ∀ p s x, x ∈ g p s → x.1 = p.1) : ∀ (L X : Ss), allS ev g L = some X → ∀ x ∈ X, ∃ p ∈ L, p.1 = x.1 := by
  intro L
  induction L with
  | nil => intro X h x hx; cases h; cases hx
  | cons p r ih =>
    intro X h x hx
    rw [allS] at h
    obtain ⟨s, e1, h⟩ := Option.bind_eq_some_iff.mp h
    obtain ⟨t, e2, h⟩ := Option.map_eq_some_iff.mp h
    rw [← h] at hx
    rcases List.mem_append.mp hx with q | q
    · exact ⟨p, List.mem_cons_self, (hk p s x q).symm⟩
    · obtain ⟨y, y1, y2⟩ := ih t e2 x q
      exact ⟨y, List.mem_cons_of_mem _ y1, y2⟩
end ALL
theorem gd_As {n : Nat} (p : Vs × Nat) (s : Sp) (f : Nat) (hp : gdk p) (hs : gdS s f) : ∀ x ∈ gAs n p s, gdk x := by
  intro x hx
  obtain ⟨q, hq, e⟩ := List.mem_map.mp hx
  obtain ⟨h1, h2, h3⟩ := hp
  rw [← e]
  refine ⟨Nat.mul_pos h1 (hs.1 q hq), by show (p.1.set n q.1).length = 6; rw [List.length_set]; exact h2, fun v hv => ?_⟩
  rcases List.mem_or_eq_of_mem_set hv with w | w
  · exact h3 v w
  · rw [w]
    exact hs.2.1 q hq
theorem gd_Ys (p : Vs × Nat) (s : Sp) (f : Nat) (hp : gdk p) (_ : gdS s f) : ∀ x ∈ gYs p s, gdk x := by
  intro x hx
  obtain ⟨h1, h2⟩ := hp
  unfold gYs at hx
  by_cases e : yesW s = 0
  · rw [if_pos e] at hx; cases hx
  · rw [if_neg e] at hx
    rw [List.mem_singleton.mp hx]
    exact ⟨Nat.mul_pos h1 (by omega), h2⟩
theorem gd_No (p : Vs × Nat) (s : Sp) (f : Nat) (hp : gdk p) (_ : gdS s f) : ∀ x ∈ gNo p s, gdk x := by
  intro x hx
  obtain ⟨h1, h2⟩ := hp
  unfold gNo at hx
  by_cases e : noW s = 0
  · rw [if_pos e] at hx; cases hx
  · rw [if_neg e] at hx
    rw [List.mem_singleton.mp hx]
    exact ⟨Nat.mul_pos h1 (by omega), h2⟩
theorem ky_Ys (p : Vs × Nat) (s : Sp) (x : Vs × Nat) (hx : x ∈ gYs p s) : x.1 = p.1 := by
  unfold gYs at hx
  split at hx
  · cases hx
  · rw [List.mem_singleton.mp hx]
theorem ky_No (p : Vs × Nat) (s : Sp) (x : Vs × Nat) (hx : x ∈ gNo p s) : x.1 = p.1 := by
  unfold gNo at hx
  split at hx
  · cases hx
  · rw [List.mem_singleton.mp hx]
/-! RUNS: a verdict or the states behind, and the most states so far -/
abbrev Rn : Type := (Int32 ⊕ Ss) × Nat
def rbi (r : Rn) (f : Ss → Nat → Rn) : Rn := match r.1 with
  | .inl v => (.inl v, r.2)
  | .inr L => f L r.2
def fin1 (U : Ss) (mo : Nat) : Rn := if 64 < U.length then (.inl (-2), mo) else (.inr U, max mo U.length)
def rnB (sts : List St) (f : Nat → Ss → Nat → Rn) : Nat → Nat → Nat → Ss → Nat → Rn
  | 0, _, _, L, mo => (.inr L, mo)
  | j + 1, lo, hi, L, mo => if lo < hi ∧ L ≠ [] then rbi (f lo L mo) (fun L' mo' => rnB sts f j (enS sts lo) hi L' mo') else (.inr L, mo)
def rnT (f : Ss → Nat → Rn) : Nat → Ss → Nat → Rn
  | 0, L, mo => (.inr L, mo)
  | n + 1, L, mo => rbi (f L mo) (fun L' mo' => rnT f n L' mo')
def fcS (sts : List St) (s : Nat) : Nat := match sts[s]? with
  | none => 1
  | some t => t.2.2.2.2.2.2
/-- the factor of a block -/
def bfN (sts : List St) : Nat → Nat → Nat → Nat → Nat
  | 0, _, _, a => a
  | j + 1, lo, hi, a => if lo < hi then bfN sts j (enS sts lo) hi (prN a (fcS sts lo)) else a
def evK (nds : List Nd) (fcs : List Int32) (i : Nat) (k : Vs) : Option Sp := evT nds fcs (stf k) 45 i
def rnC (sts : List St) (f : Nat → Ss → Nat → Rn) (s : Nat) (t : St) (a b : Nat) (X Y : Ss) (mo : Nat) : Rn := rbi (rnB sts f 25 (s + 1) t.2.2.2.2.1 (insA X []) mo) (fun Y1 mo1 => rbi (rnB sts f 25 t.2.2.2.2.1 t.2.2.2.2.2.1 (insA Y []) mo1) (fun N1 mo2 => fin1 (insA (scl (mlN a b / a) Y1 ++ scl (mlN a b / b) N1) []) mo2))
def rnS (sts : List St) (nds : List Nd) (fcs : List Int32) : Nat → Nat → Ss → Nat → Rn
  | 0, _, L, mo => (.inr L, mo)
  | m + 1, s, L, mo => match sts[s]? with
    | none => (.inr L, mo)
    | some t =>
      if t.1 = 0 then (match allS (evK nds fcs t.2.2.2.1) (gAs t.2.1) L with
        | none => (.inl (-1), mo)
        | some X => fin1 (insA X []) mo)
      else if t.1 = 1 then (match allS (evK nds fcs t.2.2.2.1) gYs L with
        | none => (.inl (-1), mo)
        | some X => fin1 (insA X []) mo)
      else if t.1 = 2 then (match allS (evK nds fcs t.2.2.2.1) gYs L with
        | none => (.inl (-1), mo)
        | some X => rnC sts (rnS sts nds fcs m) s t (bfN sts 25 (s + 1) t.2.2.2.2.1 1) (bfN sts 25 t.2.2.2.2.1 t.2.2.2.2.2.1 1) X ((allS (evK nds fcs t.2.2.2.1) gNo L).getD []) mo)
      else rnT (fun L mo => rnB sts (rnS sts nds fcs m) 25 (s + 1) t.2.2.2.2.2.1 L mo) t.2.1 L mo
section RNS
variable {sts : List St} {nds : List Nd} {fcs : List Int32} {m s mo : Nat} {L : Ss} {t : St}
theorem rnS_0 (h : sts[s]? = some t) (k : t.1 = 0) : rnS sts nds fcs (m + 1) s L mo = (match allS (evK nds fcs t.2.2.2.1) (gAs t.2.1) L with
        | none => (.inl (-1), mo)
        | some X => fin1 (insA X []) mo) := by
  rw [rnS, h]
  try dsimp only
  rw [if_pos k]
theorem rnS_1 (h : sts[s]? = some t) (k : t.1 = 1) : rnS sts nds fcs (m + 1) s L mo = (match allS (evK nds fcs t.2.2.2.1) gYs L with
        | none => (.inl (-1), mo)
        | some X => fin1 (insA X []) mo) := by
  rw [rnS, h]
  try dsimp only
  rw [if_neg (by omega), if_pos k]
theorem rnS_2 (h : sts[s]? = some t) (k : t.1 = 2) : rnS sts nds fcs (m + 1) s L mo = (match allS (evK nds fcs t.2.2.2.1) gYs L with
        | none => (.inl (-1), mo)
        | some X => rnC sts (rnS sts nds fcs m) s t (bfN sts 25 (s + 1) t.2.2.2.2.1 1) (bfN sts 25 t.2.2.2.2.1 t.2.2.2.2.2.1 1) X ((allS (evK nds fcs t.2.2.2.1) gNo L).getD []) mo) := by
  rw [rnS, h]
  try dsimp only
  rw [if_neg (by omega), if_neg (by omega), if_pos k]
theorem rnS_3 (h : sts[s]? = some t) (k : t.1 = 3) : rnS sts nds fcs (m + 1) s L mo = rnT (fun L mo => rnB sts (rnS sts nds fcs m) 25 (s + 1) t.2.2.2.2.2.1 L mo) t.2.1 L mo := by
  rw [rnS, h]
  try dsimp only
  rw [if_neg (by omega), if_neg (by omega), if_neg (by omega)]
end RNS
theorem bk_bf {P : Nat → St → Nat → Prop} {sts : List St} (hP : ∀ s t a, P s t a → s + 1 ≤ t.2.2.2.2.2.1) : ∀ (l : List (Nat × Nat)) (j lo hi a : Nat), hi - lo ≤ j → bk P sts l lo hi → bfN sts j lo hi a = fold_ l a := by
  intro l
  induction l with
  | nil =>
    intro j lo hi a _ h
    have e : lo = hi := h
    cases j with
    | zero => rfl
    | succ j => rw [bfN, if_neg (by omega)]; rfl
  | cons x r ih =>
    intro j lo hi a hj h
    obtain ⟨t, h1, h2, h3, h4⟩ := h
    have e1 := hP _ _ _ h3
    have e2 := bk_le hP _ _ _ h4
    obtain ⟨j, rfl⟩ : ∃ i, j = i + 1 := ⟨j - 1, by omega⟩
    have en : enS sts lo = t.2.2.2.2.2.1 := by unfold enS; rw [h1]
    have fc : fcS sts lo = x.2 := by unfold fcS; rw [h1]; exact h2
    rw [bfN, if_pos (by omega), en, fc, ih j _ hi _ (by omega) h4]
    rfl
theorem dv_ok {d m : Nat} (hd : d ∣ m) (hm : 1 ≤ m) : 1 ≤ m / d ∧ d * (m / d) = m ∧ d ≤ m := by
  have l := Nat.le_of_dvd hm hd
  exact ⟨Nat.div_pos l (Nat.pos_of_dvd_of_pos hd hm), Nat.mul_div_cancel' hd, l⟩
theorem ml_ok {a b : Nat} (ha : 1 ≤ a) (hb : 1 ≤ b) (h : mlN a b ≤ 2147483648) : 1 ≤ mlN a b ∧ (1 ≤ mlN a b / a ∧ a * (mlN a b / a) = mlN a b ∧ a ≤ mlN a b) ∧ (1 ≤ mlN a b / b ∧ b * (mlN a b / b) = mlN a b ∧ b ≤ mlN a b) := by
  have e : mlN a b = a / Nat.gcd a b * b := prN_ok h
  have g1 : 1 ≤ Nat.gcd a b := Nat.gcd_pos_of_pos_left _ ha
  obtain ⟨y, hy⟩ := Nat.gcd_dvd_right a b
  have e2 : mlN a b = a * y := by
    rw [e]
    have : a / Nat.gcd a b * b = a / Nat.gcd a b * (Nat.gcd a b * y) := congrArg (fun t => a / Nat.gcd a b * t) hy
    rw [this, ← Nat.mul_assoc, Nat.div_mul_cancel (Nat.gcd_dvd_left a b)]
  have p1 : 1 ≤ a / Nat.gcd a b := Nat.div_pos (Nat.le_of_dvd ha (Nat.gcd_dvd_left a b)) g1
  have p2 : 1 ≤ mlN a b := by rw [e]; exact Nat.mul_pos p1 hb
  exact ⟨p2, dv_ok ⟨y, e2⟩ p2, dv_ok ⟨a / Nat.gcd a b, by rw [e, Nat.mul_comm]⟩ p2⟩
theorem fold_cons {x : Nat × Nat} {r : List (Nat × Nat)} (hx : 1 ≤ x.2 ∧ x.2 ≤ 2147483649) (hr : ∀ y ∈ r, 1 ≤ y.2) : fold_ (x :: r) 1 = prN x.2 (fold_ r 1) ∧ 1 ≤ fold_ r 1 := by
  have hm : ∀ y ∈ r.map Prod.snd, 1 ≤ y := fun y hy => by
    obtain ⟨q, q1, q2⟩ := List.mem_map.mp hy
    rw [← q2]
    exact hr q q1
  have k := fo_mul (r.map Prod.snd) x.2 hm hx.1 hx.2
  refine ⟨?_, by rw [fold_fo]; exact k.2.1⟩
  show fold_ r (prN 1 x.2) = _
  rw [(prN_one hx.2).2, fold_fo, k.1, fold_fo]
theorem pr_two {a b : Nat} (ha : 1 ≤ a) (hb : 1 ≤ b) (h : prN a b ≤ 2147483648) : prN a b = a * b ∧ a ≤ 2147483648 ∧ b ≤ 2147483648 := by
  have e := prN_ok h
  have x1 : a ≤ a * b := Nat.le_mul_of_pos_right _ hb
  have x2 : b ≤ a * b := Nat.le_mul_of_pos_left _ ha
  exact ⟨e, by omega, by omega⟩
theorem pw_ok {a : Nat} (ha : 1 ≤ a) : ∀ (t acc : Nat), 1 ≤ acc → pwN a t acc ≤ 2147483648 → pwN a t acc = acc * a ^ t ∧ (1 ≤ t → a ≤ 2147483648) := by
  intro t
  induction t with
  | zero => intro acc _ _; exact ⟨by rw [Nat.pow_zero, Nat.mul_one]; rfl, fun h => absurd h (by omega)⟩
  | succ t ih =>
    intro acc hacc h
    rw [pwN] at h ⊢
    have p1 := prN_pos hacc ha
    obtain ⟨i1, -⟩ := ih (prN acc a) p1 h
    have hp : 1 ≤ a ^ t := Nat.pow_pos ha
    have l : prN acc a ≤ 2147483648 := by
      have : prN acc a ≤ prN acc a * a ^ t := Nat.le_mul_of_pos_right _ hp
      omega
    obtain ⟨e, -, l2⟩ := pr_two hacc ha l
    refine ⟨?_, fun _ => l2⟩
    rw [i1, e, Nat.pow_succ, Nat.mul_assoc, Nat.mul_comm a]
