/-! STATES WITH THEIR WAYS, as lists; what counts is the sum over them of any function -/
abbrev Vs : Type := List Int32
abbrev Ss : Type := List (Vs × Nat)
def sF : Ss → (Vs → Nat) → Nat
  | [], _ => 0
  | p :: r, f => p.2 * f p.1 + sF r f
def eqs (l m : Ss) : Prop := ∀ f, sF l f = sF m f
theorem eqs_refl {l : Ss} : eqs l l := fun _ => rfl
theorem eqs_symm {l m : Ss} (h : eqs l m) : eqs m l := fun f => (h f).symm
theorem eqs_trans {l m n : Ss} (h : eqs l m) (k : eqs m n) : eqs l n := fun f => (h f).trans (k f)
theorem sF_app {f : Vs → Nat} : ∀ l m : Ss, sF (l ++ m) f = sF l f + sF m f := by
  intro l m
  induction l with
  | nil => rw [List.nil_append]; show _ = 0 + _; rw [Nat.zero_add]
  | cons p r ih => rw [List.cons_append]; show _ + _ = _ + _ + _; rw [ih]; omega
theorem sF_congr {f g : Vs → Nat} : ∀ l : Ss, (∀ p ∈ l, f p.1 = g p.1) → sF l f = sF l g := by
  intro l
  induction l with
  | nil => intro _; rfl
  | cons p r ih =>
    intro h
    show _ + _ = _ + _
    rw [h p List.mem_cons_self, ih (fun q hq => h q (List.mem_cons_of_mem _ hq))]
theorem sF_zero {f : Vs → Nat} : ∀ l : Ss, (∀ p ∈ l, f p.1 = 0) → sF l f = 0 := by
  intro l
  induction l with
  | nil => intro _; rfl
  | cons p r ih =>
    intro h
    show _ + _ = _
    rw [h p List.mem_cons_self, ih (fun q hq => h q (List.mem_cons_of_mem _ hq)), Nat.mul_zero]
theorem sF_ge {f : Vs → Nat} : ∀ (l : Ss) (p : Vs × Nat), p ∈ l → p.2 * f p.1 ≤ sF l f := by
  intro l
  induction l with
  | nil => intro p hp; cases hp
  | cons q r ih =>
    intro p hp
    show _ ≤ _ + _
    rcases List.mem_cons.mp hp with rfl | hp
    · omega
    · have := ih p hp
      omega
/-- ways given to a state -/
def ins (k : Vs) (w : Nat) : Ss → Ss
  | [] => [(k, w)]
  | p :: r => if p.1 = k then (p.1, p.2 + w) :: r else p :: ins k w r
theorem ins_sF {k : Vs} {w : Nat} {f : Vs → Nat} : ∀ l : Ss, sF (ins k w l) f = sF l f + w * f k := by
  intro l
  induction l with
  | nil => show w * f k + 0 = 0 + w * f k; omega
  | cons p r ih =>
    rw [ins]
    by_cases e : p.1 = k
    · rw [if_pos e]
      show (p.2 + w) * f p.1 + _ = p.2 * f p.1 + _ + _
      rw [Nat.add_mul, e]
      omega
    · rw [if_neg e]
      show _ + _ = _ + _ + _
      rw [ih]
      omega
theorem ins_at {k : Vs} {w : Nat} : ∀ (l : Ss) (i w0 : Nat), (∀ (j : Nat) (p : Vs × Nat), j < i → l[j]? = some p → p.1 ≠ k) → l[i]? = some (k, w0) → ins k w l = l.set i (k, w0 + w) := by
  intro l
  induction l with
  | nil => intro i w0 _ h; cases h
  | cons p r ih =>
    intro i w0 hn h
    rw [ins]
    cases i with
    | zero =>
      have e : p = (k, w0) := Option.some.inj h
      rw [e, if_pos rfl]
      rfl
    | succ i =>
      rw [if_neg (hn 0 p (by omega) rfl), ih i w0 (fun j q hj hq => hn (j + 1) q (by omega) hq) h]
      rfl
theorem ins_no {k : Vs} {w : Nat} : ∀ l : Ss, (∀ p ∈ l, p.1 ≠ k) → ins k w l = l ++ [(k, w)] := by
  intro l
  induction l with
  | nil => intro _; rfl
  | cons p r ih =>
    intro h
    rw [ins, if_neg (h p List.mem_cons_self), ih (fun q hq => h q (List.mem_cons_of_mem _ hq))]
    rfl
theorem ins_keys {k : Vs} {w : Nat} : ∀ l : Ss, (ins k w l).map Prod.fst = if k ∈ l.map Prod.fst then l.map Prod.fst else l.map Prod.fst ++ [k] := by
  intro l
  induction l with
  | nil => rfl
  | cons p r ih =>
    rw [ins]
    by_cases e : p.1 = k
    · rw [if_pos e, if_pos (by rw [List.map_cons, e]; exact List.mem_cons_self)]
      rfl
    · rw [if_neg e, List.map_cons, List.map_cons, ih]
      by_cases c : k ∈ r.map Prod.fst
      · rw [if_pos c, if_pos (List.mem_cons_of_mem _ c)]
      · rw [if_neg c, if_neg (fun q => (List.mem_cons.mp q).elim (fun q => e q.symm) c)]
        rfl
theorem ins_len {k : Vs} {w : Nat} {l : Ss} : l.length ≤ (ins k w l).length ∧ (ins k w l).length ≤ l.length + 1 := by
  have h := congrArg List.length (ins_keys (k := k) (w := w) l)
  rw [List.length_map] at h
  rw [h]
  split
  · rw [List.length_map]; omega
  · rw [List.length_append, List.length_map, List.length_singleton]; omega
theorem ins_mem {k : Vs} {w : Nat} : ∀ (l : Ss) (p : Vs × Nat), p ∈ ins k w l → p ∈ l ∨ (p.1 = k ∧ w ≤ p.2) := by
  intro l
  induction l with
  | nil =>
    intro p hp
    have : p = (k, w) := List.mem_singleton.mp hp
    rw [this]
    exact Or.inr ⟨rfl, Nat.le_refl _⟩
  | cons q r ih =>
    intro p hp
    rw [ins] at hp
    by_cases e : q.1 = k
    · rw [if_pos e] at hp
      rcases List.mem_cons.mp hp with hp | hp
      · rw [hp]
        exact Or.inr ⟨e, Nat.le_add_left _ _⟩
      · exact Or.inl (List.mem_cons_of_mem _ hp)
    · rw [if_neg e] at hp
      rcases List.mem_cons.mp hp with hp | hp
      · rw [hp]
        exact Or.inl List.mem_cons_self
      · exact (ih p hp).imp (List.mem_cons_of_mem _) id
def gdk (p : Vs × Nat) : Prop := 1 ≤ p.2 ∧ p.1.length = 6 ∧ ∀ v ∈ p.1, inR v
/-- states: each once, with ways, each value within the limits -/
def gds (l : Ss) : Prop := (l.map Prod.fst).Nodup ∧ ∀ p ∈ l, gdk p
theorem gds_nil : gds [] := ⟨List.nodup_nil, fun p h => by cases h⟩
theorem nodup_snoc {α : Type} {l : List α} {a : α} (h : l.Nodup) (ha : a ∉ l) : (l ++ [a]).Nodup := by
  rw [List.nodup_append]
  refine ⟨h, List.nodup_cons.mpr ⟨List.not_mem_nil, List.nodup_nil⟩, fun x hx y hy e => ?_⟩
  rw [List.mem_singleton] at hy
  rw [e, hy] at hx
  exact ha hx
theorem gds_ins {l : Ss} {k : Vs} {w : Nat} (h : gds l) (g : gdk (k, w)) : gds (ins k w l) := by
  refine ⟨?_, fun p hp => ?_⟩
  · rw [ins_keys]
    split
    · exact h.1
    · rename_i c
      exact nodup_snoc h.1 c
  · rcases ins_mem l p hp with q | ⟨q1, q2⟩
    · exact h.2 p q
    · obtain ⟨g1, g2, g3⟩ := g
      have g1' : 1 ≤ w := g1
      refine ⟨by omega, ?_, ?_⟩
      · rw [q1]; exact g2
      · rw [q1]; exact g3
def insA : Ss → Ss → Ss
  | [], l => l
  | x :: r, l => insA r (ins x.1 x.2 l)
theorem insA_app : ∀ (x y l : Ss), insA (x ++ y) l = insA y (insA x l) := by
  intro x
  induction x with
  | nil => intro y l; rfl
  | cons p r ih => intro y l; exact ih y _
theorem insA_sF {f : Vs → Nat} : ∀ (x l : Ss), sF (insA x l) f = sF l f + sF x f := by
  intro x
  induction x with
  | nil => intro l; rfl
  | cons p r ih =>
    intro l
    show sF (insA r (ins p.1 p.2 l)) f = _ + (_ + _)
    rw [ih, ins_sF]
    omega
theorem gds_insA : ∀ (x l : Ss), gds l → (∀ p ∈ x, gdk p) → gds (insA x l) := by
  intro x
  induction x with
  | nil => intro l h _; exact h
  | cons p r ih => intro l h hx; exact ih _ (gds_ins h (hx p List.mem_cons_self)) (fun q hq => hx q (List.mem_cons_of_mem _ hq))
theorem insA_len : ∀ (x l : Ss), l.length ≤ (insA x l).length := by
  intro x
  induction x with
  | nil => intro l; exact Nat.le_refl _
  | cons p r ih => intro l; exact Nat.le_trans ins_len.1 (ih _)
/-- what is not there yet is put behind -/
theorem insA_new : ∀ (x l : Ss), ((l ++ x).map Prod.fst).Nodup → insA x l = l ++ x := by
  intro x
  induction x with
  | nil => intro l _; rw [List.append_nil]; rfl
  | cons p r ih =>
    intro l h
    have hp : ∀ q ∈ l, q.1 ≠ p.1 := by
      intro q hq e
      rw [List.map_append, List.nodup_append] at h
      exact h.2.2 q.1 (List.mem_map_of_mem hq) p.1 (by rw [List.map_cons]; exact List.mem_cons_self) e
    show insA r (ins p.1 p.2 l) = _
    rw [ins_no l hp, ih (l ++ [p]) (by rw [List.append_assoc]; exact h), List.append_assoc]
    rfl
theorem nd_sub : ∀ l m : List Vs, l.Nodup → (∀ a ∈ l, a ∈ m) → l.length ≤ m.length := by
  intro l
  induction l with
  | nil => intro m _ _; exact Nat.zero_le _
  | cons a r ih =>
    intro m hn hs
    obtain ⟨h1, h2⟩ := List.nodup_cons.mp hn
    have ha : a ∈ m := hs a List.mem_cons_self
    have hr := ih (m.erase a) h2 (fun b hb => by
      have hb' := hs b (List.mem_cons_of_mem _ hb)
      have hne : b ≠ a := fun e => h1 (by rw [← e]; exact hb)
      exact (List.mem_erase_of_ne hne).mpr hb')
    rw [List.length_erase_of_mem ha] at hr
    have : 1 ≤ m.length := List.length_pos_of_mem ha
    rw [List.length_cons]
    omega
theorem eqs_mem {l m : Ss} (h : eqs l m) (hl : ∀ p ∈ l, 1 ≤ p.2) : ∀ p ∈ l, ∃ q ∈ m, q.1 = p.1 := by
  intro p hp
  have h1 := sF_ge (f := fun k => if k = p.1 then 1 else 0) l p hp
  rw [if_pos rfl, Nat.mul_one, h] at h1
  have h2 := hl p hp
  by_cases c : ∃ q ∈ m, q.1 = p.1
  · exact c
  · have : sF m (fun k => if k = p.1 then 1 else 0) = 0 := sF_zero m (fun q hq => if_neg (fun e => c ⟨q, hq, e⟩))
    omega
theorem eqs_le {l m : Ss} (h : eqs l m) (gl : gds l) : l.length ≤ m.length := by
  have := nd_sub (l.map Prod.fst) (m.map Prod.fst) gl.1 (fun a ha => by
    obtain ⟨p, hp, e⟩ := List.mem_map.mp ha
    obtain ⟨q, hq, e2⟩ := eqs_mem h (fun p hp => (gl.2 p hp).1) p hp
    rw [← e, ← e2]
    exact List.mem_map_of_mem hq)
  rw [List.length_map, List.length_map] at this
  exact this
theorem eqs_len {l m : Ss} (h : eqs l m) (gl : gds l) (gm : gds m) : l.length = m.length := Nat.le_antisymm (eqs_le h gl) (eqs_le (eqs_symm h) gm)
/-- all ways -/
def toF (l : Ss) : Nat := sF l (fun _ => 1)
theorem toF_cons {p : Vs × Nat} {r : Ss} : toF (p :: r) = p.2 + toF r := by show p.2 * 1 + _ = _; rw [Nat.mul_one]; rfl
theorem toF_ge {l : Ss} {p : Vs × Nat} (h : p ∈ l) : p.2 ≤ toF l := by
  have := sF_ge (f := fun _ => 1) l p h
  rw [Nat.mul_one] at this
  exact this
theorem sF_mul {f : Vs → Nat} (c : Nat) : ∀ l : Ss, sF l (fun a => f a * c) = sF l f * c := by
  intro l
  induction l with
  | nil => show 0 = 0 * c; rw [Nat.zero_mul]
  | cons p r ih => show _ + _ = (_ + _) * c; rw [ih, Nat.add_mul, Nat.mul_assoc]
theorem sF_le {f : Vs → Nat} (M : Nat) : ∀ l : Ss, (∀ p ∈ l, f p.1 ≤ M) → sF l f ≤ toF l * M := by
  intro l
  induction l with
  | nil => intro _; exact Nat.zero_le _
  | cons p r ih =>
    intro h
    have h1 := Nat.mul_le_mul_left p.2 (h p List.mem_cons_self)
    have h2 := ih (fun q hq => h q (List.mem_cons_of_mem _ hq))
    rw [toF_cons, Nat.add_mul]
    show _ + _ ≤ _
    omega
/-- all with so many times their ways -/
def scl (c : Nat) (l : Ss) : Ss := l.map (fun p => (p.1, p.2 * c))
theorem scl_sF {c : Nat} {f : Vs → Nat} : ∀ l : Ss, sF (scl c l) f = sF l f * c := by
  intro l
  induction l with
  | nil => show 0 = 0 * c; rw [Nat.zero_mul]
  | cons p r ih =>
    show p.2 * c * f p.1 + sF (scl c r) f = (p.2 * f p.1 + sF r f) * c
    rw [ih, Nat.add_mul, Nat.mul_right_comm]
theorem scl_keys {c : Nat} {l : Ss} : (scl c l).map Prod.fst = l.map Prod.fst := by
  unfold scl
  rw [List.map_map]
  rfl
theorem scl_gd {c : Nat} {l : Ss} (hc : 1 ≤ c) (h : ∀ p ∈ l, gdk p) : ∀ p ∈ scl c l, gdk p := by
  intro p hp
  obtain ⟨q, hq, e⟩ := List.mem_map.mp hp
  obtain ⟨g1, g2, g3⟩ := h q hq
  rw [← e]
  exact ⟨Nat.mul_pos g1 hc, g2, g3⟩
theorem scl_one {l : Ss} : scl 1 l = l := by
  unfold scl
  have : (fun p : Vs × Nat => (p.1, p.2 * 1)) = id := by funext p; rw [Nat.mul_one]; rfl
  rw [this, List.map_id]
theorem insA_one {l : Ss} (h : gds l) : insA (scl 1 l) [] = l := by
  rw [scl_one, insA_new l [] (by rw [List.nil_append]; exact h.1), List.nil_append]
