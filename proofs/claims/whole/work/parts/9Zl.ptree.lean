/-! FACTORS OF NODES; A PROGRAM'S TREE ON THE HEAP -/
theorem prN_assoc {a b c : Nat} (hc : 1 ≤ c) (ha : 1 ≤ a) : prN (prN a b) c = prN a (prN b c) := by
  unfold prN
  have e : a * b * c = a * (b * c) := Nat.mul_assoc a b c
  by_cases h1 : a * b ≤ 2147483649
  · rw [Nat.min_eq_left h1]
    by_cases h2 : b * c ≤ 2147483649
    · rw [Nat.min_eq_left h2, e]
    · rw [Nat.min_eq_right (by omega : 2147483649 ≤ b * c)]
      have k1 : 1 * (b * c) ≤ a * (b * c) := Nat.mul_le_mul_right _ ha
      have k2 : 1 * 2147483649 ≤ a * 2147483649 := Nat.mul_le_mul_right _ ha
      omega
  · rw [Nat.min_eq_right (by omega : 2147483649 ≤ a * b)]
    have k1 : 2147483649 * 1 ≤ 2147483649 * c := Nat.mul_le_mul_left _ hc
    by_cases h2 : b * c ≤ 2147483649
    · rw [Nat.min_eq_left h2]
      have k3 : a * b * 1 ≤ a * b * c := Nat.mul_le_mul_left _ hc
      omega
    · rw [Nat.min_eq_right (by omega : 2147483649 ≤ b * c)]
      have k2 : 1 * 2147483649 ≤ a * 2147483649 := Nat.mul_le_mul_right _ ha
      omega
theorem prN_one {a : Nat} (h : a ≤ 2147483649) : prN a 1 = a ∧ prN 1 a = a := by
  unfold prN
  rw [Nat.mul_one, Nat.one_mul]
  omega
theorem fo_mul : ∀ (l : List Nat) (a : Nat), (∀ x ∈ l, 1 ≤ x) → 1 ≤ a → a ≤ 2147483649 → fo l a = prN a (fo l 1) ∧ 1 ≤ fo l 1 ∧ fo l 1 ≤ 2147483649 := by
  intro l
  induction l with
  | nil => intro a _ h1 h2; exact ⟨(prN_one h2).1.symm, Nat.le_refl _, by decide⟩
  | cons x r ih =>
    intro a hx h1 h2
    have x1 := hx x List.mem_cons_self
    have hr := fun y hy => hx y (List.mem_cons_of_mem _ hy)
    have i1 := ih (prN a x) hr (prN_pos h1 x1) prN_le
    have i2 := ih (prN 1 x) hr (prN_pos (by decide) x1) prN_le
    refine ⟨?_, ?_, ?_⟩
    · show fo r (prN a x) = prN a (fo r (prN 1 x))
      rw [i1.1, i2.1, ← prN_assoc i1.2.1 h1, ← prN_assoc x1 h1, (prN_one h2).1]
    · show 1 ≤ fo r (prN 1 x)
      rw [i2.1]
      exact prN_pos (prN_pos (by decide) x1) i1.2.1
    · show fo r (prN 1 x) ≤ _
      rw [i2.1]
      exact prN_le
theorem fo_app (l m : List Nat) (hl : ∀ x ∈ l, 1 ≤ x) (hm : ∀ x ∈ m, 1 ≤ x) : fo (l ++ m) 1 = prN (fo l 1) (fo m 1) := by
  have : ∀ (l : List Nat) (a : Nat), fo (l ++ m) a = fo m (fo l a) := by
    intro l
    induction l with
    | nil => intro a; rfl
    | cons x r ih => intro a; exact ih _
  have k := fo_mul l 1 hl (by decide) (by decide)
  rw [this, (fo_mul m (fo l 1) hm k.2.1 k.2.2).1]
theorem fold_fo : ∀ (l : List (Nat × Nat)) (a : Nat), fold_ l a = fo (l.map Prod.snd) a
  | [], _ => rfl
  | _ :: r, _ => fold_fo r _
/-- the nodes of a tree -/
def seg (nds : List Nd) (lo i : Nat) : List Nat := (((nds.take (i + 1)).drop lo).map ndF)
theorem seg_one {nds : List Nd} {i : Nat} {nd : Nd} (h : nds[i]? = some nd) : seg nds i i = [ndF nd] := by
  unfold seg
  have hlt := (List.getElem?_eq_some_iff.mp h).1
  rw [List.take_succ, h, List.drop_append_of_le_length (by rw [List.length_take]; omega), List.drop_eq_nil_of_le (by rw [List.length_take]; omega)]
  rfl
theorem seg_snoc {nds : List Nd} {lo j : Nat} {nd : Nd} (h : nds[j + 1]? = some nd) (hl : lo ≤ j + 1) : seg nds lo (j + 1) = seg nds lo j ++ [ndF nd] := by
  unfold seg
  have hlt := (List.getElem?_eq_some_iff.mp h).1
  rw [List.take_succ (i := j + 1), h, List.drop_append_of_le_length (by rw [List.length_take]; omega), List.map_append]
  rfl
theorem seg_app {nds : List Nd} {lo m j : Nat} (h1 : lo ≤ m + 1) (h2 : m ≤ j) (h3 : j < nds.length) : seg nds lo j = seg nds lo m ++ seg nds (m + 1) j := by
  unfold seg
  rw [← List.map_append]
  congr 1
  have : nds.take (j + 1) = nds.take (m + 1) ++ (nds.take (j + 1)).drop (m + 1) := by
    conv => lhs; rw [← List.take_append_drop (m + 1) (nds.take (j + 1))]
    rw [List.take_take, Nat.min_eq_left (by omega)]
  conv => lhs; rw [this]
  rw [List.drop_append_of_le_length (by rw [List.length_take]; omega)]
theorem seg_all {nds : List Nd} {lo : Nat} (h : 1 ≤ nds.length) : seg nds lo (nds.length - 1) = (nds.drop lo).map ndF := by
  unfold seg
  rw [show nds.length - 1 + 1 = nds.length by omega, List.take_length]
theorem ndF_lf {H : mj_H} {A B b a f : Nat} {nd : Nd} {fl : List Int32} (h : lfT H A B nd b fl a f) : ndF nd = f := by
  obtain ⟨h1, h2, h3⟩ := h
  rcases h3 with ⟨v, c1, rfl, c3, c4, rfl⟩ | ⟨v, c1, rfl, c3, c4, rfl⟩ | ⟨n, m, how, keep, pick, k, w, c1, rfl, c3, c4, rfl⟩ | ⟨r, rfl, c2, c3, c4, c5, c6, c7, rfl⟩
  · rfl
  · rfl
  · show pwN (Int32.ofNat m).toInt.toNat (if how = 101 then keep.toInt.toNat + 1 else (Int32.ofNat n).toInt.toNat) 1 = _
    obtain ⟨d1, d2, d3⟩ := c1
    have em : (Int32.ofNat m).toInt.toNat = m := by rw [i_nat (by omega)]; omega
    have en : (Int32.ofNat n).toInt.toNat = n := by rw [i_nat (by omega)]; omega
    rw [em, en]
    rcases d3 with ⟨rfl, rfl, rfl, rfl⟩ | ⟨rfl, rfl, -, hk, rfl⟩ | ⟨hh, rfl, hk, rfl⟩
    · rfl
    · have ek : (Int32.ofNat k).toInt.toNat = k := by rw [i_nat (by omega)]; omega
      rw [ek]
    · have hn : pick ≠ 101 := by rcases hh with q | q <;> rw [q] <;> decide
      rw [if_neg hn, if_neg hn]
  · show (Int32.ofNat fl.length).toInt.toNat = _
    rw [i_nat (by omega)]
    omega
theorem exT_f {H : mj_H} {A B : Nat} {nds : List Nd} {fcs : List Int32} : ∀ (n lo i a f : Nat), exT H A B nds fcs n lo i a f → f = fo (seg nds lo i) 1 ∧ ∀ x ∈ seg nds lo i, 1 ≤ x := by
  intro n
  induction n with
  | zero => intro lo i a f h; exact h.elim
  | succ n ih =>
    intro lo i a f h
    have bd0 := (exT_fal _ _ _ _ _ h).2.1
    rcases h with ⟨rfl, nd, b, fl, h1, h2, h3⟩ | ⟨j, x, rfl, h1, h2, h3, h4, h5⟩ | ⟨j, m, x, y, g, h, c, rfl, h1, h2, h3, h4, h5, h6, h7, h8⟩
    · rw [seg_one h1, ndF_lf h2]
      refine ⟨?_, fun x hx => ?_⟩
      · show f = prN 1 f
        rw [(prN_one bd0.2).2]
      · rw [List.mem_singleton] at hx
        rw [hx]
        exact bd0.1
    · have k := ih _ _ _ _ h3
      have l := (exT_fal _ _ _ _ _ h3).2.2.1
      have e1 : ndF (ngN j) = 1 := rfl
      rw [seg_snoc h4 (by omega), e1]
      refine ⟨?_, fun x hx => ?_⟩
      · rw [fo_app _ _ k.2 (fun x hx => by rw [List.mem_singleton] at hx; omega), ← k.1]
        show f = prN f (prN 1 1)
        rw [(prN_one (by decide)).1, (prN_one bd0.2).1]
      · rcases List.mem_append.mp hx with q | q
        · exact k.2 x q
        · rw [List.mem_singleton] at q
          omega
    · have k1 := ih _ _ _ _ h3
      have k2 := ih _ _ _ _ h4
      have l1 := (exT_fal _ _ _ _ _ h3).2.2
      have l2 := (exT_fal _ _ _ _ _ h4).2.2
      have e1 : ndF (opN c m j) = 1 := rfl
      rw [seg_snoc h6 (by omega), seg_app (m := m) (by omega) (by omega) (by omega), e1]
      refine ⟨?_, fun x hx => ?_⟩
      · rw [fo_app _ _ (fun x hx => (List.mem_append.mp hx).elim (k1.2 x) (k2.2 x)) (fun x hx => by rw [List.mem_singleton] at hx; omega), fo_app _ _ k1.2 k2.2, ← k1.1, ← k2.1]
        show f = prN (prN g h) (prN 1 1)
        rw [(prN_one (by decide)).1, (prN_one prN_le).1]
        exact h7
      · rcases List.mem_append.mp hx with q | q
        · exact (List.mem_append.mp q).elim (k1.2 x) (k2.2 x)
        · rw [List.mem_singleton] at q
          omega
/-- the statements from lo to hi, one behind another: addresses and factors -/
def bk (P : Nat → St → Nat → Prop) (sts : List St) : List (Nat × Nat) → Nat → Nat → Prop
  | [], lo, hi => lo = hi
  | x :: l, lo, hi => ∃ t, sts[lo]? = some t ∧ t.2.2.2.2.2.2 = x.2 ∧ P lo t x.1 ∧ bk P sts l t.2.2.2.2.2.1 hi
/-- statement s, told as t, lies at a; all its cells from A to B -/
def sT (H : mj_H) (sts : List St) (nds : List Nd) (fcs : List Int32) : Nat → Nat → Nat → Nat → St → Nat → Prop
  | 0, _, _, _, _, _ => False
  | n + 1, A, B, s, t, a => A ≤ a ∧ a < B ∧ s + 1 ≤ t.2.2.2.2.2.1 ∧ ∃ (c : Int32) (e : Nat) (tm : Int32) (o1 o2 nx : Option Nat) (s1 s2 A1 B1 : Nat), A ≤ A1 ∧ B1 ≤ B ∧ (a < A1 ∨ B1 ≤ a) ∧ H.1 a = some (.inr (11, [.int c, .ref e, .int tm, rv o1, rv o2, .long (Int64.ofNat t.2.2.2.2.2.2), .long (Int64.ofNat s1), .long (Int64.ofNat s2), rv nx])) ∧ ((t.1 < 2 ∧ o1 = none ∧ o2 = none ∧ t.2.2.2.2.2.1 = s + 1 ∧ (t.1 = 0 → t.2.1 < 6 ∧ c = Int32.ofNat (65 + t.2.1)) ∧ (t.1 = 1 → c = 33) ∧ exT H A1 B1 nds fcs 45 t.2.2.1 t.2.2.2.1 e t.2.2.2.2.2.2) ∨ (t.1 = 2 ∧ c = 63 ∧ ∃ fe l1 l2, exT H A1 B1 nds fcs 45 t.2.2.1 t.2.2.2.1 e fe ∧ chn H l1 o1 ∧ bk (sT H sts nds fcs n A1 B1) sts l1 (s + 1) t.2.2.2.2.1 ∧ chn H l2 o2 ∧ bk (sT H sts nds fcs n A1 B1) sts l2 t.2.2.2.2.1 t.2.2.2.2.2.1 ∧ t.2.2.2.2.2.2 = prN fe (mlN (fold_ l1 1) (fold_ l2 1)) ∧ s1 = mlN (fold_ l1 1) (fold_ l2 1) / fold_ l1 1 ∧ s2 = mlN (fold_ l1 1) (fold_ l2 1) / fold_ l2 1) ∨ (t.1 = 3 ∧ c = 42 ∧ t.2.1 ≤ 20 ∧ tm = Int32.ofNat t.2.1 ∧ o2 = none ∧ A1 ≤ e ∧ e < B1 ∧ H.1 e = some (.inr (7, [.int (-1000), .int (Int32.ofNat t.2.1), .long 1])) ∧ ∃ l1, chn H l1 o1 ∧ bk (sT H sts nds fcs n A1 B1) sts l1 (s + 1) t.2.2.2.2.2.1 ∧ t.2.2.2.2.2.2 = pwN (fold_ l1 1) t.2.1 1))
theorem bk_rng {H : mj_H} {sts sts' : List St} {nds : List Nd} {fcs : List Int32} {n A B : Nat} : ∀ (l : List (Nat × Nat)) (lo hi : Nat), bk (sT H sts' nds fcs n A B) sts l lo hi → (∀ x ∈ l, A ≤ x.1 ∧ x.1 < B) ∧ lo + l.length ≤ hi := by
  intro l
  induction l with
  | nil => intro lo hi h; exact ⟨fun x hx => absurd hx List.not_mem_nil, by have : lo = hi := h; rw [List.length_nil]; omega⟩
  | cons y r ih =>
    intro lo hi h
    obtain ⟨t, h1, h2, h3, h4⟩ := h
    obtain ⟨i1, i2⟩ := ih _ _ h4
    have k : A ≤ y.1 ∧ y.1 < B ∧ lo + 1 ≤ t.2.2.2.2.2.1 := by
      cases n with
      | zero => exact h3.elim
      | succ n => exact ⟨h3.1, h3.2.1, h3.2.2.1⟩
    refine ⟨fun x hx => ?_, by rw [List.length_cons]; omega⟩
    rcases List.mem_cons.mp hx with q | q
    · rw [q]; exact ⟨k.1, k.2.1⟩
    · exact i1 x q
theorem bk_le {P : Nat → St → Nat → Prop} {sts : List St} (hP : ∀ s t a, P s t a → s + 1 ≤ t.2.2.2.2.2.1) : ∀ (l : List (Nat × Nat)) (lo hi : Nat), bk P sts l lo hi → lo ≤ hi := by
  intro l
  induction l with
  | nil => intro lo hi h; exact Nat.le_of_eq h
  | cons y r ih =>
    intro lo hi h
    obtain ⟨t, h1, h2, h3, h4⟩ := h
    have := hP _ _ _ h3
    have := ih _ _ h4
    omega
theorem bk_imp {P Q : Nat → St → Nat → Prop} {sts sts' : List St} : ∀ (l : List (Nat × Nat)) (lo hi : Nat), (∀ s t a, P s t a → s + 1 ≤ t.2.2.2.2.2.1) → (∀ s t a, lo ≤ s → t.2.2.2.2.2.1 ≤ hi → P s t a → Q s t a) → (∀ i, lo ≤ i → i < hi → sts'[i]? = sts[i]?) → bk P sts l lo hi → bk Q sts' l lo hi ∧ lo ≤ hi := by
  intro l
  induction l with
  | nil => intro lo hi _ _ _ h; exact ⟨h, Nat.le_of_eq h⟩
  | cons y r ih =>
    intro lo hi hP hQ hs h
    obtain ⟨t, h1, h2, h3, h4⟩ := h
    have k := hP _ _ _ h3
    have le : t.2.2.2.2.2.1 ≤ hi := bk_le hP _ _ _ h4
    obtain ⟨i1, i2⟩ := ih t.2.2.2.2.2.1 hi hP (fun s t' a x y z => hQ s t' a (by omega) y z) (fun i x y => hs i (by omega) y) h4
    exact ⟨⟨t, (hs lo (Nat.le_refl _) (by omega)).trans h1, h2, hQ _ _ _ (Nat.le_refl _) le h3, i1⟩, by omega⟩
theorem sT_end {H : mj_H} {sts : List St} {nds : List Nd} {fcs : List Int32} {n A B s : Nat} {t : St} {a : Nat} (h : sT H sts nds fcs n A B s t a) : s + 1 ≤ t.2.2.2.2.2.1 := by
  cases n with
  | zero => exact h.elim
  | succ n => exact h.2.2.1
theorem sT_mono {H G : mj_H} {sts sts' : List St} {nds nds' : List Nd} {fcs fcs' : List Int32} : ∀ (n n' A B A' B' s : Nat) (t : St) (a : Nat), n ≤ n' → A' ≤ A → B ≤ B' → (∀ q, A ≤ q → q < B → G.1 q = H.1 q) → (∀ i, s < i → i < t.2.2.2.2.2.1 → sts'[i]? = sts[i]?) → sT H sts nds fcs n A B s t a → sT G sts' (nds ++ nds') (fcs ++ fcs') n' A' B' s t a := by
  intro n
  induction n with
  | zero => intro n' A B A' B' s t a _ _ _ _ _ h; exact h.elim
  | succ n ih =>
    intro n' A B A' B' s t a hn hA hB hG hS h
    obtain ⟨n', rfl⟩ : ∃ k, n' = k + 1 := ⟨n' - 1, by omega⟩
    obtain ⟨h1, h2, h3, c, e, tm, o1, o2, nx, s1, s2, A1, B1, k1, k2, k3, k4, k5⟩ := h
    have hG1 : ∀ q, A1 ≤ q → q < B1 → G.1 q = H.1 q := fun q x y => hG q (by omega) (by omega)
    have bkm : ∀ (l : List (Nat × Nat)) (lo hi : Nat) (o : Option Nat), s < lo → hi ≤ t.2.2.2.2.2.1 → chn H l o → bk (sT H sts nds fcs n A1 B1) sts l lo hi → chn G l o ∧ bk (sT G sts' (nds ++ nds') (fcs ++ fcs') n' A1 B1) sts' l lo hi := by
      intro l lo hi o hlo hhi hc hb
      have r := bk_rng l lo hi hb
      refine ⟨chn_fr l o (fun x hx => hG1 x.1 (r.1 x hx).1 (r.1 x hx).2) hc, (bk_imp l lo hi (fun s t a x => sT_end x) (fun s' t' a' x y w => ih n' A1 B1 A1 B1 s' t' a' (by omega) (Nat.le_refl _) (Nat.le_refl _) hG1 (fun i p q => hS i (by omega) (by omega)) w) (fun i p q => hS i (by omega) (by omega)) hb).1⟩
    refine ⟨by omega, by omega, h3, c, e, tm, o1, o2, nx, s1, s2, A1, B1, by omega, by omega, k3, (hG a h1 h2).trans k4, ?_⟩
    rcases k5 with ⟨q1, q2, q3, q4, q5, q6, q7⟩ | ⟨q1, q2, fe, l1, l2, q3, q4, q5, q6, q7, q8⟩ | ⟨q1, q2, q3, q4, q5, q6, q7, q8, l1, q9, q10, q11⟩
    · exact Or.inl ⟨q1, q2, q3, q4, q5, q6, exT_mono (Nat.le_refl _) (Nat.le_refl _) hG1 45 45 _ _ _ _ (Nat.le_refl _) q7⟩
    · have le1 := bk_le (fun s t a x => sT_end x) l1 _ _ q5
      have le2 := bk_le (fun s t a x => sT_end x) l2 _ _ q7
      have u1 := bkm l1 (s + 1) t.2.2.2.2.1 o1 (by omega) (by omega) q4 q5
      have u2 := bkm l2 t.2.2.2.2.1 t.2.2.2.2.2.1 o2 (by omega) (Nat.le_refl _) q6 q7
      exact Or.inr (Or.inl ⟨q1, q2, fe, l1, l2, exT_mono (Nat.le_refl _) (Nat.le_refl _) hG1 45 45 _ _ _ _ (Nat.le_refl _) q3, u1.1, u1.2, u2.1, u2.2, q8⟩)
    · have u1 := bkm l1 (s + 1) t.2.2.2.2.2.1 o1 (by omega) (Nat.le_refl _) q9 q10
      exact Or.inr (Or.inr ⟨q1, q2, q3, q4, q5, q6, q7, (hG1 e q6 q7).trans q8, l1, u1.1, u1.2, q11⟩)
/-- what is behind it changes -/
theorem sT_next {H : mj_H} {sts : List St} {nds : List Nd} {fcs : List Int32} {n A B s a : Nat} {t : St} {c : Int32} {e : Nat} {v2 v3 v4 v5 v6 v7 v8 : Value} (h : sT H sts nds fcs n A B s t a) (hc : H.1 a = some (.inr (11, [.int c, .ref e, v2, v3, v4, v5, v6, v7, v8]))) (nx' : Option Nat) : sT (mj_put H a (.inr (11, [.int c, .ref e, v2, v3, v4, v5, v6, v7, rv nx']))) sts nds fcs n A B s t a := by
  cases n with
  | zero => exact h.elim
  | succ n =>
    obtain ⟨h1, h2, h3, c', e', tm, o1, o2, nx, s1, s2, A1, B1, k1, k2, k3, k4, k5⟩ := h
    rw [k4] at hc
    cases hc
    obtain ⟨G, hG⟩ : ∃ G, mj_put H a (.inr (11, [.int c, .ref e, .int tm, rv o1, rv o2, .long (Int64.ofNat t.2.2.2.2.2.2), .long (Int64.ofNat s1), .long (Int64.ofNat s2), rv nx'])) = G := ⟨_, rfl⟩
    have hG1 : ∀ q, A1 ≤ q → q < B1 → G.1 q = H.1 q := fun q x y => by rw [← hG]; exact mj_put_ne (by omega)
    have hc' : G.1 a = some (.inr (11, [.int c, .ref e, .int tm, rv o1, rv o2, .long (Int64.ofNat t.2.2.2.2.2.2), .long (Int64.ofNat s1), .long (Int64.ofNat s2), rv nx'])) := by rw [← hG]; exact mj_put_eq
    rw [hG]
    have bkm : ∀ (l : List (Nat × Nat)) (lo hi : Nat) (o : Option Nat), chn H l o → bk (sT H sts nds fcs n A1 B1) sts l lo hi → chn G l o ∧ bk (sT G sts nds fcs n A1 B1) sts l lo hi := by
      intro l lo hi o hc hb
      have r := bk_rng l lo hi hb
      refine ⟨chn_fr l o (fun x hx => hG1 x.1 (r.1 x hx).1 (r.1 x hx).2) hc, (bk_imp l lo hi (fun s t a x => sT_end x) (fun s' t' a' x y w => ?_) (fun i p q => rfl) hb).1⟩
      have := sT_mono (nds' := []) (fcs' := []) n n A1 B1 A1 B1 s' t' a' (Nat.le_refl _) (Nat.le_refl _) (Nat.le_refl _) hG1 (sts' := sts) (fun i p q => rfl) w
      rw [List.append_nil, List.append_nil] at this
      exact this
    refine ⟨h1, h2, h3, c, e, tm, o1, o2, nx', s1, s2, A1, B1, k1, k2, k3, hc', ?_⟩
    rcases k5 with ⟨q1, q2, q3, q4, q5, q6, q7⟩ | ⟨q1, q2, fe, l1, l2, q3, q4, q5, q6, q7, q8⟩ | ⟨q1, q2, q3, q4, q5, q6, q7, q8, l1, q9, q10, q11⟩
    · exact Or.inl ⟨q1, q2, q3, q4, q5, q6, exT_mono0 (Nat.le_refl _) (Nat.le_refl _) hG1 q7⟩
    · have u1 := bkm _ _ _ _ q4 q5
      have u2 := bkm _ _ _ _ q6 q7
      exact Or.inr (Or.inl ⟨q1, q2, fe, l1, l2, exT_mono0 (Nat.le_refl _) (Nat.le_refl _) hG1 q3, u1.1, u1.2, u2.1, u2.2, q8⟩)
    · have u1 := bkm _ _ _ _ q9 q10
      exact Or.inr (Or.inr ⟨q1, q2, q3, q4, q5, q6, q7, (hG1 e q6 q7).trans q8, l1, u1.1, u1.2, q11⟩)
