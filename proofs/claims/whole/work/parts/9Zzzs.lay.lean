/-! AN EXPRESSION WORKED OUT, plain, and laid on the bench by the class -/
def dcw (nd : Nd) : Nat → Nat := dW nd.2.1.toInt.toNat nd.2.2.1.toInt.toNat (if nd.2.2.2.1 = 32 then 97 else nd.2.2.2.1) (if nd.2.2.2.1 = 32 then nd.2.1.toInt.toNat else nd.2.2.2.2.1.toInt.toNat)
def evT (nds : List Nd) (fcs : List Int32) (st : Nat → Int32) : Nat → Nat → Option Sp
  | 0, _ => none
  | n + 1, i => match nds[i]? with
    | none => none
    | some nd => if nd.1 = 0 then some [(nd.2.1, 1)] else if nd.1 = 1 then some [(st nd.2.1.toInt.toNat, 1)] else if nd.1 = 2 then (evT nds fcs st n nd.2.2.2.2.2.1.toInt.toNat).map ngS else if nd.1 = 4 then some (dcS (dcw nd) 121) else if nd.1 = 5 then some (onS ((fcs.drop nd.2.1.toInt.toNat).take nd.2.2.1.toInt.toNat)) else (evT nds fcs st n nd.2.2.2.2.2.1.toInt.toNat).bind fun a => (evT nds fcs st n nd.2.2.2.2.2.2.toInt.toNat).bind fun b => cmb (un nd.2.1) a b
section EVT
variable {nds : List Nd} {fcs : List Int32} {st : Nat → Int32} {n i : Nat}
theorem evT_0 {v : Int32} (h : nds[i]? = some (0, v, 0, 0, 0, -1, -1)) : evT nds fcs st (n + 1) i = some [(v, 1)] := by
  simp only [evT, h]
  exact if_pos trivial
theorem evT_1 {k : Nat} (hk : k < 6) (h : nds[i]? = some (1, Int32.ofNat k, 0, 0, 0, -1, -1)) : evT nds fcs st (n + 1) i = some [(st k, 1)] := by
  simp only [evT, h]
  rw [if_neg (by decide), if_pos trivial, n_t (by omega)]
theorem evT_2 {j : Nat} (hj : j < 1000) (h : nds[i]? = some (ngN j)) : evT nds fcs st (n + 1) i = (evT nds fcs st n j).map ngS := by
  unfold ngN at h
  simp only [evT, h]
  rw [if_neg (by decide), if_neg (by decide), if_pos trivial, n_t (by omega)]
theorem sg_un {c : Int32} (h : bd c ≠ -1000) : un (sg c) = c := by
  unfold bd at h
  by_cases h1 : c = 37
  · rw [h1]; decide
  by_cases h2 : c = 42
  · rw [h2]; decide
  by_cases h3 : c = 43
  · rw [h3]; decide
  by_cases h4 : c = 45
  · rw [h4]; decide
  by_cases h5 : c = 47
  · rw [h5]; decide
  by_cases h6 : c = 60
  · rw [h6]; decide
  by_cases h7 : c = 61
  · rw [h7]; decide
  by_cases h8 : c = 62
  · rw [h8]; decide
  rw [if_neg h1, if_neg h2, if_neg h3, if_neg h4, if_neg h5, if_neg h6, if_neg h7, if_neg h8] at h
  exact absurd rfl h
theorem evT_3 {c : Int32} {j m : Nat} (hj : j < 1000) (hm : m < 1000) (hc : bd c ≠ -1000) (h : nds[i]? = some (opN c m j)) : evT nds fcs st (n + 1) i = (evT nds fcs st n m).bind fun a => (evT nds fcs st n j).bind fun b => cmb c a b := by
  unfold opN at h
  simp only [evT, h]
  rw [if_neg (by decide), if_neg (by decide), if_neg (by decide), if_neg (by decide), if_neg (by decide), n_t (by omega), n_t (by omega), sg_un hc]
theorem evT_4 {a m k : Nat} {how keep pick : Int32} (hok : dcOK a m how keep pick k) (h : nds[i]? = some (4, Int32.ofNat a, Int32.ofNat m, how, keep, -1, -1)) : evT nds fcs st (n + 1) i = some (dcS (dW a m pick k) 121) := by
  simp only [evT, h]
  rw [if_neg (by decide), if_neg (by decide), if_neg (by decide), if_pos trivial]
  obtain ⟨⟨h1, h2⟩, ⟨h3, h4⟩, h5⟩ := hok
  congr 2
  unfold dcw
  try dsimp only
  rw [n_t (by omega), n_t (by omega)]
  rcases h5 with ⟨e1, e2, e3, e4⟩ | ⟨e1, e2, e3, e4, e5⟩ | ⟨e0, e1, e2, e3⟩
  · rw [if_pos e1, if_pos e1, e3, e4]
  · rw [if_neg (by rw [e1]; decide), if_neg (by rw [e1]; decide), e1, e2, e5, n_t (by omega)]
  · have : ¬ how = 32 := by rcases e0 with w | w <;> rw [w] <;> decide
    rw [if_neg this, if_neg this, e1, e3, n_t (by omega)]
theorem evT_5 {b : Nat} {l : List Int32} (hb : b < 1000) (hl : l.length ≤ 8) (h : nds[i]? = some (5, Int32.ofNat b, Int32.ofNat l.length, 0, 0, -1, -1)) (hf : ∀ (k : Nat) (x : Int32), l[k]? = some x → fcs[b + k]? = some x) : evT nds fcs st (n + 1) i = some (onS l) := by
  simp only [evT, h]
  rw [if_neg (by decide), if_neg (by decide), if_neg (by decide), if_neg (by decide), if_pos trivial, n_t (by omega), n_t (by omega)]
  congr 2
  apply List.ext_getElem?
  intro k
  by_cases c : k < l.length
  · have e : l[k]? = some l[k] := List.getElem?_eq_getElem c
    rw [List.getElem?_take_of_lt c, List.getElem?_drop, hf k _ e, e]
  · rw [List.getElem?_eq_none_iff.mpr (by rw [List.length_take]; omega), List.getElem?_eq_none_iff.mpr (by omega)]
end EVT
theorem gd_1 {v : Int32} (h : inR v) : gdS [(v, 1)] 1 := ⟨fun p hp => by rw [List.mem_singleton.mp hp]; exact Nat.le_refl _, fun p hp => by rw [List.mem_singleton.mp hp]; exact h, by rw [List.length_singleton]; decide, rfl⟩
theorem gd_dc {n m k f : Nat} {how keep pick : Int32} (hok : dcOK n m how keep pick k) (hf : f = pwN m (if pick = 101 then k + 1 else n) 1) : gdS (dcS (dW n m pick k) 121) f := by
  have b := dW_b hok
  have e : f = m ^ (if pick = 101 then k + 1 else n) := by rw [hf, pwN_pow (by have := hok.2.1; omega) _ _ (by omega), Nat.one_mul]
  refine ⟨fun p hp => ?_, fun p hp => ?_, Nat.le_trans (dcS_len 121) (by decide), ?_⟩
  · obtain ⟨i, -, h2, h3⟩ := dcS_mem _ p hp
    rw [h2]
    show 1 ≤ dW n m pick k i
    omega
  · obtain ⟨i, h1, h2, h3⟩ := dcS_mem _ p hp
    rw [h2]
    show inR (Int32.ofNat i)
    unfold inR
    rw [i_nat (by omega)]
    omega
  · unfold tot
    rw [dcS_sS, e, ← dW_tot hok]
    exact sm_congr 121 (fun i _ => Nat.mul_one _)
theorem inR_n {v : Nat} (h : v ≤ 999) : inR (Int32.ofNat v) := by
  unfold inR
  rw [i_nat (by omega)]
  omega
theorem prN_ok {g h : Nat} (k : prN g h ≤ 2147483648) : prN g h = g * h := by
  unfold prN at *
  omega
/-- what a tree gives is a good spread -/
theorem evT_gd {H : mj_H} {A B : Nat} {nds : List Nd} {fcs : List Int32} {st : Nat → Int32} (hst : ∀ k, k < 6 → inR (st k)) (hn : nds.length ≤ 160) (hfc : fcs.length ≤ 160) : ∀ (n lo i a f : Nat), exT H A B nds fcs n lo i a f → f ≤ 2147483648 → 1 ≤ f ∧ ∀ L, evT nds fcs st n i = some L → gdS L f := by
  intro n
  induction n with
  | zero => intro lo i a f h _; exact h.elim
  | succ n ih =>
    intro lo i a f h hf
    have len : ∀ {i : Nat} {nd : Nd}, nds[i]? = some nd → i < 160 := fun h => Nat.lt_of_lt_of_le (List.getElem?_eq_some_iff.mp h).1 hn
    rcases h with ⟨-, nd, b, l, h1, ⟨-, -, h2⟩, h3⟩ | ⟨j, x, h1, -, -, h2, h3, -⟩ | ⟨j, m, x, y, g, h, c, h1, -, -, h2, h3, h4, h5, h6, -⟩
    · rcases h2 with ⟨v, v1, rfl, -, -, rfl⟩ | ⟨k, v1, rfl, -, -, rfl⟩ | ⟨a, m, how, keep, pick, k, w, o, rfl, -, -, e⟩ | ⟨r, rfl, l1, l2, -, -, -, -, rfl⟩
      · refine ⟨Nat.le_refl _, fun L hL => ?_⟩
        rw [evT_0 h1] at hL
        cases hL
        exact gd_1 (inR_n v1)
      · refine ⟨Nat.le_refl _, fun L hL => ?_⟩
        rw [evT_1 v1 h1] at hL
        cases hL
        exact gd_1 (hst k v1)
      · have p1 := (pwN_bd (m := m) (by have := o.2.1; omega) (if pick = 101 then k + 1 else a) 1 (Nat.le_refl _) (by decide)).1
        refine ⟨by rw [e]; exact p1, fun L hL => ?_⟩
        rw [evT_4 o h1] at hL
        rw [← Option.some.inj hL]
        exact gd_dc o e
      · refine ⟨l1.1, fun L hL => ?_⟩
        have b1 : b < 1000 := by
          have : (fcs[b + 0]?) = some l[0] := h3 0 _ (List.getElem?_eq_getElem (by omega))
          have := (List.getElem?_eq_some_iff.mp this).1
          omega
        rw [evT_5 b1 l1.2 h1 h3] at hL
        cases hL
        exact onS_gd l1.2 (fun x hx => by have := l2 x hx; exact ⟨by omega, by omega⟩)
    · subst h1
      obtain ⟨i1, i2⟩ := ih _ _ _ _ h2 hf
      refine ⟨i1, fun L hL => ?_⟩
      rw [evT_2 (by have := len h3; omega) h3] at hL
      obtain ⟨M, m1, m2⟩ := Option.map_eq_some_iff.mp hL
      rw [← m2]
      exact ngS_gd (i2 M m1)
    · subst h1
      have gb : 1 ≤ g ∧ 1 ≤ h ∧ g ≤ 2147483648 ∧ h ≤ 2147483648 ∧ f = g * h := by
        have k1 : g ≤ 2147483649 ∧ 1 ≤ g := by
          have := (exT_fal _ _ _ _ _ h2).2.1
          omega
        have k2 : h ≤ 2147483649 ∧ 1 ≤ h := by
          have := (exT_fal _ _ _ _ _ h3).2.1
          omega
        have e := prN_ok (by rw [← h6]; exact hf)
        rw [← h6] at e
        have x1 : g ≤ g * h := Nat.le_mul_of_pos_right _ k2.2
        have x2 : h ≤ g * h := Nat.le_mul_of_pos_left _ k1.2
        exact ⟨k1.2, k2.2, by omega, by omega, e⟩
      obtain ⟨-, i1⟩ := ih _ _ _ _ h2 gb.2.2.1
      obtain ⟨-, i2⟩ := ih _ _ _ _ h3 gb.2.2.2.1
      refine ⟨by rw [gb.2.2.2.2]; exact Nat.mul_pos gb.1 gb.2.1, fun L hL => ?_⟩
      have lj := len h5
      rw [evT_3 (by omega) (by have := (exT_fal _ _ _ _ _ h2).2.2.2.1; omega) h4 h5] at hL
      obtain ⟨a1, e1, hL⟩ := Option.bind_eq_some_iff.mp hL
      obtain ⟨b1, e2, hL⟩ := Option.bind_eq_some_iff.mp hL
      rw [gb.2.2.2.2]
      exact (cmb_gd (i1 a1 e1) (i2 b1 e2) hL).1
/-! THE TREE STAYS, WHATEVER DICE KEEP -/
theorem dcch_no {e e' : Option mj_E} {c : Nat} {l : List Value} (h : e = some (.inr (c, l))) (hc : c ≠ 8) : ¬ dcch e e' := by
  rintro ⟨n, m, p, k, w, w', f, h1, -⟩
  rw [h] at h1
  exact hc (Prod.mk.inj (Sum.inr.inj (Option.some.inj h1))).1
theorem dcch_row {e e' : Option mj_E} {t : FieldType} {l : List Value} (h : e = some (.inl (t, l))) : ¬ dcch e e' := by
  rintro ⟨n, m, p, k, w, w', f, h1, -⟩
  rw [h] at h1
  cases h1
def dsm (A B : Nat) (H G : mj_H) : Prop := ∀ q, A ≤ q → q < B → G.1 q = H.1 q ∨ dcch (H.1 q) (G.1 q)
theorem dsm_at {A B q c : Nat} {H G : mj_H} {l : List Value} (h : dsm A B H G) (h1 : A ≤ q) (h2 : q < B) (e : H.1 q = some (.inr (c, l))) (hc : c ≠ 8) : G.1 q = some (.inr (c, l)) := ((h q h1 h2).resolve_right (dcch_no e hc)).trans e
theorem exT_dc {H G : mj_H} {A B : Nat} {nds : List Nd} {fcs : List Int32} (hG : dsm A B H G) : ∀ (n lo i a f : Nat), exT H A B nds fcs n lo i a f → exT G A B nds fcs n lo i a f := by
  intro n
  induction n with
  | zero => intro lo i a f h; exact h.elim
  | succ n ih =>
    intro lo i a f h
    rcases h with ⟨e, nd, b, l, h1, ⟨h01, h02, h2⟩, h3⟩ | ⟨j, x, h1, h01, h02, h2, h3, h4⟩ | ⟨j, m, x, y, g, h, c, h1, h01, h02, h2, h3, h4, h5, h6, h7⟩
    · refine Or.inl ⟨e, nd, b, l, h1, ⟨h01, h02, ?_⟩, h3⟩
      rcases h2 with ⟨v, v1, v2, v3, v4, v5⟩ | ⟨k, v1, v2, v3, v4, v5⟩ | ⟨a', m, how, keep, pick, k, w, o, v2, v3, v4, v5⟩ | ⟨r, v2, l1, l2, v3, v4, v5, v6, v7⟩
      · exact Or.inl ⟨v, v1, v2, v3, dsm_at hG h01 h02 v4 (by decide), v5⟩
      · exact Or.inr (Or.inl ⟨k, v1, v2, v3, dsm_at hG h01 h02 v4 (by decide), v5⟩)
      · rcases hG a h01 h02 with q | ⟨n1, m1, p1, k1, w1, w2, f1, q1, q2⟩
        · exact Or.inr (Or.inr (Or.inl ⟨a', m, how, keep, pick, k, w, o, v2, v3, q.trans v4, v5⟩))
        · rw [v4] at q1
          cases q1
          exact Or.inr (Or.inr (Or.inl ⟨a', m, how, keep, pick, k, w2, o, v2, v3, q2, v5⟩))
      · exact Or.inr (Or.inr (Or.inr ⟨r, v2, l1, l2, v3, v4, dsm_at hG h01 h02 v5 (by decide), ((hG r v3 v4).resolve_right (dcch_row v6)).trans v6, v7⟩))
    · exact Or.inr (Or.inl ⟨j, x, h1, h01, h02, ih _ _ _ _ h2, h3, dsm_at hG h01 h02 h4 (by decide)⟩)
    · exact Or.inr (Or.inr ⟨j, m, x, y, g, h, c, h1, h01, h02, ih _ _ _ _ h2, ih _ _ _ _ h3, h4, h5, h6, dsm_at hG h01 h02 h7 (by decide)⟩)
theorem lyF_dsm {z : Nat} {D : List Nat} {H G : mj_H} {A B : Nat} (h : lyF z D H G) (hA : z + 107 ≤ A) (hB : B ≤ H.2.1) : dsm A B H G := fun q h1 h2 => (h.1 q (by omega) (by omega) (by omega)).imp id And.right
