/-! OUTCOMES TAKEN, THE REFERENCE -/
def rfr (sl : Nat) (S S' : mS) : Prop := m_agr [] [57, 58, 59] [60, 61] S S' ∧ (∀ q, q ≠ sl → S'.2.1 57 q = S.2.1 57 q ∧ S'.2.1 58 q = S.2.1 58 q ∧ S'.2.2 61 q = S.2.2 61 q) ∧ ∀ p, ¬ (64 * sl ≤ p ∧ p < 64 * sl + 64) → S'.2.1 59 p = S.2.1 59 p ∧ S'.2.2 60 p = S.2.2 60 p
theorem rfr_refl {sl : Nat} {S : mS} : rfr sl S S := ⟨m_agr_refl, fun _ _ => ⟨rfl, rfl, rfl⟩, fun _ _ => ⟨rfl, rfl⟩⟩
theorem rfr_trans {sl : Nat} {S S1 S2 : mS} (x : rfr sl S S1) (y : rfr sl S1 S2) : rfr sl S S2 := ⟨m_agr_trans x.1 y.1, fun q h => ⟨(y.2.1 q h).1.trans (x.2.1 q h).1, (y.2.1 q h).2.1.trans (x.2.1 q h).2.1, (y.2.1 q h).2.2.trans (x.2.1 q h).2.2⟩, fun p h => ⟨(y.2.2 p h).1.trans (x.2.2 p h).1, (y.2.2 p h).2.trans (x.2.2 p h).2⟩⟩
section OUM
variable {N sl : Nat}
theorem rfr_57 {S : mS} {v : Int32} : rfr sl S (m_sA S 57 sl v) := by
  refine ⟨m_agr_sA m_agr_refl (by decide) _ _, fun q hq => ⟨?_, ?_, rfl⟩, fun p _ => ⟨?_, rfl⟩⟩
  · show (if 57 = 57 ∧ q = sl then v else S.2.1 57 q) = _
    rw [if_neg (fun w => hq w.2)]
  · show (if 58 = 57 ∧ q = sl then v else S.2.1 58 q) = _
    rw [if_neg (fun w => absurd w.1 (by decide))]
  · show (if 59 = 57 ∧ p = sl then v else S.2.1 59 p) = _
    rw [if_neg (fun w => absurd w.1 (by decide))]
theorem rfr_58 {S : mS} {v : Int32} : rfr sl S (m_sA S 58 sl v) := by
  refine ⟨m_agr_sA m_agr_refl (by decide) _ _, fun q hq => ⟨?_, ?_, rfl⟩, fun p _ => ⟨?_, rfl⟩⟩
  · show (if 57 = 58 ∧ q = sl then v else S.2.1 57 q) = _
    rw [if_neg (fun w => absurd w.1 (by decide))]
  · show (if 58 = 58 ∧ q = sl then v else S.2.1 58 q) = _
    rw [if_neg (fun w => hq w.2)]
  · show (if 59 = 58 ∧ p = sl then v else S.2.1 59 p) = _
    rw [if_neg (fun w => absurd w.1 (by decide))]
theorem rfr_61 {S : mS} {v : Int64} : rfr sl S (m_sB S 61 sl v) := by
  refine ⟨m_agr_sB m_agr_refl (by decide) _ _, fun q hq => ⟨rfl, rfl, ?_⟩, fun p _ => ⟨rfl, ?_⟩⟩
  · show (if 61 = 61 ∧ q = sl then v else S.2.2 61 q) = _
    rw [if_neg (fun w => hq w.2)]
  · show (if 60 = 61 ∧ p = sl then v else S.2.2 60 p) = _
    rw [if_neg (fun w => absurd w.1 (by decide))]
theorem rfr_59 {S : mS} {i : Nat} {v : Int32} (hi : i < 64) : rfr sl S (m_sA S 59 (64 * sl + i) v) := by
  refine ⟨m_agr_sA m_agr_refl (by decide) _ _, fun q hq => ⟨?_, ?_, rfl⟩, fun p hp => ⟨?_, rfl⟩⟩
  · show (if 57 = 59 ∧ q = 64 * sl + i then v else S.2.1 57 q) = _
    rw [if_neg (fun w => absurd w.1 (by decide))]
  · show (if 58 = 59 ∧ q = 64 * sl + i then v else S.2.1 58 q) = _
    rw [if_neg (fun w => absurd w.1 (by decide))]
  · show (if 59 = 59 ∧ p = 64 * sl + i then v else S.2.1 59 p) = _
    rw [if_neg (fun w => hp (by omega))]
theorem rfr_60 {S : mS} {i : Nat} {v : Int64} (hi : i < 64) : rfr sl S (m_sB S 60 (64 * sl + i) v) := by
  refine ⟨m_agr_sB m_agr_refl (by decide) _ _, fun q hq => ⟨rfl, rfl, ?_⟩, fun p hp => ⟨rfl, ?_⟩⟩
  · show (if 61 = 60 ∧ q = 64 * sl + i then v else S.2.2 61 q) = _
    rw [if_neg (fun w => absurd w.1 (by decide))]
  · show (if 60 = 60 ∧ p = 64 * sl + i then v else S.2.2 60 p) = _
    rw [if_neg (fun w => hp (by omega))]
/-- the outcomes so far -/
def outR (S : mS) (sl : Nat) (l : Sp) : Prop := S.2.1 58 sl = Int32.ofNat l.length ∧ ∀ (q : Nat) (p : Int32 × Nat), l[q]? = some p → S.2.1 59 (64 * sl + q) = p.1 ∧ S.2.2 60 (64 * sl + q) = Int64.ofNat p.2
theorem vAt_s {i : Nat} (h : i < 1999) : vAt i + 1 = vAt (i + 1) := by
  apply Int32.toInt_inj.mp
  have q1 : (1 : Int32).toInt = 1 := rfl
  rw [i_add (by rw [vAt_i h, q1]; omega) (by rw [vAt_i h, q1]; omega), vAt_i h, q1]
  unfold vAt
  rw [Int32.toInt_ofInt_of_le (by omega) (by omega)]
  omega
theorem rowS_up {w : Nat → Nat} : ∀ d n, (rowS w n).length ≤ (rowS w (n + d)).length := by
  intro d
  induction d with
  | zero => intro n; exact Nat.le_refl _
  | succ d ih =>
    intro n
    rw [← Nat.add_assoc, rowS, List.length_append]
    have := ih n
    omega
/-- the ways of one value -/
theorem L287_30_do (hN : 100000 ≤ N) {S : mS} {L : Ss} {i : Nat} (hsl : sl < 3) (hi : i < 1999) (hr : rsL S 0 L) (ht : toF L ≤ 2147483648) (ho : outR S sl (rowS (wO L) i)) (hl : (rowS (wO L) (i + 1)).length ≤ 64) : ∃ S', L287_30 N (Int32.ofNat sl, vAt i, 0, 0, S) = some (.inl (Int32.ofNat sl, vAt (i + 1), S')) ∧ outR S' sl (rowS (wO L) (i + 1)) ∧ rfr sl S S' ∧ S'.2.2 61 sl = S.2.2 61 sl := by
  obtain ⟨h1, h2, h3⟩ := hr
  have key : ∀ (rest : Ss) (k acc : Nat), k + rest.length = L.length → L.drop k = rest → t_lp (B287_30 N) (rest.length + 1) (Int32.ofNat sl, vAt i, Int64.ofNat acc, Int32.ofNat k, S) = t_lp (B287_30 N) 1 (Int32.ofNat sl, vAt i, Int64.ofNat (acc + sF rest (fun k => if stf k 0 = vAt i then 1 else 0)), Int32.ofNat L.length, S) := by
    intro rest
    induction rest with
    | nil =>
      intro k acc hk _
      have hk' : k + 0 = L.length := hk
      rw [show k = L.length by omega]
      rfl
    | cons x r ih =>
      intro k acc hk hd
      rw [List.length_cons] at hk
      obtain ⟨hx, hr⟩ := dr_get hd
      have c := c_geF (a := k) (b := L.length) (by omega) (by omega) (by omega)
      have i6 : 6 * Int32.ofNat k = Int32.ofNat (6 * k) := by rw [show (6 : Int32) = Int32.ofNat 6 from rfl, n_mul]
      have k47 : 0 ≤ (Int32.ofNat (6 * k)).toInt ∧ (Int32.ofNat (6 * k)).toInt < mN 47 := n_at (by omega) (by show _ < 3840; omega)
      have t47 : (Int32.ofNat (6 * k)).toInt.toNat = 6 * k := n_t (by omega)
      have k48 : 0 ≤ (Int32.ofNat k).toInt ∧ (Int32.ofNat k).toInt < mN 48 := n_at (by omega) (by show _ < 640; omega)
      have t48 : (Int32.ofNat k).toInt.toNat = k := n_t (by omega)
      have v47 : S.2.1 47 (6 * k) = stf x.1 0 := by
        have := (h3 k x hx).2 0 (by omega)
        rw [show 384 * 0 + 6 * k + 0 = 6 * k by omega] at this
        exact this
      have v48 : S.2.2 48 k = Int64.ofNat x.2 := by
        have := (h3 k x hx).1
        rw [show 64 * 0 + k = k by omega] at this
        exact this
      have es : sF (x :: r) (fun k => if stf k 0 = vAt i then 1 else 0) = x.2 * (if stf x.1 0 = vAt i then 1 else 0) + sF r (fun k => if stf k 0 = vAt i then 1 else 0) := rfl
      rw [es, List.length_cons]
      by_cases e : stf x.1 0 = vAt i
      · have ce : mj_c2 .ne (stf x.1 0) (vAt i) = false := decide_eq_false (fun q => q e)
        have st : B287_30 N (Int32.ofNat sl, vAt i, Int64.ofNat acc, Int32.ofNat k, S) = some (.inl (Int32.ofNat sl, vAt i, Int64.ofNat (acc + x.2), Int32.ofNat (k + 1), S)) := by
          simp only [B287_30, h1, c, cond_false, i6, if_pos k47, t47, v47, ce, if_pos k48, t48, v48, l_add, J287_68, i_inc (show k < 1000000 by omega)]
        rw [t_one st, ih (k + 1) (acc + x.2) (by omega) hr, if_pos e, Nat.mul_one, Nat.add_assoc]
      · have ce : mj_c2 .ne (stf x.1 0) (vAt i) = true := decide_eq_true e
        have st : B287_30 N (Int32.ofNat sl, vAt i, Int64.ofNat acc, Int32.ofNat k, S) = some (.inl (Int32.ofNat sl, vAt i, Int64.ofNat acc, Int32.ofNat (k + 1), S)) := by
          simp only [B287_30, h1, c, cond_false, i6, if_pos k47, t47, v47, ce, cond_true, J287_68, i_inc (show k < 1000000 by omega)]
        rw [t_one st, ih (k + 1) acc (by omega) hr, if_neg e, Nat.mul_zero, Nat.zero_add]
  have wle : wO L i ≤ 2147483648 := by
    have := sF_le (f := fun k => if stf k 0 = vAt i then 1 else 0) 1 L (fun p _ => by split <;> omega)
    rw [Nat.mul_one] at this
    unfold wO
    omega
  have q0 : (0 : Int64).toInt = 0 := rfl
  have c := c_geT (a := L.length) (b := L.length) (by omega) (by omega) (Nat.le_refl _)
  have k0 := key L 0 0 (by omega) rfl
  rw [Nat.zero_add] at k0
  have go : ∀ r, B287_30 N (Int32.ofNat sl, vAt i, Int64.ofNat (wO L i), Int32.ofNat L.length, S) = some (.inr r) → L287_30 N (Int32.ofNat sl, vAt i, 0, 0, S) = some r := by
    intro r hr'
    have : t_lp (B287_30 N) (L.length + 1) (Int32.ofNat sl, vAt i, Int64.ofNat 0, Int32.ofNat 0, S) = some r := k0.trans (t_end hr' 0)
    exact t_lp_more _ _ _ (by omega) this
  rw [rowS] at hl ⊢
  by_cases e : wO L i = 0
  · have l1 : mj_c1 .le (lg_cmp (Int64.ofNat (wO L i)) 0) = true := by rw [lc_le, e]; rfl
    rw [if_pos e, List.append_nil]
    refine ⟨S, go _ ?_, ho, rfr_refl, rfl⟩
    simp only [B287_30, h1, c, cond_true, l1, J287_125, vAt_s hi, Option.map_some]
  · have l1 : mj_c1 .le (lg_cmp (Int64.ofNat (wO L i)) 0) = false := by
      rw [lc_le, j_nat (by omega), q0]
      exact decide_eq_false (by omega)
    rw [if_neg e] at hl ⊢
    generalize rowS (wO L) i = l at ho hl ⊢
    obtain ⟨o1, o2⟩ := ho
    rw [List.length_append, List.length_singleton] at hl
    have k58 : 0 ≤ (Int32.ofNat sl).toInt ∧ (Int32.ofNat sl).toInt < mN 58 := n_at (by omega) (by show _ < 3; omega)
    have t58 : (Int32.ofNat sl).toInt.toNat = sl := n_t (by omega)
    have k59 : 0 ≤ (Int32.ofNat (64 * sl + l.length)).toInt ∧ (Int32.ofNat (64 * sl + l.length)).toInt < mN 59 := n_at (by omega) (by show _ < 192; omega)
    have k60 : 0 ≤ (Int32.ofNat (64 * sl + l.length)).toInt ∧ (Int32.ofNat (64 * sl + l.length)).toInt < mN 60 := k59
    have t59 : (Int32.ofNat (64 * sl + l.length)).toInt.toNat = 64 * sl + l.length := n_t (by omega)
    obtain ⟨S', hS'⟩ : ∃ q, m_sA (m_sB (m_sA S 59 (64 * sl + l.length) (vAt i)) 60 (64 * sl + l.length) (Int64.ofNat (wO L i))) 58 sl (Int32.ofNat (l.length + 1)) = q := ⟨_, rfl⟩
    refine ⟨S', go _ ?_, ⟨?_, fun q p hq => ?_⟩, ?_, ?_⟩
    · simp only [B287_30, h1, c, cond_true, l1, cond_false, if_pos k58, t58, o1, ix_64, if_pos k59, if_pos k60, t59, i_inc (show l.length < 1000000 by omega), hS', J287_125, vAt_s hi, Option.map_some]
    · rw [← hS', List.length_append, List.length_singleton]
      show (if 58 = 58 ∧ sl = sl then Int32.ofNat (l.length + 1) else _) = _
      rw [if_pos ⟨rfl, rfl⟩]
    · rw [← hS']
      show (if 59 = 58 ∧ 64 * sl + q = sl then Int32.ofNat (l.length + 1) else if 59 = 59 ∧ 64 * sl + q = 64 * sl + l.length then vAt i else S.2.1 59 (64 * sl + q)) = _ ∧ (if 60 = 60 ∧ 64 * sl + q = 64 * sl + l.length then Int64.ofNat (wO L i) else S.2.2 60 (64 * sl + q)) = _
      rw [if_neg (fun w => absurd w.1 (by decide))]
      by_cases c1 : q < l.length
      · rw [List.getElem?_append_left c1] at hq
        rw [if_neg (by omega), if_neg (by omega)]
        exact o2 q p hq
      · have hq2 := (List.getElem?_eq_some_iff.mp hq).1
        rw [List.length_append, List.length_singleton] at hq2
        have e2 : q = l.length := by omega
        rw [e2, List.getElem?_append_right (Nat.le_refl _), Nat.sub_self] at hq
        rw [if_pos ⟨rfl, by omega⟩, if_pos ⟨rfl, by omega⟩, ← Option.some.inj hq]
        exact ⟨rfl, rfl⟩
    · rw [← hS']
      exact rfr_trans (rfr_trans (rfr_59 (by omega)) (rfr_60 (by omega))) rfr_58
    · rw [← hS']
      show (if 61 = 60 ∧ sl = 64 * sl + l.length then Int64.ofNat (wO L i) else S.2.2 61 sl) = _
      rw [if_neg (fun w => absurd w.1 (by decide))]
theorem rsL_rfr {S S' : mS} {set : Nat} {L : Ss} (h : rsL S set L) (f : rfr sl S S') : rsL S' set L := rsL_ag h f.1 (by decide)
/-- divided by what is common -/
theorem L287_139_do (hN : 100000 ≤ N) {S : mS} {l : Sp} (hsl : sl < 3) (ho : outR S sl l) (h61 : S.2.2 61 sl = 0) (hl : l.length ≤ 64) (hpos : posS l) (hne : l ≠ []) (ht : tot l ≤ 2147483648) : ∃ S', L287_139 N (Int32.ofNat sl, 0, Int32.ofNat (64 * sl), S) = some S' ∧ outR S' sl (dvO l) ∧ S'.2.2 61 sl = Int64.ofNat (tot (dvO l)) ∧ S'.2.1 57 sl = 1 ∧ rfr sl S S' := by
  obtain ⟨o1, o2⟩ := ho
  obtain ⟨G1, G2⟩ := gcF_le l 0 hpos (Or.inl hne)
  have G3 : gcF l 0 ≤ 2147483648 := by omega
  obtain ⟨G, hG⟩ : ∃ G, gcF l 0 = G := ⟨_, rfl⟩
  have k58 : 0 ≤ (Int32.ofNat sl).toInt ∧ (Int32.ofNat sl).toInt < mN 58 := n_at (by omega) (by show _ < 3; omega)
  have k57 : 0 ≤ (Int32.ofNat sl).toInt ∧ (Int32.ofNat sl).toInt < mN 57 := k58
  have k61 : 0 ≤ (Int32.ofNat sl).toInt ∧ (Int32.ofNat sl).toInt < mN 61 := k58
  have t58 : (Int32.ofNat sl).toInt.toNat = sl := n_t (by omega)
  have com : ∀ (rest : Sp) (i g : Nat), i + rest.length = l.length → l.drop i = rest → g ≤ 2147483648 → t_lp (B287_139 N) (rest.length + 1) (Int32.ofNat sl, Int64.ofNat g, Int32.ofNat (64 * sl + i), S) = L287_179 N (Int32.ofNat sl, Int64.ofNat (gcF rest g), Int32.ofNat (64 * sl), S) := by
    intro rest
    induction rest with
    | nil =>
      intro i g hi _ _
      have hi' : i + 0 = l.length := hi
      have c := c_geT (a := 64 * sl + i) (b := 64 * sl + l.length) (by omega) (by omega) (by omega)
      have i64 : 64 * Int32.ofNat sl = Int32.ofNat (64 * sl) := by rw [show (64 : Int32) = Int32.ofNat 64 from rfl, n_mul]
      have i64' : Int32.ofNat (64 * sl) + Int32.ofNat l.length = Int32.ofNat (64 * sl + l.length) := n_add
      apply t_lp_map
      simp only [B287_139, if_pos k58, t58, o1, i64, i64', c, cond_true]
      rfl
    | cons p r ih =>
      intro i g hi hd hg
      rw [List.length_cons] at hi
      have hp' : l[i]? = some p := by
        have : (l.drop i)[0]? = some p := by rw [hd]; rfl
        rw [List.getElem?_drop, Nat.add_zero] at this
        exact this
      have hr : l.drop (i + 1) = r := by
        have : (l.drop i).drop 1 = r := by rw [hd]; rfl
        rw [List.drop_drop] at this
        exact this
      have p1 := hpos p (List.mem_of_getElem? hp')
      have p2 := tot_le (List.mem_of_getElem? hp')
      have c := c_geF (a := 64 * sl + i) (b := 64 * sl + l.length) (by omega) (by omega) (by omega)
      have k60 : 0 ≤ (Int32.ofNat (64 * sl + i)).toInt ∧ (Int32.ofNat (64 * sl + i)).toInt < mN 60 := n_at (by omega) (by show _ < 192; omega)
      have t60 : (Int32.ofNat (64 * sl + i)).toInt.toNat = 64 * sl + i := n_t (by omega)
      have gc := M241_do (N := N) (S := S) (x := p.2) (y := g) (by omega) (by omega) (by omega)
      rw [Nat.gcd_comm] at gc
      have gle : Nat.gcd g p.2 ≤ p.2 := Nat.gcd_le_right _ p1
      have st : B287_139 N (Int32.ofNat sl, Int64.ofNat g, Int32.ofNat (64 * sl + i), S) = some (.inl (Int32.ofNat sl, Int64.ofNat (Nat.gcd g p.2), Int32.ofNat (64 * sl + (i + 1)), S)) := by
        simp only [B287_139, if_pos k58, t58, o1, ix_64, c, cond_false, if_pos k60, t60, (o2 i p hp').2, gc, i_inc (show 64 * sl + i < 1000000 by omega), Option.bind_some]
        rfl
      rw [List.length_cons, t_one st]
      exact ih (i + 1) (Nat.gcd g p.2) (by omega) hr (by omega)
  have div : ∀ (rest : Sp) (i acc : Nat) (S1 : mS), i + rest.length = l.length → l.drop i = rest → S1.2.1 58 sl = Int32.ofNat l.length → S1.2.2 61 sl = Int64.ofNat acc → (∀ (q : Nat) (p : Int32 × Nat), l[q]? = some p → S1.2.1 59 (64 * sl + q) = p.1) → (∀ (q : Nat) (p : Int32 × Nat), q < i → l[q]? = some p → S1.2.2 60 (64 * sl + q) = Int64.ofNat (p.2 / G)) → (∀ (q : Nat) (p : Int32 × Nat), i ≤ q → l[q]? = some p → S1.2.2 60 (64 * sl + q) = Int64.ofNat p.2) → rfr sl S S1 → ∃ S', t_lp (B287_179 N) (rest.length + 1) (Int32.ofNat sl, Int64.ofNat G, Int32.ofNat (64 * sl + i), S1) = some S' ∧ S'.2.1 57 sl = 1 ∧ S'.2.1 58 sl = Int32.ofNat l.length ∧ S'.2.2 61 sl = Int64.ofNat (acc + tot (rest.map (fun p => (p.1, p.2 / G)))) ∧ (∀ (q : Nat) (p : Int32 × Nat), l[q]? = some p → S'.2.1 59 (64 * sl + q) = p.1 ∧ S'.2.2 60 (64 * sl + q) = Int64.ofNat (p.2 / G)) ∧ rfr sl S S' := by
    intro rest
    induction rest with
    | nil =>
      intro i acc S1 hi _ h58 h61' h59 hlo _ hf
      have hi' : i + 0 = l.length := hi
      have c := c_geT (a := 64 * sl + i) (b := 64 * sl + l.length) (by omega) (by omega) (by omega)
      refine ⟨m_sA S1 57 sl 1, t_end ?_ _, if_pos ⟨rfl, rfl⟩, ?_, h61', fun q p hq => ⟨?_, ?_⟩, rfr_trans hf rfr_57⟩
      · simp only [B287_179, if_pos k58, t58, h58, ix_64, c, cond_true, if_pos k57]
      · show (if 58 = 57 ∧ sl = sl then 1 else S1.2.1 58 sl) = _
        rw [if_neg (fun w => absurd w.1 (by decide))]
        exact h58
      · show (if 59 = 57 ∧ 64 * sl + q = sl then 1 else S1.2.1 59 (64 * sl + q)) = _
        rw [if_neg (fun w => absurd w.1 (by decide))]
        exact h59 q p hq
      · have := (List.getElem?_eq_some_iff.mp hq).1
        exact hlo q p (by omega) hq
    | cons p r ih =>
      intro i acc S1 hi hd h58 h61' h59 hlo hhi hf
      rw [List.length_cons] at hi
      have hp' : l[i]? = some p := by
        have : (l.drop i)[0]? = some p := by rw [hd]; rfl
        rw [List.getElem?_drop, Nat.add_zero] at this
        exact this
      have hr : l.drop (i + 1) = r := by
        have : (l.drop i).drop 1 = r := by rw [hd]; rfl
        rw [List.drop_drop] at this
        exact this
      have p2 := tot_le (List.mem_of_getElem? hp')
      have c := c_geF (a := 64 * sl + i) (b := 64 * sl + l.length) (by omega) (by omega) (by omega)
      have k60 : 0 ≤ (Int32.ofNat (64 * sl + i)).toInt ∧ (Int32.ofNat (64 * sl + i)).toInt < mN 60 := n_at (by omega) (by show _ < 192; omega)
      have t60 : (Int32.ofNat (64 * sl + i)).toInt.toNat = 64 * sl + i := n_t (by omega)
      have nG : Int64.ofNat G ≠ 0 := fun q => by
        have := congrArg Int64.toInt q
        rw [j_nat (by omega), show (0 : Int64).toInt = 0 from rfl] at this
        omega
      have dv := j_divn (a := p.2) (b := G) (by omega) (by omega) (by omega)
      have v60 := hhi i p (Nat.le_refl _) hp'
      obtain ⟨S2, hS2⟩ : ∃ q, m_sB (m_sB S1 60 (64 * sl + i) (Int64.ofNat (p.2 / G))) 61 sl (Int64.ofNat (acc + p.2 / G)) = q := ⟨_, rfl⟩
      have st : B287_179 N (Int32.ofNat sl, Int64.ofNat G, Int32.ofNat (64 * sl + i), S1) = some (.inl (Int32.ofNat sl, Int64.ofNat G, Int32.ofNat (64 * sl + (i + 1)), S2)) := by
        simp only [B287_179, if_pos k58, t58, h58, ix_64, c, cond_false, if_pos k60, t60, if_pos nG, if_pos k61, v60, dv, h61', l_add, hS2, i_inc (show 64 * sl + i < 1000000 by omega)]
        rfl
      rw [List.length_cons, t_one st]
      have e60 : ∀ q, S2.2.2 60 (64 * sl + q) = if q = i then Int64.ofNat (p.2 / G) else S1.2.2 60 (64 * sl + q) := fun q => by
        rw [← hS2]
        show (if 60 = 61 ∧ 64 * sl + q = sl then Int64.ofNat (acc + p.2 / G) else if 60 = 60 ∧ 64 * sl + q = 64 * sl + i then Int64.ofNat (p.2 / G) else S1.2.2 60 (64 * sl + q)) = _
        rw [if_neg (fun w => absurd w.1 (by decide))]
        by_cases e : q = i
        · rw [if_pos ⟨rfl, by omega⟩, if_pos e]
        · rw [if_neg (by omega), if_neg e]
      obtain ⟨S', d1, d2, d3, d4, d5⟩ := ih (i + 1) (acc + p.2 / G) S2 (by omega) hr (by rw [← hS2]; exact h58) (by
        rw [← hS2]
        show (if 61 = 61 ∧ sl = sl then Int64.ofNat (acc + p.2 / G) else _) = _
        rw [if_pos ⟨rfl, rfl⟩]) (fun q y hy => by rw [← hS2]; exact h59 q y hy) (fun q y hq hy => by
        rw [e60]
        by_cases e : q = i
        · rw [if_pos e]
          rw [e, hp'] at hy
          rw [Option.some.inj hy]
        · rw [if_neg e]
          exact hlo q y (by omega) hy) (fun q y hq hy => by
        rw [e60, if_neg (by omega)]
        exact hhi q y (by omega) hy) (rfr_trans hf (by rw [← hS2]; exact rfr_trans (rfr_60 (by omega)) rfr_61))
      refine ⟨S', d1, d2, d3, ?_, d5⟩
      rw [List.map_cons, tot_cons, ← Nat.add_assoc]
      exact d4
  obtain ⟨S', d1, d2, d3, d4, d5, d6⟩ := div l 0 0 S (by omega) rfl o1 h61 (fun q p hq => (o2 q p hq).1) (fun q p hq => absurd hq (by omega)) (fun q p _ hq => (o2 q p hq).2) rfr_refl
  rw [Nat.zero_add] at d4
  refine ⟨S', ?_, ⟨by rw [dvO_len]; exact d3, fun q p hq => ?_⟩, by unfold dvO; rw [hG]; exact d4, d2, d6⟩
  · have c1 := com l 0 0 (by omega) rfl (by omega)
    rw [hG] at c1
    have d1' : L287_179 N (Int32.ofNat sl, Int64.ofNat G, Int32.ofNat (64 * sl), S) = some S' := t_lp_more _ _ _ (by omega) d1
    rw [d1'] at c1
    exact t_lp_more _ _ _ (by omega) c1
  · unfold dvO at hq
    rw [List.getElem?_map] at hq
    obtain ⟨y, y1, y2⟩ := Option.map_eq_some_iff.mp hq
    rw [← y2]
    refine ⟨(d5 q y y1).1, ?_⟩
    rw [hG]
    exact (d5 q y y1).2
/-- takeResult -/
theorem M287_do (hN : 100000 ≤ N) {S : mS} {L : Ss} {n : Nat} (hn : n = 1999) (hsl : sl < 3) (hr : rsL S 0 L) (hg : ∀ x ∈ L, gdk x) (hne : L ≠ []) (ht : toF L ≤ 2147483648) (hl : (rowS (wO L) n).length ≤ 64) : ∃ S', M287 N (Int32.ofNat sl) S = some S' ∧ outR S' sl (dvO (rowS (wO L) n)) ∧ S'.2.2 61 sl = Int64.ofNat (tot (dvO (rowS (wO L) n))) ∧ S'.2.1 57 sl = 1 ∧ rfr sl S S' := by
  have k58 : 0 ≤ (Int32.ofNat sl).toInt ∧ (Int32.ofNat sl).toInt < mN 58 := n_at (by omega) (by show _ < 3; omega)
  have k61 : 0 ≤ (Int32.ofNat sl).toInt ∧ (Int32.ofNat sl).toInt < mN 61 := k58
  have t58 : (Int32.ofNat sl).toInt.toNat = sl := n_t (by omega)
  obtain ⟨S0, hS0⟩ : ∃ q, m_sB (m_sA S 58 sl 0) 61 sl 0 = q := ⟨_, rfl⟩
  have f0 : rfr sl S S0 := by rw [← hS0]; exact rfr_trans rfr_58 rfr_61
  have o0 : outR S0 sl (rowS (wO L) 0) := by
    refine ⟨?_, fun q p hq => by cases hq⟩
    rw [← hS0]
    show (if 58 = 58 ∧ sl = sl then 0 else _) = _
    rw [if_pos ⟨rfl, rfl⟩]
    rfl
  have e61 : S0.2.2 61 sl = 0 := by
    rw [← hS0]
    show (if 61 = 61 ∧ sl = sl then 0 else _) = _
    rw [if_pos ⟨rfl, rfl⟩]
  have q999 : (999 : Int32).toInt = 999 := rfl
  -- what was found is no more than what is found
  have rtot : tot (rowS (wO L) n) = toF L := by
    rw [hn]
    unfold tot toF
    rw [rowO_sS L hg]
  have rpos : posS (rowS (wO L) n) := fun p hp => by
    obtain ⟨i, -, e2, e3⟩ := rowS_mem n p hp
    rw [e2]
    show 1 ≤ wO L i
    omega
  have rne : rowS (wO L) n ≠ [] := fun q => by
    rw [q] at rtot
    have e0 : tot ([] : Sp) = 0 := rfl
    cases e : L with
    | nil => exact hne e
    | cons x r =>
      have hx := hg x (by rw [e]; exact List.mem_cons_self)
      rw [e, toF_cons, e0] at rtot
      have := hx.1
      omega
  have key : ∀ (d i : Nat) (S1 : mS), i + d = n → outR S1 sl (rowS (wO L) i) → S1.2.2 61 sl = 0 → rfr sl S S1 → ∃ S', t_lp (B287_18 N) (d + 1) (Int32.ofNat sl, vAt i, S1) = some S' ∧ outR S' sl (dvO (rowS (wO L) n)) ∧ S'.2.2 61 sl = Int64.ofNat (tot (dvO (rowS (wO L) n))) ∧ S'.2.1 57 sl = 1 ∧ rfr sl S S' := by
    intro d
    induction d with
    | zero =>
      intro i S1 hi ho h61 hf
      have hi' : i = n := by omega
      subst hi'
      have cg : mj_c2 .gt (vAt i) 999 = true := by rw [hn]; decide
      have i64 : 64 * Int32.ofNat sl = Int32.ofNat (64 * sl) := by rw [show (64 : Int32) = Int32.ofNat 64 from rfl, n_mul]
      obtain ⟨S', a1, a2, a3, a4, a5⟩ := L287_139_do (N := N) hN hsl ho h61 hl rpos rne (by omega)
      refine ⟨S', ?_, a2, a3, a4, rfr_trans hf a5⟩
      have : t_lp (B287_18 N) (0 + 1) (Int32.ofNat sl, vAt i, S1) = L287_139 N (Int32.ofNat sl, 0, Int32.ofNat (64 * sl), S1) := by
        apply t_lp_map
        simp only [B287_18, cg, cond_true, i64]
      rw [this]
      exact a1
    | succ d ih =>
      intro i S1 hi ho h61 hf
      have cg : mj_c2 .gt (vAt i) 999 = false := i_c2 (by
        show decide _ = false
        rw [vAt_i (by omega), q999]
        exact decide_eq_false (by omega))
      have up := rowS_up (w := wO L) d (i + 1)
      rw [show i + 1 + d = n by omega] at up
      obtain ⟨S2, a1, a2, a3, a4⟩ := L287_30_do (N := N) (i := i) hN hsl (by omega) (rsL_rfr hr hf) ht ho (by omega)
      have st : B287_18 N (Int32.ofNat sl, vAt i, S1) = some (.inl (Int32.ofNat sl, vAt (i + 1), S2)) := by
        simp only [B287_18, cg, cond_false, a1]
      rw [t_one st]
      exact ih (i + 1) S2 (by omega) a2 (a4.trans h61) (rfr_trans hf a3)
  obtain ⟨S', a1, a2⟩ := key n 0 S0 (by omega) o0 e61 f0
  refine ⟨S', ?_, a2⟩
  have a1' : L287_18 N (Int32.ofNat sl, -999, S0) = some S' := t_lp_more _ _ _ (by omega) a1
  simp only [M287, if_pos k58, if_pos k61, t58, hS0, a1']
end OUM
