/-! EXPRESSIONS, THE REFERENCE: its stacks. K: the signs that wait, the last one first -/
abbrev Ks : Type := List (Int32 × Int32)
def rf (tx : List Int32) (S : mS) (r : Rd) (ds : List Nat) (K : Ks) (d : Nat) (sn : Int32) : Prop := mst S tx r.1 ∧ S.1 24 = Int32.ofNat r.2.1 ∧ dr S r.2.2.1 ds ∧ fcR S r.2.2.2 ∧ skR S K.reverse d sn ∧ r.2.2.1.length + K.length ≤ r.1 ∧ r.2.2.2.length ≤ r.1 ∧ r.2.1 ≤ 40 ∧ ds.length ≤ r.2.1
/-- minus signs that are done with -/
def tbN : Ks → List Nd → List Nd
  | [], nds => nds
  | k :: K, nds => if k.1 = 21 then tbN K (nds ++ [ngN (nds.length - 1)]) else nds
def tbK : Ks → Ks
  | [] => []
  | k :: K => if k.1 = 21 then tbK K else k :: K
def tbc : Ks → Nat
  | [] => 0
  | k :: K => if k.1 = 21 then tbc K + 1 else 0
/-- operations that are done with: signs P, operands xs, the last first -/
def clN : Ks → List Nat → List Nd → List Nd
  | [], _, nds => nds
  | k :: P, y :: x :: xs, nds => clN P (nds.length :: xs) (nds ++ [(3, k.1, 0, 0, 0, Int32.ofNat x, Int32.ofNat y)])
  | _ :: _, _, nds => nds
def tgt (s : Int32) : Nat := if s.toInt < 3 then 0 else if s.toInt < 5 then 1 else 2
def isOp (s : Int32) : Prop := 0 ≤ s.toInt ∧ s.toInt ≤ 7
/-- where closing of what binds at least so tightly as b stops -/
def okK (b : Nat) (K : Ks) : Prop := ∀ k, K.head? = some k → k.1 = 20 ∨ (isOp k.1 ∧ tgt k.1 < b)
section STK
variable {N : Nat} {tx : List Int32}
theorem ag_rf {S S' : mS} {r : Rd} {ds : List Nat} {K : Ks} {d : Nat} {sn : Int32} (h : rf tx S r ds K d sn) {F A : List Nat} (a : m_agr F A [] S S') (c : 2 ∉ F ∧ 22 ∉ F ∧ 1 ∉ A ∧ 24 ∉ F ∧ 25 ∉ F ∧ 20 ∉ A ∧ (23 ∉ F ∧ 33 ∉ F ∧ 13 ∉ A ∧ 14 ∉ A ∧ 15 ∉ A ∧ 16 ∉ A ∧ 17 ∉ A ∧ 18 ∉ A ∧ 19 ∉ A ∧ 32 ∉ A) ∧ (29 ∉ F ∧ 30 ∉ F ∧ 31 ∉ F ∧ 27 ∉ A ∧ 28 ∉ A)) : rf tx S' r ds K d sn := by
  obtain ⟨h1, h2, h3, h4, h5, h6⟩ := h
  obtain ⟨c1, c2, c3, c4, c5, c6, c7, c8⟩ := c
  exact ⟨mst_ag h1 a ⟨c1, c2, c3⟩, by rw [a.1 24 c4]; exact h2, dr_ag h3 a c7, fc_ag h4 a ⟨c5, c6⟩, sk_ag h5 a c8, h6⟩
/-- a sign is put to the others -/
theorem M222_do {S : mS} {K : Ks} {d : Nat} {sn : Int32} (h : skR S K.reverse d sn) (hl : K.length < 160) (s : Int32) : ∃ S', M222 N s S = some S' ∧ skR S' (K.reverse ++ [(s, sn)]) d sn ∧ m_agr [29] [27, 28] [] S S' ∧ S'.2.1 27 K.length = s ∧ S'.1 29 = Int32.ofNat (K.length + 1) := by
  obtain ⟨h1, h2, h3, h4, h5, h6, h7⟩ := h
  rw [List.length_reverse] at h1 h2
  have e : (S.1 29).toInt = K.length := by rw [h1]; exact i_nat (by omega)
  have c1 : 0 ≤ (S.1 29).toInt ∧ (S.1 29).toInt < mN 27 := by rw [show mN 27 = 200 from rfl]; omega
  have c2 : 0 ≤ (S.1 29).toInt ∧ (S.1 29).toInt < mN 28 := by rw [show mN 28 = 200 from rfl]; omega
  have c3 : S.1 31 = 0 ∨ S.1 31 = 1 := by rw [h6]; exact h7
  have en : (S.1 29).toInt.toNat = K.length := by omega
  have ei : S.1 29 + 1 = Int32.ofNat (K.length + 1) := by rw [h1]; exact i_inc (by omega)
  refine ⟨m_sV (m_sA (m_sA S 27 K.length s) 28 K.length (S.1 31)) 29 (S.1 29 + 1), ?_, ⟨?_, ?_, ?_, h4, h5, h6, h7⟩, m_agr_sV (m_agr_sA (m_agr_sA m_agr_refl (by decide) _ _) (by decide) _ _) (by decide) _, ?_, ei⟩
  · unfold M222
    rw [if_pos c1, if_pos c2, if_pos c3, en]
  · show S.1 29 + 1 = _
    rw [ei, List.length_append, List.length_reverse]
    rfl
  · rw [List.length_append, List.length_reverse]
    exact hl
  · intro i k hi
    by_cases ei : i = K.length
    · rw [List.getElem?_append_right (by rw [List.length_reverse]; omega), List.length_reverse, ei, Nat.sub_self] at hi
      cases hi
      refine ⟨?_, ?_, h7⟩
      · simp [m_sV, m_sA, ei]
      · simp [m_sV, m_sA, ei, h6]
    · have hlt : i < K.reverse.length := by
        have := (List.getElem?_eq_some_iff.mp hi).1
        rw [List.length_append] at this
        simp at this
        rw [List.length_reverse]
        omega
      rw [List.getElem?_append_left hlt] at hi
      have := h3 i k hi
      simpa [m_sV, m_sA, ei] using this
  · simp [m_sV, m_sA]
/-- the last sign is taken away -/
theorem sk_pop {S : mS} {K : Ks} {k : Int32 × Int32} {d d' : Nat} {sn sn' : Int32} (h : skR S (k :: K).reverse d sn) (hd : d' ≤ 5) (hs : sn' = 0 ∨ sn' = 1) : (S.1 29).toInt = K.length + 1 ∧ S.1 29 - 1 = Int32.ofNat K.length ∧ S.2.1 27 K.length = k.1 ∧ S.2.1 28 K.length = k.2 ∧ (k.2 = 0 ∨ k.2 = 1) ∧ K.length < 160 ∧ ∀ S' : mS, S'.2 = S.2 → S'.1 29 = Int32.ofNat K.length → S'.1 30 = Int32.ofNat d' → S'.1 31 = sn' → skR S' K.reverse d' sn' := by
  obtain ⟨h1, h2, h3, h4, h5, h6, h7⟩ := h
  rw [List.length_reverse, List.length_cons] at h1 h2
  have e : (S.1 29).toInt = K.length + 1 := by rw [h1]; exact i_nat (by omega)
  have at0 := h3 K.length k (by rw [List.reverse_cons, List.getElem?_append_right (by rw [List.length_reverse]; exact Nat.le_refl _), List.length_reverse, Nat.sub_self]; rfl)
  refine ⟨e, i_eq (by rw [i_sub (by rw [q_1]; omega) (by rw [q_1]; omega), q_1, e]; omega), at0.1, at0.2.1, at0.2.2, by omega, fun S' e1 e2 e3 e4 => ⟨by rw [List.length_reverse]; exact e2, by rw [List.length_reverse]; omega, fun i q hi => ?_, e3, hd, e4, hs⟩⟩
  rw [e1]
  exact h3 i q (by rw [List.reverse_cons]; exact ap_g hi)
theorem M231_do {S : mS} {s : Int32} : M231 N s S = some (Int32.ofNat (tgt s), S) := by
  have q5 : (5 : Int32).toInt = 5 := rfl
  unfold tgt
  by_cases h3 : s.toInt < 3
  · have c : mj_c2 .ge s 3 = false := i_c2 (by show decide _ = false; apply decide_eq_false; rw [q_3]; omega)
    rw [if_pos h3]
    simp only [M231, c, cond_false, J231_19]
    rfl
  · have c : mj_c2 .ge s 3 = true := i_c2 (by show decide _ = true; apply decide_eq_true; rw [q_3]; omega)
    rw [if_neg h3]
    by_cases h5 : s.toInt < 5
    · have c5 : mj_c2 .ge s 5 = false := i_c2 (by show decide _ = false; apply decide_eq_false; rw [q5]; omega)
      rw [if_pos h5]
      simp only [M231, c, c5, cond_true, cond_false, J231_19]
      rfl
    · have c5 : mj_c2 .ge s 5 = true := i_c2 (by show decide _ = true; apply decide_eq_true; rw [q5]; omega)
      rw [if_neg h5]
      simp only [M231, c, c5, cond_true, J231_19]
      rfl
theorem M230_do {S : mS} {c : Int32} : M230 N c S = some (sg c, S) := by
  have e : ∀ k, mj_c2 .ne c k = !decide (c = k) := fun k => by
    show decide (c ≠ k) = _
    exact decide_not
  have push : ∀ (p : Prop) [Decidable p] (x y : Int32), some ((if p then x else y), S) = if p then some (x, S) else some (y, S) := by
    intro p _ x y
    split <;> rfl
  have fl : ∀ (b : Bool) (x y : Option (Int32 × mS)), (bif !b then x else y) = bif b then y else x := by
    intro b x y
    cases b <;> rfl
  simp only [M230, J230_83, e, fl, sg, Bool.cond_decide, push]
theorem isOp_20 {s : Int32} (h : isOp s) : mj_c2 .ge s 20 = false := i_c2 (by show decide _ = false; apply decide_eq_false; unfold isOp at h; rw [show (20 : Int32).toInt = 20 from rfl]; omega)
def cF : List Nat := [23, 29, 33]
def cA : List Nat := [13, 14, 15, 16, 17, 18, 19, 32]
/-- closing -/
theorem L232_do {b d : Nat} (hb : b ≤ 3) {sn : Int32} {K : Ks} (hK : okK b K) {D : List Nat} : ∀ (P : Ks) (S : mS) (nds : List Nd) (xs : List Nat), xs.length = P.length + 1 → (∀ k ∈ P, isOp k.1 ∧ b ≤ tgt k.1) → nds.length + P.length ≤ 160 → xs.head? = some (nds.length - 1) → 1 ≤ nds.length → dr S nds (D ++ xs.reverse) → skR S (P ++ K).reverse d sn → ∃ S', t_lp (B232_0 N) (P.length + 1) (Int32.ofNat b, S) = some S' ∧ dr S' (clN P xs nds) (D ++ [(clN P xs nds).length - 1]) ∧ skR S' K.reverse d sn ∧ (clN P xs nds).length = nds.length + P.length ∧ m_agr cF cA [] S S' ∧ pf S S' := by
  intro P
  induction P with
  | nil =>
    intro S nds xs hx hP hn hh h1 hd hs
    obtain ⟨x, rfl⟩ : ∃ x, xs = [x] := by
      match xs, hx with
      | [x], _ => exact ⟨x, rfl⟩
    cases hh
    refine ⟨S, ?_, hd, hs, rfl, m_agr_refl, pf_refl⟩
    apply t_lp_map
    cases K with
    | nil =>
      have c : mj_c1 .le (S.1 29) = true := by rw [hs.1]; decide
      simp only [B232_0, c, cond_true, J232_67]
    | cons k K =>
      obtain ⟨p1, p2, p3, p4, p5, p6, -⟩ := sk_pop hs hs.2.2.2.2.1 hs.2.2.2.2.2.2
      have c : mj_c1 .le (S.1 29) = false := i_c1 (by show decide _ = false; apply decide_eq_false; omega)
      have en : (S.1 29 - 1).toInt = K.length := by rw [p2]; exact i_nat (by omega)
      have c2 : 0 ≤ (S.1 29 - 1).toInt ∧ (S.1 29 - 1).toInt < mN 27 := by rw [show mN 27 = 200 from rfl]; omega
      have et : (S.1 29 - 1).toInt.toNat = K.length := by omega
      rcases hK k rfl with hk | ⟨hk1, hk2⟩
      · have c3 : mj_c2 .ge k.1 20 = true := by rw [hk]; decide
        simp only [B232_0, c, cond_false, if_pos c2, et, p3, c3, cond_true, J232_67]
      · have ht : tgt k.1 ≤ 2 := by unfold tgt; split; omega; split <;> omega
        have c4 : mj_c2 .lt (Int32.ofNat (tgt k.1)) (Int32.ofNat b) = true := i_c2 (by show decide _ = true; apply decide_eq_true; rw [i_nat (by omega), i_nat (by omega)]; omega)
        simp only [B232_0, c, cond_false, if_pos c2, et, p3, isOp_20 hk1, M231_do, c4, cond_true, J232_67, Option.bind_some]
  | cons k P ih =>
    intro S nds xs hx hP hn hh h1 hd hs
    obtain ⟨y, x, xs, rfl⟩ : ∃ y x r, xs = y :: x :: r := by
      match xs, hx with
      | y :: x :: r, _ => exact ⟨y, x, r, rfl⟩
    obtain ⟨hk1, hk2⟩ := hP k List.mem_cons_self
    rw [List.length_cons] at hn
    rw [List.cons_append] at hs
    obtain ⟨p1, p2, p3, p4, p5, p6, p7⟩ := sk_pop hs hs.2.2.2.2.1 hs.2.2.2.2.2.2
    have c : mj_c1 .le (S.1 29) = false := i_c1 (by show decide _ = false; apply decide_eq_false; omega)
    have en : (S.1 29 - 1).toInt = (P ++ K).length := by rw [p2]; exact i_nat (by omega)
    have c2 : 0 ≤ (S.1 29 - 1).toInt ∧ (S.1 29 - 1).toInt < mN 27 := by rw [show mN 27 = 200 from rfl]; omega
    have et : (S.1 29 - 1).toInt.toNat = (P ++ K).length := by omega
    have ht : tgt k.1 ≤ 2 := by unfold tgt; split; omega; split <;> omega
    have c4 : mj_c2 .lt (Int32.ofNat (tgt k.1)) (Int32.ofNat b) = false := i_c2 (by show decide _ = false; apply decide_eq_false; rw [i_nat (by omega), i_nat (by omega)]; omega)
    obtain ⟨S1, hS1⟩ : ∃ S1, m_sV S 29 (S.1 29 - 1) = S1 := ⟨_, rfl⟩
    have g1 : m_agr [29] [] [] S S1 := by rw [← hS1]; exact m_agr_sV m_agr_refl (by decide) _
    have d1 := dr_ag hd g1 (by decide)
    have s1 : skR S1 (P ++ K).reverse d sn := p7 S1 (by rw [← hS1]; rfl) (by rw [← hS1]; exact p2) (by rw [← hS1]; exact hs.2.2.2.1) (by rw [← hS1]; exact hs.2.2.2.2.2.1)
    have er : D ++ (y :: x :: xs).reverse = (D ++ xs.reverse) ++ [x, y] := by
      rw [List.reverse_cons, List.reverse_cons, List.append_assoc, List.append_assoc]
      rfl
    rw [er] at d1
    obtain ⟨S2, z1, z2, z3, z4⟩ := M233_do (N := N) d1 (by omega) k.1
    have el : (nds ++ [((3 : Int32), k.1, (0 : Int32), (0 : Int32), (0 : Int32), Int32.ofNat x, Int32.ofNat y)]).length = nds.length + 1 := by rw [List.length_append]; rfl
    have s2 := sk_ag s1 z3 (by decide)
    obtain ⟨S3, i1, i2, i3, i4, i5, i6⟩ := ih S2 (nds ++ [(3, k.1, 0, 0, 0, Int32.ofNat x, Int32.ofNat y)]) (nds.length :: xs) (by rw [List.length_cons] at hx ⊢; rw [List.length_cons, List.length_cons] at hx; omega) (fun k' hk' => hP k' (List.mem_cons_of_mem _ hk')) (by rw [el]; omega) (by rw [el]; rfl) (by rw [el]; omega) (by rw [List.reverse_cons, ← List.append_assoc]; exact z2) s2
    refine ⟨S3, ?_, i2, i3, ?_, m_agr_trans (m_agr_trans (m_agr_mono g1 (by decide) (by decide) (by decide)) (m_agr_mono z3 (by decide) (by decide) (by decide))) i5, pf_trans (pf_trans (pf_ag g1 (by decide) (by decide)) z4) i6⟩
    · rw [List.length_cons, t_lp]
      have fB : B232_0 N (Int32.ofNat b, S) = some (.inl (Int32.ofNat b, S2)) := by
        simp only [B232_0, c, cond_false, if_pos c2, et, p3, isOp_20 hk1, M231_do, c4, hS1, z1, Option.bind_some]
      rw [fB]
      exact i1
    · show (clN P (nds.length :: xs) (nds ++ [(3, k.1, 0, 0, 0, Int32.ofNat x, Int32.ofNat y)])).length = _
      rw [i4, el, List.length_cons]
      omega
/-- minus signs -/
theorem L227_do {sn : Int32} {D : List Nat} : ∀ (K : Ks) (d : Nat) (S : mS) (nds : List Nd), nds.length + K.length ≤ 160 → tbc K ≤ d → dr S nds (D ++ [nds.length - 1]) → 1 ≤ nds.length → skR S K.reverse d sn → ∃ S', t_lp (B227_0 N) (K.length + 1) S = some S' ∧ dr S' (tbN K nds) (D ++ [(tbN K nds).length - 1]) ∧ skR S' (tbK K).reverse (d - tbc K) sn ∧ (tbN K nds).length + (tbK K).length = nds.length + K.length ∧ nds.length ≤ (tbN K nds).length ∧ m_agr [23, 29, 30, 33] cA [] S S' ∧ pf S S' := by
  intro K
  induction K with
  | nil =>
    intro d S nds hn hc hd h1 hs
    refine ⟨S, ?_, hd, hs, rfl, Nat.le_refl _, m_agr_refl, pf_refl⟩
    apply t_lp_map
    have c : mj_c1 .le (S.1 29) = true := by rw [hs.1]; decide
    simp only [B227_0, c, cond_true, J227_50]
  | cons k K ih =>
    intro d S nds hn hc hd h1 hs
    have hd5 := hs.2.2.2.2.1
    rw [List.length_cons] at hn
    obtain ⟨p1, p2, p3, p4, p5, p6, p7⟩ := sk_pop (d' := d - 1) hs (by omega) hs.2.2.2.2.2.2
    have c : mj_c1 .le (S.1 29) = false := i_c1 (by show decide _ = false; apply decide_eq_false; omega)
    have en : (S.1 29 - 1).toInt = K.length := by rw [p2]; exact i_nat (by omega)
    have c2 : 0 ≤ (S.1 29 - 1).toInt ∧ (S.1 29 - 1).toInt < mN 27 := by rw [show mN 27 = 200 from rfl]; omega
    have et : (S.1 29 - 1).toInt.toNat = K.length := by omega
    by_cases h21 : k.1 = 21
    · have c3 : mj_c2 .ne k.1 21 = false := decide_eq_false (fun q => q h21)
      rw [tbc, if_pos h21] at hc
      have e30 : S.1 30 - 1 = Int32.ofNat (d - 1) := i_eq (by rw [hs.2.2.2.1, i_sub (by rw [q_1, i_nat (by omega)]; omega) (by rw [q_1, i_nat (by omega)]; omega), q_1, i_nat (by omega)]; omega)
      obtain ⟨S1, hS1⟩ : ∃ S1, m_sV (m_sV S 29 (S.1 29 - 1)) 30 (S.1 30 - 1) = S1 := ⟨_, rfl⟩
      have g1 : m_agr [29, 30] [] [] S S1 := by rw [← hS1]; exact m_agr_sV (m_agr_sV m_agr_refl (by decide) _) (by decide) _
      have d1 := dr_ag hd g1 (by decide)
      have s1 : skR S1 K.reverse (d - 1) sn := p7 S1 (by rw [← hS1]; rfl) (by rw [← hS1]; exact p2) (by rw [← hS1]; exact e30) (by rw [← hS1]; exact hs.2.2.2.2.2.1)
      obtain ⟨S2, z1, z2, z3, z4⟩ := M228_do (N := N) d1 (by omega)
      have el : (nds ++ [ngN (nds.length - 1)]).length = nds.length + 1 := by rw [List.length_append]; rfl
      have z2' : dr S2 (nds ++ [ngN (nds.length - 1)]) (D ++ [(nds ++ [ngN (nds.length - 1)]).length - 1]) := by
        rw [el, show nds.length + 1 - 1 = nds.length by omega]
        exact z2
      obtain ⟨S3, i1, i2, i3, i4, i5, i6, i7⟩ := ih (d - 1) S2 (nds ++ [ngN (nds.length - 1)]) (by rw [el]; omega) (by omega) z2' (by rw [el]; omega) (sk_ag s1 z3 (by decide))
      have eN : tbN (k :: K) nds = tbN K (nds ++ [ngN (nds.length - 1)]) := by rw [tbN, if_pos h21]
      have eK : tbK (k :: K) = tbK K := by rw [tbK, if_pos h21]
      have ec : tbc (k :: K) = tbc K + 1 := by rw [tbc, if_pos h21]
      rw [eN, eK, ec]
      refine ⟨S3, ?_, i2, by rw [show d - (tbc K + 1) = d - 1 - tbc K by omega]; exact i3, by rw [i4, el, List.length_cons]; omega, by rw [el] at i5; omega, m_agr_trans (m_agr_trans (m_agr_mono g1 (by decide) (by decide) (by decide)) (m_agr_mono z3 (by decide) (by decide) (by decide))) i6, pf_trans (pf_trans (pf_ag g1 (by decide) (by decide)) z4) i7⟩
      rw [List.length_cons, t_lp]
      have fB : B227_0 N S = some (.inl S2) := by
        simp only [B227_0, c, cond_false, if_pos c2, et, p3, c3, hS1, z1, Option.bind_some]
      rw [fB]
      exact i1
    · have c3 : mj_c2 .ne k.1 21 = true := decide_eq_true h21
      have eN : tbN (k :: K) nds = nds := by rw [tbN, if_neg h21]
      have eK : tbK (k :: K) = k :: K := by rw [tbK, if_neg h21]
      have ec : tbc (k :: K) = 0 := by rw [tbc, if_neg h21]
      rw [eN, eK, ec]
      refine ⟨S, ?_, hd, hs, rfl, Nat.le_refl _, m_agr_refl, pf_refl⟩
      apply t_lp_map
      simp only [B227_0, c, cond_false, if_pos c2, et, p3, c3, cond_true, J227_50]
end STK
